theorem in_X0 : ∀ w ∈ u_ws RX0 TX0 5, w ∈ lw_tbl := by decide +kernel
theorem gd_X0 : ∀ w ∈ u_ws RX0 TX0 5, goodWord w = true := by decide +kernel
theorem in_X1 : ∀ w ∈ u_ws RX1 TX1 9, w ∈ lw_tbl := by decide +kernel
theorem gd_X1 : ∀ w ∈ u_ws RX1 TX1 9, goodWord w = true := by decide +kernel
theorem in_X2 : ∀ w ∈ u_ws RX2 TX2 5, w ∈ lw_tbl := by decide +kernel
theorem gd_X2 : ∀ w ∈ u_ws RX2 TX2 5, goodWord w = true := by decide +kernel
theorem in_X3 : ∀ w ∈ u_ws RX3 TX3 6, w ∈ lw_tbl := by decide +kernel
theorem gd_X3 : ∀ w ∈ u_ws RX3 TX3 6, goodWord w = true := by decide +kernel
theorem in_X4 : ∀ w ∈ u_ws RX4 TX4 2, w ∈ lw_tbl := by decide +kernel
theorem gd_X4 : ∀ w ∈ u_ws RX4 TX4 2, goodWord w = true := by decide +kernel
theorem in_X5 : ∀ w ∈ u_ws RX5 TX5 9, w ∈ lw_tbl := by decide +kernel
theorem gd_X5 : ∀ w ∈ u_ws RX5 TX5 9, goodWord w = true := by decide +kernel
theorem in_X6 : ∀ w ∈ u_ws RX6 TX6 6, w ∈ lw_tbl := by decide +kernel
theorem gd_X6 : ∀ w ∈ u_ws RX6 TX6 6, goodWord w = true := by decide +kernel
theorem in_X8 : ∀ w ∈ u_ws RX8 TX8 8, w ∈ lw_tbl := by decide +kernel
theorem gd_X8 : ∀ w ∈ u_ws RX8 TX8 8, goodWord w = true := by decide +kernel
theorem in_X9 : ∀ w ∈ u_ws RX9 TX9 34, w ∈ lw_tbl := by decide +kernel
theorem gd_X9 : ∀ w ∈ u_ws RX9 TX9 34, goodWord w = true := by decide +kernel
theorem F_X0 : Fk 0 RX0 TX0 5 tyX0 := ⟨rfl, fun w hw => List.mem_filter.mpr ⟨in_X0 w hw, gd_X0 w hw⟩, tyX0_ok, nmX0⟩
theorem F_X1 : Fk 1 RX1 TX1 9 tyX1 := ⟨rfl, fun w hw => List.mem_filter.mpr ⟨in_X1 w hw, gd_X1 w hw⟩, tyX1_ok, nmX1⟩
theorem F_X2 : Fk 2 RX2 TX2 5 tyX2 := ⟨rfl, fun w hw => List.mem_filter.mpr ⟨in_X2 w hw, gd_X2 w hw⟩, tyX2_ok, nmX2⟩
theorem F_X3 : Fk 3 RX3 TX3 6 tyX3 := ⟨rfl, fun w hw => List.mem_filter.mpr ⟨in_X3 w hw, gd_X3 w hw⟩, tyX3_ok, nmX3⟩
theorem F_X4 : Fk 4 RX4 TX4 2 tyX4 := ⟨rfl, fun w hw => List.mem_filter.mpr ⟨in_X4 w hw, gd_X4 w hw⟩, tyX4_ok, nmX4⟩
theorem F_X5 : Fk 5 RX5 TX5 9 tyX5 := ⟨rfl, fun w hw => List.mem_filter.mpr ⟨in_X5 w hw, gd_X5 w hw⟩, tyX5_ok, nmX5⟩
theorem F_X6 : Fk 6 RX6 TX6 6 tyX6 := ⟨rfl, fun w hw => List.mem_filter.mpr ⟨in_X6 w hw, gd_X6 w hw⟩, tyX6_ok, nmX6⟩
theorem F_X8 : Fk 7 RX8 TX8 8 tyX8 := ⟨rfl, fun w hw => List.mem_filter.mpr ⟨in_X8 w hw, gd_X8 w hw⟩, tyX8_ok, nmX8⟩
theorem F_X9 : Fk 8 RX9 TX9 34 tyX9 := ⟨rfl, fun w hw => List.mem_filter.mpr ⟨in_X9 w hw, gd_X9 w hw⟩, tyX9_ok, nmX9⟩
set_option maxRecDepth 20000 in
theorem fl_X8_14 : Cond.fieldLink RX8 14 "ReadBins" (TX8 0).2.1 (TX8 0).2.2.1 ∈ TB := tb_in (i := 280) rfl rfl
set_option maxRecDepth 20000 in
theorem fl_X8_18 : Cond.fieldLink RX8 18 "ReadBins" (TX8 1).2.1 (TX8 1).2.2.1 ∈ TB := tb_in (i := 281) rfl rfl
set_option maxRecDepth 20000 in
theorem fl_X8_24 : Cond.fieldLink RX8 24 "ReadBins" (TX8 2).2.1 (TX8 2).2.2.1 ∈ TB := tb_in (i := 282) rfl rfl
set_option maxRecDepth 20000 in
theorem fl_X8_31 : Cond.fieldLink RX8 31 "ReadBins" (TX8 3).2.1 (TX8 3).2.2.1 ∈ TB := tb_in (i := 283) rfl rfl
set_option maxRecDepth 20000 in
theorem fl_X8_38 : Cond.fieldLink RX8 38 "ReadBins" (TX8 4).2.1 (TX8 4).2.2.1 ∈ TB := tb_in (i := 284) rfl rfl
set_option maxRecDepth 20000 in
theorem fl_X8_45 : Cond.fieldLink RX8 45 "ReadBins" (TX8 5).2.1 (TX8 5).2.2.1 ∈ TB := tb_in (i := 285) rfl rfl
set_option maxRecDepth 20000 in
theorem fl_X8_52 : Cond.fieldLink RX8 52 "ReadBins" (TX8 6).2.1 (TX8 6).2.2.1 ∈ TB := tb_in (i := 286) rfl rfl
set_option maxRecDepth 20000 in
theorem fl_X8_56 : Cond.fieldLink RX8 56 "ReadBins" (TX8 7).2.1 (TX8 7).2.2.1 ∈ TB := tb_in (i := 287) rfl rfl
set_option maxRecDepth 20000 in
theorem fl_X0_9 : Cond.fieldLink RX0 9 "ReadBins$Barcodes" (TX0 0).2.1 (TX0 0).2.2.1 ∈ TB := tb_in (i := 166) rfl rfl
set_option maxRecDepth 20000 in
theorem fl_X0_20 : Cond.fieldLink RX0 20 "ReadBins$Barcodes" (TX0 1).2.1 (TX0 1).2.2.1 ∈ TB := tb_in (i := 167) rfl rfl
set_option maxRecDepth 20000 in
theorem fl_X0_24 : Cond.fieldLink RX0 24 "ReadBins$Barcodes" (TX0 4).2.1 (TX0 4).2.2.1 ∈ TB := tb_in (i := 170) rfl rfl
set_option maxRecDepth 20000 in
theorem fl_X0_28 : Cond.fieldLink RX0 28 "ReadBins$Barcodes" (TX0 2).2.1 (TX0 2).2.2.1 ∈ TB := tb_in (i := 168) rfl rfl
set_option maxRecDepth 20000 in
theorem fl_X0_31 : Cond.fieldLink RX0 31 "ReadBins$Barcodes" (TX0 3).2.1 (TX0 3).2.2.1 ∈ TB := tb_in (i := 169) rfl rfl
set_option maxRecDepth 20000 in
theorem fl_X1_9 : Cond.fieldLink RX1 9 "ReadBins$Grouping" (TX1 0).2.1 (TX1 0).2.2.1 ∈ TB := tb_in (i := 221) rfl rfl
set_option maxRecDepth 20000 in
theorem fl_X1_15 : Cond.fieldLink RX1 15 "ReadBins$Grouping" (TX1 1).2.1 (TX1 1).2.2.1 ∈ TB := tb_in (i := 222) rfl rfl
set_option maxRecDepth 20000 in
theorem fl_X1_18 : Cond.fieldLink RX1 18 "ReadBins$Grouping" (TX1 2).2.1 (TX1 2).2.2.1 ∈ TB := tb_in (i := 223) rfl rfl
set_option maxRecDepth 20000 in
theorem fl_X1_21 : Cond.fieldLink RX1 21 "ReadBins$Grouping" (TX1 3).2.1 (TX1 3).2.2.1 ∈ TB := tb_in (i := 224) rfl rfl
set_option maxRecDepth 20000 in
theorem fl_X1_24 : Cond.fieldLink RX1 24 "ReadBins$Grouping" (TX1 4).2.1 (TX1 4).2.2.1 ∈ TB := tb_in (i := 225) rfl rfl
set_option maxRecDepth 20000 in
theorem fl_X1_27 : Cond.fieldLink RX1 27 "ReadBins$Grouping" (TX1 5).2.1 (TX1 5).2.2.1 ∈ TB := tb_in (i := 226) rfl rfl
set_option maxRecDepth 20000 in
theorem fl_X1_30 : Cond.fieldLink RX1 30 "ReadBins$Grouping" (TX1 6).2.1 (TX1 6).2.2.1 ∈ TB := tb_in (i := 227) rfl rfl
set_option maxRecDepth 20000 in
theorem fl_X1_39 : Cond.fieldLink RX1 39 "ReadBins$Grouping" (TX1 7).2.1 (TX1 7).2.2.1 ∈ TB := tb_in (i := 228) rfl rfl
set_option maxRecDepth 20000 in
theorem fl_X1_43 : Cond.fieldLink RX1 43 "ReadBins$Grouping" (TX1 8).2.1 (TX1 8).2.2.1 ∈ TB := tb_in (i := 229) rfl rfl
set_option maxRecDepth 20000 in
theorem fl_X2_12 : Cond.fieldLink RX2 12 "ReadBins$Parser" (TX2 0).2.1 (TX2 0).2.2.1 ∈ TB := tb_in (i := 142) rfl rfl
set_option maxRecDepth 20000 in
theorem fl_X2_18 : Cond.fieldLink RX2 18 "ReadBins$Parser" (TX2 1).2.1 (TX2 1).2.2.1 ∈ TB := tb_in (i := 143) rfl rfl
set_option maxRecDepth 20000 in
theorem fl_X2_42 : Cond.fieldLink RX2 42 "ReadBins$Parser" (TX2 4).2.1 (TX2 4).2.2.1 ∈ TB := tb_in (i := 146) rfl rfl
set_option maxRecDepth 20000 in
theorem fl_X2_49 : Cond.fieldLink RX2 49 "ReadBins$Parser" (TX2 2).2.1 (TX2 2).2.2.1 ∈ TB := tb_in (i := 144) rfl rfl
set_option maxRecDepth 20000 in
theorem fl_X2_58 : Cond.fieldLink RX2 58 "ReadBins$Parser" (TX2 3).2.1 (TX2 3).2.2.1 ∈ TB := tb_in (i := 145) rfl rfl
set_option maxRecDepth 20000 in
theorem fl_X3_14 : Cond.fieldLink RX3 14 "ReadBins$Reads" (TX3 0).2.1 (TX3 0).2.2.1 ∈ TB := tb_in (i := 123) rfl rfl
set_option maxRecDepth 20000 in
theorem fl_X3_20 : Cond.fieldLink RX3 20 "ReadBins$Reads" (TX3 1).2.1 (TX3 1).2.2.1 ∈ TB := tb_in (i := 124) rfl rfl
set_option maxRecDepth 20000 in
theorem fl_X3_24 : Cond.fieldLink RX3 24 "ReadBins$Reads" (TX3 2).2.1 (TX3 2).2.2.1 ∈ TB := tb_in (i := 125) rfl rfl
set_option maxRecDepth 20000 in
theorem fl_X3_27 : Cond.fieldLink RX3 27 "ReadBins$Reads" (TX3 3).2.1 (TX3 3).2.2.1 ∈ TB := tb_in (i := 126) rfl rfl
set_option maxRecDepth 20000 in
theorem fl_X3_33 : Cond.fieldLink RX3 33 "ReadBins$Reads" (TX3 4).2.1 (TX3 4).2.2.1 ∈ TB := tb_in (i := 127) rfl rfl
set_option maxRecDepth 20000 in
theorem fl_X3_37 : Cond.fieldLink RX3 37 "ReadBins$Reads" (TX3 5).2.1 (TX3 5).2.2.1 ∈ TB := tb_in (i := 128) rfl rfl
set_option maxRecDepth 20000 in
theorem fl_X4_15 : Cond.fieldLink RX4 15 "ReadBins$Row" (TX4 0).2.1 (TX4 0).2.2.1 ∈ TB := tb_in (i := 101) rfl rfl
set_option maxRecDepth 20000 in
theorem fl_X4_21 : Cond.fieldLink RX4 21 "ReadBins$Row" (TX4 1).2.1 (TX4 1).2.2.1 ∈ TB := tb_in (i := 102) rfl rfl
set_option maxRecDepth 20000 in
theorem fl_X5_9 : Cond.fieldLink RX5 9 "ReadBins$Sorting" (TX5 0).2.1 (TX5 0).2.2.1 ∈ TB := tb_in (i := 250) rfl rfl
set_option maxRecDepth 20000 in
theorem fl_X5_15 : Cond.fieldLink RX5 15 "ReadBins$Sorting" (TX5 1).2.1 (TX5 1).2.2.1 ∈ TB := tb_in (i := 251) rfl rfl
set_option maxRecDepth 20000 in
theorem fl_X5_18 : Cond.fieldLink RX5 18 "ReadBins$Sorting" (TX5 2).2.1 (TX5 2).2.2.1 ∈ TB := tb_in (i := 252) rfl rfl
set_option maxRecDepth 20000 in
theorem fl_X5_21 : Cond.fieldLink RX5 21 "ReadBins$Sorting" (TX5 3).2.1 (TX5 3).2.2.1 ∈ TB := tb_in (i := 253) rfl rfl
set_option maxRecDepth 20000 in
theorem fl_X5_24 : Cond.fieldLink RX5 24 "ReadBins$Sorting" (TX5 4).2.1 (TX5 4).2.2.1 ∈ TB := tb_in (i := 254) rfl rfl
set_option maxRecDepth 20000 in
theorem fl_X5_31 : Cond.fieldLink RX5 31 "ReadBins$Sorting" (TX5 5).2.1 (TX5 5).2.2.1 ∈ TB := tb_in (i := 255) rfl rfl
set_option maxRecDepth 20000 in
theorem fl_X5_35 : Cond.fieldLink RX5 35 "ReadBins$Sorting" (TX5 6).2.1 (TX5 6).2.2.1 ∈ TB := tb_in (i := 256) rfl rfl
set_option maxRecDepth 20000 in
theorem fl_X5_39 : Cond.fieldLink RX5 39 "ReadBins$Sorting" (TX5 8).2.1 (TX5 8).2.2.1 ∈ TB := tb_in (i := 258) rfl rfl
set_option maxRecDepth 20000 in
theorem fl_X5_43 : Cond.fieldLink RX5 43 "ReadBins$Sorting" (TX5 7).2.1 (TX5 7).2.2.1 ∈ TB := tb_in (i := 257) rfl rfl
set_option maxRecDepth 20000 in
theorem fl_X6_14 : Cond.fieldLink RX6 14 "ReadBins$Trimmer" (TX6 0).2.1 (TX6 0).2.2.1 ∈ TB := tb_in (i := 190) rfl rfl
set_option maxRecDepth 20000 in
theorem fl_X6_20 : Cond.fieldLink RX6 20 "ReadBins$Trimmer" (TX6 3).2.1 (TX6 3).2.2.1 ∈ TB := tb_in (i := 193) rfl rfl
set_option maxRecDepth 20000 in
theorem fl_X6_36 : Cond.fieldLink RX6 36 "ReadBins$Trimmer" (TX6 1).2.1 (TX6 1).2.2.1 ∈ TB := tb_in (i := 191) rfl rfl
set_option maxRecDepth 20000 in
theorem fl_X6_39 : Cond.fieldLink RX6 39 "ReadBins$Trimmer" (TX6 2).2.1 (TX6 2).2.2.1 ∈ TB := tb_in (i := 192) rfl rfl
set_option maxRecDepth 20000 in
theorem fl_X6_42 : Cond.fieldLink RX6 42 "ReadBins$Trimmer" (TX6 4).2.1 (TX6 4).2.2.1 ∈ TB := tb_in (i := 194) rfl rfl
set_option maxRecDepth 20000 in
theorem fl_X6_45 : Cond.fieldLink RX6 45 "ReadBins$Trimmer" (TX6 5).2.1 (TX6 5).2.2.1 ∈ TB := tb_in (i := 195) rfl rfl
set_option maxRecDepth 20000 in
theorem fl_X9_7 : Cond.fieldLink RX9 7 "ReadBinsModel" (TX9 0).2.1 (TX9 0).2.2.1 ∈ TB := tb_in (i := 967) rfl rfl
set_option maxRecDepth 20000 in
theorem fl_X9_13 : Cond.fieldLink RX9 13 "ReadBinsModel" (TX9 2).2.1 (TX9 2).2.2.1 ∈ TB := tb_in (i := 969) rfl rfl
set_option maxRecDepth 20000 in
theorem fl_X9_17 : Cond.fieldLink RX9 17 "ReadBinsModel" (TX9 4).2.1 (TX9 4).2.2.1 ∈ TB := tb_in (i := 971) rfl rfl
set_option maxRecDepth 20000 in
theorem fl_X9_20 : Cond.fieldLink RX9 20 "ReadBinsModel" (TX9 5).2.1 (TX9 5).2.2.1 ∈ TB := tb_in (i := 972) rfl rfl
set_option maxRecDepth 20000 in
theorem fl_X9_23 : Cond.fieldLink RX9 23 "ReadBinsModel" (TX9 6).2.1 (TX9 6).2.2.1 ∈ TB := tb_in (i := 973) rfl rfl
set_option maxRecDepth 20000 in
theorem fl_X9_26 : Cond.fieldLink RX9 26 "ReadBinsModel" (TX9 7).2.1 (TX9 7).2.2.1 ∈ TB := tb_in (i := 974) rfl rfl
set_option maxRecDepth 20000 in
theorem fl_X9_29 : Cond.fieldLink RX9 29 "ReadBinsModel" (TX9 8).2.1 (TX9 8).2.2.1 ∈ TB := tb_in (i := 975) rfl rfl
set_option maxRecDepth 20000 in
theorem fl_X9_32 : Cond.fieldLink RX9 32 "ReadBinsModel" (TX9 11).2.1 (TX9 11).2.2.1 ∈ TB := tb_in (i := 978) rfl rfl
set_option maxRecDepth 20000 in
theorem fl_X9_35 : Cond.fieldLink RX9 35 "ReadBinsModel" (TX9 14).2.1 (TX9 14).2.2.1 ∈ TB := tb_in (i := 981) rfl rfl
set_option maxRecDepth 20000 in
theorem fl_X9_38 : Cond.fieldLink RX9 38 "ReadBinsModel" (TX9 18).2.1 (TX9 18).2.2.1 ∈ TB := tb_in (i := 985) rfl rfl
set_option maxRecDepth 20000 in
theorem fl_X9_41 : Cond.fieldLink RX9 41 "ReadBinsModel" (TX9 22).2.1 (TX9 22).2.2.1 ∈ TB := tb_in (i := 989) rfl rfl
set_option maxRecDepth 20000 in
theorem fl_X9_44 : Cond.fieldLink RX9 44 "ReadBinsModel" (TX9 23).2.1 (TX9 23).2.2.1 ∈ TB := tb_in (i := 990) rfl rfl
set_option maxRecDepth 20000 in
theorem fl_X9_47 : Cond.fieldLink RX9 47 "ReadBinsModel" (TX9 24).2.1 (TX9 24).2.2.1 ∈ TB := tb_in (i := 991) rfl rfl
set_option maxRecDepth 20000 in
theorem fl_X9_50 : Cond.fieldLink RX9 50 "ReadBinsModel" (TX9 25).2.1 (TX9 25).2.2.1 ∈ TB := tb_in (i := 992) rfl rfl
set_option maxRecDepth 20000 in
theorem fl_X9_54 : Cond.fieldLink RX9 54 "ReadBinsModel" (TX9 26).2.1 (TX9 26).2.2.1 ∈ TB := tb_in (i := 993) rfl rfl
set_option maxRecDepth 20000 in
theorem fl_X9_57 : Cond.fieldLink RX9 57 "ReadBinsModel" (TX9 27).2.1 (TX9 27).2.2.1 ∈ TB := tb_in (i := 994) rfl rfl
set_option maxRecDepth 20000 in
theorem fl_X9_60 : Cond.fieldLink RX9 60 "ReadBinsModel" (TX9 28).2.1 (TX9 28).2.2.1 ∈ TB := tb_in (i := 995) rfl rfl
set_option maxRecDepth 20000 in
theorem fl_X9_63 : Cond.fieldLink RX9 63 "ReadBinsModel" (TX9 9).2.1 (TX9 9).2.2.1 ∈ TB := tb_in (i := 976) rfl rfl
set_option maxRecDepth 20000 in
theorem fl_X9_66 : Cond.fieldLink RX9 66 "ReadBinsModel" (TX9 3).2.1 (TX9 3).2.2.1 ∈ TB := tb_in (i := 970) rfl rfl
set_option maxRecDepth 20000 in
theorem fl_X9_69 : Cond.fieldLink RX9 69 "ReadBinsModel" (TX9 1).2.1 (TX9 1).2.2.1 ∈ TB := tb_in (i := 968) rfl rfl
set_option maxRecDepth 20000 in
theorem fl_X9_74 : Cond.fieldLink RX9 74 "ReadBinsModel" (TX9 32).2.1 (TX9 32).2.2.1 ∈ TB := tb_in (i := 999) rfl rfl
set_option maxRecDepth 20000 in
theorem fl_X9_77 : Cond.fieldLink RX9 77 "ReadBinsModel" (TX9 31).2.1 (TX9 31).2.2.1 ∈ TB := tb_in (i := 998) rfl rfl
set_option maxRecDepth 20000 in
theorem fl_X9_88 : Cond.fieldLink RX9 88 "ReadBinsModel" (TX9 10).2.1 (TX9 10).2.2.1 ∈ TB := tb_in (i := 977) rfl rfl
set_option maxRecDepth 20000 in
theorem fl_X9_114 : Cond.fieldLink RX9 114 "ReadBinsModel" (TX9 19).2.1 (TX9 19).2.2.1 ∈ TB := tb_in (i := 986) rfl rfl
set_option maxRecDepth 20000 in
theorem fl_X9_118 : Cond.fieldLink RX9 118 "ReadBinsModel" (TX9 12).2.1 (TX9 12).2.2.1 ∈ TB := tb_in (i := 979) rfl rfl
set_option maxRecDepth 20000 in
theorem fl_X9_121 : Cond.fieldLink RX9 121 "ReadBinsModel" (TX9 13).2.1 (TX9 13).2.2.1 ∈ TB := tb_in (i := 980) rfl rfl
set_option maxRecDepth 20000 in
theorem fl_X9_131 : Cond.fieldLink RX9 131 "ReadBinsModel" (TX9 15).2.1 (TX9 15).2.2.1 ∈ TB := tb_in (i := 982) rfl rfl
set_option maxRecDepth 20000 in
theorem fl_X9_134 : Cond.fieldLink RX9 134 "ReadBinsModel" (TX9 16).2.1 (TX9 16).2.2.1 ∈ TB := tb_in (i := 983) rfl rfl
set_option maxRecDepth 20000 in
theorem fl_X9_137 : Cond.fieldLink RX9 137 "ReadBinsModel" (TX9 17).2.1 (TX9 17).2.2.1 ∈ TB := tb_in (i := 984) rfl rfl
set_option maxRecDepth 20000 in
theorem fl_X9_143 : Cond.fieldLink RX9 143 "ReadBinsModel" (TX9 33).2.1 (TX9 33).2.2.1 ∈ TB := tb_in (i := 1000) rfl rfl
set_option maxRecDepth 20000 in
theorem fl_X9_146 : Cond.fieldLink RX9 146 "ReadBinsModel" (TX9 21).2.1 (TX9 21).2.2.1 ∈ TB := tb_in (i := 988) rfl rfl
set_option maxRecDepth 20000 in
theorem fl_X9_169 : Cond.fieldLink RX9 169 "ReadBinsModel" (TX9 20).2.1 (TX9 20).2.2.1 ∈ TB := tb_in (i := 987) rfl rfl
set_option maxRecDepth 20000 in
theorem fl_X9_202 : Cond.fieldLink RX9 202 "ReadBinsModel" (TX9 30).2.1 (TX9 30).2.2.1 ∈ TB := tb_in (i := 997) rfl rfl
set_option maxRecDepth 20000 in
theorem fl_X9_212 : Cond.fieldLink RX9 212 "ReadBinsModel" (TX9 29).2.1 (TX9 29).2.2.1 ∈ TB := tb_in (i := 996) rfl rfl
set_option maxRecDepth 20000 in
theorem wv_X0_34 : Wv RX0 34 yX4_isOfBases cX4_isOfBases 4 (some .boolean) 2 := ⟨tb_in (i := 317) rfl rfl, tb_in (i := 318) rfl rfl, tb_in (i := 319) rfl rfl, tb_in (i := 68) rfl rfl, tb_in (i := 320) rfl rfl, by decide, by decide +kernel, by decide +kernel, by decide +kernel⟩
set_option maxRecDepth 20000 in
theorem wv_X0_38 : Wv RX0 38 yX4_size cX4_size 1 (some .int) 0 := ⟨tb_in (i := 328) rfl rfl, tb_in (i := 329) rfl rfl, tb_in (i := 330) rfl rfl, tb_in (i := 68) rfl rfl, tb_in (i := 331) rfl rfl, by decide, by decide +kernel, by decide +kernel, by decide +kernel⟩
set_option maxRecDepth 20000 in
theorem wv_X0_42 : Wv RX0 42 yX0_distance cX0_distance 6 (some .int) 2 := ⟨tb_in (i := 332) rfl rfl, tb_in (i := 334) rfl rfl, tb_in (i := 0) rfl rfl, tb_in (i := 72) rfl rfl, tb_in (i := 335) rfl rfl, by decide, by decide +kernel, by decide +kernel, by decide +kernel⟩
set_option maxRecDepth 20000 in
theorem wv_X0_52 : Wv RX0 52 yX0_keep cX0_keep 4 none 1 := ⟨tb_in (i := 340) rfl rfl, tb_in (i := 342) rfl rfl, tb_in (i := 1) rfl rfl, tb_in (i := 72) rfl rfl, tb_in (i := 343) rfl rfl, by decide, by decide +kernel, by decide +kernel, by decide +kernel⟩
set_option maxRecDepth 20000 in
theorem wv_X0_56 : Wv RX0 56 yX4_clear cX4_clear 1 none 0 := ⟨tb_in (i := 649) rfl rfl, tb_in (i := 345) rfl rfl, tb_in (i := 346) rfl rfl, tb_in (i := 68) rfl rfl, tb_in (i := 347) rfl rfl, by decide, by decide +kernel, by decide +kernel, by decide +kernel⟩
set_option maxRecDepth 20000 in
theorem wv_X0_59 : Wv RX0 59 yX3_letterOctet cX3_letterOctet 3 (some .int) 2 := ⟨tb_in (i := 650) rfl rfl, tb_in (i := 651) rfl rfl, tb_in (i := 652) rfl rfl, tb_in (i := 71) rfl rfl, tb_in (i := 653) rfl rfl, by decide, by decide +kernel, by decide +kernel, by decide +kernel⟩
set_option maxRecDepth 20000 in
theorem wv_X0_64 : Wv RX0 64 yX4_add cX4_add 2 none 1 := ⟨tb_in (i := 658) rfl rfl, tb_in (i := 365) rfl rfl, tb_in (i := 366) rfl rfl, tb_in (i := 68) rfl rfl, tb_in (i := 367) rfl rfl, by decide, by decide +kernel, by decide +kernel, by decide +kernel⟩
set_option maxRecDepth 20000 in
theorem wv_X0_67 : Wv RX0 67 yX4_at cX4_at 2 (some .int) 1 := ⟨tb_in (i := 336) rfl rfl, tb_in (i := 322) rfl rfl, tb_in (i := 323) rfl rfl, tb_in (i := 68) rfl rfl, tb_in (i := 324) rfl rfl, by decide, by decide +kernel, by decide +kernel, by decide +kernel⟩
set_option maxRecDepth 20000 in
theorem wv_X1_47 : Wst RX1 47 yX1_isRead cX1_isRead 1 (some .boolean) 1 := ⟨tb_in (i := 721) rfl rfl, tb_in (i := 722) rfl rfl, tb_in (i := 75) rfl rfl, tb_in (i := 723) rfl rfl, by decide, by decide +kernel, by decide +kernel, by decide +kernel⟩
set_option maxRecDepth 20000 in
theorem wv_X1_51 : Wv RX1 51 yX3_letterOctet cX3_letterOctet 3 (some .int) 2 := ⟨tb_in (i := 724) rfl rfl, tb_in (i := 651) rfl rfl, tb_in (i := 652) rfl rfl, tb_in (i := 71) rfl rfl, tb_in (i := 653) rfl rfl, by decide, by decide +kernel, by decide +kernel, by decide +kernel⟩
set_option maxRecDepth 20000 in
theorem wv_X1_56 : Wv RX1 56 yX1_firstAlike cX1_firstAlike 3 (some .int) 1 := ⟨tb_in (i := 725) rfl rfl, tb_in (i := 727) rfl rfl, tb_in (i := 21) rfl rfl, tb_in (i := 75) rfl rfl, tb_in (i := 728) rfl rfl, by decide, by decide +kernel, by decide +kernel, by decide +kernel⟩
set_option maxRecDepth 20000 in
theorem wv_X1_60 : Wst RX1 60 yX1_isBin cX1_isBin 1 (some .boolean) 1 := ⟨tb_in (i := 741) rfl rfl, tb_in (i := 742) rfl rfl, tb_in (i := 75) rfl rfl, tb_in (i := 743) rfl rfl, by decide, by decide +kernel, by decide +kernel, by decide +kernel⟩
set_option maxRecDepth 20000 in
theorem wv_X1_63 : Wv RX1 63 yX1_greatestOpen cX1_greatestOpen 4 (some .int) 1 := ⟨tb_in (i := 744) rfl rfl, tb_in (i := 746) rfl rfl, tb_in (i := 23) rfl rfl, tb_in (i := 75) rfl rfl, tb_in (i := 747) rfl rfl, by decide, by decide +kernel, by decide +kernel, by decide +kernel⟩
set_option maxRecDepth 20000 in
theorem wv_X1_66 : Wv RX1 66 yX1_firstOpen cX1_firstOpen 3 (some .int) 1 := ⟨tb_in (i := 756) rfl rfl, tb_in (i := 758) rfl rfl, tb_in (i := 26) rfl rfl, tb_in (i := 75) rfl rfl, tb_in (i := 759) rfl rfl, by decide, by decide +kernel, by decide +kernel, by decide +kernel⟩
set_option maxRecDepth 20000 in
theorem wv_X1_69 : Wv RX1 69 yX1_growGroup cX1_growGroup 7 none 3 := ⟨tb_in (i := 760) rfl rfl, tb_in (i := 762) rfl rfl, tb_in (i := 27) rfl rfl, tb_in (i := 75) rfl rfl, tb_in (i := 763) rfl rfl, by decide, by decide +kernel, by decide +kernel, by decide +kernel⟩
set_option maxRecDepth 20000 in
theorem wv_X1_73 : Wv RX1 73 yX1_isMember cX1_isMember 4 (some .boolean) 3 := ⟨tb_in (i := 880) rfl rfl, tb_in (i := 881) rfl rfl, tb_in (i := 882) rfl rfl, tb_in (i := 75) rfl rfl, tb_in (i := 883) rfl rfl, by decide, by decide +kernel, by decide +kernel, by decide +kernel⟩
set_option maxRecDepth 20000 in
theorem wv_X1_77 : Wv RX1 77 yX1_distance cX1_distance 5 (some .int) 2 := ⟨tb_in (i := 729) rfl rfl, tb_in (i := 731) rfl rfl, tb_in (i := 22) rfl rfl, tb_in (i := 75) rfl rfl, tb_in (i := 732) rfl rfl, by decide, by decide +kernel, by decide +kernel, by decide +kernel⟩
set_option maxRecDepth 20000 in
theorem wv_X1_80 : Wv RX1 80 yX1_isOpen cX1_isOpen 3 (some .boolean) 2 := ⟨tb_in (i := 748) rfl rfl, tb_in (i := 750) rfl rfl, tb_in (i := 24) rfl rfl, tb_in (i := 75) rfl rfl, tb_in (i := 751) rfl rfl, by decide, by decide +kernel, by decide +kernel, by decide +kernel⟩
set_option maxRecDepth 20000 in
theorem wv_X1_84 : Wv RX1 84 yX1_comesBefore cX1_comesBefore 5 (some .boolean) 2 := ⟨tb_in (i := 752) rfl rfl, tb_in (i := 754) rfl rfl, tb_in (i := 25) rfl rfl, tb_in (i := 75) rfl rfl, tb_in (i := 755) rfl rfl, by decide, by decide +kernel, by decide +kernel, by decide +kernel⟩
set_option maxRecDepth 20000 in
theorem wv_X1_87 : Wv RX1 87 yX1_draws cX1_draws 3 (some .boolean) 2 := ⟨tb_in (i := 764) rfl rfl, tb_in (i := 766) rfl rfl, tb_in (i := 28) rfl rfl, tb_in (i := 75) rfl rfl, tb_in (i := 767) rfl rfl, by decide, by decide +kernel, by decide +kernel, by decide +kernel⟩
set_option maxRecDepth 20000 in
theorem wv_X2_22 : Wv RX2 22 yX3_restart cX3_restart 2 none 1 := ⟨tb_in (i := 481) rfl rfl, tb_in (i := 482) rfl rfl, tb_in (i := 483) rfl rfl, tb_in (i := 71) rfl rfl, tb_in (i := 484) rfl rfl, by decide, by decide +kernel, by decide +kernel, by decide +kernel⟩
set_option maxRecDepth 20000 in
theorem wv_X2_26 : Wv RX2 26 yX2_enter cX2_enter 2 (some .int) 1 := ⟨tb_in (i := 486) rfl rfl, tb_in (i := 488) rfl rfl, tb_in (i := 3) rfl rfl, tb_in (i := 70) rfl rfl, tb_in (i := 489) rfl rfl, by decide, by decide +kernel, by decide +kernel, by decide +kernel⟩
set_option maxRecDepth 20000 in
theorem wv_X2_30 : Wv RX2 30 yX4_size cX4_size 1 (some .int) 0 := ⟨tb_in (i := 490) rfl rfl, tb_in (i := 329) rfl rfl, tb_in (i := 330) rfl rfl, tb_in (i := 68) rfl rfl, tb_in (i := 331) rfl rfl, by decide, by decide +kernel, by decide +kernel, by decide +kernel⟩
set_option maxRecDepth 20000 in
theorem wv_X2_36 : Wv RX2 36 yX4_at cX4_at 2 (some .int) 1 := ⟨tb_in (i := 491) rfl rfl, tb_in (i := 322) rfl rfl, tb_in (i := 323) rfl rfl, tb_in (i := 68) rfl rfl, tb_in (i := 324) rfl rfl, by decide, by decide +kernel, by decide +kernel, by decide +kernel⟩
set_option maxRecDepth 20000 in
theorem wv_X2_39 : Wv RX2 39 yX2_step cX2_step 2 (some .int) 1 := ⟨tb_in (i := 492) rfl rfl, tb_in (i := 494) rfl rfl, tb_in (i := 4) rfl rfl, tb_in (i := 70) rfl rfl, tb_in (i := 495) rfl rfl, by decide, by decide +kernel, by decide +kernel, by decide +kernel⟩
set_option maxRecDepth 20000 in
theorem wv_X2_45 : Wv RX2 45 yX2_isWhole cX2_isWhole 1 (some .boolean) 0 := ⟨tb_in (i := 570) rfl rfl, tb_in (i := 572) rfl rfl, tb_in (i := 12) rfl rfl, tb_in (i := 70) rfl rfl, tb_in (i := 573) rfl rfl, by decide, by decide +kernel, by decide +kernel, by decide +kernel⟩
set_option maxRecDepth 20000 in
theorem wv_X2_52 : Wv RX2 52 yX3_count cX3_count 1 (some .int) 0 := ⟨tb_in (i := 500) rfl rfl, tb_in (i := 501) rfl rfl, tb_in (i := 502) rfl rfl, tb_in (i := 71) rfl rfl, tb_in (i := 503) rfl rfl, by decide, by decide +kernel, by decide +kernel, by decide +kernel⟩
set_option maxRecDepth 20000 in
theorem wv_X2_55 : Wv RX2 55 yX2_mayEndHere cX2_mayEndHere 1 (some .boolean) 0 := ⟨tb_in (i := 537) rfl rfl, tb_in (i := 539) rfl rfl, tb_in (i := 9) rfl rfl, tb_in (i := 70) rfl rfl, tb_in (i := 540) rfl rfl, by decide, by decide +kernel, by decide +kernel, by decide +kernel⟩
set_option maxRecDepth 20000 in
theorem wv_X2_61 : Wv RX2 61 yX2_last cX2_last 1 (some .int) 0 := ⟨tb_in (i := 513) rfl rfl, tb_in (i := 515) rfl rfl, tb_in (i := 7) rfl rfl, tb_in (i := 70) rfl rfl, tb_in (i := 516) rfl rfl, by decide, by decide +kernel, by decide +kernel, by decide +kernel⟩
set_option maxRecDepth 20000 in
theorem wv_X2_64 : Wv RX2 64 yX3_letterCount cX3_letterCount 2 (some .int) 1 := ⟨tb_in (i := 541) rfl rfl, tb_in (i := 542) rfl rfl, tb_in (i := 543) rfl rfl, tb_in (i := 71) rfl rfl, tb_in (i := 544) rfl rfl, by decide, by decide +kernel, by decide +kernel, by decide +kernel⟩
set_option maxRecDepth 20000 in
theorem wv_X2_67 : Wv RX2 67 yX2_stepMark cX2_stepMark 2 (some .int) 1 := ⟨tb_in (i := 496) rfl rfl, tb_in (i := 498) rfl rfl, tb_in (i := 5) rfl rfl, tb_in (i := 70) rfl rfl, tb_in (i := 499) rfl rfl, by decide, by decide +kernel, by decide +kernel, by decide +kernel⟩
set_option maxRecDepth 20000 in
theorem wv_X2_70 : Wv RX2 70 yX2_stepName cX2_stepName 3 (some .int) 1 := ⟨tb_in (i := 509) rfl rfl, tb_in (i := 511) rfl rfl, tb_in (i := 6) rfl rfl, tb_in (i := 70) rfl rfl, tb_in (i := 512) rfl rfl, by decide, by decide +kernel, by decide +kernel, by decide +kernel⟩
set_option maxRecDepth 20000 in
theorem wv_X2_73 : Wv RX2 73 yX2_stepLetters cX2_stepLetters 2 (some .int) 1 := ⟨tb_in (i := 533) rfl rfl, tb_in (i := 535) rfl rfl, tb_in (i := 8) rfl rfl, tb_in (i := 70) rfl rfl, tb_in (i := 536) rfl rfl, by decide, by decide +kernel, by decide +kernel, by decide +kernel⟩
set_option maxRecDepth 20000 in
theorem wv_X2_76 : Wv RX2 76 yX2_stepBehindPlus cX2_stepBehindPlus 3 (some .int) 1 := ⟨tb_in (i := 553) rfl rfl, tb_in (i := 555) rfl rfl, tb_in (i := 10) rfl rfl, tb_in (i := 70) rfl rfl, tb_in (i := 556) rfl rfl, by decide, by decide +kernel, by decide +kernel, by decide +kernel⟩
set_option maxRecDepth 20000 in
theorem wv_X2_79 : Wv RX2 79 yX2_stepQualities cX2_stepQualities 2 (some .int) 1 := ⟨tb_in (i := 562) rfl rfl, tb_in (i := 564) rfl rfl, tb_in (i := 11) rfl rfl, tb_in (i := 70) rfl rfl, tb_in (i := 565) rfl rfl, by decide, by decide +kernel, by decide +kernel, by decide +kernel⟩
set_option maxRecDepth 20000 in
theorem wv_X2_82 : Wv RX2 82 yX3_begin cX3_begin 1 none 0 := ⟨tb_in (i := 504) rfl rfl, tb_in (i := 505) rfl rfl, tb_in (i := 506) rfl rfl, tb_in (i := 71) rfl rfl, tb_in (i := 507) rfl rfl, by decide, by decide +kernel, by decide +kernel, by decide +kernel⟩
set_option maxRecDepth 20000 in
theorem wv_X2_85 : Wv RX2 85 yX3_nameSize cX3_nameSize 2 (some .int) 1 := ⟨tb_in (i := 517) rfl rfl, tb_in (i := 518) rfl rfl, tb_in (i := 519) rfl rfl, tb_in (i := 71) rfl rfl, tb_in (i := 520) rfl rfl, by decide, by decide +kernel, by decide +kernel, by decide +kernel⟩
set_option maxRecDepth 20000 in
theorem wv_X2_88 : Wsn RX2 88 yX8_isSign cX8_isSign 1 (some .boolean) 1 := ⟨List.mem_of_getElem? (i := 8) rfl, tb_in (i := 526) rfl rfl, tb_in (i := 67) rfl rfl, tb_in (i := 527) rfl rfl, by decide, by decide +kernel, by decide +kernel, by decide +kernel⟩
set_option maxRecDepth 20000 in
theorem wv_X2_92 : Wv RX2 92 yX3_addToName cX3_addToName 2 none 1 := ⟨tb_in (i := 528) rfl rfl, tb_in (i := 529) rfl rfl, tb_in (i := 530) rfl rfl, tb_in (i := 71) rfl rfl, tb_in (i := 531) rfl rfl, by decide, by decide +kernel, by decide +kernel, by decide +kernel⟩
set_option maxRecDepth 20000 in
theorem wv_X2_96 : Wsn RX2 96 yX8_isLetter cX8_isLetter 1 (some .boolean) 1 := ⟨List.mem_of_getElem? (i := 9) rfl, tb_in (i := 546) rfl rfl, tb_in (i := 67) rfl rfl, tb_in (i := 547) rfl rfl, by decide, by decide +kernel, by decide +kernel, by decide +kernel⟩
set_option maxRecDepth 20000 in
theorem wv_X2_99 : Wv RX2 99 yX3_addLetter cX3_addLetter 2 none 1 := ⟨tb_in (i := 549) rfl rfl, tb_in (i := 550) rfl rfl, tb_in (i := 551) rfl rfl, tb_in (i := 71) rfl rfl, tb_in (i := 552) rfl rfl, by decide, by decide +kernel, by decide +kernel, by decide +kernel⟩
set_option maxRecDepth 20000 in
theorem wv_X2_102 : Wv RX2 102 yX3_nameOctet cX3_nameOctet 3 (some .int) 2 := ⟨tb_in (i := 557) rfl rfl, tb_in (i := 558) rfl rfl, tb_in (i := 559) rfl rfl, tb_in (i := 71) rfl rfl, tb_in (i := 560) rfl rfl, by decide, by decide +kernel, by decide +kernel, by decide +kernel⟩
set_option maxRecDepth 20000 in
theorem wv_X2_106 : Wv RX2 106 yX3_addQuality cX3_addQuality 2 none 1 := ⟨tb_in (i := 566) rfl rfl, tb_in (i := 567) rfl rfl, tb_in (i := 568) rfl rfl, tb_in (i := 71) rfl rfl, tb_in (i := 569) rfl rfl, by decide, by decide +kernel, by decide +kernel, by decide +kernel⟩
set_option maxRecDepth 20000 in
theorem wv_X3_30 : Wv RX3 30 yX4_clear cX4_clear 1 none 0 := ⟨tb_in (i := 485) rfl rfl, tb_in (i := 345) rfl rfl, tb_in (i := 346) rfl rfl, tb_in (i := 68) rfl rfl, tb_in (i := 347) rfl rfl, by decide, by decide +kernel, by decide +kernel, by decide +kernel⟩
set_option maxRecDepth 20000 in
theorem wv_X3_41 : Wv RX3 41 yX4_size cX4_size 1 (some .int) 0 := ⟨tb_in (i := 508) rfl rfl, tb_in (i := 329) rfl rfl, tb_in (i := 330) rfl rfl, tb_in (i := 68) rfl rfl, tb_in (i := 331) rfl rfl, by decide, by decide +kernel, by decide +kernel, by decide +kernel⟩
set_option maxRecDepth 20000 in
theorem wv_X3_45 : Wv RX3 45 yX3_has cX3_has 2 (some .boolean) 1 := ⟨tb_in (i := 521) rfl rfl, tb_in (i := 522) rfl rfl, tb_in (i := 523) rfl rfl, tb_in (i := 71) rfl rfl, tb_in (i := 524) rfl rfl, by decide, by decide +kernel, by decide +kernel, by decide +kernel⟩
set_option maxRecDepth 20000 in
theorem wv_X3_49 : Wv RX3 49 yX4_add cX4_add 2 none 1 := ⟨tb_in (i := 532) rfl rfl, tb_in (i := 365) rfl rfl, tb_in (i := 366) rfl rfl, tb_in (i := 68) rfl rfl, tb_in (i := 367) rfl rfl, by decide, by decide +kernel, by decide +kernel, by decide +kernel⟩
set_option maxRecDepth 20000 in
theorem wv_X3_52 : Wv RX3 52 yX4_at cX4_at 2 (some .int) 1 := ⟨tb_in (i := 561) rfl rfl, tb_in (i := 322) rfl rfl, tb_in (i := 323) rfl rfl, tb_in (i := 68) rfl rfl, tb_in (i := 324) rfl rfl, by decide, by decide +kernel, by decide +kernel, by decide +kernel⟩
set_option maxRecDepth 20000 in
theorem wv_X3_56 : Wv RX3 56 yX3_hasLetter cX3_hasLetter 3 (some .boolean) 2 := ⟨tb_in (i := 654) rfl rfl, tb_in (i := 656) rfl rfl, tb_in (i := 14) rfl rfl, tb_in (i := 71) rfl rfl, tb_in (i := 657) rfl rfl, by decide, by decide +kernel, by decide +kernel, by decide +kernel⟩
set_option maxRecDepth 20000 in
theorem wv_X4_25 : Wv RX4 25 yX4_clear cX4_clear 1 none 0 := ⟨tb_in (i := 362) rfl rfl, tb_in (i := 345) rfl rfl, tb_in (i := 346) rfl rfl, tb_in (i := 68) rfl rfl, tb_in (i := 347) rfl rfl, by decide, by decide +kernel, by decide +kernel, by decide +kernel⟩
set_option maxRecDepth 20000 in
theorem wv_X4_28 : Wv RX4 28 yX4_size cX4_size 1 (some .int) 0 := ⟨tb_in (i := 363) rfl rfl, tb_in (i := 329) rfl rfl, tb_in (i := 330) rfl rfl, tb_in (i := 68) rfl rfl, tb_in (i := 331) rfl rfl, by decide, by decide +kernel, by decide +kernel, by decide +kernel⟩
set_option maxRecDepth 20000 in
theorem wv_X4_31 : Wv RX4 31 yX4_at cX4_at 2 (some .int) 1 := ⟨tb_in (i := 321) rfl rfl, tb_in (i := 322) rfl rfl, tb_in (i := 323) rfl rfl, tb_in (i := 68) rfl rfl, tb_in (i := 324) rfl rfl, by decide, by decide +kernel, by decide +kernel, by decide +kernel⟩
set_option maxRecDepth 20000 in
theorem wv_X4_35 : Wv RX4 35 yX4_add cX4_add 2 none 1 := ⟨tb_in (i := 364) rfl rfl, tb_in (i := 365) rfl rfl, tb_in (i := 366) rfl rfl, tb_in (i := 68) rfl rfl, tb_in (i := 367) rfl rfl, by decide, by decide +kernel, by decide +kernel, by decide +kernel⟩
set_option maxRecDepth 20000 in
theorem wv_X4_39 : Wsn RX4 39 yX8_isBase cX8_isBase 1 (some .boolean) 1 := ⟨List.mem_of_getElem? (i := 7) rfl, tb_in (i := 326) rfl rfl, tb_in (i := 67) rfl rfl, tb_in (i := 327) rfl rfl, by decide, by decide +kernel, by decide +kernel, by decide +kernel⟩
set_option maxRecDepth 20000 in
theorem wv_X5_46 : Wv RX5 46 yX1_restart cX1_restart 4 none 2 := ⟨tb_in (i := 635) rfl rfl, tb_in (i := 636) rfl rfl, tb_in (i := 637) rfl rfl, tb_in (i := 75) rfl rfl, tb_in (i := 638) rfl rfl, by decide, by decide +kernel, by decide +kernel, by decide +kernel⟩
set_option maxRecDepth 20000 in
theorem wv_X5_50 : Wv RX5 50 yX6_begin cX6_begin 1 (some .int) 0 := ⟨tb_in (i := 695) rfl rfl, tb_in (i := 696) rfl rfl, tb_in (i := 697) rfl rfl, tb_in (i := 73) rfl rfl, tb_in (i := 698) rfl rfl, by decide, by decide +kernel, by decide +kernel, by decide +kernel⟩
set_option maxRecDepth 20000 in
theorem wv_X5_56 : Wv RX5 56 yX6_end cX6_end 1 (some .int) 0 := ⟨tb_in (i := 699) rfl rfl, tb_in (i := 700) rfl rfl, tb_in (i := 701) rfl rfl, tb_in (i := 73) rfl rfl, tb_in (i := 702) rfl rfl, by decide, by decide +kernel, by decide +kernel, by decide +kernel⟩
set_option maxRecDepth 20000 in
theorem wv_X5_59 : Wv RX5 59 yX6_isTooShort cX6_isTooShort 1 (some .boolean) 0 := ⟨tb_in (i := 703) rfl rfl, tb_in (i := 704) rfl rfl, tb_in (i := 705) rfl rfl, tb_in (i := 73) rfl rfl, tb_in (i := 706) rfl rfl, by decide, by decide +kernel, by decide +kernel, by decide +kernel⟩
set_option maxRecDepth 20000 in
theorem wv_X5_63 : Wv RX5 63 yX5_sumOfQualities cX5_sumOfQualities 5 (some .int) 2 := ⟨tb_in (i := 707) rfl rfl, tb_in (i := 709) rfl rfl, tb_in (i := 20) rfl rfl, tb_in (i := 74) rfl rfl, tb_in (i := 710) rfl rfl, by decide, by decide +kernel, by decide +kernel, by decide +kernel⟩
set_option maxRecDepth 20000 in
theorem wv_X5_67 : Wv RX5 67 yX1_formGroups cX1_formGroups 4 none 1 := ⟨tb_in (i := 737) rfl rfl, tb_in (i := 738) rfl rfl, tb_in (i := 739) rfl rfl, tb_in (i := 75) rfl rfl, tb_in (i := 740) rfl rfl, by decide, by decide +kernel, by decide +kernel, by decide +kernel⟩
set_option maxRecDepth 20000 in
theorem wv_X5_71 : Wv RX5 71 yX5_has cX5_has 2 (some .boolean) 1 := ⟨tb_in (i := 776) rfl rfl, tb_in (i := 778) rfl rfl, tb_in (i := 29) rfl rfl, tb_in (i := 74) rfl rfl, tb_in (i := 779) rfl rfl, by decide, by decide +kernel, by decide +kernel, by decide +kernel⟩
set_option maxRecDepth 20000 in
theorem wv_X5_75 : Wv RX5 75 yX5_binOf cX5_binOf 2 (some .int) 1 := ⟨tb_in (i := 772) rfl rfl, tb_in (i := 773) rfl rfl, tb_in (i := 774) rfl rfl, tb_in (i := 74) rfl rfl, tb_in (i := 775) rfl rfl, by decide, by decide +kernel, by decide +kernel, by decide +kernel⟩
set_option maxRecDepth 20000 in
theorem wv_X5_79 : Wv RX5 79 yX5_isShort cX5_isShort 2 (some .boolean) 1 := ⟨tb_in (i := 863) rfl rfl, tb_in (i := 808) rfl rfl, tb_in (i := 809) rfl rfl, tb_in (i := 74) rfl rfl, tb_in (i := 810) rfl rfl, by decide, by decide +kernel, by decide +kernel, by decide +kernel⟩
set_option maxRecDepth 20000 in
theorem wv_X5_82 : Wv RX5 82 yX1_isMember cX1_isMember 4 (some .boolean) 3 := ⟨tb_in (i := 888) rfl rfl, tb_in (i := 881) rfl rfl, tb_in (i := 882) rfl rfl, tb_in (i := 75) rfl rfl, tb_in (i := 883) rfl rfl, by decide, by decide +kernel, by decide +kernel, by decide +kernel⟩
set_option maxRecDepth 20000 in
theorem wv_X5_86 : Wv RX5 86 yX5_worthOf cX5_worthOf 2 (some .int) 1 := ⟨tb_in (i := 889) rfl rfl, tb_in (i := 891) rfl rfl, tb_in (i := 32) rfl rfl, tb_in (i := 74) rfl rfl, tb_in (i := 892) rfl rfl, by decide, by decide +kernel, by decide +kernel, by decide +kernel⟩
set_option maxRecDepth 20000 in
theorem wv_X5_89 : Wv RX5 89 yX1_groupOf cX1_groupOf 2 (some .int) 1 := ⟨tb_in (i := 925) rfl rfl, tb_in (i := 812) rfl rfl, tb_in (i := 813) rfl rfl, tb_in (i := 75) rfl rfl, tb_in (i := 814) rfl rfl, by decide, by decide +kernel, by decide +kernel, by decide +kernel⟩
set_option maxRecDepth 20000 in
theorem wv_X5_92 : Wv RX5 92 yX5_bestOf cX5_bestOf 5 (some .int) 2 := ⟨tb_in (i := 926) rfl rfl, tb_in (i := 885) rfl rfl, tb_in (i := 886) rfl rfl, tb_in (i := 74) rfl rfl, tb_in (i := 887) rfl rfl, by decide, by decide +kernel, by decide +kernel, by decide +kernel⟩
set_option maxRecDepth 20000 in
theorem wv_X5_96 : Wv RX5 96 yX3_quality cX3_quality 3 (some .int) 2 := ⟨tb_in (i := 711) rfl rfl, tb_in (i := 680) rfl rfl, tb_in (i := 681) rfl rfl, tb_in (i := 71) rfl rfl, tb_in (i := 682) rfl rfl, by decide, by decide +kernel, by decide +kernel, by decide +kernel⟩
set_option maxRecDepth 20000 in
theorem wv_X6_24 : Wv RX6 24 yX4_size cX4_size 1 (some .int) 0 := ⟨tb_in (i := 356) rfl rfl, tb_in (i := 329) rfl rfl, tb_in (i := 330) rfl rfl, tb_in (i := 68) rfl rfl, tb_in (i := 331) rfl rfl, by decide, by decide +kernel, by decide +kernel, by decide +kernel⟩
set_option maxRecDepth 20000 in
theorem wv_X6_28 : Wv RX6 28 yX4_isOfBases cX4_isOfBases 4 (some .boolean) 2 := ⟨tb_in (i := 357) rfl rfl, tb_in (i := 318) rfl rfl, tb_in (i := 319) rfl rfl, tb_in (i := 68) rfl rfl, tb_in (i := 320) rfl rfl, by decide, by decide +kernel, by decide +kernel, by decide +kernel⟩
set_option maxRecDepth 20000 in
theorem wv_X6_32 : Wv RX6 32 yX4_copy cX4_copy 3 none 1 := ⟨tb_in (i := 358) rfl rfl, tb_in (i := 359) rfl rfl, tb_in (i := 360) rfl rfl, tb_in (i := 68) rfl rfl, tb_in (i := 361) rfl rfl, by decide, by decide +kernel, by decide +kernel, by decide +kernel⟩
set_option maxRecDepth 20000 in
theorem wv_X6_48 : Wv RX6 48 yX3_letterCount cX3_letterCount 2 (some .int) 1 := ⟨tb_in (i := 663) rfl rfl, tb_in (i := 542) rfl rfl, tb_in (i := 543) rfl rfl, tb_in (i := 71) rfl rfl, tb_in (i := 544) rfl rfl, by decide, by decide +kernel, by decide +kernel, by decide +kernel⟩
set_option maxRecDepth 20000 in
theorem wv_X6_54 : Wv RX6 54 yX6_cutAdapter cX6_cutAdapter 4 none 2 := ⟨tb_in (i := 664) rfl rfl, tb_in (i := 666) rfl rfl, tb_in (i := 15) rfl rfl, tb_in (i := 73) rfl rfl, tb_in (i := 667) rfl rfl, by decide, by decide +kernel, by decide +kernel, by decide +kernel⟩
set_option maxRecDepth 20000 in
theorem wv_X6_58 : Wv RX6 58 yX6_cutWorstEnd cX6_cutWorstEnd 7 none 2 := ⟨tb_in (i := 675) rfl rfl, tb_in (i := 677) rfl rfl, tb_in (i := 17) rfl rfl, tb_in (i := 73) rfl rfl, tb_in (i := 678) rfl rfl, by decide, by decide +kernel, by decide +kernel, by decide +kernel⟩
set_option maxRecDepth 20000 in
theorem wv_X6_61 : Wv RX6 61 yX6_cutWorstBegin cX6_cutWorstBegin 7 none 2 := ⟨tb_in (i := 683) rfl rfl, tb_in (i := 685) rfl rfl, tb_in (i := 18) rfl rfl, tb_in (i := 73) rfl rfl, tb_in (i := 686) rfl rfl, by decide, by decide +kernel, by decide +kernel, by decide +kernel⟩
set_option maxRecDepth 20000 in
theorem wv_X6_64 : Wv RX6 64 yX6_cutUnknown cX6_cutUnknown 3 none 2 := ⟨tb_in (i := 687) rfl rfl, tb_in (i := 689) rfl rfl, tb_in (i := 19) rfl rfl, tb_in (i := 73) rfl rfl, tb_in (i := 690) rfl rfl, by decide, by decide +kernel, by decide +kernel, by decide +kernel⟩
set_option maxRecDepth 20000 in
theorem wv_X6_67 : Wv RX6 67 yX6_adapterBegins cX6_adapterBegins 8 (some .boolean) 3 := ⟨tb_in (i := 668) rfl rfl, tb_in (i := 670) rfl rfl, tb_in (i := 16) rfl rfl, tb_in (i := 73) rfl rfl, tb_in (i := 671) rfl rfl, by decide, by decide +kernel, by decide +kernel, by decide +kernel⟩
set_option maxRecDepth 20000 in
theorem wv_X6_77 : Wv RX6 77 yX4_at cX4_at 2 (some .int) 1 := ⟨tb_in (i := 673) rfl rfl, tb_in (i := 322) rfl rfl, tb_in (i := 323) rfl rfl, tb_in (i := 68) rfl rfl, tb_in (i := 324) rfl rfl, by decide, by decide +kernel, by decide +kernel, by decide +kernel⟩
set_option maxRecDepth 20000 in
theorem wv_X6_80 : Wv RX6 80 yX3_letterOctet cX3_letterOctet 3 (some .int) 2 := ⟨tb_in (i := 674) rfl rfl, tb_in (i := 651) rfl rfl, tb_in (i := 652) rfl rfl, tb_in (i := 71) rfl rfl, tb_in (i := 653) rfl rfl, by decide, by decide +kernel, by decide +kernel, by decide +kernel⟩
set_option maxRecDepth 20000 in
theorem wv_X6_83 : Wv RX6 83 yX3_quality cX3_quality 3 (some .int) 2 := ⟨tb_in (i := 679) rfl rfl, tb_in (i := 680) rfl rfl, tb_in (i := 681) rfl rfl, tb_in (i := 71) rfl rfl, tb_in (i := 682) rfl rfl, by decide, by decide +kernel, by decide +kernel, by decide +kernel⟩
set_option maxRecDepth 20000 in
theorem wv_X7_9 : Wv RX7 9 yX4_add cX4_add 2 none 1 := ⟨tb_in (i := 937) rfl rfl, tb_in (i := 365) rfl rfl, tb_in (i := 366) rfl rfl, tb_in (i := 68) rfl rfl, tb_in (i := 367) rfl rfl, by decide, by decide +kernel, by decide +kernel, by decide +kernel⟩
set_option maxRecDepth 20000 in
theorem wv_X7_15 : Wst RX7 15 yX7_putName cX7_putName 4 none 3 := ⟨tb_in (i := 938) rfl rfl, tb_in (i := 939) rfl rfl, tb_in (i := 83) rfl rfl, tb_in (i := 940) rfl rfl, by decide, by decide +kernel, by decide +kernel, by decide +kernel⟩
set_option maxRecDepth 20000 in
theorem wv_X7_21 : Wst RX7 21 yX7_putLetters cX7_putLetters 6 none 5 := ⟨tb_in (i := 943) rfl rfl, tb_in (i := 944) rfl rfl, tb_in (i := 83) rfl rfl, tb_in (i := 945) rfl rfl, by decide, by decide +kernel, by decide +kernel, by decide +kernel⟩
set_option maxRecDepth 20000 in
theorem wv_X7_25 : Wst RX7 25 yX7_putQualities cX7_putQualities 6 none 5 := ⟨tb_in (i := 947) rfl rfl, tb_in (i := 948) rfl rfl, tb_in (i := 83) rfl rfl, tb_in (i := 949) rfl rfl, by decide, by decide +kernel, by decide +kernel, by decide +kernel⟩
set_option maxRecDepth 20000 in
theorem wv_X7_34 : Wv RX7 34 yX3_nameSize cX3_nameSize 2 (some .int) 1 := ⟨tb_in (i := 941) rfl rfl, tb_in (i := 518) rfl rfl, tb_in (i := 519) rfl rfl, tb_in (i := 71) rfl rfl, tb_in (i := 520) rfl rfl, by decide, by decide +kernel, by decide +kernel, by decide +kernel⟩
set_option maxRecDepth 20000 in
theorem wv_X7_40 : Wv RX7 40 yX3_nameOctet cX3_nameOctet 3 (some .int) 2 := ⟨tb_in (i := 942) rfl rfl, tb_in (i := 558) rfl rfl, tb_in (i := 559) rfl rfl, tb_in (i := 71) rfl rfl, tb_in (i := 560) rfl rfl, by decide, by decide +kernel, by decide +kernel, by decide +kernel⟩
set_option maxRecDepth 20000 in
theorem wv_X7_43 : Wv RX7 43 yX3_letterOctet cX3_letterOctet 3 (some .int) 2 := ⟨tb_in (i := 946) rfl rfl, tb_in (i := 651) rfl rfl, tb_in (i := 652) rfl rfl, tb_in (i := 71) rfl rfl, tb_in (i := 653) rfl rfl, by decide, by decide +kernel, by decide +kernel, by decide +kernel⟩
set_option maxRecDepth 20000 in
theorem wv_X7_46 : Wv RX7 46 yX3_quality cX3_quality 3 (some .int) 2 := ⟨tb_in (i := 950) rfl rfl, tb_in (i := 680) rfl rfl, tb_in (i := 681) rfl rfl, tb_in (i := 71) rfl rfl, tb_in (i := 682) rfl rfl, by decide, by decide +kernel, by decide +kernel, by decide +kernel⟩
set_option maxRecDepth 20000 in
theorem wv_X8_60 : Wv RX8 60 yX4_room cX4_room 1 (some .int) 0 := ⟨tb_in (i := 393) rfl rfl, tb_in (i := 394) rfl rfl, tb_in (i := 395) rfl rfl, tb_in (i := 68) rfl rfl, tb_in (i := 396) rfl rfl, by decide, by decide +kernel, by decide +kernel, by decide +kernel⟩
set_option maxRecDepth 20000 in
theorem wv_X8_71 : Wv RX8 71 yX4_add cX4_add 2 none 1 := ⟨tb_in (i := 465) rfl rfl, tb_in (i := 365) rfl rfl, tb_in (i := 366) rfl rfl, tb_in (i := 68) rfl rfl, tb_in (i := 367) rfl rfl, by decide, by decide +kernel, by decide +kernel, by decide +kernel⟩
set_option maxRecDepth 20000 in
theorem wv_X8_74 : Wv RX8 74 yX4_size cX4_size 1 (some .int) 0 := ⟨tb_in (i := 383) rfl rfl, tb_in (i := 329) rfl rfl, tb_in (i := 330) rfl rfl, tb_in (i := 68) rfl rfl, tb_in (i := 331) rfl rfl, by decide, by decide +kernel, by decide +kernel, by decide +kernel⟩
set_option maxRecDepth 20000 in
theorem wv_X8_77 : Wst RX8 77 yX8_isForm cX8_isForm 1 (some .boolean) 1 := ⟨tb_in (i := 473) rfl rfl, tb_in (i := 474) rfl rfl, tb_in (i := 67) rfl rfl, tb_in (i := 475) rfl rfl, by decide, by decide +kernel, by decide +kernel, by decide +kernel⟩
set_option maxRecDepth 20000 in
theorem wv_X8_83 : Wv RX8 83 yX2_parse cX2_parse 5 (some .int) 2 := ⟨tb_in (i := 477) rfl rfl, tb_in (i := 478) rfl rfl, tb_in (i := 479) rfl rfl, tb_in (i := 70) rfl rfl, tb_in (i := 480) rfl rfl, by decide, by decide +kernel, by decide +kernel, by decide +kernel⟩
set_option maxRecDepth 20000 in
theorem wv_X8_87 : Wv RX8 87 yX4_clear cX4_clear 1 none 0 := ⟨tb_in (i := 344) rfl rfl, tb_in (i := 345) rfl rfl, tb_in (i := 346) rfl rfl, tb_in (i := 68) rfl rfl, tb_in (i := 347) rfl rfl, by decide, by decide +kernel, by decide +kernel, by decide +kernel⟩
set_option maxRecDepth 20000 in
theorem wv_X8_90 : Wv RX8 90 yX2_faultAt cX2_faultAt 1 (some .int) 0 := ⟨tb_in (i := 574) rfl rfl, tb_in (i := 575) rfl rfl, tb_in (i := 576) rfl rfl, tb_in (i := 70) rfl rfl, tb_in (i := 577) rfl rfl, by decide, by decide +kernel, by decide +kernel, by decide +kernel⟩
set_option maxRecDepth 20000 in
theorem wv_X8_93 : Wv RX8 93 yX2_exchange cX2_exchange 3 (some (.object "ReadBins$Reads")) 1 := ⟨tb_in (i := 578) rfl rfl, tb_in (i := 579) rfl rfl, tb_in (i := 580) rfl rfl, tb_in (i := 70) rfl rfl, tb_in (i := 581) rfl rfl, by decide, by decide +kernel, by decide +kernel, by decide +kernel⟩
set_option maxRecDepth 20000 in
theorem wv_X8_97 : Wv RX8 97 yX5_forget cX5_forget 1 none 0 := ⟨tb_in (i := 582) rfl rfl, tb_in (i := 583) rfl rfl, tb_in (i := 584) rfl rfl, tb_in (i := 74) rfl rfl, tb_in (i := 585) rfl rfl, by decide, by decide +kernel, by decide +kernel, by decide +kernel⟩
set_option maxRecDepth 20000 in
theorem wv_X8_100 : Wv RX8 100 yX3_count cX3_count 1 (some .int) 0 := ⟨tb_in (i := 586) rfl rfl, tb_in (i := 501) rfl rfl, tb_in (i := 502) rfl rfl, tb_in (i := 71) rfl rfl, tb_in (i := 503) rfl rfl, by decide, by decide +kernel, by decide +kernel, by decide +kernel⟩
set_option maxRecDepth 20000 in
theorem wv_X8_103 : Wv RX8 103 yX0_take cX0_take 4 (some .int) 1 := ⟨tb_in (i := 313) rfl rfl, tb_in (i := 314) rfl rfl, tb_in (i := 315) rfl rfl, tb_in (i := 72) rfl rfl, tb_in (i := 316) rfl rfl, by decide, by decide +kernel, by decide +kernel, by decide +kernel⟩
set_option maxRecDepth 20000 in
theorem wv_X8_107 : Wv RX8 107 yX6_takeAdapter cX6_takeAdapter 2 (some .int) 1 := ⟨tb_in (i := 352) rfl rfl, tb_in (i := 353) rfl rfl, tb_in (i := 354) rfl rfl, tb_in (i := 73) rfl rfl, tb_in (i := 355) rfl rfl, by decide, by decide +kernel, by decide +kernel, by decide +kernel⟩
set_option maxRecDepth 20000 in
theorem wv_X8_110 : Wst RX8 110 yX8_isWithin cX8_isWithin 2 (some .boolean) 2 := ⟨tb_in (i := 372) rfl rfl, tb_in (i := 373) rfl rfl, tb_in (i := 67) rfl rfl, tb_in (i := 374) rfl rfl, by decide, by decide +kernel, by decide +kernel, by decide +kernel⟩
set_option maxRecDepth 20000 in
theorem wv_X8_114 : Wv RX8 114 yX6_setLimits cX6_setLimits 4 none 3 := ⟨tb_in (i := 375) rfl rfl, tb_in (i := 376) rfl rfl, tb_in (i := 377) rfl rfl, tb_in (i := 73) rfl rfl, tb_in (i := 378) rfl rfl, by decide, by decide +kernel, by decide +kernel, by decide +kernel⟩
set_option maxRecDepth 20000 in
theorem wv_X8_118 : Wv RX8 118 yX0_spread cX0_spread 1 (some .int) 0 := ⟨tb_in (i := 595) rfl rfl, tb_in (i := 596) rfl rfl, tb_in (i := 597) rfl rfl, tb_in (i := 72) rfl rfl, tb_in (i := 598) rfl rfl, by decide, by decide +kernel, by decide +kernel, by decide +kernel⟩
set_option maxRecDepth 20000 in
theorem wv_X8_121 : Wv RX8 121 yX0_count cX0_count 1 (some .int) 0 := ⟨tb_in (i := 599) rfl rfl, tb_in (i := 600) rfl rfl, tb_in (i := 601) rfl rfl, tb_in (i := 72) rfl rfl, tb_in (i := 602) rfl rfl, by decide, by decide +kernel, by decide +kernel, by decide +kernel⟩
set_option maxRecDepth 20000 in
theorem wv_X8_122 : Wv RX8 122 yX0_length cX0_length 1 (some .int) 0 := ⟨tb_in (i := 603) rfl rfl, tb_in (i := 604) rfl rfl, tb_in (i := 605) rfl rfl, tb_in (i := 72) rfl rfl, tb_in (i := 606) rfl rfl, by decide, by decide +kernel, by decide +kernel, by decide +kernel⟩
set_option maxRecDepth 20000 in
theorem wv_X8_132 : Wv RX8 132 yX5_restart cX5_restart 4 none 3 := ⟨tb_in (i := 631) rfl rfl, tb_in (i := 632) rfl rfl, tb_in (i := 633) rfl rfl, tb_in (i := 74) rfl rfl, tb_in (i := 634) rfl rfl, by decide, by decide +kernel, by decide +kernel, by decide +kernel⟩
set_option maxRecDepth 20000 in
theorem wv_X8_135 : Wv RX8 135 yX8_sortRead cX8_sortRead 5 none 2 := ⟨tb_in (i := 640) rfl rfl, tb_in (i := 642) rfl rfl, tb_in (i := 13) rfl rfl, tb_in (i := 67) rfl rfl, tb_in (i := 643) rfl rfl, by decide, by decide +kernel, by decide +kernel, by decide +kernel⟩
set_option maxRecDepth 20000 in
theorem wv_X8_139 : Wv RX8 139 yX5_finish cX5_finish 2 none 0 := ⟨tb_in (i := 733) rfl rfl, tb_in (i := 734) rfl rfl, tb_in (i := 735) rfl rfl, tb_in (i := 74) rfl rfl, tb_in (i := 736) rfl rfl, by decide, by decide +kernel, by decide +kernel, by decide +kernel⟩
set_option maxRecDepth 20000 in
theorem wv_X8_142 : Wv RX8 142 yX5_readsIn cX5_readsIn 4 (some .int) 1 := ⟨tb_in (i := 768) rfl rfl, tb_in (i := 769) rfl rfl, tb_in (i := 770) rfl rfl, tb_in (i := 74) rfl rfl, tb_in (i := 771) rfl rfl, by decide, by decide +kernel, by decide +kernel, by decide +kernel⟩
set_option maxRecDepth 20000 in
theorem wv_X8_146 : Wv RX8 146 yX3_letterCount cX3_letterCount 2 (some .int) 1 := ⟨tb_in (i := 644) rfl rfl, tb_in (i := 542) rfl rfl, tb_in (i := 543) rfl rfl, tb_in (i := 71) rfl rfl, tb_in (i := 544) rfl rfl, by decide, by decide +kernel, by decide +kernel, by decide +kernel⟩
set_option maxRecDepth 20000 in
theorem wv_X8_149 : Wv RX8 149 yX0_nearTo cX0_nearTo 5 (some .int) 2 := ⟨tb_in (i := 645) rfl rfl, tb_in (i := 646) rfl rfl, tb_in (i := 647) rfl rfl, tb_in (i := 72) rfl rfl, tb_in (i := 648) rfl rfl, by decide, by decide +kernel, by decide +kernel, by decide +kernel⟩
set_option maxRecDepth 20000 in
theorem wv_X8_153 : Wv RX8 153 yX6_cut cX6_cut 4 none 3 := ⟨tb_in (i := 659) rfl rfl, tb_in (i := 660) rfl rfl, tb_in (i := 661) rfl rfl, tb_in (i := 73) rfl rfl, tb_in (i := 662) rfl rfl, by decide, by decide +kernel, by decide +kernel, by decide +kernel⟩
set_option maxRecDepth 20000 in
theorem wv_X8_157 : Wv RX8 157 yX5_add cX5_add 5 none 3 := ⟨tb_in (i := 691) rfl rfl, tb_in (i := 692) rfl rfl, tb_in (i := 693) rfl rfl, tb_in (i := 74) rfl rfl, tb_in (i := 694) rfl rfl, by decide, by decide +kernel, by decide +kernel, by decide +kernel⟩
set_option maxRecDepth 20000 in
theorem wv_X8_160 : Wv RX8 160 yX6_isTooShort cX6_isTooShort 1 (some .boolean) 0 := ⟨tb_in (i := 712) rfl rfl, tb_in (i := 704) rfl rfl, tb_in (i := 705) rfl rfl, tb_in (i := 73) rfl rfl, tb_in (i := 706) rfl rfl, by decide, by decide +kernel, by decide +kernel, by decide +kernel⟩
set_option maxRecDepth 20000 in
theorem wv_X8_164 : Wv RX8 164 yX5_grouping cX5_grouping 1 (some (.object "ReadBins$Grouping")) 0 := ⟨tb_in (i := 713) rfl rfl, tb_in (i := 714) rfl rfl, tb_in (i := 715) rfl rfl, tb_in (i := 74) rfl rfl, tb_in (i := 716) rfl rfl, by decide, by decide +kernel, by decide +kernel, by decide +kernel⟩
set_option maxRecDepth 20000 in
theorem wv_X8_168 : Wv RX8 168 yX1_enter cX1_enter 6 none 4 := ⟨tb_in (i := 717) rfl rfl, tb_in (i := 718) rfl rfl, tb_in (i := 719) rfl rfl, tb_in (i := 75) rfl rfl, tb_in (i := 720) rfl rfl, by decide, by decide +kernel, by decide +kernel, by decide +kernel⟩
set_option maxRecDepth 20000 in
theorem wv_X8_174 : Wv RX8 174 yX3_has cX3_has 2 (some .boolean) 1 := ⟨tb_in (i := 787) rfl rfl, tb_in (i := 522) rfl rfl, tb_in (i := 523) rfl rfl, tb_in (i := 71) rfl rfl, tb_in (i := 524) rfl rfl, by decide, by decide +kernel, by decide +kernel, by decide +kernel⟩
set_option maxRecDepth 20000 in
theorem wv_X8_179 : Wv RX8 179 yX3_nameSize cX3_nameSize 2 (some .int) 1 := ⟨tb_in (i := 789) rfl rfl, tb_in (i := 518) rfl rfl, tb_in (i := 519) rfl rfl, tb_in (i := 71) rfl rfl, tb_in (i := 520) rfl rfl, by decide, by decide +kernel, by decide +kernel, by decide +kernel⟩
set_option maxRecDepth 20000 in
theorem wv_X8_182 : Wv RX8 182 yX5_isDone cX5_isDone 1 (some .boolean) 0 := ⟨tb_in (i := 790) rfl rfl, tb_in (i := 791) rfl rfl, tb_in (i := 792) rfl rfl, tb_in (i := 74) rfl rfl, tb_in (i := 793) rfl rfl, by decide, by decide +kernel, by decide +kernel, by decide +kernel⟩
set_option maxRecDepth 20000 in
theorem wv_X8_185 : Wv RX8 185 yX8_aboutSorted cX8_aboutSorted 3 (some .int) 2 := ⟨tb_in (i := 794) rfl rfl, tb_in (i := 796) rfl rfl, tb_in (i := 30) rfl rfl, tb_in (i := 67) rfl rfl, tb_in (i := 797) rfl rfl, by decide, by decide +kernel, by decide +kernel, by decide +kernel⟩
set_option maxRecDepth 20000 in
theorem wv_X8_189 : Wv RX8 189 yX5_binOf cX5_binOf 2 (some .int) 1 := ⟨tb_in (i := 798) rfl rfl, tb_in (i := 773) rfl rfl, tb_in (i := 774) rfl rfl, tb_in (i := 74) rfl rfl, tb_in (i := 775) rfl rfl, by decide, by decide +kernel, by decide +kernel, by decide +kernel⟩
set_option maxRecDepth 20000 in
theorem wv_X8_192 : Wv RX8 192 yX5_beginOf cX5_beginOf 2 (some .int) 1 := ⟨tb_in (i := 799) rfl rfl, tb_in (i := 800) rfl rfl, tb_in (i := 801) rfl rfl, tb_in (i := 74) rfl rfl, tb_in (i := 802) rfl rfl, by decide, by decide +kernel, by decide +kernel, by decide +kernel⟩
set_option maxRecDepth 20000 in
theorem wv_X8_195 : Wv RX8 195 yX5_endOf cX5_endOf 2 (some .int) 1 := ⟨tb_in (i := 803) rfl rfl, tb_in (i := 804) rfl rfl, tb_in (i := 805) rfl rfl, tb_in (i := 74) rfl rfl, tb_in (i := 806) rfl rfl, by decide, by decide +kernel, by decide +kernel, by decide +kernel⟩
set_option maxRecDepth 20000 in
theorem wv_X8_198 : Wv RX8 198 yX5_isShort cX5_isShort 2 (some .boolean) 1 := ⟨tb_in (i := 807) rfl rfl, tb_in (i := 808) rfl rfl, tb_in (i := 809) rfl rfl, tb_in (i := 74) rfl rfl, tb_in (i := 810) rfl rfl, by decide, by decide +kernel, by decide +kernel, by decide +kernel⟩
set_option maxRecDepth 20000 in
theorem wv_X8_201 : Wv RX8 201 yX1_groupOf cX1_groupOf 2 (some .int) 1 := ⟨tb_in (i := 811) rfl rfl, tb_in (i := 812) rfl rfl, tb_in (i := 813) rfl rfl, tb_in (i := 75) rfl rfl, tb_in (i := 814) rfl rfl, by decide, by decide +kernel, by decide +kernel, by decide +kernel⟩
set_option maxRecDepth 20000 in
theorem wv_X8_204 : Wv RX8 204 yX3_nameOctet cX3_nameOctet 3 (some .int) 2 := ⟨tb_in (i := 822) rfl rfl, tb_in (i := 558) rfl rfl, tb_in (i := 559) rfl rfl, tb_in (i := 71) rfl rfl, tb_in (i := 560) rfl rfl, by decide, by decide +kernel, by decide +kernel, by decide +kernel⟩
set_option maxRecDepth 20000 in
theorem wv_X8_207 : Wv RX8 207 yX3_letterOctet cX3_letterOctet 3 (some .int) 2 := ⟨tb_in (i := 823) rfl rfl, tb_in (i := 651) rfl rfl, tb_in (i := 652) rfl rfl, tb_in (i := 71) rfl rfl, tb_in (i := 653) rfl rfl, by decide, by decide +kernel, by decide +kernel, by decide +kernel⟩
set_option maxRecDepth 20000 in
theorem wv_X8_210 : Wv RX8 210 yX3_quality cX3_quality 3 (some .int) 2 := ⟨tb_in (i := 824) rfl rfl, tb_in (i := 680) rfl rfl, tb_in (i := 681) rfl rfl, tb_in (i := 71) rfl rfl, tb_in (i := 682) rfl rfl, by decide, by decide +kernel, by decide +kernel, by decide +kernel⟩
set_option maxRecDepth 20000 in
theorem wv_X8_215 : Wv RX8 215 yX8_hasBin cX8_hasBin 3 (some .boolean) 1 := ⟨tb_in (i := 834) rfl rfl, tb_in (i := 836) rfl rfl, tb_in (i := 31) rfl rfl, tb_in (i := 67) rfl rfl, tb_in (i := 837) rfl rfl, by decide, by decide +kernel, by decide +kernel, by decide +kernel⟩
set_option maxRecDepth 20000 in
theorem wv_X8_225 : Wv RX8 225 yX5_shortReadsIn cX5_shortReadsIn 4 (some .int) 1 := ⟨tb_in (i := 859) rfl rfl, tb_in (i := 860) rfl rfl, tb_in (i := 861) rfl rfl, tb_in (i := 74) rfl rfl, tb_in (i := 862) rfl rfl, by decide, by decide +kernel, by decide +kernel, by decide +kernel⟩
set_option maxRecDepth 20000 in
theorem wv_X8_228 : Wv RX8 228 yX1_groupsIn cX1_groupsIn 2 (some .int) 1 := ⟨tb_in (i := 864) rfl rfl, tb_in (i := 865) rfl rfl, tb_in (i := 866) rfl rfl, tb_in (i := 75) rfl rfl, tb_in (i := 867) rfl rfl, by decide, by decide +kernel, by decide +kernel, by decide +kernel⟩
set_option maxRecDepth 20000 in
theorem wv_X8_233 : Wv RX8 233 yX1_readsIn cX1_readsIn 5 (some .int) 2 := ⟨tb_in (i := 876) rfl rfl, tb_in (i := 877) rfl rfl, tb_in (i := 878) rfl rfl, tb_in (i := 75) rfl rfl, tb_in (i := 879) rfl rfl, by decide, by decide +kernel, by decide +kernel, by decide +kernel⟩
set_option maxRecDepth 20000 in
theorem wv_X8_235 : Wv RX8 235 yX5_bestOf cX5_bestOf 5 (some .int) 2 := ⟨tb_in (i := 884) rfl rfl, tb_in (i := 885) rfl rfl, tb_in (i := 886) rfl rfl, tb_in (i := 74) rfl rfl, tb_in (i := 887) rfl rfl, by decide, by decide +kernel, by decide +kernel, by decide +kernel⟩
set_option maxRecDepth 20000 in
theorem wv_X8_238 : Wv RX8 238 yX1_tagsIn cX1_tagsIn 5 (some .int) 2 := ⟨tb_in (i := 893) rfl rfl, tb_in (i := 894) rfl rfl, tb_in (i := 895) rfl rfl, tb_in (i := 75) rfl rfl, tb_in (i := 896) rfl rfl, by decide, by decide +kernel, by decide +kernel, by decide +kernel⟩
set_option maxRecDepth 20000 in
theorem wv_X8_243 : Wv RX8 243 yX8_sizeOfText cX8_sizeOfText 6 (some .int) 3 := ⟨tb_in (i := 905) rfl rfl, tb_in (i := 907) rfl rfl, tb_in (i := 33) rfl rfl, tb_in (i := 67) rfl rfl, tb_in (i := 908) rfl rfl, by decide, by decide +kernel, by decide +kernel, by decide +kernel⟩
set_option maxRecDepth 20000 in
theorem wv_X8_247 : Wv RX8 247 yX8_writeText cX8_writeText 5 none 3 := ⟨tb_in (i := 930) rfl rfl, tb_in (i := 932) rfl rfl, tb_in (i := 37) rfl rfl, tb_in (i := 67) rfl rfl, tb_in (i := 933) rfl rfl, by decide, by decide +kernel, by decide +kernel, by decide +kernel⟩
set_option maxRecDepth 20000 in
theorem wv_X8_251 : Wv RX8 251 yX4_at cX4_at 2 (some .int) 1 := ⟨tb_in (i := 959) rfl rfl, tb_in (i := 322) rfl rfl, tb_in (i := 323) rfl rfl, tb_in (i := 68) rfl rfl, tb_in (i := 324) rfl rfl, by decide, by decide +kernel, by decide +kernel, by decide +kernel⟩
set_option maxRecDepth 20000 in
theorem wv_X8_256 : Wv RX8 256 yX4_copy cX4_copy 3 none 1 := ⟨tb_in (i := 384) rfl rfl, tb_in (i := 359) rfl rfl, tb_in (i := 360) rfl rfl, tb_in (i := 68) rfl rfl, tb_in (i := 361) rfl rfl, by decide, by decide +kernel, by decide +kernel, by decide +kernel⟩
set_option maxRecDepth 20000 in
theorem wv_X8_260 : Wv RX8 260 yX8_isChosen cX8_isChosen 4 (some .boolean) 3 := ⟨tb_in (i := 909) rfl rfl, tb_in (i := 911) rfl rfl, tb_in (i := 34) rfl rfl, tb_in (i := 67) rfl rfl, tb_in (i := 912) rfl rfl, by decide, by decide +kernel, by decide +kernel, by decide +kernel⟩
set_option maxRecDepth 20000 in
theorem wv_X8_264 : Wv RX8 264 yX8_lastOf cX8_lastOf 3 (some .int) 2 := ⟨tb_in (i := 917) rfl rfl, tb_in (i := 919) rfl rfl, tb_in (i := 36) rfl rfl, tb_in (i := 67) rfl rfl, tb_in (i := 920) rfl rfl, by decide, by decide +kernel, by decide +kernel, by decide +kernel⟩
set_option maxRecDepth 20000 in
theorem wv_X8_267 : Wv RX8 267 yX8_firstOf cX8_firstOf 3 (some .int) 2 := ⟨tb_in (i := 913) rfl rfl, tb_in (i := 915) rfl rfl, tb_in (i := 35) rfl rfl, tb_in (i := 67) rfl rfl, tb_in (i := 916) rfl rfl, by decide, by decide +kernel, by decide +kernel, by decide +kernel⟩
set_option maxRecDepth 20000 in
theorem wv_X8_270 : Wst RX8 270 yX7_sizeOfRead cX7_sizeOfRead 4 (some .int) 3 := ⟨tb_in (i := 927) rfl rfl, tb_in (i := 928) rfl rfl, tb_in (i := 83) rfl rfl, tb_in (i := 929) rfl rfl, by decide, by decide +kernel, by decide +kernel, by decide +kernel⟩
set_option maxRecDepth 20000 in
theorem wv_X8_276 : Wst RX8 276 yX7_putRead cX7_putRead 7 none 6 := ⟨tb_in (i := 934) rfl rfl, tb_in (i := 935) rfl rfl, tb_in (i := 83) rfl rfl, tb_in (i := 936) rfl rfl, by decide, by decide +kernel, by decide +kernel, by decide +kernel⟩
set_option maxRecDepth 20000 in
theorem wv_X8_280 : Wv RX8 280 yX5_isBest cX5_isBest 3 (some .boolean) 1 := ⟨tb_in (i := 921) rfl rfl, tb_in (i := 922) rfl rfl, tb_in (i := 923) rfl rfl, tb_in (i := 74) rfl rfl, tb_in (i := 924) rfl rfl, by decide, by decide +kernel, by decide +kernel, by decide +kernel⟩
set_option maxRecDepth 20000 in
theorem wv_X8_283 : Wv RX8 283 yX5_binCount cX5_binCount 1 (some .int) 0 := ⟨tb_in (i := 838) rfl rfl, tb_in (i := 839) rfl rfl, tb_in (i := 840) rfl rfl, tb_in (i := 74) rfl rfl, tb_in (i := 841) rfl rfl, by decide, by decide +kernel, by decide +kernel, by decide +kernel⟩
set_option maxRecDepth 20000 in
theorem wv_X8_286 : Wst RX8 286 yX8_isBase cX8_isBase 1 (some .boolean) 1 := ⟨tb_in (i := 548) rfl rfl, tb_in (i := 326) rfl rfl, tb_in (i := 67) rfl rfl, tb_in (i := 327) rfl rfl, by decide, by decide +kernel, by decide +kernel, by decide +kernel⟩
set_option maxRecDepth 20000 in
theorem wv_X9_80 : Wv RX9 80 yX9_faulty cX9_faulty 2 (some .boolean) 1 := ⟨tb_in (i := 1091) rfl rfl, tb_in (i := 1093) rfl rfl, tb_in (i := 40) rfl rfl, tb_in (i := 76) rfl rfl, tb_in (i := 1094) rfl rfl, by decide, by decide +kernel, by decide +kernel, by decide +kernel⟩
set_option maxRecDepth 20000 in
theorem wv_X9_84 : Wv RX9 84 yX9_look cX9_look 1 (some .int) 0 := ⟨tb_in (i := 1095) rfl rfl, tb_in (i := 1097) rfl rfl, tb_in (i := 41) rfl rfl, tb_in (i := 76) rfl rfl, tb_in (i := 1098) rfl rfl, by decide, by decide +kernel, by decide +kernel, by decide +kernel⟩
set_option maxRecDepth 20000 in
theorem wv_X9_91 : Wv RX9 91 yX9_must cX9_must 2 (some .boolean) 1 := ⟨tb_in (i := 1099) rfl rfl, tb_in (i := 1101) rfl rfl, tb_in (i := 42) rfl rfl, tb_in (i := 76) rfl rfl, tb_in (i := 1102) rfl rfl, by decide, by decide +kernel, by decide +kernel, by decide +kernel⟩
set_option maxRecDepth 20000 in
theorem wv_X9_94 : Wst RX9 94 yX9_letterOf cX9_letterOf 1 (some .int) 1 := ⟨tb_in (i := 1107) rfl rfl, tb_in (i := 1108) rfl rfl, tb_in (i := 76) rfl rfl, tb_in (i := 1109) rfl rfl, by decide, by decide +kernel, by decide +kernel, by decide +kernel⟩
set_option maxRecDepth 20000 in
theorem wv_X9_98 : Wv RX9 98 yX9_nameLine cX9_nameLine 4 (some .boolean) 2 := ⟨tb_in (i := 1087) rfl rfl, tb_in (i := 1089) rfl rfl, tb_in (i := 39) rfl rfl, tb_in (i := 76) rfl rfl, tb_in (i := 1090) rfl rfl, by decide, by decide +kernel, by decide +kernel, by decide +kernel⟩
set_option maxRecDepth 20000 in
theorem wv_X9_102 : Wv RX9 102 yX9_letterLine cX9_letterLine 3 (some .boolean) 1 := ⟨tb_in (i := 1103) rfl rfl, tb_in (i := 1105) rfl rfl, tb_in (i := 43) rfl rfl, tb_in (i := 76) rfl rfl, tb_in (i := 1106) rfl rfl, by decide, by decide +kernel, by decide +kernel, by decide +kernel⟩
set_option maxRecDepth 20000 in
theorem wv_X9_105 : Wv RX9 105 yX9_plusLine cX9_plusLine 3 (some .boolean) 1 := ⟨tb_in (i := 1110) rfl rfl, tb_in (i := 1112) rfl rfl, tb_in (i := 44) rfl rfl, tb_in (i := 76) rfl rfl, tb_in (i := 1113) rfl rfl, by decide, by decide +kernel, by decide +kernel, by decide +kernel⟩
set_option maxRecDepth 20000 in
theorem wv_X9_108 : Wv RX9 108 yX9_qualityLine cX9_qualityLine 3 (some .boolean) 1 := ⟨tb_in (i := 1114) rfl rfl, tb_in (i := 1116) rfl rfl, tb_in (i := 45) rfl rfl, tb_in (i := 76) rfl rfl, tb_in (i := 1117) rfl rfl, by decide, by decide +kernel, by decide +kernel, by decide +kernel⟩
set_option maxRecDepth 20000 in
theorem wv_X9_111 : Wv RX9 111 yX9_readOne cX9_readOne 4 (some .boolean) 1 := ⟨tb_in (i := 1083) rfl rfl, tb_in (i := 1085) rfl rfl, tb_in (i := 38) rfl rfl, tb_in (i := 76) rfl rfl, tb_in (i := 1086) rfl rfl, by decide, by decide +kernel, by decide +kernel, by decide +kernel⟩
set_option maxRecDepth 20000 in
theorem wv_X9_124 : Wv RX9 124 yX9_isCode cX9_isCode 5 (some .boolean) 2 := ⟨tb_in (i := 1126) rfl rfl, tb_in (i := 1128) rfl rfl, tb_in (i := 46) rfl rfl, tb_in (i := 76) rfl rfl, tb_in (i := 1129) rfl rfl, by decide, by decide +kernel, by decide +kernel, by decide +kernel⟩
set_option maxRecDepth 20000 in
theorem wv_X9_127 : Wv RX9 127 yX9_hasCode cX9_hasCode 4 (some .boolean) 0 := ⟨tb_in (i := 1130) rfl rfl, tb_in (i := 1132) rfl rfl, tb_in (i := 47) rfl rfl, tb_in (i := 76) rfl rfl, tb_in (i := 1133) rfl rfl, by decide, by decide +kernel, by decide +kernel, by decide +kernel⟩
set_option maxRecDepth 20000 in
theorem wv_X9_140 : Wv RX9 140 yX9_spread cX9_spread 6 (some .int) 0 := ⟨tb_in (i := 1146) rfl rfl, tb_in (i := 1148) rfl rfl, tb_in (i := 48) rfl rfl, tb_in (i := 76) rfl rfl, tb_in (i := 1149) rfl rfl, by decide, by decide +kernel, by decide +kernel, by decide +kernel⟩
set_option maxRecDepth 20000 in
theorem wv_X9_149 : Wv RX9 149 yX9_tagAt cX9_tagAt 3 (some .int) 2 := ⟨tb_in (i := 1190) rfl rfl, tb_in (i := 1192) rfl rfl, tb_in (i := 58) rfl rfl, tb_in (i := 76) rfl rfl, tb_in (i := 1193) rfl rfl, by decide, by decide +kernel, by decide +kernel, by decide +kernel⟩
set_option maxRecDepth 20000 in
theorem wv_X9_153 : Wv RX9 153 yX9_counts cX9_counts 3 (some .boolean) 2 := ⟨tb_in (i := 1174) rfl rfl, tb_in (i := 1176) rfl rfl, tb_in (i := 54) rfl rfl, tb_in (i := 76) rfl rfl, tb_in (i := 1177) rfl rfl, by decide, by decide +kernel, by decide +kernel, by decide +kernel⟩
set_option maxRecDepth 20000 in
theorem wv_X9_156 : Wv RX9 156 yX9_distance cX9_distance 5 (some .int) 2 := ⟨tb_in (i := 1186) rfl rfl, tb_in (i := 1188) rfl rfl, tb_in (i := 57) rfl rfl, tb_in (i := 76) rfl rfl, tb_in (i := 1189) rfl rfl, by decide, by decide +kernel, by decide +kernel, by decide +kernel⟩
set_option maxRecDepth 20000 in
theorem wv_X9_159 : Wv RX9 159 yX9_countOf cX9_countOf 4 (some .int) 1 := ⟨tb_in (i := 1182) rfl rfl, tb_in (i := 1184) rfl rfl, tb_in (i := 56) rfl rfl, tb_in (i := 76) rfl rfl, tb_in (i := 1185) rfl rfl, by decide, by decide +kernel, by decide +kernel, by decide +kernel⟩
set_option maxRecDepth 20000 in
theorem wv_X9_162 : Wv RX9 162 yX9_isBefore cX9_isBefore 6 (some .boolean) 2 := ⟨tb_in (i := 1178) rfl rfl, tb_in (i := 1180) rfl rfl, tb_in (i := 55) rfl rfl, tb_in (i := 76) rfl rfl, tb_in (i := 1181) rfl rfl, by decide, by decide +kernel, by decide +kernel, by decide +kernel⟩
set_option maxRecDepth 20000 in
theorem wv_X9_165 : Wv RX9 165 yX9_spreadGroup cX9_spreadGroup 8 none 3 := ⟨tb_in (i := 1194) rfl rfl, tb_in (i := 1196) rfl rfl, tb_in (i := 59) rfl rfl, tb_in (i := 76) rfl rfl, tb_in (i := 1197) rfl rfl, by decide, by decide +kernel, by decide +kernel, by decide +kernel⟩
set_option maxRecDepth 20000 in
theorem wv_X9_172 : Wv RX9 172 yX9_binOf cX9_binOf 8 (some .int) 3 := ⟨tb_in (i := 1154) rfl rfl, tb_in (i := 1156) rfl rfl, tb_in (i := 49) rfl rfl, tb_in (i := 76) rfl rfl, tb_in (i := 1157) rfl rfl, by decide, by decide +kernel, by decide +kernel, by decide +kernel⟩
set_option maxRecDepth 20000 in
theorem wv_X9_176 : Wv RX9 176 yX9_cutAdapter cX9_cutAdapter 6 none 1 := ⟨tb_in (i := 1158) rfl rfl, tb_in (i := 1160) rfl rfl, tb_in (i := 50) rfl rfl, tb_in (i := 76) rfl rfl, tb_in (i := 1161) rfl rfl, by decide, by decide +kernel, by decide +kernel, by decide +kernel⟩
set_option maxRecDepth 20000 in
theorem wv_X9_180 : Wv RX9 180 yX9_cutQualities cX9_cutQualities 7 none 1 := ⟨tb_in (i := 1162) rfl rfl, tb_in (i := 1164) rfl rfl, tb_in (i := 51) rfl rfl, tb_in (i := 76) rfl rfl, tb_in (i := 1165) rfl rfl, by decide, by decide +kernel, by decide +kernel, by decide +kernel⟩
set_option maxRecDepth 20000 in
theorem wv_X9_183 : Wv RX9 183 yX9_cutNone cX9_cutNone 2 none 1 := ⟨tb_in (i := 1166) rfl rfl, tb_in (i := 1168) rfl rfl, tb_in (i := 52) rfl rfl, tb_in (i := 76) rfl rfl, tb_in (i := 1169) rfl rfl, by decide, by decide +kernel, by decide +kernel, by decide +kernel⟩
set_option maxRecDepth 20000 in
theorem wv_X9_186 : Wv RX9 186 yX9_groupAll cX9_groupAll 6 none 2 := ⟨tb_in (i := 1170) rfl rfl, tb_in (i := 1172) rfl rfl, tb_in (i := 53) rfl rfl, tb_in (i := 76) rfl rfl, tb_in (i := 1173) rfl rfl, by decide, by decide +kernel, by decide +kernel, by decide +kernel⟩
set_option maxRecDepth 20000 in
theorem wv_X9_190 : Wv RX9 190 yX9_noRead cX9_noRead 2 (some .boolean) 1 := ⟨tb_in (i := 1202) rfl rfl, tb_in (i := 1204) rfl rfl, tb_in (i := 60) rfl rfl, tb_in (i := 76) rfl rfl, tb_in (i := 1205) rfl rfl, by decide, by decide +kernel, by decide +kernel, by decide +kernel⟩
set_option maxRecDepth 20000 in
theorem wv_X9_193 : Wv RX9 193 yX9_noBin cX9_noBin 2 (some .boolean) 1 := ⟨tb_in (i := 1214) rfl rfl, tb_in (i := 1216) rfl rfl, tb_in (i := 61) rfl rfl, tb_in (i := 76) rfl rfl, tb_in (i := 1217) rfl rfl, by decide, by decide +kernel, by decide +kernel, by decide +kernel⟩
set_option maxRecDepth 20000 in
theorem wv_X9_196 : Wv RX9 196 yX9_groupsOf cX9_groupsOf 4 (some .int) 1 := ⟨tb_in (i := 1218) rfl rfl, tb_in (i := 1220) rfl rfl, tb_in (i := 62) rfl rfl, tb_in (i := 76) rfl rfl, tb_in (i := 1221) rfl rfl, by decide, by decide +kernel, by decide +kernel, by decide +kernel⟩
set_option maxRecDepth 20000 in
theorem wv_X9_199 : Wv RX9 199 yX9_bestOf cX9_bestOf 8 (some .int) 2 := ⟨tb_in (i := 1226) rfl rfl, tb_in (i := 1228) rfl rfl, tb_in (i := 63) rfl rfl, tb_in (i := 76) rfl rfl, tb_in (i := 1229) rfl rfl, by decide, by decide +kernel, by decide +kernel, by decide +kernel⟩
set_option maxRecDepth 20000 in
theorem wv_X9_205 : Wv RX9 205 yX9_put cX9_put 2 none 1 := ⟨tb_in (i := 1238) rfl rfl, tb_in (i := 1240) rfl rfl, tb_in (i := 65) rfl rfl, tb_in (i := 76) rfl rfl, tb_in (i := 1241) rfl rfl, by decide, by decide +kernel, by decide +kernel, by decide +kernel⟩
set_option maxRecDepth 20000 in
theorem wv_X9_208 : Wv RX9 208 yX9_putRead cX9_putRead 6 none 4 := ⟨tb_in (i := 1234) rfl rfl, tb_in (i := 1236) rfl rfl, tb_in (i := 64) rfl rfl, tb_in (i := 76) rfl rfl, tb_in (i := 1237) rfl rfl, by decide, by decide +kernel, by decide +kernel, by decide +kernel⟩
set_option maxRecDepth 20000 in
theorem wv_L_7 : Wv RL 7 yX8_feed cX8_feed 5 (some .int) 2 := ⟨tb_in (i := 389) rfl rfl, tb_in (i := 390) rfl rfl, tb_in (i := 391) rfl rfl, tb_in (i := 67) rfl rfl, tb_in (i := 392) rfl rfl, by decide, by decide +kernel, by decide +kernel, by decide +kernel⟩
set_option maxRecDepth 20000 in
theorem wv_L_15 : Wv RL 15 yX8_read cX8_read 3 (some .int) 1 := ⟨tb_in (i := 469) rfl rfl, tb_in (i := 470) rfl rfl, tb_in (i := 471) rfl rfl, tb_in (i := 67) rfl rfl, tb_in (i := 472) rfl rfl, by decide, by decide +kernel, by decide +kernel, by decide +kernel⟩
set_option maxRecDepth 20000 in
theorem wv_L_19 : Wv RL 19 yX8_told cX8_told 2 (some .int) 1 := ⟨tb_in (i := 591) rfl rfl, tb_in (i := 592) rfl rfl, tb_in (i := 593) rfl rfl, tb_in (i := 67) rfl rfl, tb_in (i := 594) rfl rfl, by decide, by decide +kernel, by decide +kernel, by decide +kernel⟩
set_option maxRecDepth 20000 in
theorem wv_L_24 : Wv RL 24 yX8_sort cX8_sort 4 (some .int) 2 := ⟨tb_in (i := 626) rfl rfl, tb_in (i := 627) rfl rfl, tb_in (i := 628) rfl rfl, tb_in (i := 67) rfl rfl, tb_in (i := 629) rfl rfl, by decide, by decide +kernel, by decide +kernel, by decide +kernel⟩
set_option maxRecDepth 20000 in
theorem wv_L_28 : Wv RL 28 yX8_about cX8_about 3 (some .int) 2 := ⟨tb_in (i := 783) rfl rfl, tb_in (i := 784) rfl rfl, tb_in (i := 785) rfl rfl, tb_in (i := 67) rfl rfl, tb_in (i := 786) rfl rfl, by decide, by decide +kernel, by decide +kernel, by decide +kernel⟩
set_option maxRecDepth 20000 in
theorem wv_L_31 : Wv RL 31 yX8_letter cX8_letter 5 (some .int) 3 := ⟨tb_in (i := 818) rfl rfl, tb_in (i := 819) rfl rfl, tb_in (i := 820) rfl rfl, tb_in (i := 67) rfl rfl, tb_in (i := 821) rfl rfl, by decide, by decide +kernel, by decide +kernel, by decide +kernel⟩
set_option maxRecDepth 20000 in
theorem wv_L_35 : Wv RL 35 yX8_bin cX8_bin 3 (some .int) 2 := ⟨tb_in (i := 830) rfl rfl, tb_in (i := 831) rfl rfl, tb_in (i := 832) rfl rfl, tb_in (i := 67) rfl rfl, tb_in (i := 833) rfl rfl, by decide, by decide +kernel, by decide +kernel, by decide +kernel⟩
set_option maxRecDepth 20000 in
theorem wv_L_40 : Wv RL 40 yX8_group cX8_group 4 (some .int) 3 := ⟨tb_in (i := 871) rfl rfl, tb_in (i := 872) rfl rfl, tb_in (i := 873) rfl rfl, tb_in (i := 67) rfl rfl, tb_in (i := 874) rfl rfl, by decide, by decide +kernel, by decide +kernel, by decide +kernel⟩
set_option maxRecDepth 20000 in
theorem wv_L_43 : Wv RL 43 yX8_write cX8_write 5 (some .int) 3 := ⟨tb_in (i := 900) rfl rfl, tb_in (i := 901) rfl rfl, tb_in (i := 902) rfl rfl, tb_in (i := 67) rfl rfl, tb_in (i := 903) rfl rfl, by decide, by decide +kernel, by decide +kernel, by decide +kernel⟩
set_option maxRecDepth 20000 in
theorem wv_L_47 : Wv RL 47 yX8_out cX8_out 3 (some .int) 1 := ⟨tb_in (i := 955) rfl rfl, tb_in (i := 956) rfl rfl, tb_in (i := 957) rfl rfl, tb_in (i := 67) rfl rfl, tb_in (i := 958) rfl rfl, by decide, by decide +kernel, by decide +kernel, by decide +kernel⟩
set_option maxRecDepth 20000 in
theorem wv_L_61 : Wv RL 61 yX9_feed cX9_feed 5 (some .int) 2 := ⟨tb_in (i := 1074) rfl rfl, tb_in (i := 1075) rfl rfl, tb_in (i := 1076) rfl rfl, tb_in (i := 76) rfl rfl, tb_in (i := 1077) rfl rfl, by decide, by decide +kernel, by decide +kernel, by decide +kernel⟩
set_option maxRecDepth 20000 in
theorem wv_L_62 : Wv RL 62 yX9_thrown cX9_thrown 1 (some .int) 0 := ⟨tb_in (i := 1070) rfl rfl, tb_in (i := 1071) rfl rfl, tb_in (i := 1072) rfl rfl, tb_in (i := 76) rfl rfl, tb_in (i := 1073) rfl rfl, by decide, by decide +kernel, by decide +kernel, by decide +kernel⟩
set_option maxRecDepth 20000 in
theorem wv_L_69 : Wv RL 69 yX9_read cX9_read 6 (some .int) 1 := ⟨tb_in (i := 1079) rfl rfl, tb_in (i := 1080) rfl rfl, tb_in (i := 1081) rfl rfl, tb_in (i := 76) rfl rfl, tb_in (i := 1082) rfl rfl, by decide, by decide +kernel, by decide +kernel, by decide +kernel⟩
set_option maxRecDepth 20000 in
theorem wv_L_70 : Wv RL 70 yX8_place cX8_place 1 (some .int) 0 := ⟨tb_in (i := 305) rfl rfl, tb_in (i := 306) rfl rfl, tb_in (i := 307) rfl rfl, tb_in (i := 67) rfl rfl, tb_in (i := 308) rfl rfl, by decide, by decide +kernel, by decide +kernel, by decide +kernel⟩
set_option maxRecDepth 20000 in
theorem wv_L_73 : Wv RL 73 yX9_place cX9_place 1 (some .int) 0 := ⟨tb_in (i := 1118) rfl rfl, tb_in (i := 1119) rfl rfl, tb_in (i := 1120) rfl rfl, tb_in (i := 76) rfl rfl, tb_in (i := 1121) rfl rfl, by decide, by decide +kernel, by decide +kernel, by decide +kernel⟩
set_option maxRecDepth 20000 in
theorem wv_L_74 : Wv RL 74 yX8_barcode cX8_barcode 2 (some .int) 0 := ⟨tb_in (i := 309) rfl rfl, tb_in (i := 310) rfl rfl, tb_in (i := 311) rfl rfl, tb_in (i := 67) rfl rfl, tb_in (i := 312) rfl rfl, by decide, by decide +kernel, by decide +kernel, by decide +kernel⟩
set_option maxRecDepth 20000 in
theorem wv_L_77 : Wv RL 77 yX9_barcode cX9_barcode 3 (some .int) 0 := ⟨tb_in (i := 1122) rfl rfl, tb_in (i := 1123) rfl rfl, tb_in (i := 1124) rfl rfl, tb_in (i := 76) rfl rfl, tb_in (i := 1125) rfl rfl, by decide, by decide +kernel, by decide +kernel, by decide +kernel⟩
set_option maxRecDepth 20000 in
theorem wv_L_78 : Wv RL 78 yX8_adapter cX8_adapter 2 (some .int) 0 := ⟨tb_in (i := 348) rfl rfl, tb_in (i := 349) rfl rfl, tb_in (i := 350) rfl rfl, tb_in (i := 67) rfl rfl, tb_in (i := 351) rfl rfl, by decide, by decide +kernel, by decide +kernel, by decide +kernel⟩
set_option maxRecDepth 20000 in
theorem wv_L_81 : Wv RL 81 yX9_adapter cX9_adapter 3 (some .int) 0 := ⟨tb_in (i := 1134) rfl rfl, tb_in (i := 1135) rfl rfl, tb_in (i := 1136) rfl rfl, tb_in (i := 76) rfl rfl, tb_in (i := 1137) rfl rfl, by decide, by decide +kernel, by decide +kernel, by decide +kernel⟩
set_option maxRecDepth 20000 in
theorem wv_L_82 : Wv RL 82 yX8_limits cX8_limits 4 (some .boolean) 3 := ⟨tb_in (i := 368) rfl rfl, tb_in (i := 369) rfl rfl, tb_in (i := 370) rfl rfl, tb_in (i := 67) rfl rfl, tb_in (i := 371) rfl rfl, by decide, by decide +kernel, by decide +kernel, by decide +kernel⟩
set_option maxRecDepth 20000 in
theorem wv_L_86 : Wv RL 86 yX9_limits cX9_limits 5 (some .boolean) 3 := ⟨tb_in (i := 1138) rfl rfl, tb_in (i := 1139) rfl rfl, tb_in (i := 1140) rfl rfl, tb_in (i := 76) rfl rfl, tb_in (i := 1141) rfl rfl, by decide, by decide +kernel, by decide +kernel, by decide +kernel⟩
set_option maxRecDepth 20000 in
theorem wv_L_89 : Wv RL 89 yX9_told cX9_told 2 (some .int) 1 := ⟨tb_in (i := 1142) rfl rfl, tb_in (i := 1143) rfl rfl, tb_in (i := 1144) rfl rfl, tb_in (i := 76) rfl rfl, tb_in (i := 1145) rfl rfl, by decide, by decide +kernel, by decide +kernel, by decide +kernel⟩
set_option maxRecDepth 20000 in
theorem wv_L_93 : Wv RL 93 yX9_sort cX9_sort 6 (some .int) 2 := ⟨tb_in (i := 1150) rfl rfl, tb_in (i := 1151) rfl rfl, tb_in (i := 1152) rfl rfl, tb_in (i := 76) rfl rfl, tb_in (i := 1153) rfl rfl, by decide, by decide +kernel, by decide +kernel, by decide +kernel⟩
set_option maxRecDepth 20000 in
theorem wv_L_96 : Wv RL 96 yX9_about cX9_about 3 (some .int) 2 := ⟨tb_in (i := 1198) rfl rfl, tb_in (i := 1199) rfl rfl, tb_in (i := 1200) rfl rfl, tb_in (i := 76) rfl rfl, tb_in (i := 1201) rfl rfl, by decide, by decide +kernel, by decide +kernel, by decide +kernel⟩
set_option maxRecDepth 20000 in
theorem wv_L_100 : Wv RL 100 yX9_letter cX9_letter 4 (some .int) 3 := ⟨tb_in (i := 1206) rfl rfl, tb_in (i := 1207) rfl rfl, tb_in (i := 1208) rfl rfl, tb_in (i := 76) rfl rfl, tb_in (i := 1209) rfl rfl, by decide, by decide +kernel, by decide +kernel, by decide +kernel⟩
set_option maxRecDepth 20000 in
theorem wv_L_103 : Wv RL 103 yX9_bin cX9_bin 6 (some .int) 2 := ⟨tb_in (i := 1210) rfl rfl, tb_in (i := 1211) rfl rfl, tb_in (i := 1212) rfl rfl, tb_in (i := 76) rfl rfl, tb_in (i := 1213) rfl rfl, by decide, by decide +kernel, by decide +kernel, by decide +kernel⟩
set_option maxRecDepth 20000 in
theorem wv_L_106 : Wv RL 106 yX9_group cX9_group 8 (some .int) 3 := ⟨tb_in (i := 1222) rfl rfl, tb_in (i := 1223) rfl rfl, tb_in (i := 1224) rfl rfl, tb_in (i := 76) rfl rfl, tb_in (i := 1225) rfl rfl, by decide, by decide +kernel, by decide +kernel, by decide +kernel⟩
set_option maxRecDepth 20000 in
theorem wv_L_110 : Wv RL 110 yX9_write cX9_write 6 (some .int) 3 := ⟨tb_in (i := 1230) rfl rfl, tb_in (i := 1231) rfl rfl, tb_in (i := 1232) rfl rfl, tb_in (i := 76) rfl rfl, tb_in (i := 1233) rfl rfl, by decide, by decide +kernel, by decide +kernel, by decide +kernel⟩
set_option maxRecDepth 20000 in
theorem wv_L_113 : Wv RL 113 yX9_out cX9_out 2 (some .int) 1 := ⟨tb_in (i := 1242) rfl rfl, tb_in (i := 1243) rfl rfl, tb_in (i := 1244) rfl rfl, tb_in (i := 76) rfl rfl, tb_in (i := 1245) rfl rfl, by decide, by decide +kernel, by decide +kernel, by decide +kernel⟩
set_option maxRecDepth 20000 in
theorem wv_L_114 : Wv RL 114 yX8_again cX8_again 1 (some .int) 0 := ⟨tb_in (i := 379) rfl rfl, tb_in (i := 380) rfl rfl, tb_in (i := 381) rfl rfl, tb_in (i := 67) rfl rfl, tb_in (i := 382) rfl rfl, by decide, by decide +kernel, by decide +kernel, by decide +kernel⟩
set_option maxRecDepth 20000 in
theorem wv_L_117 : Wv RL 117 yX9_again cX9_again 2 (some .int) 0 := ⟨tb_in (i := 1246) rfl rfl, tb_in (i := 1247) rfl rfl, tb_in (i := 1248) rfl rfl, tb_in (i := 76) rfl rfl, tb_in (i := 1249) rfl rfl, by decide, by decide +kernel, by decide +kernel, by decide +kernel⟩
set_option maxRecDepth 20000 in
theorem wm_X4_9 : Cond.methodLink RX4 9 Lib.Math.max.name ∈ TB := tb_in (i := 98) rfl rfl
set_option maxRecDepth 20000 in
theorem wm_X0_46 : Cond.methodLink RX0 46 Lib.Math.min.name ∈ TB := tb_in (i := 337) rfl rfl
set_option maxRecDepth 20000 in
theorem wm_X1_33 : Cond.methodLink RX1 33 Lib.Math.min.name ∈ TB := tb_in (i := 639) rfl rfl
set_option maxRecDepth 20000 in
theorem wm_X6_71 : Cond.methodLink RX6 71 Lib.Math.min.name ∈ TB := tb_in (i := 672) rfl rfl
set_option maxRecDepth 20000 in
theorem wm_X7_28 : Cond.methodLink RX7 28 Lib.Math.min.name ∈ TB := tb_in (i := 951) rfl rfl
set_option maxRecDepth 20000 in
theorem wms_min : Cond.static Lib.Math.min.name ∈ TB := tb_in (i := 338) rfl rfl
set_option maxRecDepth 20000 in
theorem wmc_min : Cond.code Lib.Math.min.name Lib.Math.min.code 2 (some .int) ∈ TB := tb_in (i := 339) rfl rfl
set_option maxRecDepth 20000 in
theorem wms_max : Cond.static Lib.Math.max.name ∈ TB := tb_in (i := 99) rfl rfl
set_option maxRecDepth 20000 in
theorem wmc_max : Cond.code Lib.Math.max.name Lib.Math.max.code 2 (some .int) ∈ TB := tb_in (i := 100) rfl rfl
set_option maxRecDepth 20000 in
theorem wmi : Cond.initialized "java/lang/Math" ∈ TB := tb_in (i := 69) rfl rfl
