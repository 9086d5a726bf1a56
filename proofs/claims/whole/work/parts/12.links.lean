theorem kB_m20 : (Int8.ofInt (-20)).toInt32 = -20 := by decide
theorem kB_m14 : (Int8.ofInt (-14)).toInt32 = -14 := by decide
theorem kB_m12 : (Int8.ofInt (-12)).toInt32 = -12 := by decide
theorem kB_m11 : (Int8.ofInt (-11)).toInt32 = -11 := by decide
theorem kB_m10 : (Int8.ofInt (-10)).toInt32 = -10 := by decide
theorem kB_m4 : (Int8.ofInt (-4)).toInt32 = -4 := by decide
theorem kB_m3 : (Int8.ofInt (-3)).toInt32 = -3 := by decide
theorem kB_m2 : (Int8.ofInt (-2)).toInt32 = -2 := by decide
theorem kB_6 : (Int8.ofInt (6)).toInt32 = 6 := by decide
theorem kB_7 : (Int8.ofInt (7)).toInt32 = 7 := by decide
theorem kB_8 : (Int8.ofInt (8)).toInt32 = 8 := by decide
theorem kB_9 : (Int8.ofInt (9)).toInt32 = 9 := by decide
theorem kB_10 : (Int8.ofInt (10)).toInt32 = 10 := by decide
theorem kB_14 : (Int8.ofInt (14)).toInt32 = 14 := by decide
theorem kB_16 : (Int8.ofInt (16)).toInt32 = 16 := by decide
theorem kB_18 : (Int8.ofInt (18)).toInt32 = 18 := by decide
theorem kB_20 : (Int8.ofInt (20)).toInt32 = 20 := by decide
theorem kB_22 : (Int8.ofInt (22)).toInt32 = 22 := by decide
theorem kB_24 : (Int8.ofInt (24)).toInt32 = 24 := by decide
theorem kB_26 : (Int8.ofInt (26)).toInt32 = 26 := by decide
theorem kB_32 : (Int8.ofInt (32)).toInt32 = 32 := by decide
theorem kB_38 : (Int8.ofInt (38)).toInt32 = 38 := by decide
theorem kB_39 : (Int8.ofInt (39)).toInt32 = 39 := by decide
theorem kB_40 : (Int8.ofInt (40)).toInt32 = 40 := by decide
theorem kB_41 : (Int8.ofInt (41)).toInt32 = 41 := by decide
theorem kB_48 : (Int8.ofInt (48)).toInt32 = 48 := by decide
theorem kB_57 : (Int8.ofInt (57)).toInt32 = 57 := by decide
theorem kB_59 : (Int8.ofInt (59)).toInt32 = 59 := by decide
theorem kB_60 : (Int8.ofInt (60)).toInt32 = 60 := by decide
theorem kB_63 : (Int8.ofInt (63)).toInt32 = 63 := by decide
theorem kB_80 : (Int8.ofInt (80)).toInt32 = 80 := by decide
theorem kB_97 : (Int8.ofInt (97)).toInt32 = 97 := by decide
theorem kB_98 : (Int8.ofInt (98)).toInt32 = 98 := by decide
theorem kB_99 : (Int8.ofInt (99)).toInt32 = 99 := by decide
theorem kB_100 : (Int8.ofInt (100)).toInt32 = 100 := by decide
theorem kB_122 : (Int8.ofInt (122)).toInt32 = 122 := by decide
theorem kB_123 : (Int8.ofInt (123)).toInt32 = 123 := by decide
theorem kB_127 : (Int8.ofInt (127)).toInt32 = 127 := by decide
theorem kI_m1 : Int32.ofInt (-1) = -1 := by decide
theorem kI_0 : Int32.ofInt (0) = 0 := by decide
theorem kI_1 : Int32.ofInt (1) = 1 := by decide
theorem kI_2 : Int32.ofInt (2) = 2 := by decide
theorem kI_3 : Int32.ofInt (3) = 3 := by decide
theorem kI_4 : Int32.ofInt (4) = 4 := by decide
theorem kI_5 : Int32.ofInt (5) = 5 := by decide
theorem kS_160 : (Int16.ofInt (160)).toInt32 = 160 := by decide
theorem kS_164 : (Int16.ofInt (164)).toInt32 = 164 := by decide
theorem kS_171 : (Int16.ofInt (171)).toInt32 = 171 := by decide
theorem kS_182 : (Int16.ofInt (182)).toInt32 = 182 := by decide
theorem kS_186 : (Int16.ofInt (186)).toInt32 = 186 := by decide
theorem kS_190 : (Int16.ofInt (190)).toInt32 = 190 := by decide
theorem kS_202 : (Int16.ofInt (202)).toInt32 = 202 := by decide
theorem kS_256 : (Int16.ofInt (256)).toInt32 = 256 := by decide
theorem kS_320 : (Int16.ofInt (320)).toInt32 = 320 := by decide
theorem kS_1024 : (Int16.ofInt (1024)).toInt32 = 1024 := by decide
theorem kS_12345 : (Int16.ofInt (12345)).toInt32 = 12345 := by decide
theorem kS_32767 : (Int16.ofInt (32767)).toInt32 = 32767 := by decide
theorem fw_0_2 : FW 0 2 false .int := ⟨_, rfl, by decide +kernel, by decide +kernel⟩
theorem fw_0_3 : FW 0 3 false .int := ⟨_, rfl, by decide +kernel, by decide +kernel⟩
theorem fw_1_0 : FW 1 0 false .int := ⟨_, rfl, by decide +kernel, by decide +kernel⟩
theorem fw_1_1 : FW 1 1 false .int := ⟨_, rfl, by decide +kernel, by decide +kernel⟩
theorem fw_1_2 : FW 1 2 false .int := ⟨_, rfl, by decide +kernel, by decide +kernel⟩
theorem fw_1_3 : FW 1 3 false .int := ⟨_, rfl, by decide +kernel, by decide +kernel⟩
theorem fw_1_4 : FW 1 4 false .boolean := ⟨_, rfl, by decide +kernel, by decide +kernel⟩
theorem fw_3_0 : FW 3 0 false .long := ⟨_, rfl, by decide +kernel, by decide +kernel⟩
theorem fw_3_1 : FW 3 1 false .long := ⟨_, rfl, by decide +kernel, by decide +kernel⟩
theorem fw_4_1 : FW 4 1 false .int := ⟨_, rfl, by decide +kernel, by decide +kernel⟩
theorem fw_4_3 : FW 4 3 false .int := ⟨_, rfl, by decide +kernel, by decide +kernel⟩
theorem fw_4_4 : FW 4 4 false .int := ⟨_, rfl, by decide +kernel, by decide +kernel⟩
theorem fw_4_5 : FW 4 5 false .int := ⟨_, rfl, by decide +kernel, by decide +kernel⟩
theorem fw_4_6 : FW 4 6 false .int := ⟨_, rfl, by decide +kernel, by decide +kernel⟩
theorem fw_4_7 : FW 4 7 false .int := ⟨_, rfl, by decide +kernel, by decide +kernel⟩
theorem fw_5_3 : FW 5 3 false .int := ⟨_, rfl, by decide +kernel, by decide +kernel⟩
theorem fw_6_0 : FW 6 0 false .int := ⟨_, rfl, by decide +kernel, by decide +kernel⟩
theorem fw_6_1 : FW 6 1 false .int := ⟨_, rfl, by decide +kernel, by decide +kernel⟩
theorem fw_7_2 : FW 7 2 false .int := ⟨_, rfl, by decide +kernel, by decide +kernel⟩
theorem fw_7_4 : FW 7 4 false .int := ⟨_, rfl, by decide +kernel, by decide +kernel⟩
theorem fw_7_7 : FW 7 7 false .int := ⟨_, rfl, by decide +kernel, by decide +kernel⟩
theorem fw_7_10 : FW 7 10 false .int := ⟨_, rfl, by decide +kernel, by decide +kernel⟩
theorem fw_8_1 : FW 8 1 false .int := ⟨_, rfl, by decide +kernel, by decide +kernel⟩
theorem fw_9_11 : FW 9 11 false .int := ⟨_, rfl, by decide +kernel, by decide +kernel⟩
theorem fw_9_13 : FW 9 13 false .int := ⟨_, rfl, by decide +kernel, by decide +kernel⟩
theorem fw_10_1 : FW 10 1 false .int := ⟨_, rfl, by decide +kernel, by decide +kernel⟩
theorem fw_10_3 : FW 10 3 false .int := ⟨_, rfl, by decide +kernel, by decide +kernel⟩
theorem fw_10_4 : FW 10 4 false .int := ⟨_, rfl, by decide +kernel, by decide +kernel⟩
theorem fw_10_6 : FW 10 6 false .int := ⟨_, rfl, by decide +kernel, by decide +kernel⟩
theorem fw_10_7 : FW 10 7 false .int := ⟨_, rfl, by decide +kernel, by decide +kernel⟩
theorem fw_10_8 : FW 10 8 false .int := ⟨_, rfl, by decide +kernel, by decide +kernel⟩
theorem fw_10_9 : FW 10 9 false .int := ⟨_, rfl, by decide +kernel, by decide +kernel⟩
theorem fw_10_10 : FW 10 10 false .int := ⟨_, rfl, by decide +kernel, by decide +kernel⟩
theorem fw_10_11 : FW 10 11 false .int := ⟨_, rfl, by decide +kernel, by decide +kernel⟩
theorem fw_10_12 : FW 10 12 false .int := ⟨_, rfl, by decide +kernel, by decide +kernel⟩
theorem fw_10_13 : FW 10 13 false .int := ⟨_, rfl, by decide +kernel, by decide +kernel⟩
theorem fw_10_16 : FW 10 16 false .int := ⟨_, rfl, by decide +kernel, by decide +kernel⟩
theorem fw_10_17 : FW 10 17 false .int := ⟨_, rfl, by decide +kernel, by decide +kernel⟩
theorem fw_10_18 : FW 10 18 false .int := ⟨_, rfl, by decide +kernel, by decide +kernel⟩
theorem fw_10_19 : FW 10 19 false .boolean := ⟨_, rfl, by decide +kernel, by decide +kernel⟩
theorem fw_10_22 : FW 10 22 false .int := ⟨_, rfl, by decide +kernel, by decide +kernel⟩
theorem fw_10_28 : FW 10 28 false .int := ⟨_, rfl, by decide +kernel, by decide +kernel⟩
theorem fl_X9_10 : FL RX9 10 9 0 := ⟨_, rfl, by decide, q293⟩
theorem fl_X9_21 : FL RX9 21 9 1 := ⟨_, rfl, by decide, q294⟩
theorem fl_X9_25 : FL RX9 25 9 2 := ⟨_, rfl, by decide, q295⟩
theorem fl_X9_28 : FL RX9 28 9 3 := ⟨_, rfl, by decide, q296⟩
theorem fl_X9_36 : FL RX9 36 9 4 := ⟨_, rfl, by decide, q297⟩
theorem fl_X9_43 : FL RX9 43 9 5 := ⟨_, rfl, by decide, q298⟩
theorem fl_X9_50 : FL RX9 50 9 6 := ⟨_, rfl, by decide, q299⟩
theorem fl_X9_54 : FL RX9 54 9 7 := ⟨_, rfl, by decide, q300⟩
theorem fl_X9_58 : FL RX9 58 9 8 := ⟨_, rfl, by decide, q301⟩
theorem fl_X9_65 : FL RX9 65 9 9 := ⟨_, rfl, by decide, q302⟩
theorem fl_X9_74 : FL RX9 74 9 10 := ⟨_, rfl, by decide, q303⟩
theorem fl_X9_78 : FL RX9 78 9 11 := ⟨_, rfl, by decide, q304⟩
theorem fl_X9_84 : FL RX9 84 9 12 := ⟨_, rfl, by decide, q305⟩
theorem fl_X9_89 : FL RX9 89 9 13 := ⟨_, rfl, by decide, q306⟩
theorem fl_X9_96 : FL RX9 96 8 1 := ⟨_, rfl, by decide, q231⟩
theorem fl_X9_103 : FL RX9 103 4 1 := ⟨_, rfl, by decide, q250⟩
theorem fl_X9_106 : FL RX9 106 4 0 := ⟨_, rfl, by decide, q248⟩
theorem fl_X9_112 : FL RX9 112 5 3 := ⟨_, rfl, by decide, q212⟩
theorem fl_X9_115 : FL RX9 115 7 2 := ⟨_, rfl, by decide, q47⟩
theorem fl_X9_118 : FL RX9 118 7 4 := ⟨_, rfl, by decide, q52⟩
theorem fl_X9_121 : FL RX9 121 7 7 := ⟨_, rfl, by decide, q66⟩
theorem fl_X9_124 : FL RX9 124 7 10 := ⟨_, rfl, by decide, q79⟩
theorem fl_X9_137 : FL RX9 137 7 0 := ⟨_, rfl, by decide, q39⟩
theorem fl_X9_141 : FL RX9 141 7 1 := ⟨_, rfl, by decide, q44⟩
theorem fl_X9_150 : FL RX9 150 7 3 := ⟨_, rfl, by decide, q50⟩
theorem fl_X9_156 : FL RX9 156 7 5 := ⟨_, rfl, by decide, q59⟩
theorem fl_X9_159 : FL RX9 159 7 6 := ⟨_, rfl, by decide, q64⟩
theorem fl_X9_173 : FL RX9 173 7 8 := ⟨_, rfl, by decide, q72⟩
theorem fl_X9_176 : FL RX9 176 7 9 := ⟨_, rfl, by decide, q75⟩
theorem fl_X9_183 : FL RX9 183 1 1 := ⟨_, rfl, by decide, q126⟩
theorem fl_X9_221 : FL RX9 221 1 0 := ⟨_, rfl, by decide, q123⟩
theorem fl_X9_224 : FL RX9 224 1 2 := ⟨_, rfl, by decide, q128⟩
theorem fl_X9_227 : FL RX9 227 1 3 := ⟨_, rfl, by decide, q130⟩
theorem fl_X9_230 : FL RX9 230 1 4 := ⟨_, rfl, by decide, q133⟩
theorem fl_X9_234 : FL RX9 234 1 5 := ⟨_, rfl, by decide, q135⟩
theorem fl_X9_285 : FL RX9 285 3 0 := ⟨_, rfl, by decide, q187⟩
theorem fl_X9_293 : FL RX9 293 3 1 := ⟨_, rfl, by decide, q189⟩
theorem fl_X9_324 : FL RX9 324 6 0 := ⟨_, rfl, by decide, q282⟩
theorem fl_X9_345 : FL RX9 345 6 1 := ⟨_, rfl, by decide, q284⟩
theorem fl_X0_9 : FL RX0 9 0 2 := ⟨_, rfl, by decide, q166⟩
theorem fl_X0_15 : FL RX0 15 0 3 := ⟨_, rfl, by decide, q167⟩
theorem fl_X0_18 : FL RX0 18 0 4 := ⟨_, rfl, by decide, q168⟩
theorem fl_X0_22 : FL RX0 22 0 0 := ⟨_, rfl, by decide, q164⟩
theorem fl_X0_26 : FL RX0 26 2 0 := ⟨_, rfl, by decide, q150⟩
theorem fl_X0_32 : FL RX0 32 0 1 := ⟨_, rfl, by decide, q165⟩
theorem fl_X0_37 : FL RX0 37 7 2 := ⟨_, rfl, by decide, q46⟩
theorem fl_X0_66 : FL RX0 66 7 0 := ⟨_, rfl, by decide, q38⟩
theorem fl_X0_69 : FL RX0 69 7 1 := ⟨_, rfl, by decide, q43⟩
theorem fl_X0_78 : FL RX0 78 7 4 := ⟨_, rfl, by decide, q53⟩
theorem fl_X0_93 : FL RX0 93 7 7 := ⟨_, rfl, by decide, q67⟩
theorem fl_X0_119 : FL RX0 119 1 0 := ⟨_, rfl, by decide, q122⟩
theorem fl_X1_9 : FL RX1 9 1 0 := ⟨_, rfl, by decide, q119⟩
theorem fl_X1_15 : FL RX1 15 1 1 := ⟨_, rfl, by decide, q124⟩
theorem fl_X1_18 : FL RX1 18 1 2 := ⟨_, rfl, by decide, q127⟩
theorem fl_X1_21 : FL RX1 21 1 3 := ⟨_, rfl, by decide, q129⟩
theorem fl_X1_24 : FL RX1 24 1 4 := ⟨_, rfl, by decide, q131⟩
theorem fl_X1_28 : FL RX1 28 1 5 := ⟨_, rfl, by decide, q134⟩
theorem fl_X1_57 : FL RX1 57 7 1 := ⟨_, rfl, by decide, q42⟩
theorem fl_X2_12 : FL RX2 12 2 1 := ⟨_, rfl, by decide, q152⟩
theorem fl_X2_18 : FL RX2 18 2 0 := ⟨_, rfl, by decide, q149⟩
theorem fl_X2_31 : FL RX2 31 7 5 := ⟨_, rfl, by decide, q56⟩
theorem fl_X2_35 : FL RX2 35 7 6 := ⟨_, rfl, by decide, q61⟩
theorem fl_X2_45 : FL RX2 45 7 8 := ⟨_, rfl, by decide, q71⟩
theorem fl_X2_48 : FL RX2 48 7 9 := ⟨_, rfl, by decide, q74⟩
theorem fl_X2_51 : FL RX2 51 7 10 := ⟨_, rfl, by decide, q78⟩
theorem fl_X2_59 : FL RX2 59 1 1 := ⟨_, rfl, by decide, q125⟩
theorem fl_X2_62 : FL RX2 62 1 4 := ⟨_, rfl, by decide, q132⟩
theorem fl_X2_66 : FL RX2 66 1 0 := ⟨_, rfl, by decide, q121⟩
theorem fl_X3_9 : FL RX3 9 3 0 := ⟨_, rfl, by decide, q186⟩
theorem fl_X3_15 : FL RX3 15 3 1 := ⟨_, rfl, by decide, q188⟩
theorem fl_X3_18 : FL RX3 18 3 2 := ⟨_, rfl, by decide, q190⟩
theorem fl_X3_22 : FL RX3 22 3 3 := ⟨_, rfl, by decide, q191⟩
theorem fl_X3_40 : FL RX3 40 7 5 := ⟨_, rfl, by decide, q57⟩
theorem fl_X3_44 : FL RX3 44 7 6 := ⟨_, rfl, by decide, q62⟩
theorem fl_X3_60 : FL RX3 60 7 1 := ⟨_, rfl, by decide, q41⟩
theorem fl_X4_12 : FL RX4 12 4 0 := ⟨_, rfl, by decide, q247⟩
theorem fl_X4_18 : FL RX4 18 4 1 := ⟨_, rfl, by decide, q249⟩
theorem fl_X4_22 : FL RX4 22 4 3 := ⟨_, rfl, by decide, q252⟩
theorem fl_X4_25 : FL RX4 25 4 4 := ⟨_, rfl, by decide, q253⟩
theorem fl_X4_28 : FL RX4 28 4 5 := ⟨_, rfl, by decide, q254⟩
theorem fl_X4_31 : FL RX4 31 4 6 := ⟨_, rfl, by decide, q255⟩
theorem fl_X4_34 : FL RX4 34 4 7 := ⟨_, rfl, by decide, q256⟩
theorem fl_X4_37 : FL RX4 37 4 2 := ⟨_, rfl, by decide, q251⟩
theorem fl_X4_50 : FL RX4 50 7 10 := ⟨_, rfl, by decide, q77⟩
theorem fl_X4_53 : FL RX4 53 7 8 := ⟨_, rfl, by decide, q70⟩
theorem fl_X4_75 : FL RX4 75 8 1 := ⟨_, rfl, by decide, q232⟩
theorem fl_X4_120 : FL RX4 120 7 2 := ⟨_, rfl, by decide, q48⟩
theorem fl_X4_136 : FL RX4 136 7 4 := ⟨_, rfl, by decide, q54⟩
theorem fl_X4_142 : FL RX4 142 7 7 := ⟨_, rfl, by decide, q68⟩
theorem fl_X5_9 : FL RX5 9 5 0 := ⟨_, rfl, by decide, q208⟩
theorem fl_X5_15 : FL RX5 15 5 1 := ⟨_, rfl, by decide, q209⟩
theorem fl_X5_18 : FL RX5 18 5 2 := ⟨_, rfl, by decide, q210⟩
theorem fl_X5_21 : FL RX5 21 5 3 := ⟨_, rfl, by decide, q211⟩
theorem fl_X5_25 : FL RX5 25 2 0 := ⟨_, rfl, by decide, q151⟩
theorem fl_X5_41 : FL RX5 41 1 0 := ⟨_, rfl, by decide, q120⟩
theorem fl_X5_46 : FL RX5 46 7 5 := ⟨_, rfl, by decide, q58⟩
theorem fl_X5_53 : FL RX5 53 7 6 := ⟨_, rfl, by decide, q63⟩
theorem fl_X6_11 : FL RX6 11 6 0 := ⟨_, rfl, by decide, q281⟩
theorem fl_X6_15 : FL RX6 15 6 1 := ⟨_, rfl, by decide, q283⟩
theorem fl_X6_18 : FL RX6 18 6 2 := ⟨_, rfl, by decide, q285⟩
theorem fl_X7_9 : FL RX7 9 7 0 := ⟨_, rfl, by decide, q37⟩
theorem fl_X7_15 : FL RX7 15 7 1 := ⟨_, rfl, by decide, q40⟩
theorem fl_X7_18 : FL RX7 18 7 2 := ⟨_, rfl, by decide, q45⟩
theorem fl_X7_22 : FL RX7 22 7 3 := ⟨_, rfl, by decide, q49⟩
theorem fl_X7_25 : FL RX7 25 7 4 := ⟨_, rfl, by decide, q51⟩
theorem fl_X7_28 : FL RX7 28 7 5 := ⟨_, rfl, by decide, q55⟩
theorem fl_X7_31 : FL RX7 31 7 6 := ⟨_, rfl, by decide, q60⟩
theorem fl_X7_34 : FL RX7 34 7 7 := ⟨_, rfl, by decide, q65⟩
theorem fl_X7_37 : FL RX7 37 7 8 := ⟨_, rfl, by decide, q69⟩
theorem fl_X7_40 : FL RX7 40 7 9 := ⟨_, rfl, by decide, q73⟩
theorem fl_X7_43 : FL RX7 43 7 10 := ⟨_, rfl, by decide, q76⟩
theorem fl_X7_46 : FL RX7 46 7 11 := ⟨_, rfl, by decide, q80⟩
theorem fl_X8_9 : FL RX8 9 8 0 := ⟨_, rfl, by decide, q229⟩
theorem fl_X8_15 : FL RX8 15 8 1 := ⟨_, rfl, by decide, q230⟩
theorem fl_X10_7 : FL RX10 7 10 0 := ⟨_, rfl, by decide, q987⟩
theorem fl_X10_13 : FL RX10 13 10 2 := ⟨_, rfl, by decide, q989⟩
theorem fl_X10_16 : FL RX10 16 10 5 := ⟨_, rfl, by decide, q992⟩
theorem fl_X10_19 : FL RX10 19 10 14 := ⟨_, rfl, by decide, q1001⟩
theorem fl_X10_22 : FL RX10 22 10 15 := ⟨_, rfl, by decide, q1002⟩
theorem fl_X10_25 : FL RX10 25 10 20 := ⟨_, rfl, by decide, q1007⟩
theorem fl_X10_28 : FL RX10 28 10 21 := ⟨_, rfl, by decide, q1008⟩
theorem fl_X10_31 : FL RX10 31 10 23 := ⟨_, rfl, by decide, q1010⟩
theorem fl_X10_34 : FL RX10 34 10 24 := ⟨_, rfl, by decide, q1011⟩
theorem fl_X10_38 : FL RX10 38 10 25 := ⟨_, rfl, by decide, q1012⟩
theorem fl_X10_41 : FL RX10 41 10 26 := ⟨_, rfl, by decide, q1013⟩
theorem fl_X10_44 : FL RX10 44 10 27 := ⟨_, rfl, by decide, q1014⟩
theorem fl_X10_53 : FL RX10 53 10 6 := ⟨_, rfl, by decide, q993⟩
theorem fl_X10_57 : FL RX10 57 10 8 := ⟨_, rfl, by decide, q995⟩
theorem fl_X10_60 : FL RX10 60 10 11 := ⟨_, rfl, by decide, q998⟩
theorem fl_X10_63 : FL RX10 63 10 9 := ⟨_, rfl, by decide, q996⟩
theorem fl_X10_66 : FL RX10 66 10 12 := ⟨_, rfl, by decide, q999⟩
theorem fl_X10_69 : FL RX10 69 10 10 := ⟨_, rfl, by decide, q997⟩
theorem fl_X10_76 : FL RX10 76 10 13 := ⟨_, rfl, by decide, q1000⟩
theorem fl_X10_102 : FL RX10 102 10 3 := ⟨_, rfl, by decide, q990⟩
theorem fl_X10_109 : FL RX10 109 10 4 := ⟨_, rfl, by decide, q991⟩
theorem fl_X10_126 : FL RX10 126 10 7 := ⟨_, rfl, by decide, q994⟩
theorem fl_X10_129 : FL RX10 129 10 1 := ⟨_, rfl, by decide, q988⟩
theorem fl_X10_132 : FL RX10 132 10 22 := ⟨_, rfl, by decide, q1009⟩
theorem fl_X10_145 : FL RX10 145 10 16 := ⟨_, rfl, by decide, q1003⟩
theorem fl_X10_148 : FL RX10 148 10 17 := ⟨_, rfl, by decide, q1004⟩
theorem fl_X10_151 : FL RX10 151 10 18 := ⟨_, rfl, by decide, q1005⟩
theorem fl_X10_154 : FL RX10 154 10 19 := ⟨_, rfl, by decide, q1006⟩
theorem fl_X10_249 : FL RX10 249 10 28 := ⟨_, rfl, by decide, q1015⟩
theorem lk_X9_92 : Cond.methodLink RX9 92 ⟨"HedgehogLots$Tape", "add", "(I)I"⟩ ∈ TB := q340
theorem lk_X9_99 : Cond.methodLink RX9 99 ⟨"HedgehogLots$Reader", "readAll", "()I"⟩ ∈ TB := q352
theorem lk_X9_109 : Cond.methodLink RX9 109 ⟨"HedgehogLots$Slope", "copyFrom", "(LHedgehogLots$Slope;)V"⟩ ∈ TB := q510
theorem lk_X9_127 : Cond.methodLink RX9 127 ⟨"HedgehogLots$Court", "decided", "()I"⟩ ∈ TB := q526
theorem lk_X9_130 : Cond.methodLink RX9 130 ⟨"HedgehogLots$Court", "opened", "()I"⟩ ∈ TB := q569
theorem lk_X9_133 : Cond.methodLink RX9 133 ⟨"HedgehogLots$Slope", "isPeg", "(I)Z"⟩ ∈ TB := q577
theorem lk_X9_144 : Cond.methodLink RX9 144 ⟨"HedgehogLots$Court", "restedOn", "(I)I"⟩ ∈ TB := q578
theorem lk_X9_147 : Cond.methodLink RX9 147 ⟨"HedgehogLots$Slope", "isSlug", "(I)Z"⟩ ∈ TB := q586
theorem lk_X9_153 : Cond.methodLink RX9 153 ⟨"HedgehogLots$Slope", "isHedgehog", "(I)Z"⟩ ∈ TB := q594
theorem lk_X9_162 : Cond.methodLink RX9 162 ⟨"HedgehogLots$Course", "loss", "(I)I"⟩ ∈ TB := q595
theorem lk_X9_167 : Cond.methodLink RX9 167 ⟨"HedgehogLots$Court", "restingColumns", "(I)I"⟩ ∈ TB := q596
theorem lk_X9_170 : Cond.methodLink RX9 170 ⟨"HedgehogLots$Slope", "isSuit", "(I)Z"⟩ ∈ TB := q608
theorem lk_X9_179 : Cond.methodLink RX9 179 ⟨"HedgehogLots$Court", "letGoInSuit", "(I)LHedgehogLots$Course;"⟩ ∈ TB := q609
theorem lk_X9_186 : Cond.methodLink RX9 186 ⟨"HedgehogLots$Slope", "isCell", "(I)Z"⟩ ∈ TB := q614
theorem lk_X9_189 : Cond.methodLink RX9 189 ⟨"HedgehogLots$Slope", "isFree", "(I)Z"⟩ ∈ TB := q615
theorem lk_X9_192 : Cond.methodLink RX9 192 ⟨"HedgehogLots$Slope", "movePeg", "(II)V"⟩ ∈ TB := q616
theorem lk_X9_196 : Cond.methodLink RX9 196 ⟨"HedgehogLots", "isRag", "(I)Z"⟩ ∈ TB := q625
theorem lk_X9_199 : Cond.methodLink RX9 199 ⟨"HedgehogLots$Slope", "addPeg", "(II)I"⟩ ∈ TB := q634
theorem lk_X9_203 : Cond.methodLink RX9 203 ⟨"HedgehogLots$Slope", "addSlug", "(I)I"⟩ ∈ TB := q639
theorem lk_X9_206 : Cond.methodLink RX9 206 ⟨"HedgehogLots$Slope", "cutSlugs", "(I)V"⟩ ∈ TB := q644
theorem lk_X9_210 : Cond.methodLink RX9 210 ⟨"HedgehogLots", "canLetGo", "(II)Z"⟩ ∈ TB := q654
theorem lk_X9_214 : Cond.methodLink RX9 214 ⟨"HedgehogLots$Slope", "addSuit", "(II)I"⟩ ∈ TB := q661
theorem lk_X9_217 : Cond.methodLink RX9 217 ⟨"HedgehogLots$Court", "letGo", "(II)LHedgehogLots$Course;"⟩ ∈ TB := q670
theorem lk_X9_237 : Cond.methodLink RX9 237 ⟨"HedgehogLots$Court", "wonBy", "(I)I"⟩ ∈ TB := q679
theorem lk_X9_240 : Cond.methodLink RX9 240 ⟨"HedgehogLots$Court", "winningColumns", "(II)I"⟩ ∈ TB := q687
theorem lk_X9_243 : Cond.methodLink RX9 243 ⟨"java/lang/Integer", "bitCount", "(I)I"⟩ ∈ TB := q691
theorem lk_X9_248 : Cond.methodLink RX9 248 ⟨"java/lang/Integer", "numberOfTrailingZeros", "(I)I"⟩ ∈ TB := q701
theorem lk_X9_251 : Cond.methodLink RX9 251 ⟨"HedgehogLots$Court", "letGoAs", "(III)LHedgehogLots$Course;"⟩ ∈ TB := q709
theorem lk_X9_255 : Cond.methodLink RX9 255 ⟨"HedgehogLots", "isHalf", "(I)Z"⟩ ∈ TB := q717
theorem lk_X9_258 : Cond.methodLink RX9 258 ⟨"HedgehogLots$Advice", "seekNewPeg", "(I)V"⟩ ∈ TB := q720
theorem lk_X9_261 : Cond.methodLink RX9 261 ⟨"HedgehogLots$Advice", "told", "(I)I"⟩ ∈ TB := q739
theorem lk_X9_264 : Cond.methodLink RX9 264 ⟨"HedgehogLots$Advice", "seekCellOf", "(I)V"⟩ ∈ TB := q747
theorem lk_X9_267 : Cond.methodLink RX9 267 ⟨"HedgehogLots$Advice", "seekNewSlug", "(I)V"⟩ ∈ TB := q758
theorem lk_X9_270 : Cond.methodLink RX9 270 ⟨"HedgehogLots$Advice", "seekPair", "(I)V"⟩ ∈ TB := q780
theorem lk_X9_273 : Cond.methodLink RX9 273 ⟨"HedgehogLots$Advice", "seekNeedlessPeg", "(I)V"⟩ ∈ TB := q793
theorem lk_X9_276 : Cond.methodLink RX9 276 ⟨"HedgehogLots", "isOutOfTen", "(I)Z"⟩ ∈ TB := q809
theorem lk_X9_281 : Cond.methodLink RX9 281 ⟨"HedgehogLots$Odds", "follow", "(LHedgehogLots$Slope;IIII)V"⟩ ∈ TB := q813
theorem lk_X9_289 : Cond.methodLink RX9 289 ⟨"HedgehogLots", "lowestTerms", "(JI)J"⟩ ∈ TB := q841
theorem lk_X9_295 : Cond.methodLink RX9 295 ⟨"HedgehogLots$Seen", "add", "(III)I"⟩ ∈ TB := q853
theorem lk_X9_298 : Cond.methodLink RX9 298 ⟨"HedgehogLots$Seen", "fittingKinds", "(LHedgehogLots$Court;I)I"⟩ ∈ TB := q865
theorem lk_X9_302 : Cond.methodLink RX9 302 ⟨"HedgehogLots$Seen", "fittingSpeeds", "(LHedgehogLots$Court;I)I"⟩ ∈ TB := q879
theorem lk_X9_305 : Cond.methodLink RX9 305 ⟨"HedgehogLots$Advice", "seekQuestion", "(II)V"⟩ ∈ TB := q887
theorem lk_X9_309 : Cond.methodLink RX9 309 ⟨"HedgehogLots", "driftOnce", "(I)I"⟩ ∈ TB := q903
theorem lk_X9_312 : Cond.methodLink RX9 312 ⟨"HedgehogLots", "isImage", "(I)Z"⟩ ∈ TB := q911
theorem lk_X9_315 : Cond.methodLink RX9 315 ⟨"HedgehogLots", "isSheet", "(I)Z"⟩ ∈ TB := q922
theorem lk_X9_318 : Cond.methodLink RX9 318 ⟨"HedgehogLots", "isLane", "(I)Z"⟩ ∈ TB := q925
theorem lk_X9_321 : Cond.methodLink RX9 321 ⟨"HedgehogLots$Sheet", "renew", "(II)V"⟩ ∈ TB := q928
theorem lk_X9_327 : Cond.methodLink RX9 327 ⟨"HedgehogLots$Sheet", "refusal", "(II)I"⟩ ∈ TB := q939
theorem lk_X9_330 : Cond.methodLink RX9 330 ⟨"HedgehogLots$Sheet", "store", "(II)V"⟩ ∈ TB := q943
theorem lk_X9_333 : Cond.methodLink RX9 333 ⟨"HedgehogLots$Sheet", "refusalOfTwo", "(II)I"⟩ ∈ TB := q951
theorem lk_X9_336 : Cond.methodLink RX9 336 ⟨"HedgehogLots$Sheet", "stored", "(I)I"⟩ ∈ TB := q956
theorem lk_X9_339 : Cond.methodLink RX9 339 ⟨"HedgehogLots$Slope", "cutPegs", "(I)V"⟩ ∈ TB := q960
theorem lk_X9_342 : Cond.methodLink RX9 342 ⟨"HedgehogLots", "keptImages", "()I"⟩ ∈ TB := q969
theorem lk_X9_346 : Cond.methodLink RX9 346 ⟨"HedgehogLots$Slope", "pegsOfRag", "(I)I"⟩ ∈ TB := q973
theorem lk_X9_349 : Cond.methodLink RX9 349 ⟨"HedgehogLots$Slope", "speedOfAll", "()I"⟩ ∈ TB := q977
theorem lk_X9_352 : Cond.methodLink RX9 352 ⟨"HedgehogLots$Slope", "isColumn", "(I)Z"⟩ ∈ TB := q658
theorem lk_X0_33 : Cond.methodLink RX0 33 ⟨"HedgehogLots$Advice", "seekFrom", "(I)V"⟩ ∈ TB := q724
theorem lk_X0_42 : Cond.methodLink RX0 42 ⟨"HedgehogLots$Slope", "addPeg", "(II)I"⟩ ∈ TB := q728
theorem lk_X0_46 : Cond.methodLink RX0 46 ⟨"HedgehogLots$Court", "wonBy", "(I)I"⟩ ∈ TB := q729
theorem lk_X0_50 : Cond.methodLink RX0 50 ⟨"java/lang/Integer", "bitCount", "(I)I"⟩ ∈ TB := q730
theorem lk_X0_55 : Cond.methodLink RX0 55 ⟨"HedgehogLots$Advice", "offerMost", "(II)V"⟩ ∈ TB := q731
theorem lk_X0_59 : Cond.methodLink RX0 59 ⟨"HedgehogLots$Slope", "cutPegs", "(I)V"⟩ ∈ TB := q735
theorem lk_X0_62 : Cond.methodLink RX0 62 ⟨"HedgehogLots$Slope", "isPeg", "(I)Z"⟩ ∈ TB := q751
theorem lk_X0_72 : Cond.methodLink RX0 72 ⟨"HedgehogLots$Slope", "isFree", "(I)Z"⟩ ∈ TB := q752
theorem lk_X0_75 : Cond.methodLink RX0 75 ⟨"HedgehogLots$Slope", "movePeg", "(II)V"⟩ ∈ TB := q753
theorem lk_X0_81 : Cond.methodLink RX0 81 ⟨"HedgehogLots$Slope", "addSlug", "(I)I"⟩ ∈ TB := q762
theorem lk_X0_84 : Cond.methodLink RX0 84 ⟨"HedgehogLots$Court", "wonByOthers", "(I)I"⟩ ∈ TB := q763
theorem lk_X0_87 : Cond.methodLink RX0 87 ⟨"HedgehogLots$Advice", "offerFewest", "(II)V"⟩ ∈ TB := q767
theorem lk_X0_90 : Cond.methodLink RX0 90 ⟨"HedgehogLots$Slope", "cutSlugs", "(I)V"⟩ ∈ TB := q771
theorem lk_X0_96 : Cond.methodLink RX0 96 ⟨"HedgehogLots$Slope", "exchangeHedgehogs", "(II)V"⟩ ∈ TB := q784
theorem lk_X0_99 : Cond.methodLink RX0 99 ⟨"HedgehogLots$Slope", "hidePeg", "(I)V"⟩ ∈ TB := q797
theorem lk_X0_102 : Cond.methodLink RX0 102 ⟨"HedgehogLots$Slope", "showPeg", "(I)V"⟩ ∈ TB := q801
theorem lk_X0_105 : Cond.methodLink RX0 105 ⟨"HedgehogLots$Advice", "leftAtWorst", "(III)I"⟩ ∈ TB := q891
theorem lk_X0_109 : Cond.methodLink RX0 109 ⟨"java/util/Arrays", "fill", "([II)V"⟩ ∈ TB := q895
theorem lk_X0_115 : Cond.methodLink RX0 115 ⟨"HedgehogLots$Court", "letGoAs", "(III)LHedgehogLots$Course;"⟩ ∈ TB := q896
theorem lk_X0_124 : Cond.methodLink RX0 124 ⟨"java/lang/Math", "max", "(II)I"⟩ ∈ TB := q897
theorem lk_X1_32 : Cond.methodLink RX1 32 ⟨"java/lang/Math", "min", "(II)I"⟩ ∈ TB := q565
theorem lk_X1_38 : Cond.methodLink RX1 38 ⟨"java/lang/Math", "max", "(II)I"⟩ ∈ TB := q568
theorem lk_X1_41 : Cond.methodLink RX1 41 ⟨"HedgehogLots$Course", "startAfresh", "()V"⟩ ∈ TB := q547
theorem lk_X1_44 : Cond.methodLink RX1 44 ⟨"HedgehogLots$Slope", "standingAt", "(I)I"⟩ ∈ TB := q548
theorem lk_X1_50 : Cond.methodLink RX1 50 ⟨"HedgehogLots$Slope", "isPeg", "(I)Z"⟩ ∈ TB := q552
theorem lk_X1_54 : Cond.methodLink RX1 54 ⟨"HedgehogLots$Course", "loss", "(I)I"⟩ ∈ TB := q556
theorem lk_X1_60 : Cond.methodLink RX1 60 ⟨"HedgehogLots$Course", "turn", "(II)I"⟩ ∈ TB := q559
theorem lk_X1_63 : Cond.methodLink RX1 63 ⟨"HedgehogLots$Course", "columnBeside", "(II)I"⟩ ∈ TB := q562
theorem lk_X2_22 : Cond.methodLink RX2 22 ⟨"HedgehogLots$Course", "startAfresh", "()V"⟩ ∈ TB := q534
theorem lk_X2_25 : Cond.methodLink RX2 25 ⟨"HedgehogLots$Slope", "isHedgehog", "(I)Z"⟩ ∈ TB := q542
theorem lk_X2_38 : Cond.methodLink RX2 38 ⟨"HedgehogLots$Course", "follow", "(LHedgehogLots$Slope;III)V"⟩ ∈ TB := q543
theorem lk_X2_42 : Cond.methodLink RX2 42 ⟨"HedgehogLots$Slope", "isSuit", "(I)Z"⟩ ∈ TB := q538
theorem lk_X2_55 : Cond.methodLink RX2 55 ⟨"HedgehogLots$Court", "letGoInSuit", "(I)LHedgehogLots$Course;"⟩ ∈ TB := q530
theorem lk_X2_69 : Cond.methodLink RX2 69 ⟨"HedgehogLots$Court", "letGo", "(II)LHedgehogLots$Course;"⟩ ∈ TB := q600
theorem lk_X3_25 : Cond.methodLink RX3 25 ⟨"java/util/Arrays", "fill", "([JJ)V"⟩ ∈ TB := q817
theorem lk_X3_31 : Cond.methodLink RX3 31 ⟨"HedgehogLots$Slope", "isHedgehog", "(I)Z"⟩ ∈ TB := q820
theorem lk_X3_37 : Cond.methodLink RX3 37 ⟨"HedgehogLots$Slope", "isColumn", "(I)Z"⟩ ∈ TB := q821
theorem lk_X3_49 : Cond.methodLink RX3 49 ⟨"HedgehogLots$Odds", "add", "([JIIJ)V"⟩ ∈ TB := q823
theorem lk_X3_53 : Cond.methodLink RX3 53 ⟨"HedgehogLots$Slope", "standingAt", "(I)I"⟩ ∈ TB := q826
theorem lk_X3_57 : Cond.methodLink RX3 57 ⟨"HedgehogLots$Slope", "isPeg", "(I)Z"⟩ ∈ TB := q827
theorem lk_X3_63 : Cond.methodLink RX3 63 ⟨"HedgehogLots$Odds", "meet", "(IIIIZ)V"⟩ ∈ TB := q828
theorem lk_X3_67 : Cond.methodLink RX3 67 ⟨"HedgehogLots$Odds", "goOn", "(I)V"⟩ ∈ TB := q836
theorem lk_X3_71 : Cond.methodLink RX3 71 ⟨"java/lang/System", "arraycopy", "(Ljava/lang/Object;ILjava/lang/Object;II)V"⟩ ∈ TB := q840
theorem lk_X3_77 : Cond.methodLink RX3 77 ⟨"HedgehogLots$Course", "turn", "(II)I"⟩ ∈ TB := q832
theorem lk_X3_83 : Cond.methodLink RX3 83 ⟨"HedgehogLots$Course", "columnBeside", "(II)I"⟩ ∈ TB := q833
theorem lk_X3_86 : Cond.methodLink RX3 86 ⟨"HedgehogLots$Course", "loss", "(I)I"⟩ ∈ TB := q834
theorem lk_X4_41 : Cond.methodLink RX4 41 ⟨"HedgehogLots$Slope", "empty", "()V"⟩ ∈ TB := q356
theorem lk_X4_44 : Cond.methodLink RX4 44 ⟨"HedgehogLots$Reader", "advance", "()V"⟩ ∈ TB := q360
theorem lk_X4_47 : Cond.methodLink RX4 47 ⟨"HedgehogLots$Reader", "readLine", "()V"⟩ ∈ TB := q383
theorem lk_X4_57 : Cond.methodLink RX4 57 ⟨"HedgehogLots$Slope", "isHedgehog", "(I)Z"⟩ ∈ TB := q506
theorem lk_X4_61 : Cond.methodLink RX4 61 ⟨"HedgehogLots$Reader", "fail", "(I)V"⟩ ∈ TB := q379
theorem lk_X4_65 : Cond.methodLink RX4 65 ⟨"HedgehogLots$Tape", "endOfRun", "(III)I"⟩ ∈ TB := q364
theorem lk_X4_71 : Cond.methodLink RX4 71 ⟨"HedgehogLots$Tape", "byteAt", "(I)I"⟩ ∈ TB := q371
theorem lk_X4_78 : Cond.methodLink RX4 78 ⟨"HedgehogLots$Reader", "valueNumber", "()V"⟩ ∈ TB := q375
theorem lk_X4_81 : Cond.methodLink RX4 81 ⟨"java/lang/String", "length", "()I"⟩ ∈ TB := q392
theorem lk_X4_86 : Cond.methodLink RX4 86 ⟨"java/lang/String", "charAt", "(I)C"⟩ ∈ TB := q402
theorem lk_X4_92 : Cond.methodLink RX4 92 ⟨"HedgehogLots$Reader", "isNamed", "(Ljava/lang/String;)Z"⟩ ∈ TB := q388
theorem lk_X4_96 : Cond.methodLink RX4 96 ⟨"HedgehogLots$Reader", "readPeg", "()V"⟩ ∈ TB := q440
theorem lk_X4_101 : Cond.methodLink RX4 101 ⟨"HedgehogLots$Reader", "readSlug", "()V"⟩ ∈ TB := q477
theorem lk_X4_106 : Cond.methodLink RX4 106 ⟨"HedgehogLots$Reader", "readSuit", "()V"⟩ ∈ TB := q486
theorem lk_X4_111 : Cond.methodLink RX4 111 ⟨"HedgehogLots$Reader", "readHedgehog", "(I)V"⟩ ∈ TB := q495
theorem lk_X4_123 : Cond.methodLink RX4 123 ⟨"HedgehogLots$Reader", "takeNumber", "(II)I"⟩ ∈ TB := q444
theorem lk_X4_127 : Cond.methodLink RX4 127 ⟨"HedgehogLots$Reader", "mustBeFree", "(I)V"⟩ ∈ TB := q448
theorem lk_X4_130 : Cond.methodLink RX4 130 ⟨"HedgehogLots$Reader", "takeSemicolon", "()V"⟩ ∈ TB := q460
theorem lk_X4_133 : Cond.methodLink RX4 133 ⟨"HedgehogLots$Slope", "addPeg", "(II)I"⟩ ∈ TB := q464
theorem lk_X4_139 : Cond.methodLink RX4 139 ⟨"HedgehogLots$Slope", "addSlug", "(I)I"⟩ ∈ TB := q481
theorem lk_X4_145 : Cond.methodLink RX4 145 ⟨"HedgehogLots$Slope", "addHedgehog", "(II)I"⟩ ∈ TB := q499
theorem lk_X4_148 : Cond.methodLink RX4 148 ⟨"HedgehogLots$Slope", "addSuit", "(II)I"⟩ ∈ TB := q490
theorem lk_X4_151 : Cond.methodLink RX4 151 ⟨"HedgehogLots$Slope", "isCell", "(I)Z"⟩ ∈ TB := q452
theorem lk_X4_154 : Cond.methodLink RX4 154 ⟨"HedgehogLots$Slope", "isFree", "(I)Z"⟩ ∈ TB := q455
theorem lk_X5_31 : Cond.methodLink RX5 31 ⟨"HedgehogLots$Slope", "isHedgehog", "(I)Z"⟩ ∈ TB := q869
theorem lk_X5_37 : Cond.methodLink RX5 37 ⟨"HedgehogLots$Court", "letGo", "(II)LHedgehogLots$Course;"⟩ ∈ TB := q874
theorem lk_X5_49 : Cond.methodLink RX5 49 ⟨"HedgehogLots$Seen", "holds", "(LHedgehogLots$Court;)Z"⟩ ∈ TB := q870
theorem lk_X6_22 : Cond.methodLink RX6 22 ⟨"java/lang/Math", "min", "(II)I"⟩ ∈ TB := q932
theorem lk_X6_28 : Cond.methodLink RX6 28 ⟨"java/lang/Math", "max", "(II)I"⟩ ∈ TB := q933
theorem lk_X6_31 : Cond.methodLink RX6 31 ⟨"java/util/Arrays", "fill", "([II)V"⟩ ∈ TB := q934
theorem lk_X6_37 : Cond.methodLink RX6 37 ⟨"HedgehogLots$Sheet", "refusal", "(II)I"⟩ ∈ TB := q955
theorem lk_X7_49 : Cond.methodLink RX7 49 ⟨"java/util/Arrays", "fill", "([II)V"⟩ ∈ TB := q34
theorem lk_X7_55 : Cond.methodLink RX7 55 ⟨"HedgehogLots$Slope", "isCell", "(I)Z"⟩ ∈ TB := q459
theorem lk_X7_59 : Cond.methodLink RX7 59 ⟨"java/lang/System", "arraycopy", "(Ljava/lang/Object;ILjava/lang/Object;II)V"⟩ ∈ TB := q514
theorem nk_X7_65 : Cond.methodLinkNest RX7 65 ⟨"HedgehogLots", "isRag", "(I)Z"⟩ "HedgehogLots" ∈ nestW := List.mem_of_getElem? (i := 5) rfl
theorem lk_X7_68 : Cond.methodLink RX7 68 ⟨"HedgehogLots$Slope", "isFree", "(I)Z"⟩ ∈ TB := q471
theorem lk_X7_71 : Cond.methodLink RX7 71 ⟨"HedgehogLots$Slope", "stand", "(II)V"⟩ ∈ TB := q472
theorem lk_X7_75 : Cond.methodLink RX7 75 ⟨"java/lang/Math", "max", "(II)I"⟩ ∈ TB := q648
theorem lk_X7_81 : Cond.methodLink RX7 81 ⟨"java/lang/Math", "min", "(II)I"⟩ ∈ TB := q649
theorem lk_X7_84 : Cond.methodLink RX7 84 ⟨"HedgehogLots$Slope", "isPeg", "(I)Z"⟩ ∈ TB := q620
theorem lk_X7_87 : Cond.methodLink RX7 87 ⟨"HedgehogLots$Slope", "isHedgehog", "(I)Z"⟩ ∈ TB := q788
theorem lk_X8_19 : Cond.methodLink RX8 19 ⟨"java/lang/Math", "max", "(II)I"⟩ ∈ TB := q368
theorem lk_X10_49 : Cond.methodLink RX10 49 ⟨"HedgehogLotsModel", "in", "(JJJ)Z"⟩ ∈ TB := q1080
theorem lk_X10_72 : Cond.methodLink RX10 72 ⟨"HedgehogLotsModel", "byteAt", "(I)I"⟩ ∈ TB := q1095
theorem lk_X10_87 : Cond.methodLink RX10 87 ⟨"HedgehogLotsModel", "fails", "(I)V"⟩ ∈ TB := q1103
theorem lk_X10_91 : Cond.methodLink RX10 91 ⟨"HedgehogLotsModel", "step", "()V"⟩ ∈ TB := q1091
theorem lk_X10_94 : Cond.methodLink RX10 94 ⟨"HedgehogLotsModel", "isReadCell", "(I)Z"⟩ ∈ TB := q1132
theorem lk_X10_98 : Cond.methodLink RX10 98 ⟨"HedgehogLotsModel", "number", "(II)I"⟩ ∈ TB := q1124
theorem lk_X10_105 : Cond.methodLink RX10 105 ⟨"HedgehogLotsModel", "cellHere", "()I"⟩ ∈ TB := q1128
theorem lk_X10_112 : Cond.methodLink RX10 112 ⟨"HedgehogLotsModel", "nameHere", "()I"⟩ ∈ TB := q1111
theorem lk_X10_117 : Cond.methodLink RX10 117 ⟨"HedgehogLotsModel", "isFull", "(I)Z"⟩ ∈ TB := q1116
theorem lk_X10_120 : Cond.methodLink RX10 120 ⟨"HedgehogLotsModel", "readMore", "(I)V"⟩ ∈ TB := q1120
theorem lk_X10_123 : Cond.methodLink RX10 123 ⟨"HedgehogLotsModel", "readLine", "()V"⟩ ∈ TB := q1107
theorem lk_X10_139 : Cond.methodLink RX10 139 ⟨"HedgehogLotsModel", "pegOn", "(II)I"⟩ ∈ TB := q1148
theorem lk_X10_142 : Cond.methodLink RX10 142 ⟨"HedgehogLotsModel", "slugOn", "(II)I"⟩ ∈ TB := q1152
theorem lk_X10_158 : Cond.methodLink RX10 158 ⟨"HedgehogLotsModel", "losesOf", "(I)I"⟩ ∈ TB := q1156
theorem lk_X10_161 : Cond.methodLink RX10 161 ⟨"HedgehogLotsModel", "turnOf", "(II)I"⟩ ∈ TB := q1159
theorem lk_X10_164 : Cond.methodLink RX10 164 ⟨"HedgehogLotsModel", "runsOn", "(IIII)V"⟩ ∈ TB := q1144
theorem lk_X10_168 : Cond.methodLink RX10 168 ⟨"HedgehogLotsModel", "winnerOn", "(III)I"⟩ ∈ TB := q1166
theorem lk_X10_172 : Cond.methodLink RX10 172 ⟨"HedgehogLotsModel", "winsOn", "(II)I"⟩ ∈ TB := q1162
theorem lk_X10_175 : Cond.methodLink RX10 175 ⟨"HedgehogLotsModel", "isPeg", "(I)Z"⟩ ∈ TB := q1174
theorem lk_X10_180 : Cond.methodLink RX10 180 ⟨"HedgehogLotsModel", "isHog", "(I)Z"⟩ ∈ TB := q1187
theorem lk_X10_183 : Cond.methodLink RX10 183 ⟨"HedgehogLotsModel", "isSuit", "(I)Z"⟩ ∈ TB := q1196
theorem lk_X10_186 : Cond.methodLink RX10 186 ⟨"HedgehogLotsModel", "isCell", "(I)Z"⟩ ∈ TB := q1204
theorem lk_X10_189 : Cond.methodLink RX10 189 ⟨"HedgehogLotsModel", "isFreeOn", "(II)Z"⟩ ∈ TB := q1207
theorem lk_X10_193 : Cond.methodLink RX10 193 ⟨"HedgehogLotsModel", "puts", "(ZII)I"⟩ ∈ TB := q1211
theorem lk_X10_197 : Cond.methodLink RX10 197 ⟨"HedgehogLotsModel", "isRag", "(I)Z"⟩ ∈ TB := q1219
theorem lk_X10_202 : Cond.methodLink RX10 202 ⟨"HedgehogLotsModel", "drivesOn", "(III)V"⟩ ∈ TB := q1235
theorem lk_X10_206 : Cond.methodLink RX10 206 ⟨"HedgehogLotsModel", "drives", "(II)I"⟩ ∈ TB := q1231
theorem lk_X10_209 : Cond.methodLink RX10 209 ⟨"HedgehogLotsModel", "laysOn", "(II)V"⟩ ∈ TB := q1243
theorem lk_X10_213 : Cond.methodLink RX10 213 ⟨"HedgehogLotsModel", "isColumn", "(I)Z"⟩ ∈ TB := q1255
theorem lk_X10_218 : Cond.methodLink RX10 218 ⟨"HedgehogLotsModel", "copies", "(II)V"⟩ ∈ TB := q1288
theorem lk_X10_221 : Cond.methodLink RX10 221 ⟨"HedgehogLotsModel", "bitsOf", "(I)I"⟩ ∈ TB := q1296
theorem lk_X10_226 : Cond.methodLink RX10 226 ⟨"HedgehogLotsModel", "lowest", "(JJI)J"⟩ ∈ TB := q1329
theorem lk_X10_232 : Cond.methodLink RX10 232 ⟨"HedgehogLotsModel", "byTurns", "(IIIII)J"⟩ ∈ TB := q1324
theorem lk_X10_238 : Cond.methodLink RX10 238 ⟨"HedgehogLotsModel", "isAsSeen", "(I)Z"⟩ ∈ TB := q1349
theorem lk_X10_241 : Cond.methodLink RX10 241 ⟨"HedgehogLotsModel", "speedsOf", "(I)I"⟩ ∈ TB := q1357
