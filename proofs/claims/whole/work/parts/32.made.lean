/-! what each constructor makes -/
theorem fk_RX0_15 : ae_FL RX0 15 0 1 (.array .int) true := ⟨_, _, _, rfl, by decide, ww_56, rfl, rfl, rfl⟩
theorem fk_RX0_20 : ae_FL RX0 20 0 2 (.array (.array .int)) true := ⟨_, _, _, rfl, by decide, ww_57, rfl, rfl, rfl⟩
theorem fk_RX0_23 : ae_FL RX0 23 0 3 (.int) false := ⟨_, _, _, rfl, by decide, ww_58, rfl, rfl, rfl⟩
theorem fk_RX0_9 : ae_FL RX0 9 0 0 (.array .int) true := ⟨_, _, _, rfl, by decide, ww_55, rfl, rfl, rfl⟩
theorem fk_RX10_15 : ae_FL RX10 15 8 1 (.object "ByteViews$Shelf") true := ⟨_, _, _, rfl, by decide, ww_211, rfl, rfl, rfl⟩
theorem fk_RX10_9 : ae_FL RX10 9 8 0 (.object "ByteViews$Tokens") true := ⟨_, _, _, rfl, by decide, ww_210, rfl, rfl, rfl⟩
theorem fk_RX12_100 : ae_FL RX12 100 10 0 (.int) false := ⟨_, _, _, rfl, by decide, ww_1298, rfl, rfl, rfl⟩
theorem fk_RX12_15 : ae_FL RX12 15 10 2 (.array .int) true := ⟨_, _, _, rfl, by decide, ww_1300, rfl, rfl, rfl⟩
theorem fk_RX12_18 : ae_FL RX12 18 10 3 (.array .boolean) true := ⟨_, _, _, rfl, by decide, ww_1301, rfl, rfl, rfl⟩
theorem fk_RX12_22 : ae_FL RX12 22 10 4 (.array .int) true := ⟨_, _, _, rfl, by decide, ww_1302, rfl, rfl, rfl⟩
theorem fk_RX12_25 : ae_FL RX12 25 10 6 (.array .long) true := ⟨_, _, _, rfl, by decide, ww_1304, rfl, rfl, rfl⟩
theorem fk_RX12_29 : ae_FL RX12 29 10 7 (.array .int) true := ⟨_, _, _, rfl, by decide, ww_1305, rfl, rfl, rfl⟩
theorem fk_RX12_32 : ae_FL RX12 32 10 8 (.array .int) true := ⟨_, _, _, rfl, by decide, ww_1306, rfl, rfl, rfl⟩
theorem fk_RX12_35 : ae_FL RX12 35 10 9 (.array .int) true := ⟨_, _, _, rfl, by decide, ww_1307, rfl, rfl, rfl⟩
theorem fk_RX12_38 : ae_FL RX12 38 10 10 (.array .int) true := ⟨_, _, _, rfl, by decide, ww_1308, rfl, rfl, rfl⟩
theorem fk_RX12_41 : ae_FL RX12 41 10 11 (.array .int) true := ⟨_, _, _, rfl, by decide, ww_1309, rfl, rfl, rfl⟩
theorem fk_RX12_44 : ae_FL RX12 44 10 12 (.array .int) true := ⟨_, _, _, rfl, by decide, ww_1310, rfl, rfl, rfl⟩
theorem fk_RX12_47 : ae_FL RX12 47 10 13 (.array .int) true := ⟨_, _, _, rfl, by decide, ww_1311, rfl, rfl, rfl⟩
theorem fk_RX12_50 : ae_FL RX12 50 10 14 (.array .long) true := ⟨_, _, _, rfl, by decide, ww_1312, rfl, rfl, rfl⟩
theorem fk_RX12_53 : ae_FL RX12 53 10 15 (.array .int) true := ⟨_, _, _, rfl, by decide, ww_1313, rfl, rfl, rfl⟩
theorem fk_RX12_56 : ae_FL RX12 56 10 16 (.array .int) true := ⟨_, _, _, rfl, by decide, ww_1314, rfl, rfl, rfl⟩
theorem fk_RX12_59 : ae_FL RX12 59 10 19 (.array .int) true := ⟨_, _, _, rfl, by decide, ww_1317, rfl, rfl, rfl⟩
theorem fk_RX12_62 : ae_FL RX12 62 10 22 (.int) false := ⟨_, _, _, rfl, by decide, ww_1320, rfl, rfl, rfl⟩
theorem fk_RX12_66 : ae_FL RX12 66 10 32 (.array .int) true := ⟨_, _, _, rfl, by decide, ww_1330, rfl, rfl, rfl⟩
theorem fk_RX12_69 : ae_FL RX12 69 10 33 (.array .int) true := ⟨_, _, _, rfl, by decide, ww_1331, rfl, rfl, rfl⟩
theorem fk_RX12_72 : ae_FL RX12 72 10 34 (.array .int) true := ⟨_, _, _, rfl, by decide, ww_1332, rfl, rfl, rfl⟩
theorem fk_RX12_75 : ae_FL RX12 75 10 35 (.array .int) true := ⟨_, _, _, rfl, by decide, ww_1333, rfl, rfl, rfl⟩
theorem fk_RX12_78 : ae_FL RX12 78 10 36 (.array .long) true := ⟨_, _, _, rfl, by decide, ww_1334, rfl, rfl, rfl⟩
theorem fk_RX12_81 : ae_FL RX12 81 10 37 (.array .double) true := ⟨_, _, _, rfl, by decide, ww_1335, rfl, rfl, rfl⟩
theorem fk_RX12_85 : ae_FL RX12 85 10 42 (.array .int) true := ⟨_, _, _, rfl, by decide, ww_1340, rfl, rfl, rfl⟩
theorem fk_RX12_88 : ae_FL RX12 88 10 44 (.array .int) true := ⟨_, _, _, rfl, by decide, ww_1342, rfl, rfl, rfl⟩
theorem fk_RX12_9 : ae_FL RX12 9 10 1 (.array .int) true := ⟨_, _, _, rfl, by decide, ww_1299, rfl, rfl, rfl⟩
theorem fk_RX12_91 : ae_FL RX12 91 10 48 (.array .long) true := ⟨_, _, _, rfl, by decide, ww_1346, rfl, rfl, rfl⟩
theorem fk_RX12_94 : ae_FL RX12 94 10 49 (.array .double) true := ⟨_, _, _, rfl, by decide, ww_1347, rfl, rfl, rfl⟩
theorem fk_RX12_97 : ae_FL RX12 97 10 50 (.array .int) true := ⟨_, _, _, rfl, by decide, ww_1348, rfl, rfl, rfl⟩
theorem fk_RX1_11 : ae_FL RX1 11 1 0 (.array .int) true := ⟨_, _, _, rfl, by decide, ww_191, rfl, rfl, rfl⟩
theorem fk_RX1_15 : ae_FL RX1 15 1 1 (.array .long) true := ⟨_, _, _, rfl, by decide, ww_192, rfl, rfl, rfl⟩
theorem fk_RX1_19 : ae_FL RX1 19 1 2 (.array .int) true := ⟨_, _, _, rfl, by decide, ww_193, rfl, rfl, rfl⟩
theorem fk_RX4_15 : ae_FL RX4 15 2 1 (.object "ByteViews$Shelf") true := ⟨_, _, _, rfl, by decide, ww_259, rfl, rfl, rfl⟩
theorem fk_RX4_19 : ae_FL RX4 19 2 2 (.object "ByteViews$Bytes") true := ⟨_, _, _, rfl, by decide, ww_260, rfl, rfl, rfl⟩
theorem fk_RX4_23 : ae_FL RX4 23 2 3 (.array .long) true := ⟨_, _, _, rfl, by decide, ww_261, rfl, rfl, rfl⟩
theorem fk_RX4_27 : ae_FL RX4 27 2 4 (.array .boolean) true := ⟨_, _, _, rfl, by decide, ww_262, rfl, rfl, rfl⟩
theorem fk_RX4_33 : ae_FL RX4 33 2 5 (.array (.array .int)) true := ⟨_, _, _, rfl, by decide, ww_263, rfl, rfl, rfl⟩
theorem fk_RX4_36 : ae_FL RX4 36 2 6 (.array .int) true := ⟨_, _, _, rfl, by decide, ww_264, rfl, rfl, rfl⟩
theorem fk_RX4_40 : ae_FL RX4 40 2 7 (.array .int) true := ⟨_, _, _, rfl, by decide, ww_265, rfl, rfl, rfl⟩
theorem fk_RX4_43 : ae_FL RX4 43 2 8 (.array .int) true := ⟨_, _, _, rfl, by decide, ww_266, rfl, rfl, rfl⟩
theorem fk_RX4_9 : ae_FL RX4 9 2 0 (.object "ByteViews$Code") true := ⟨_, _, _, rfl, by decide, ww_258, rfl, rfl, rfl⟩
theorem fk_RX5_15 : ae_FL RX5 15 3 1 (.object "ByteViews$Shelf") true := ⟨_, _, _, rfl, by decide, ww_224, rfl, rfl, rfl⟩
theorem fk_RX5_19 : ae_FL RX5 19 3 2 (.object "ByteViews$Code") true := ⟨_, _, _, rfl, by decide, ww_225, rfl, rfl, rfl⟩
theorem fk_RX5_23 : ae_FL RX5 23 3 3 (.array .int) true := ⟨_, _, _, rfl, by decide, ww_226, rfl, rfl, rfl⟩
theorem fk_RX5_27 : ae_FL RX5 27 3 4 (.array .int) true := ⟨_, _, _, rfl, by decide, ww_227, rfl, rfl, rfl⟩
theorem fk_RX5_30 : ae_FL RX5 30 3 5 (.array .int) true := ⟨_, _, _, rfl, by decide, ww_228, rfl, rfl, rfl⟩
theorem fk_RX5_9 : ae_FL RX5 9 3 0 (.object "ByteViews$Tokens") true := ⟨_, _, _, rfl, by decide, ww_223, rfl, rfl, rfl⟩
theorem fk_RX7_9 : ae_FL RX7 9 5 0 (.array .int) true := ⟨_, _, _, rfl, by decide, ww_39, rfl, rfl, rfl⟩
theorem fk_RX8_15 : ae_FL RX8 15 6 1 (.array .int) true := ⟨_, _, _, rfl, by decide, ww_158, rfl, rfl, rfl⟩
theorem fk_RX8_19 : ae_FL RX8 19 6 2 (.array .int) true := ⟨_, _, _, rfl, by decide, ww_159, rfl, rfl, rfl⟩
theorem fk_RX8_22 : ae_FL RX8 22 6 3 (.array .int) true := ⟨_, _, _, rfl, by decide, ww_160, rfl, rfl, rfl⟩
theorem fk_RX8_25 : ae_FL RX8 25 6 4 (.array .long) true := ⟨_, _, _, rfl, by decide, ww_161, rfl, rfl, rfl⟩
theorem fk_RX8_29 : ae_FL RX8 29 6 8 (.int) false := ⟨_, _, _, rfl, by decide, ww_165, rfl, rfl, rfl⟩
theorem fk_RX8_9 : ae_FL RX8 9 6 0 (.object "ByteViews$Text") true := ⟨_, _, _, rfl, by decide, ww_157, rfl, rfl, rfl⟩
theorem fk_RX9_15 : ae_FL RX9 15 7 1 (.array .int) true := ⟨_, _, _, rfl, by decide, ww_90, rfl, rfl, rfl⟩
theorem fk_RX9_19 : ae_FL RX9 19 7 2 (.array .int) true := ⟨_, _, _, rfl, by decide, ww_91, rfl, rfl, rfl⟩
theorem fk_RX9_28 : ae_FL RX9 28 7 4 (.object "ByteViews$Kind") false := ⟨_, _, _, rfl, by decide, ww_94, rfl, rfl, rfl⟩
theorem fk_RX9_9 : ae_FL RX9 9 7 0 (.array .long) true := ⟨_, _, _, rfl, by decide, ww_89, rfl, rfl, rfl⟩
abbrev mX7_init : ae_M := (RX7, cX7_init, 2, none)
theorem iy_X7_init : uc_IY yX7_init mX7_init 1 := ⟨ww_36, ww_2, ww_37, rfl, rfl, ⟨by decide, by decide, by decide +kernel⟩, by decide⟩
theorem dX7_init_0 : decode cX7_init 0 = .ok (.aload_n 0, 1) := by decide +kernel
theorem dX7_init_1 : decode cX7_init 1 = .ok (.invokespecial 3, 3) := by decide +kernel
theorem dX7_init_4 : decode cX7_init 4 = .ok (.aload_n 0, 1) := by decide +kernel
theorem dX7_init_5 : decode cX7_init 5 = .ok (.iload_n 1, 1) := by decide +kernel
theorem dX7_init_6 : decode cX7_init 6 = .ok (.newarray .int, 2) := by decide +kernel
theorem dX7_init_8 : decode cX7_init 8 = .ok (.putfield 9, 3) := by decide +kernel
theorem dX7_init_11 : decode cX7_init 11 = .ok (.return_, 1) := by decide +kernel
abbrev mX0_init : ae_M := (RX0, cX0_init, 1, none)
theorem iy_X0_init : uc_IY yX0_init mX0_init 0 := ⟨ww_50, ww_3, ww_51, rfl, rfl, ⟨by decide, by decide, by decide +kernel⟩, by decide⟩
theorem dX0_init_0 : decode cX0_init 0 = .ok (.aload_n 0, 1) := by decide +kernel
theorem dX0_init_1 : decode cX0_init 1 = .ok (.invokespecial 3, 3) := by decide +kernel
theorem dX0_init_4 : decode cX0_init 4 = .ok (.aload_n 0, 1) := by decide +kernel
theorem dX0_init_5 : decode cX0_init 5 = .ok (.sipush 256, 3) := by decide +kernel
theorem dX0_init_8 : decode cX0_init 8 = .ok (.newarray .int, 2) := by decide +kernel
theorem dX0_init_10 : decode cX0_init 10 = .ok (.putfield 9, 3) := by decide +kernel
theorem dX0_init_13 : decode cX0_init 13 = .ok (.aload_n 0, 1) := by decide +kernel
theorem dX0_init_14 : decode cX0_init 14 = .ok (.sipush 256, 3) := by decide +kernel
theorem dX0_init_17 : decode cX0_init 17 = .ok (.newarray .int, 2) := by decide +kernel
theorem dX0_init_19 : decode cX0_init 19 = .ok (.putfield 15, 3) := by decide +kernel
theorem dX0_init_22 : decode cX0_init 22 = .ok (.aload_n 0, 1) := by decide +kernel
theorem dX0_init_23 : decode cX0_init 23 = .ok (.bipush 8, 2) := by decide +kernel
theorem dX0_init_25 : decode cX0_init 25 = .ok (.sipush 256, 3) := by decide +kernel
theorem dX0_init_28 : decode cX0_init 28 = .ok (.multianewarray 18 2, 4) := by decide +kernel
theorem dX0_init_32 : decode cX0_init 32 = .ok (.putfield 20, 3) := by decide +kernel
theorem dX0_init_35 : decode cX0_init 35 = .ok (.aload_n 0, 1) := by decide +kernel
theorem dX0_init_36 : decode cX0_init 36 = .ok (.bipush 64, 2) := by decide +kernel
theorem dX0_init_38 : decode cX0_init 38 = .ok (.putfield 23, 3) := by decide +kernel
theorem dX0_init_41 : decode cX0_init 41 = .ok (.return_, 1) := by decide +kernel
abbrev mX9_init : ae_M := (RX9, cX9_init, 1, none)
theorem iy_X9_init : uc_IY yX9_init mX9_init 0 := ⟨ww_84, ww_5, ww_85, rfl, rfl, ⟨by decide, by decide, by decide +kernel⟩, by decide⟩
theorem dX9_init_0 : decode cX9_init 0 = .ok (.aload_n 0, 1) := by decide +kernel
theorem dX9_init_1 : decode cX9_init 1 = .ok (.invokespecial 3, 3) := by decide +kernel
theorem dX9_init_4 : decode cX9_init 4 = .ok (.aload_n 0, 1) := by decide +kernel
theorem dX9_init_5 : decode cX9_init 5 = .ok (.bipush 8, 2) := by decide +kernel
theorem dX9_init_7 : decode cX9_init 7 = .ok (.newarray .long, 2) := by decide +kernel
theorem dX9_init_9 : decode cX9_init 9 = .ok (.putfield 9, 3) := by decide +kernel
theorem dX9_init_12 : decode cX9_init 12 = .ok (.aload_n 0, 1) := by decide +kernel
theorem dX9_init_13 : decode cX9_init 13 = .ok (.bipush 8, 2) := by decide +kernel
theorem dX9_init_15 : decode cX9_init 15 = .ok (.newarray .int, 2) := by decide +kernel
theorem dX9_init_17 : decode cX9_init 17 = .ok (.putfield 15, 3) := by decide +kernel
theorem dX9_init_20 : decode cX9_init 20 = .ok (.aload_n 0, 1) := by decide +kernel
theorem dX9_init_21 : decode cX9_init 21 = .ok (.bipush 8, 2) := by decide +kernel
theorem dX9_init_23 : decode cX9_init 23 = .ok (.newarray .int, 2) := by decide +kernel
theorem dX9_init_25 : decode cX9_init 25 = .ok (.putfield 19, 3) := by decide +kernel
theorem dX9_init_28 : decode cX9_init 28 = .ok (.aload_n 0, 1) := by decide +kernel
theorem dX9_init_29 : decode cX9_init 29 = .ok (.getstatic 22, 3) := by decide +kernel
theorem dX9_init_32 : decode cX9_init 32 = .ok (.putfield 28, 3) := by decide +kernel
theorem dX9_init_35 : decode cX9_init 35 = .ok (.return_, 1) := by decide +kernel
abbrev mX8_init : ae_M := (RX8, cX8_init, 2, none)
theorem iy_X8_init : uc_IY yX8_init mX8_init 1 := ⟨ww_154, ww_8, ww_155, rfl, rfl, ⟨by decide, by decide, by decide +kernel⟩, by decide⟩
theorem dX8_init_0 : decode cX8_init 0 = .ok (.aload_n 0, 1) := by decide +kernel
theorem dX8_init_1 : decode cX8_init 1 = .ok (.invokespecial 3, 3) := by decide +kernel
theorem dX8_init_4 : decode cX8_init 4 = .ok (.aload_n 0, 1) := by decide +kernel
theorem dX8_init_5 : decode cX8_init 5 = .ok (.aload_n 1, 1) := by decide +kernel
theorem dX8_init_6 : decode cX8_init 6 = .ok (.putfield 9, 3) := by decide +kernel
theorem dX8_init_9 : decode cX8_init 9 = .ok (.aload_n 0, 1) := by decide +kernel
theorem dX8_init_10 : decode cX8_init 10 = .ok (.sipush 501, 3) := by decide +kernel
theorem dX8_init_13 : decode cX8_init 13 = .ok (.newarray .int, 2) := by decide +kernel
theorem dX8_init_15 : decode cX8_init 15 = .ok (.putfield 15, 3) := by decide +kernel
theorem dX8_init_18 : decode cX8_init 18 = .ok (.aload_n 0, 1) := by decide +kernel
theorem dX8_init_19 : decode cX8_init 19 = .ok (.sipush 501, 3) := by decide +kernel
theorem dX8_init_22 : decode cX8_init 22 = .ok (.newarray .int, 2) := by decide +kernel
theorem dX8_init_24 : decode cX8_init 24 = .ok (.putfield 19, 3) := by decide +kernel
theorem dX8_init_27 : decode cX8_init 27 = .ok (.aload_n 0, 1) := by decide +kernel
theorem dX8_init_28 : decode cX8_init 28 = .ok (.sipush 501, 3) := by decide +kernel
theorem dX8_init_31 : decode cX8_init 31 = .ok (.newarray .int, 2) := by decide +kernel
theorem dX8_init_33 : decode cX8_init 33 = .ok (.putfield 22, 3) := by decide +kernel
theorem dX8_init_36 : decode cX8_init 36 = .ok (.aload_n 0, 1) := by decide +kernel
theorem dX8_init_37 : decode cX8_init 37 = .ok (.sipush 501, 3) := by decide +kernel
theorem dX8_init_40 : decode cX8_init 40 = .ok (.newarray .long, 2) := by decide +kernel
theorem dX8_init_42 : decode cX8_init 42 = .ok (.putfield 25, 3) := by decide +kernel
theorem dX8_init_45 : decode cX8_init 45 = .ok (.aload_n 0, 1) := by decide +kernel
theorem dX8_init_46 : decode cX8_init 46 = .ok (.iconst (-1), 1) := by decide +kernel
theorem dX8_init_47 : decode cX8_init 47 = .ok (.putfield 29, 3) := by decide +kernel
theorem dX8_init_50 : decode cX8_init 50 = .ok (.return_, 1) := by decide +kernel
abbrev mX1_init : ae_M := (RX1, cX1_init, 1, none)
theorem iy_X1_init : uc_IY yX1_init mX1_init 0 := ⟨ww_188, ww_9, ww_189, rfl, rfl, ⟨by decide, by decide, by decide +kernel⟩, by decide⟩
theorem dX1_init_0 : decode cX1_init 0 = .ok (.aload_n 0, 1) := by decide +kernel
theorem dX1_init_1 : decode cX1_init 1 = .ok (.invokespecial 3, 3) := by decide +kernel
theorem dX1_init_4 : decode cX1_init 4 = .ok (.aload_n 0, 1) := by decide +kernel
theorem dX1_init_5 : decode cX1_init 5 = .ok (.sipush 1002, 3) := by decide +kernel
theorem dX1_init_8 : decode cX1_init 8 = .ok (.newarray .int, 2) := by decide +kernel
theorem dX1_init_10 : decode cX1_init 10 = .ok (.putfield 11, 3) := by decide +kernel
theorem dX1_init_13 : decode cX1_init 13 = .ok (.aload_n 0, 1) := by decide +kernel
theorem dX1_init_14 : decode cX1_init 14 = .ok (.sipush 1002, 3) := by decide +kernel
theorem dX1_init_17 : decode cX1_init 17 = .ok (.newarray .long, 2) := by decide +kernel
theorem dX1_init_19 : decode cX1_init 19 = .ok (.putfield 15, 3) := by decide +kernel
theorem dX1_init_22 : decode cX1_init 22 = .ok (.aload_n 0, 1) := by decide +kernel
theorem dX1_init_23 : decode cX1_init 23 = .ok (.sipush 1002, 3) := by decide +kernel
theorem dX1_init_26 : decode cX1_init 26 = .ok (.newarray .int, 2) := by decide +kernel
theorem dX1_init_28 : decode cX1_init 28 = .ok (.putfield 19, 3) := by decide +kernel
theorem dX1_init_31 : decode cX1_init 31 = .ok (.return_, 1) := by decide +kernel
abbrev mX10_init : ae_M := (RX10, cX10_init, 3, none)
theorem iy_X10_init : uc_IY yX10_init mX10_init 2 := ⟨ww_207, ww_10, ww_208, rfl, rfl, ⟨by decide, by decide, by decide +kernel⟩, by decide⟩
theorem dX10_init_0 : decode cX10_init 0 = .ok (.aload_n 0, 1) := by decide +kernel
theorem dX10_init_1 : decode cX10_init 1 = .ok (.invokespecial 3, 3) := by decide +kernel
theorem dX10_init_4 : decode cX10_init 4 = .ok (.aload_n 0, 1) := by decide +kernel
theorem dX10_init_5 : decode cX10_init 5 = .ok (.aload_n 1, 1) := by decide +kernel
theorem dX10_init_6 : decode cX10_init 6 = .ok (.putfield 9, 3) := by decide +kernel
theorem dX10_init_9 : decode cX10_init 9 = .ok (.aload_n 0, 1) := by decide +kernel
theorem dX10_init_10 : decode cX10_init 10 = .ok (.aload_n 2, 1) := by decide +kernel
theorem dX10_init_11 : decode cX10_init 11 = .ok (.putfield 15, 3) := by decide +kernel
theorem dX10_init_14 : decode cX10_init 14 = .ok (.return_, 1) := by decide +kernel
abbrev mX5_init : ae_M := (RX5, cX5_init, 4, none)
theorem iy_X5_init : uc_IY yX5_init mX5_init 3 := ⟨ww_220, ww_11, ww_221, rfl, rfl, ⟨by decide, by decide, by decide +kernel⟩, by decide⟩
theorem dX5_init_0 : decode cX5_init 0 = .ok (.aload_n 0, 1) := by decide +kernel
theorem dX5_init_1 : decode cX5_init 1 = .ok (.invokespecial 3, 3) := by decide +kernel
theorem dX5_init_4 : decode cX5_init 4 = .ok (.aload_n 0, 1) := by decide +kernel
theorem dX5_init_5 : decode cX5_init 5 = .ok (.aload_n 1, 1) := by decide +kernel
theorem dX5_init_6 : decode cX5_init 6 = .ok (.putfield 9, 3) := by decide +kernel
theorem dX5_init_9 : decode cX5_init 9 = .ok (.aload_n 0, 1) := by decide +kernel
theorem dX5_init_10 : decode cX5_init 10 = .ok (.aload_n 2, 1) := by decide +kernel
theorem dX5_init_11 : decode cX5_init 11 = .ok (.putfield 15, 3) := by decide +kernel
theorem dX5_init_14 : decode cX5_init 14 = .ok (.aload_n 0, 1) := by decide +kernel
theorem dX5_init_15 : decode cX5_init 15 = .ok (.aload_n 3, 1) := by decide +kernel
theorem dX5_init_16 : decode cX5_init 16 = .ok (.putfield 19, 3) := by decide +kernel
theorem dX5_init_19 : decode cX5_init 19 = .ok (.aload_n 0, 1) := by decide +kernel
theorem dX5_init_20 : decode cX5_init 20 = .ok (.sipush 501, 3) := by decide +kernel
theorem dX5_init_23 : decode cX5_init 23 = .ok (.newarray .int, 2) := by decide +kernel
theorem dX5_init_25 : decode cX5_init 25 = .ok (.putfield 23, 3) := by decide +kernel
theorem dX5_init_28 : decode cX5_init 28 = .ok (.aload_n 0, 1) := by decide +kernel
theorem dX5_init_29 : decode cX5_init 29 = .ok (.sipush 501, 3) := by decide +kernel
theorem dX5_init_32 : decode cX5_init 32 = .ok (.newarray .int, 2) := by decide +kernel
theorem dX5_init_34 : decode cX5_init 34 = .ok (.putfield 27, 3) := by decide +kernel
theorem dX5_init_37 : decode cX5_init 37 = .ok (.aload_n 0, 1) := by decide +kernel
theorem dX5_init_38 : decode cX5_init 38 = .ok (.sipush 501, 3) := by decide +kernel
theorem dX5_init_41 : decode cX5_init 41 = .ok (.newarray .int, 2) := by decide +kernel
theorem dX5_init_43 : decode cX5_init 43 = .ok (.putfield 30, 3) := by decide +kernel
theorem dX5_init_46 : decode cX5_init 46 = .ok (.return_, 1) := by decide +kernel
abbrev mX4_init : ae_M := (RX4, cX4_init, 4, none)
theorem iy_X4_init : uc_IY yX4_init mX4_init 3 := ⟨ww_254, ww_12, ww_255, rfl, rfl, ⟨by decide, by decide, by decide +kernel⟩, by decide⟩
theorem dX4_init_0 : decode cX4_init 0 = .ok (.aload_n 0, 1) := by decide +kernel
theorem dX4_init_1 : decode cX4_init 1 = .ok (.invokespecial 3, 3) := by decide +kernel
theorem dX4_init_4 : decode cX4_init 4 = .ok (.aload_n 0, 1) := by decide +kernel
theorem dX4_init_5 : decode cX4_init 5 = .ok (.aload_n 1, 1) := by decide +kernel
theorem dX4_init_6 : decode cX4_init 6 = .ok (.putfield 9, 3) := by decide +kernel
theorem dX4_init_9 : decode cX4_init 9 = .ok (.aload_n 0, 1) := by decide +kernel
theorem dX4_init_10 : decode cX4_init 10 = .ok (.aload_n 2, 1) := by decide +kernel
theorem dX4_init_11 : decode cX4_init 11 = .ok (.putfield 15, 3) := by decide +kernel
theorem dX4_init_14 : decode cX4_init 14 = .ok (.aload_n 0, 1) := by decide +kernel
theorem dX4_init_15 : decode cX4_init 15 = .ok (.aload_n 3, 1) := by decide +kernel
theorem dX4_init_16 : decode cX4_init 16 = .ok (.putfield 19, 3) := by decide +kernel
theorem dX4_init_19 : decode cX4_init 19 = .ok (.aload_n 0, 1) := by decide +kernel
theorem dX4_init_20 : decode cX4_init 20 = .ok (.sipush 252, 3) := by decide +kernel
theorem dX4_init_23 : decode cX4_init 23 = .ok (.newarray .long, 2) := by decide +kernel
theorem dX4_init_25 : decode cX4_init 25 = .ok (.putfield 23, 3) := by decide +kernel
theorem dX4_init_28 : decode cX4_init 28 = .ok (.aload_n 0, 1) := by decide +kernel
theorem dX4_init_29 : decode cX4_init 29 = .ok (.sipush 252, 3) := by decide +kernel
theorem dX4_init_32 : decode cX4_init 32 = .ok (.newarray .boolean, 2) := by decide +kernel
theorem dX4_init_34 : decode cX4_init 34 = .ok (.putfield 27, 3) := by decide +kernel
theorem dX4_init_37 : decode cX4_init 37 = .ok (.aload_n 0, 1) := by decide +kernel
theorem dX4_init_38 : decode cX4_init 38 = .ok (.bipush 6, 2) := by decide +kernel
theorem dX4_init_40 : decode cX4_init 40 = .ok (.sipush 256, 3) := by decide +kernel
theorem dX4_init_43 : decode cX4_init 43 = .ok (.multianewarray 31 2, 4) := by decide +kernel
theorem dX4_init_47 : decode cX4_init 47 = .ok (.putfield 33, 3) := by decide +kernel
theorem dX4_init_50 : decode cX4_init 50 = .ok (.aload_n 0, 1) := by decide +kernel
theorem dX4_init_51 : decode cX4_init 51 = .ok (.bipush 6, 2) := by decide +kernel
theorem dX4_init_53 : decode cX4_init 53 = .ok (.newarray .int, 2) := by decide +kernel
theorem dX4_init_55 : decode cX4_init 55 = .ok (.putfield 36, 3) := by decide +kernel
theorem dX4_init_58 : decode cX4_init 58 = .ok (.aload_n 0, 1) := by decide +kernel
theorem dX4_init_59 : decode cX4_init 59 = .ok (.bipush 6, 2) := by decide +kernel
theorem dX4_init_61 : decode cX4_init 61 = .ok (.newarray .int, 2) := by decide +kernel
theorem dX4_init_63 : decode cX4_init 63 = .ok (.putfield 40, 3) := by decide +kernel
theorem dX4_init_66 : decode cX4_init 66 = .ok (.aload_n 0, 1) := by decide +kernel
theorem dX4_init_67 : decode cX4_init 67 = .ok (.bipush 20, 2) := by decide +kernel
theorem dX4_init_69 : decode cX4_init 69 = .ok (.newarray .int, 2) := by decide +kernel
theorem dX4_init_71 : decode cX4_init 71 = .ok (.putfield 43, 3) := by decide +kernel
theorem dX4_init_74 : decode cX4_init 74 = .ok (.return_, 1) := by decide +kernel
abbrev mX12_init : ae_M := (RX12, cX12_init, 1, none)
theorem iy_X12_init : uc_IY yX12_init mX12_init 0 := ⟨ww_1295, ww_13, ww_1296, rfl, rfl, ⟨by decide, by decide, by decide +kernel⟩, by decide⟩
theorem dX12_init_0 : decode cX12_init 0 = .ok (.aload_n 0, 1) := by decide +kernel
theorem dX12_init_1 : decode cX12_init 1 = .ok (.invokespecial 3, 3) := by decide +kernel
theorem dX12_init_4 : decode cX12_init 4 = .ok (.aload_n 0, 1) := by decide +kernel
theorem dX12_init_5 : decode cX12_init 5 = .ok (.sipush 256, 3) := by decide +kernel
theorem dX12_init_8 : decode cX12_init 8 = .ok (.newarray .int, 2) := by decide +kernel
theorem dX12_init_10 : decode cX12_init 10 = .ok (.putfield 9, 3) := by decide +kernel
theorem dX12_init_13 : decode cX12_init 13 = .ok (.aload_n 0, 1) := by decide +kernel
theorem dX12_init_14 : decode cX12_init 14 = .ok (.sipush 256, 3) := by decide +kernel
theorem dX12_init_17 : decode cX12_init 17 = .ok (.newarray .int, 2) := by decide +kernel
theorem dX12_init_19 : decode cX12_init 19 = .ok (.putfield 15, 3) := by decide +kernel
theorem dX12_init_22 : decode cX12_init 22 = .ok (.aload_n 0, 1) := by decide +kernel
theorem dX12_init_23 : decode cX12_init 23 = .ok (.sipush 256, 3) := by decide +kernel
theorem dX12_init_26 : decode cX12_init 26 = .ok (.newarray .boolean, 2) := by decide +kernel
theorem dX12_init_28 : decode cX12_init 28 = .ok (.putfield 18, 3) := by decide +kernel
theorem dX12_init_31 : decode cX12_init 31 = .ok (.aload_n 0, 1) := by decide +kernel
theorem dX12_init_32 : decode cX12_init 32 = .ok (.sipush 2048, 3) := by decide +kernel
theorem dX12_init_35 : decode cX12_init 35 = .ok (.newarray .int, 2) := by decide +kernel
theorem dX12_init_37 : decode cX12_init 37 = .ok (.putfield 22, 3) := by decide +kernel
theorem dX12_init_40 : decode cX12_init 40 = .ok (.aload_n 0, 1) := by decide +kernel
theorem dX12_init_41 : decode cX12_init 41 = .ok (.bipush 32, 2) := by decide +kernel
theorem dX12_init_43 : decode cX12_init 43 = .ok (.newarray .long, 2) := by decide +kernel
theorem dX12_init_45 : decode cX12_init 45 = .ok (.putfield 25, 3) := by decide +kernel
theorem dX12_init_48 : decode cX12_init 48 = .ok (.aload_n 0, 1) := by decide +kernel
theorem dX12_init_49 : decode cX12_init 49 = .ok (.bipush 32, 2) := by decide +kernel
theorem dX12_init_51 : decode cX12_init 51 = .ok (.newarray .int, 2) := by decide +kernel
theorem dX12_init_53 : decode cX12_init 53 = .ok (.putfield 29, 3) := by decide +kernel
theorem dX12_init_56 : decode cX12_init 56 = .ok (.aload_n 0, 1) := by decide +kernel
theorem dX12_init_57 : decode cX12_init 57 = .ok (.bipush 32, 2) := by decide +kernel
theorem dX12_init_59 : decode cX12_init 59 = .ok (.newarray .int, 2) := by decide +kernel
theorem dX12_init_61 : decode cX12_init 61 = .ok (.putfield 32, 3) := by decide +kernel
theorem dX12_init_64 : decode cX12_init 64 = .ok (.aload_n 0, 1) := by decide +kernel
theorem dX12_init_65 : decode cX12_init 65 = .ok (.bipush 32, 2) := by decide +kernel
theorem dX12_init_67 : decode cX12_init 67 = .ok (.newarray .int, 2) := by decide +kernel
theorem dX12_init_69 : decode cX12_init 69 = .ok (.putfield 35, 3) := by decide +kernel
theorem dX12_init_72 : decode cX12_init 72 = .ok (.aload_n 0, 1) := by decide +kernel
theorem dX12_init_73 : decode cX12_init 73 = .ok (.bipush 32, 2) := by decide +kernel
theorem dX12_init_75 : decode cX12_init 75 = .ok (.newarray .int, 2) := by decide +kernel
theorem dX12_init_77 : decode cX12_init 77 = .ok (.putfield 38, 3) := by decide +kernel
theorem dX12_init_80 : decode cX12_init 80 = .ok (.aload_n 0, 1) := by decide +kernel
theorem dX12_init_81 : decode cX12_init 81 = .ok (.bipush 32, 2) := by decide +kernel
theorem dX12_init_83 : decode cX12_init 83 = .ok (.newarray .int, 2) := by decide +kernel
theorem dX12_init_85 : decode cX12_init 85 = .ok (.putfield 41, 3) := by decide +kernel
theorem dX12_init_88 : decode cX12_init 88 = .ok (.aload_n 0, 1) := by decide +kernel
theorem dX12_init_89 : decode cX12_init 89 = .ok (.bipush 32, 2) := by decide +kernel
theorem dX12_init_91 : decode cX12_init 91 = .ok (.newarray .int, 2) := by decide +kernel
theorem dX12_init_93 : decode cX12_init 93 = .ok (.putfield 44, 3) := by decide +kernel
theorem dX12_init_96 : decode cX12_init 96 = .ok (.aload_n 0, 1) := by decide +kernel
theorem dX12_init_97 : decode cX12_init 97 = .ok (.bipush 32, 2) := by decide +kernel
theorem dX12_init_99 : decode cX12_init 99 = .ok (.newarray .int, 2) := by decide +kernel
theorem dX12_init_101 : decode cX12_init 101 = .ok (.putfield 47, 3) := by decide +kernel
theorem dX12_init_104 : decode cX12_init 104 = .ok (.aload_n 0, 1) := by decide +kernel
theorem dX12_init_105 : decode cX12_init 105 = .ok (.sipush 256, 3) := by decide +kernel
theorem dX12_init_108 : decode cX12_init 108 = .ok (.newarray .long, 2) := by decide +kernel
theorem dX12_init_110 : decode cX12_init 110 = .ok (.putfield 50, 3) := by decide +kernel
theorem dX12_init_113 : decode cX12_init 113 = .ok (.aload_n 0, 1) := by decide +kernel
theorem dX12_init_114 : decode cX12_init 114 = .ok (.sipush 256, 3) := by decide +kernel
theorem dX12_init_117 : decode cX12_init 117 = .ok (.newarray .int, 2) := by decide +kernel
theorem dX12_init_119 : decode cX12_init 119 = .ok (.putfield 53, 3) := by decide +kernel
theorem dX12_init_122 : decode cX12_init 122 = .ok (.aload_n 0, 1) := by decide +kernel
theorem dX12_init_123 : decode cX12_init 123 = .ok (.sipush 256, 3) := by decide +kernel
theorem dX12_init_126 : decode cX12_init 126 = .ok (.newarray .int, 2) := by decide +kernel
theorem dX12_init_128 : decode cX12_init 128 = .ok (.putfield 56, 3) := by decide +kernel
theorem dX12_init_131 : decode cX12_init 131 = .ok (.aload_n 0, 1) := by decide +kernel
theorem dX12_init_132 : decode cX12_init 132 = .ok (.sipush 500, 3) := by decide +kernel
theorem dX12_init_135 : decode cX12_init 135 = .ok (.newarray .int, 2) := by decide +kernel
theorem dX12_init_137 : decode cX12_init 137 = .ok (.putfield 59, 3) := by decide +kernel
theorem dX12_init_140 : decode cX12_init 140 = .ok (.aload_n 0, 1) := by decide +kernel
theorem dX12_init_141 : decode cX12_init 141 = .ok (.iconst (-1), 1) := by decide +kernel
theorem dX12_init_142 : decode cX12_init 142 = .ok (.putfield 62, 3) := by decide +kernel
theorem dX12_init_145 : decode cX12_init 145 = .ok (.aload_n 0, 1) := by decide +kernel
theorem dX12_init_146 : decode cX12_init 146 = .ok (.sipush 600, 3) := by decide +kernel
theorem dX12_init_149 : decode cX12_init 149 = .ok (.newarray .int, 2) := by decide +kernel
theorem dX12_init_151 : decode cX12_init 151 = .ok (.putfield 66, 3) := by decide +kernel
theorem dX12_init_154 : decode cX12_init 154 = .ok (.aload_n 0, 1) := by decide +kernel
theorem dX12_init_155 : decode cX12_init 155 = .ok (.sipush 600, 3) := by decide +kernel
theorem dX12_init_158 : decode cX12_init 158 = .ok (.newarray .int, 2) := by decide +kernel
theorem dX12_init_160 : decode cX12_init 160 = .ok (.putfield 69, 3) := by decide +kernel
theorem dX12_init_163 : decode cX12_init 163 = .ok (.aload_n 0, 1) := by decide +kernel
theorem dX12_init_164 : decode cX12_init 164 = .ok (.sipush 600, 3) := by decide +kernel
theorem dX12_init_167 : decode cX12_init 167 = .ok (.newarray .int, 2) := by decide +kernel
theorem dX12_init_169 : decode cX12_init 169 = .ok (.putfield 72, 3) := by decide +kernel
theorem dX12_init_172 : decode cX12_init 172 = .ok (.aload_n 0, 1) := by decide +kernel
theorem dX12_init_173 : decode cX12_init 173 = .ok (.sipush 600, 3) := by decide +kernel
theorem dX12_init_176 : decode cX12_init 176 = .ok (.newarray .int, 2) := by decide +kernel
theorem dX12_init_178 : decode cX12_init 178 = .ok (.putfield 75, 3) := by decide +kernel
theorem dX12_init_181 : decode cX12_init 181 = .ok (.aload_n 0, 1) := by decide +kernel
theorem dX12_init_182 : decode cX12_init 182 = .ok (.sipush 600, 3) := by decide +kernel
theorem dX12_init_185 : decode cX12_init 185 = .ok (.newarray .long, 2) := by decide +kernel
theorem dX12_init_187 : decode cX12_init 187 = .ok (.putfield 78, 3) := by decide +kernel
theorem dX12_init_190 : decode cX12_init 190 = .ok (.aload_n 0, 1) := by decide +kernel
theorem dX12_init_191 : decode cX12_init 191 = .ok (.sipush 600, 3) := by decide +kernel
theorem dX12_init_194 : decode cX12_init 194 = .ok (.newarray .double, 2) := by decide +kernel
theorem dX12_init_196 : decode cX12_init 196 = .ok (.putfield 81, 3) := by decide +kernel
theorem dX12_init_199 : decode cX12_init 199 = .ok (.aload_n 0, 1) := by decide +kernel
theorem dX12_init_200 : decode cX12_init 200 = .ok (.bipush 20, 2) := by decide +kernel
theorem dX12_init_202 : decode cX12_init 202 = .ok (.newarray .int, 2) := by decide +kernel
theorem dX12_init_204 : decode cX12_init 204 = .ok (.putfield 85, 3) := by decide +kernel
theorem dX12_init_207 : decode cX12_init 207 = .ok (.aload_n 0, 1) := by decide +kernel
theorem dX12_init_208 : decode cX12_init 208 = .ok (.sipush 1792, 3) := by decide +kernel
theorem dX12_init_211 : decode cX12_init 211 = .ok (.newarray .int, 2) := by decide +kernel
theorem dX12_init_213 : decode cX12_init 213 = .ok (.putfield 88, 3) := by decide +kernel
theorem dX12_init_216 : decode cX12_init 216 = .ok (.aload_n 0, 1) := by decide +kernel
theorem dX12_init_217 : decode cX12_init 217 = .ok (.bipush 64, 2) := by decide +kernel
theorem dX12_init_219 : decode cX12_init 219 = .ok (.newarray .long, 2) := by decide +kernel
theorem dX12_init_221 : decode cX12_init 221 = .ok (.putfield 91, 3) := by decide +kernel
theorem dX12_init_224 : decode cX12_init 224 = .ok (.aload_n 0, 1) := by decide +kernel
theorem dX12_init_225 : decode cX12_init 225 = .ok (.bipush 64, 2) := by decide +kernel
theorem dX12_init_227 : decode cX12_init 227 = .ok (.newarray .double, 2) := by decide +kernel
theorem dX12_init_229 : decode cX12_init 229 = .ok (.putfield 94, 3) := by decide +kernel
theorem dX12_init_232 : decode cX12_init 232 = .ok (.aload_n 0, 1) := by decide +kernel
theorem dX12_init_233 : decode cX12_init 233 = .ok (.sipush 600, 3) := by decide +kernel
theorem dX12_init_236 : decode cX12_init 236 = .ok (.newarray .int, 2) := by decide +kernel
theorem dX12_init_238 : decode cX12_init 238 = .ok (.putfield 97, 3) := by decide +kernel
theorem dX12_init_241 : decode cX12_init 241 = .ok (.aload_n 0, 1) := by decide +kernel
theorem dX12_init_242 : decode cX12_init 242 = .ok (.bipush 64, 2) := by decide +kernel
theorem dX12_init_244 : decode cX12_init 244 = .ok (.putfield 100, 3) := by decide +kernel
theorem dX12_init_247 : decode cX12_init 247 = .ok (.return_, 1) := by decide +kernel
theorem uc_hd {l : Launch} {D : va_G} {gc : FieldType → ClassId} {b u8 d MC MS : Nat} {M : ae_M} {Pw : va_W → Prop} {pc : Nat} {lv : List (Nat × Value)} {st : List Value} {x x' : Nat × va_E} {ws : va_W} {cells slots : Nat} (h : x = x') (k : uc_T l D gc b u8 d MC MS M Pw pc lv st (x' :: ws) cells slots) : uc_T l D gc b u8 d MC MS M Pw pc lv st (x :: ws) cells slots := h ▸ k
theorem uc_ap {α : Type} (x : α) (ws a b : List α) : (x :: (ws ++ a)) ++ b = x :: (ws ++ (a ++ b)) := by rw [List.cons_append, List.append_assoc]
def kp_X7 (gc : FieldType → ClassId) (u8 h0 : Nat) (ws : va_W) (N : Nat) (w : va_W) : Prop := ∃ (q1 : Nat), w = (h0, .inr (5, [.ref q1, .int 0])) :: (ws ++ [(q1, .inl (gc .int, N, .inl (fun _ => 0)))])
theorem k_X7_init {l : Launch} {D : va_G} {gc : FieldType → ClassId} {b u8 h0 : Nat} {ws : va_W} {n : Int32} {N : Nat} (d : Nat) (hn : ¬ n < 0) (hN : n.toNatClampNeg = N) (hb : N * 4 ≤ 536870912) : uc_M l D gc b u8 yX7_init mX7_init [.ref h0, .int n] ((h0, .inr (5, [.null, .int 0])) :: ws) (kp_X7 gc u8 h0 ws N) (d + 1) 1 N := by
  refine uc_enter rfl rfl rfl rfl (show (2 : Nat) ≤ 2 by decide) ?_
  refine uc_nw (ws' := (h0, .inr (5, [.null, .int 0])) :: (ws ++ [])) (by rw [List.append_nil]) ?_
  refine uc_aload_n 0 dX7_init_0 rfl ?_
  refine uc_objInit dX7_init_1 ww_38 ww_31 ww_32 (by omega) (show (0 : Nat) ≤ 8 by decide) ?_
  refine uc_aload_n 0 dX7_init_4 rfl ?_
  refine uc_iload_n 1 dX7_init_5 rfl ?_
  refine uc_newa (ty := .int) N (N, .inl (fun _ => 0)) dX7_init_6 rfl ww_46 (by simp [ae_at]) (fun _ h => by cases h) (fun _ => rfl) hn hN hb (by decide) (show _ ≤ _ by omega) (fun q1 => ?_)
  refine uc_nw (uc_ap _ _ _ _) ?_
  refine uc_putF (k0 := 0) dX7_init_8 fk_RX7_9 (fun C T N h => by cases h; rfl) rfl rfl rfl (show (0 : Nat) < 2 by decide) ?_
  exact uc_vret dX7_init_11 rfl (by omega) ⟨q1, rfl⟩
def kp_X0 (gc : FieldType → ClassId) (u8 h0 : Nat) (ws : va_W) (w : va_W) : Prop := ∃ (q1 : Nat) (q2 : Nat) (q3 : Nat) (r3 : Nat → Nat), w = (h0, .inr (0, [.ref q1, .ref q2, .ref q3, .int (64), .int 0, .int 0])) :: (ws ++ [(q1, .inl (gc .int, 256, .inl (fun _ => 0))), (q2, .inl (gc .int, 256, .inl (fun _ => 0))), (q3, .inl (gc (.array .int), 8, .inr (.inr (.inr (.inr (fun i => if i < 8 then some (r3 i) else none)))))), (r3 0, .inl (gc .int, 256, .inl (fun _ => 0))), (r3 1, .inl (gc .int, 256, .inl (fun _ => 0))), (r3 2, .inl (gc .int, 256, .inl (fun _ => 0))), (r3 3, .inl (gc .int, 256, .inl (fun _ => 0))), (r3 4, .inl (gc .int, 256, .inl (fun _ => 0))), (r3 5, .inl (gc .int, 256, .inl (fun _ => 0))), (r3 6, .inl (gc .int, 256, .inl (fun _ => 0))), (r3 7, .inl (gc .int, 256, .inl (fun _ => 0)))])
theorem k_X0_init {l : Launch} {D : va_G} {gc : FieldType → ClassId} {b u8 h0 : Nat} {ws : va_W} (d : Nat) : uc_M l D gc b u8 yX0_init mX0_init [.ref h0] ((h0, .inr (0, [.null, .null, .null, .int 0, .int 0, .int 0])) :: ws) (kp_X0 gc u8 h0 ws) (d + 1) 11 2568 := by
  refine uc_enter rfl rfl rfl rfl (show (1 : Nat) ≤ 1 by decide) ?_
  refine uc_nw (ws' := (h0, .inr (0, [.null, .null, .null, .int 0, .int 0, .int 0])) :: (ws ++ [])) (by rw [List.append_nil]) ?_
  refine uc_aload_n 0 dX0_init_0 rfl ?_
  refine uc_objInit dX0_init_1 ww_52 ww_31 ww_32 (by omega) (show (0 : Nat) ≤ 8 by decide) ?_
  refine uc_aload_n 0 dX0_init_4 rfl ?_
  refine uc_sipush (256) dX0_init_5 (by decide) ?_
  refine uc_newa (ty := .int) 256 (256, .inl (fun _ => 0)) dX0_init_8 rfl ww_46 (by simp [ae_at]) (fun _ h => by cases h) (fun _ => rfl) (by decide) (by decide +kernel) (by decide) (by decide) (by decide) (fun q1 => ?_)
  refine uc_nw (uc_ap _ _ _ _) ?_
  refine uc_putF (k0 := 0) dX0_init_10 fk_RX0_9 (fun C T N h => by cases h; rfl) rfl rfl rfl (show (0 : Nat) < 6 by decide) ?_
  refine uc_aload_n 0 dX0_init_13 rfl ?_
  refine uc_sipush (256) dX0_init_14 (by decide) ?_
  refine uc_newa (ty := .int) 256 (256, .inl (fun _ => 0)) dX0_init_17 rfl ww_46 (by simp [ae_at]) (fun _ h => by cases h) (fun _ => rfl) (by decide) (by decide +kernel) (by decide) (by decide) (by decide) (fun q2 => ?_)
  refine uc_nw (uc_ap _ _ _ _) ?_
  refine uc_putF (k0 := 0) dX0_init_19 fk_RX0_15 (fun C T N h => by cases h; rfl) rfl rfl rfl (show (1 : Nat) < 6 by decide) ?_
  refine uc_aload_n 0 dX0_init_22 rfl ?_
  refine uc_bipush (8) dX0_init_23 (by decide) ?_
  refine uc_sipush (256) dX0_init_25 (by decide) ?_
  refine uc_mna 8 256 dX0_init_28 ww_53 ww_46 (by decide) (by decide) (by decide +kernel) (by decide +kernel) (by decide) (by decide) (by decide) (by decide) (fun q3 r3 => ?_)
  refine uc_nw (uc_ap _ _ _ _) ?_
  refine uc_putF (k0 := 0) dX0_init_32 fk_RX0_20 (fun C T N h => by cases h; rfl) rfl rfl rfl (show (2 : Nat) < 6 by decide) ?_
  refine uc_aload_n 0 dX0_init_35 rfl ?_
  refine uc_bipush (64) dX0_init_36 (by decide) ?_
  refine uc_put (k0 := 0) dX0_init_38 fk_RX0_23 rfl rfl rfl (show (3 : Nat) < 6 by decide) ?_
  exact uc_vret dX0_init_41 rfl rfl ⟨q1, q2, q3, r3, rfl⟩
def kp_X9 (gc : FieldType → ClassId) (u8 h0 : Nat) (ws : va_W) (w : va_W) : Prop := ∃ (q1 : Nat) (q2 : Nat) (q3 : Nat), w = (h0, .inr (7, [.ref q1, .ref q2, .ref q3, .long 0, .ref u8, .int 0, .int 0, .int 0, .int 0, .int 0, .int 0])) :: (ws ++ [(q1, .inl (gc .long, 8, .inr (.inl (fun _ => 0)))), (q2, .inl (gc .int, 8, .inl (fun _ => 0))), (q3, .inl (gc .int, 8, .inl (fun _ => 0)))])
theorem k_X9_init {l : Launch} {D : va_G} {gc : FieldType → ClassId} {b u8 h0 : Nat} {ws : va_W} (d : Nat) : uc_M l D gc b u8 yX9_init mX9_init [.ref h0] ((h0, .inr (7, [.null, .null, .null, .long 0, .null, .int 0, .int 0, .int 0, .int 0, .int 0, .int 0])) :: ws) (kp_X9 gc u8 h0 ws) (d + 1) 3 24 := by
  refine uc_enter rfl rfl rfl rfl (show (1 : Nat) ≤ 1 by decide) ?_
  refine uc_nw (ws' := (h0, .inr (7, [.null, .null, .null, .long 0, .null, .int 0, .int 0, .int 0, .int 0, .int 0, .int 0])) :: (ws ++ [])) (by rw [List.append_nil]) ?_
  refine uc_aload_n 0 dX9_init_0 rfl ?_
  refine uc_objInit dX9_init_1 ww_86 ww_31 ww_32 (by omega) (show (0 : Nat) ≤ 8 by decide) ?_
  refine uc_aload_n 0 dX9_init_4 rfl ?_
  refine uc_bipush (8) dX9_init_5 (by decide) ?_
  refine uc_newa (ty := .long) 8 (8, .inr (.inl (fun _ => 0))) dX9_init_7 rfl ww_137 (by simp [ae_at]) (fun _ h => by cases h) (fun _ => rfl) (by decide) (by decide +kernel) (by decide) (by decide) (by decide) (fun q1 => ?_)
  refine uc_nw (uc_ap _ _ _ _) ?_
  refine uc_putF (k0 := 0) dX9_init_9 fk_RX9_9 (fun C T N h => by cases h; rfl) rfl rfl rfl (show (0 : Nat) < 11 by decide) ?_
  refine uc_aload_n 0 dX9_init_12 rfl ?_
  refine uc_bipush (8) dX9_init_13 (by decide) ?_
  refine uc_newa (ty := .int) 8 (8, .inl (fun _ => 0)) dX9_init_15 rfl ww_46 (by simp [ae_at]) (fun _ h => by cases h) (fun _ => rfl) (by decide) (by decide +kernel) (by decide) (by decide) (by decide) (fun q2 => ?_)
  refine uc_nw (uc_ap _ _ _ _) ?_
  refine uc_putF (k0 := 0) dX9_init_17 fk_RX9_15 (fun C T N h => by cases h; rfl) rfl rfl rfl (show (1 : Nat) < 11 by decide) ?_
  refine uc_aload_n 0 dX9_init_20 rfl ?_
  refine uc_bipush (8) dX9_init_21 (by decide) ?_
  refine uc_newa (ty := .int) 8 (8, .inl (fun _ => 0)) dX9_init_23 rfl ww_46 (by simp [ae_at]) (fun _ h => by cases h) (fun _ => rfl) (by decide) (by decide +kernel) (by decide) (by decide) (by decide) (fun q3 => ?_)
  refine uc_nw (uc_ap _ _ _ _) ?_
  refine uc_putF (k0 := 0) dX9_init_25 fk_RX9_19 (fun C T N h => by cases h; rfl) rfl rfl rfl (show (2 : Nat) < 11 by decide) ?_
  refine uc_aload_n 0 dX9_init_28 rfl ?_
  refine uc_getU8 dX9_init_29 ww_87 ?_
  refine uc_put (k0 := 0) dX9_init_32 fk_RX9_28 rfl rfl rfl (show (4 : Nat) < 11 by decide) ?_
  exact uc_vret dX9_init_35 rfl rfl ⟨q1, q2, q3, rfl⟩
def kp_X8 (gc : FieldType → ClassId) (u8 h0 : Nat) (ws : va_W) (x1 : Nat) (w : va_W) : Prop := ∃ (q1 : Nat) (q2 : Nat) (q3 : Nat) (q4 : Nat), w = (h0, .inr (6, [.ref x1, .ref q1, .ref q2, .ref q3, .ref q4, .int 0, .int 0, .int 0, .int (-1)])) :: (ws ++ [(q1, .inl (gc .int, 501, .inl (fun _ => 0))), (q2, .inl (gc .int, 501, .inl (fun _ => 0))), (q3, .inl (gc .int, 501, .inl (fun _ => 0))), (q4, .inl (gc .long, 501, .inr (.inl (fun _ => 0))))])
theorem k_X8_init {l : Launch} {D : va_G} {gc : FieldType → ClassId} {b u8 h0 : Nat} {ws : va_W} {x1 : Nat} (d : Nat) : uc_M l D gc b u8 yX8_init mX8_init [.ref h0, .ref x1] ((h0, .inr (6, [.null, .null, .null, .null, .null, .int 0, .int 0, .int 0, .int 0])) :: ws) (kp_X8 gc u8 h0 ws x1) (d + 1) 4 2004 := by
  refine uc_enter rfl rfl rfl rfl (show (2 : Nat) ≤ 2 by decide) ?_
  refine uc_nw (ws' := (h0, .inr (6, [.null, .null, .null, .null, .null, .int 0, .int 0, .int 0, .int 0])) :: (ws ++ [])) (by rw [List.append_nil]) ?_
  refine uc_aload_n 0 dX8_init_0 rfl ?_
  refine uc_objInit dX8_init_1 ww_156 ww_31 ww_32 (by omega) (show (0 : Nat) ≤ 8 by decide) ?_
  refine uc_aload_n 0 dX8_init_4 rfl ?_
  refine uc_aload_n 1 dX8_init_5 rfl ?_
  refine uc_putF (k0 := 0) dX8_init_6 fk_RX8_9 (fun C T N h => by cases h; rfl) rfl rfl rfl (show (0 : Nat) < 9 by decide) ?_
  refine uc_aload_n 0 dX8_init_9 rfl ?_
  refine uc_sipush (501) dX8_init_10 (by decide) ?_
  refine uc_newa (ty := .int) 501 (501, .inl (fun _ => 0)) dX8_init_13 rfl ww_46 (by simp [ae_at]) (fun _ h => by cases h) (fun _ => rfl) (by decide) (by decide +kernel) (by decide) (by decide) (by decide) (fun q1 => ?_)
  refine uc_nw (uc_ap _ _ _ _) ?_
  refine uc_putF (k0 := 0) dX8_init_15 fk_RX8_15 (fun C T N h => by cases h; rfl) rfl rfl rfl (show (1 : Nat) < 9 by decide) ?_
  refine uc_aload_n 0 dX8_init_18 rfl ?_
  refine uc_sipush (501) dX8_init_19 (by decide) ?_
  refine uc_newa (ty := .int) 501 (501, .inl (fun _ => 0)) dX8_init_22 rfl ww_46 (by simp [ae_at]) (fun _ h => by cases h) (fun _ => rfl) (by decide) (by decide +kernel) (by decide) (by decide) (by decide) (fun q2 => ?_)
  refine uc_nw (uc_ap _ _ _ _) ?_
  refine uc_putF (k0 := 0) dX8_init_24 fk_RX8_19 (fun C T N h => by cases h; rfl) rfl rfl rfl (show (2 : Nat) < 9 by decide) ?_
  refine uc_aload_n 0 dX8_init_27 rfl ?_
  refine uc_sipush (501) dX8_init_28 (by decide) ?_
  refine uc_newa (ty := .int) 501 (501, .inl (fun _ => 0)) dX8_init_31 rfl ww_46 (by simp [ae_at]) (fun _ h => by cases h) (fun _ => rfl) (by decide) (by decide +kernel) (by decide) (by decide) (by decide) (fun q3 => ?_)
  refine uc_nw (uc_ap _ _ _ _) ?_
  refine uc_putF (k0 := 0) dX8_init_33 fk_RX8_22 (fun C T N h => by cases h; rfl) rfl rfl rfl (show (3 : Nat) < 9 by decide) ?_
  refine uc_aload_n 0 dX8_init_36 rfl ?_
  refine uc_sipush (501) dX8_init_37 (by decide) ?_
  refine uc_newa (ty := .long) 501 (501, .inr (.inl (fun _ => 0))) dX8_init_40 rfl ww_137 (by simp [ae_at]) (fun _ h => by cases h) (fun _ => rfl) (by decide) (by decide +kernel) (by decide) (by decide) (by decide) (fun q4 => ?_)
  refine uc_nw (uc_ap _ _ _ _) ?_
  refine uc_putF (k0 := 0) dX8_init_42 fk_RX8_25 (fun C T N h => by cases h; rfl) rfl rfl rfl (show (4 : Nat) < 9 by decide) ?_
  refine uc_aload_n 0 dX8_init_45 rfl ?_
  refine uc_iconst (-1) dX8_init_46 (by decide) ?_
  refine uc_put (k0 := 0) dX8_init_47 fk_RX8_29 rfl rfl rfl (show (8 : Nat) < 9 by decide) ?_
  exact uc_vret dX8_init_50 rfl rfl ⟨q1, q2, q3, q4, rfl⟩
def kp_X1 (gc : FieldType → ClassId) (u8 h0 : Nat) (ws : va_W) (w : va_W) : Prop := ∃ (q1 : Nat) (q2 : Nat) (q3 : Nat), w = (h0, .inr (1, [.ref q1, .ref q2, .ref q3, .int 0])) :: (ws ++ [(q1, .inl (gc .int, 1002, .inl (fun _ => 0))), (q2, .inl (gc .long, 1002, .inr (.inl (fun _ => 0)))), (q3, .inl (gc .int, 1002, .inl (fun _ => 0)))])
theorem k_X1_init {l : Launch} {D : va_G} {gc : FieldType → ClassId} {b u8 h0 : Nat} {ws : va_W} (d : Nat) : uc_M l D gc b u8 yX1_init mX1_init [.ref h0] ((h0, .inr (1, [.null, .null, .null, .int 0])) :: ws) (kp_X1 gc u8 h0 ws) (d + 1) 3 3006 := by
  refine uc_enter rfl rfl rfl rfl (show (1 : Nat) ≤ 1 by decide) ?_
  refine uc_nw (ws' := (h0, .inr (1, [.null, .null, .null, .int 0])) :: (ws ++ [])) (by rw [List.append_nil]) ?_
  refine uc_aload_n 0 dX1_init_0 rfl ?_
  refine uc_objInit dX1_init_1 ww_190 ww_31 ww_32 (by omega) (show (0 : Nat) ≤ 8 by decide) ?_
  refine uc_aload_n 0 dX1_init_4 rfl ?_
  refine uc_sipush (1002) dX1_init_5 (by decide) ?_
  refine uc_newa (ty := .int) 1002 (1002, .inl (fun _ => 0)) dX1_init_8 rfl ww_46 (by simp [ae_at]) (fun _ h => by cases h) (fun _ => rfl) (by decide) (by decide +kernel) (by decide) (by decide) (by decide) (fun q1 => ?_)
  refine uc_nw (uc_ap _ _ _ _) ?_
  refine uc_putF (k0 := 0) dX1_init_10 fk_RX1_11 (fun C T N h => by cases h; rfl) rfl rfl rfl (show (0 : Nat) < 4 by decide) ?_
  refine uc_aload_n 0 dX1_init_13 rfl ?_
  refine uc_sipush (1002) dX1_init_14 (by decide) ?_
  refine uc_newa (ty := .long) 1002 (1002, .inr (.inl (fun _ => 0))) dX1_init_17 rfl ww_137 (by simp [ae_at]) (fun _ h => by cases h) (fun _ => rfl) (by decide) (by decide +kernel) (by decide) (by decide) (by decide) (fun q2 => ?_)
  refine uc_nw (uc_ap _ _ _ _) ?_
  refine uc_putF (k0 := 0) dX1_init_19 fk_RX1_15 (fun C T N h => by cases h; rfl) rfl rfl rfl (show (1 : Nat) < 4 by decide) ?_
  refine uc_aload_n 0 dX1_init_22 rfl ?_
  refine uc_sipush (1002) dX1_init_23 (by decide) ?_
  refine uc_newa (ty := .int) 1002 (1002, .inl (fun _ => 0)) dX1_init_26 rfl ww_46 (by simp [ae_at]) (fun _ h => by cases h) (fun _ => rfl) (by decide) (by decide +kernel) (by decide) (by decide) (by decide) (fun q3 => ?_)
  refine uc_nw (uc_ap _ _ _ _) ?_
  refine uc_putF (k0 := 0) dX1_init_28 fk_RX1_19 (fun C T N h => by cases h; rfl) rfl rfl rfl (show (2 : Nat) < 4 by decide) ?_
  exact uc_vret dX1_init_31 rfl rfl ⟨q1, q2, q3, rfl⟩
def kp_X10 (gc : FieldType → ClassId) (u8 h0 : Nat) (ws : va_W) (x1 : Nat) (x2 : Nat) (w : va_W) : Prop := w = (h0, .inr (8, [.ref x1, .ref x2])) :: (ws ++ [])
theorem k_X10_init {l : Launch} {D : va_G} {gc : FieldType → ClassId} {b u8 h0 : Nat} {ws : va_W} {x1 x2 : Nat} (d : Nat) : uc_M l D gc b u8 yX10_init mX10_init [.ref h0, .ref x1, .ref x2] ((h0, .inr (8, [.null, .null])) :: ws) (kp_X10 gc u8 h0 ws x1 x2) (d + 1) 0 0 := by
  refine uc_enter rfl rfl rfl rfl (show (3 : Nat) ≤ 3 by decide) ?_
  refine uc_nw (ws' := (h0, .inr (8, [.null, .null])) :: (ws ++ [])) (by rw [List.append_nil]) ?_
  refine uc_aload_n 0 dX10_init_0 rfl ?_
  refine uc_objInit dX10_init_1 ww_209 ww_31 ww_32 (by omega) (show (0 : Nat) ≤ 8 by decide) ?_
  refine uc_aload_n 0 dX10_init_4 rfl ?_
  refine uc_aload_n 1 dX10_init_5 rfl ?_
  refine uc_putF (k0 := 0) dX10_init_6 fk_RX10_9 (fun C T N h => by cases h; rfl) rfl rfl rfl (show (0 : Nat) < 2 by decide) ?_
  refine uc_aload_n 0 dX10_init_9 rfl ?_
  refine uc_aload_n 2 dX10_init_10 rfl ?_
  refine uc_putF (k0 := 0) dX10_init_11 fk_RX10_15 (fun C T N h => by cases h; rfl) rfl rfl rfl (show (1 : Nat) < 2 by decide) ?_
  exact uc_vret dX10_init_14 rfl rfl rfl
def kp_X5 (gc : FieldType → ClassId) (u8 h0 : Nat) (ws : va_W) (x1 : Nat) (x2 : Nat) (x3 : Nat) (w : va_W) : Prop := ∃ (q1 : Nat) (q2 : Nat) (q3 : Nat), w = (h0, .inr (3, [.ref x1, .ref x2, .ref x3, .ref q1, .ref q2, .ref q3, .int 0, .int 0, .int 0])) :: (ws ++ [(q1, .inl (gc .int, 501, .inl (fun _ => 0))), (q2, .inl (gc .int, 501, .inl (fun _ => 0))), (q3, .inl (gc .int, 501, .inl (fun _ => 0)))])
theorem k_X5_init {l : Launch} {D : va_G} {gc : FieldType → ClassId} {b u8 h0 : Nat} {ws : va_W} {x1 x2 x3 : Nat} (d : Nat) : uc_M l D gc b u8 yX5_init mX5_init [.ref h0, .ref x1, .ref x2, .ref x3] ((h0, .inr (3, [.null, .null, .null, .null, .null, .null, .int 0, .int 0, .int 0])) :: ws) (kp_X5 gc u8 h0 ws x1 x2 x3) (d + 1) 3 1503 := by
  refine uc_enter rfl rfl rfl rfl (show (4 : Nat) ≤ 4 by decide) ?_
  refine uc_nw (ws' := (h0, .inr (3, [.null, .null, .null, .null, .null, .null, .int 0, .int 0, .int 0])) :: (ws ++ [])) (by rw [List.append_nil]) ?_
  refine uc_aload_n 0 dX5_init_0 rfl ?_
  refine uc_objInit dX5_init_1 ww_222 ww_31 ww_32 (by omega) (show (0 : Nat) ≤ 8 by decide) ?_
  refine uc_aload_n 0 dX5_init_4 rfl ?_
  refine uc_aload_n 1 dX5_init_5 rfl ?_
  refine uc_putF (k0 := 0) dX5_init_6 fk_RX5_9 (fun C T N h => by cases h; rfl) rfl rfl rfl (show (0 : Nat) < 9 by decide) ?_
  refine uc_aload_n 0 dX5_init_9 rfl ?_
  refine uc_aload_n 2 dX5_init_10 rfl ?_
  refine uc_putF (k0 := 0) dX5_init_11 fk_RX5_15 (fun C T N h => by cases h; rfl) rfl rfl rfl (show (1 : Nat) < 9 by decide) ?_
  refine uc_aload_n 0 dX5_init_14 rfl ?_
  refine uc_aload_n 3 dX5_init_15 rfl ?_
  refine uc_putF (k0 := 0) dX5_init_16 fk_RX5_19 (fun C T N h => by cases h; rfl) rfl rfl rfl (show (2 : Nat) < 9 by decide) ?_
  refine uc_aload_n 0 dX5_init_19 rfl ?_
  refine uc_sipush (501) dX5_init_20 (by decide) ?_
  refine uc_newa (ty := .int) 501 (501, .inl (fun _ => 0)) dX5_init_23 rfl ww_46 (by simp [ae_at]) (fun _ h => by cases h) (fun _ => rfl) (by decide) (by decide +kernel) (by decide) (by decide) (by decide) (fun q1 => ?_)
  refine uc_nw (uc_ap _ _ _ _) ?_
  refine uc_putF (k0 := 0) dX5_init_25 fk_RX5_23 (fun C T N h => by cases h; rfl) rfl rfl rfl (show (3 : Nat) < 9 by decide) ?_
  refine uc_aload_n 0 dX5_init_28 rfl ?_
  refine uc_sipush (501) dX5_init_29 (by decide) ?_
  refine uc_newa (ty := .int) 501 (501, .inl (fun _ => 0)) dX5_init_32 rfl ww_46 (by simp [ae_at]) (fun _ h => by cases h) (fun _ => rfl) (by decide) (by decide +kernel) (by decide) (by decide) (by decide) (fun q2 => ?_)
  refine uc_nw (uc_ap _ _ _ _) ?_
  refine uc_putF (k0 := 0) dX5_init_34 fk_RX5_27 (fun C T N h => by cases h; rfl) rfl rfl rfl (show (4 : Nat) < 9 by decide) ?_
  refine uc_aload_n 0 dX5_init_37 rfl ?_
  refine uc_sipush (501) dX5_init_38 (by decide) ?_
  refine uc_newa (ty := .int) 501 (501, .inl (fun _ => 0)) dX5_init_41 rfl ww_46 (by simp [ae_at]) (fun _ h => by cases h) (fun _ => rfl) (by decide) (by decide +kernel) (by decide) (by decide) (by decide) (fun q3 => ?_)
  refine uc_nw (uc_ap _ _ _ _) ?_
  refine uc_putF (k0 := 0) dX5_init_43 fk_RX5_30 (fun C T N h => by cases h; rfl) rfl rfl rfl (show (5 : Nat) < 9 by decide) ?_
  exact uc_vret dX5_init_46 rfl rfl ⟨q1, q2, q3, rfl⟩
def kp_X4 (gc : FieldType → ClassId) (u8 h0 : Nat) (ws : va_W) (x1 : Nat) (x2 : Nat) (x3 : Nat) (w : va_W) : Prop := ∃ (q1 : Nat) (q2 : Nat) (q3 : Nat) (r3 : Nat → Nat) (q4 : Nat) (q5 : Nat) (q6 : Nat), w = (h0, .inr (2, [.ref x1, .ref x2, .ref x3, .ref q1, .ref q2, .ref q3, .ref q4, .ref q5, .ref q6, .int 0, .int 0, .int 0, .int 0, .int 0])) :: (ws ++ [(q1, .inl (gc .long, 252, .inr (.inl (fun _ => 0)))), (q2, .inl (gc .boolean, 252, .inl (fun _ => 0))), (q3, .inl (gc (.array .int), 6, .inr (.inr (.inr (.inr (fun i => if i < 6 then some (r3 i) else none)))))), (r3 0, .inl (gc .int, 256, .inl (fun _ => 0))), (r3 1, .inl (gc .int, 256, .inl (fun _ => 0))), (r3 2, .inl (gc .int, 256, .inl (fun _ => 0))), (r3 3, .inl (gc .int, 256, .inl (fun _ => 0))), (r3 4, .inl (gc .int, 256, .inl (fun _ => 0))), (r3 5, .inl (gc .int, 256, .inl (fun _ => 0))), (q4, .inl (gc .int, 6, .inl (fun _ => 0))), (q5, .inl (gc .int, 6, .inl (fun _ => 0))), (q6, .inl (gc .int, 20, .inl (fun _ => 0)))])
theorem k_X4_init {l : Launch} {D : va_G} {gc : FieldType → ClassId} {b u8 h0 : Nat} {ws : va_W} {x1 x2 x3 : Nat} (d : Nat) : uc_M l D gc b u8 yX4_init mX4_init [.ref h0, .ref x1, .ref x2, .ref x3] ((h0, .inr (2, [.null, .null, .null, .null, .null, .null, .null, .null, .null, .int 0, .int 0, .int 0, .int 0, .int 0])) :: ws) (kp_X4 gc u8 h0 ws x1 x2 x3) (d + 1) 12 2078 := by
  refine uc_enter rfl rfl rfl rfl (show (4 : Nat) ≤ 4 by decide) ?_
  refine uc_nw (ws' := (h0, .inr (2, [.null, .null, .null, .null, .null, .null, .null, .null, .null, .int 0, .int 0, .int 0, .int 0, .int 0])) :: (ws ++ [])) (by rw [List.append_nil]) ?_
  refine uc_aload_n 0 dX4_init_0 rfl ?_
  refine uc_objInit dX4_init_1 ww_256 ww_31 ww_32 (by omega) (show (0 : Nat) ≤ 8 by decide) ?_
  refine uc_aload_n 0 dX4_init_4 rfl ?_
  refine uc_aload_n 1 dX4_init_5 rfl ?_
  refine uc_putF (k0 := 0) dX4_init_6 fk_RX4_9 (fun C T N h => by cases h; rfl) rfl rfl rfl (show (0 : Nat) < 14 by decide) ?_
  refine uc_aload_n 0 dX4_init_9 rfl ?_
  refine uc_aload_n 2 dX4_init_10 rfl ?_
  refine uc_putF (k0 := 0) dX4_init_11 fk_RX4_15 (fun C T N h => by cases h; rfl) rfl rfl rfl (show (1 : Nat) < 14 by decide) ?_
  refine uc_aload_n 0 dX4_init_14 rfl ?_
  refine uc_aload_n 3 dX4_init_15 rfl ?_
  refine uc_putF (k0 := 0) dX4_init_16 fk_RX4_19 (fun C T N h => by cases h; rfl) rfl rfl rfl (show (2 : Nat) < 14 by decide) ?_
  refine uc_aload_n 0 dX4_init_19 rfl ?_
  refine uc_sipush (252) dX4_init_20 (by decide) ?_
  refine uc_newa (ty := .long) 252 (252, .inr (.inl (fun _ => 0))) dX4_init_23 rfl ww_137 (by simp [ae_at]) (fun _ h => by cases h) (fun _ => rfl) (by decide) (by decide +kernel) (by decide) (by decide) (by decide) (fun q1 => ?_)
  refine uc_nw (uc_ap _ _ _ _) ?_
  refine uc_putF (k0 := 0) dX4_init_25 fk_RX4_23 (fun C T N h => by cases h; rfl) rfl rfl rfl (show (3 : Nat) < 14 by decide) ?_
  refine uc_aload_n 0 dX4_init_28 rfl ?_
  refine uc_sipush (252) dX4_init_29 (by decide) ?_
  refine uc_newa (ty := .boolean) 252 (252, .inl (fun _ => 0)) dX4_init_32 rfl ww_301 (by simp [ae_at]) (fun _ h => by cases h) (fun _ => rfl) (by decide) (by decide +kernel) (by decide) (by decide) (by decide) (fun q2 => ?_)
  refine uc_nw (uc_ap _ _ _ _) ?_
  refine uc_putF (k0 := 0) dX4_init_34 fk_RX4_27 (fun C T N h => by cases h; rfl) rfl rfl rfl (show (4 : Nat) < 14 by decide) ?_
  refine uc_aload_n 0 dX4_init_37 rfl ?_
  refine uc_bipush (6) dX4_init_38 (by decide) ?_
  refine uc_sipush (256) dX4_init_40 (by decide) ?_
  refine uc_mna 6 256 dX4_init_43 ww_257 ww_46 (by decide) (by decide) (by decide +kernel) (by decide +kernel) (by decide) (by decide) (by decide) (by decide) (fun q3 r3 => ?_)
  refine uc_nw (uc_ap _ _ _ _) ?_
  refine uc_putF (k0 := 0) dX4_init_47 fk_RX4_33 (fun C T N h => by cases h; rfl) rfl rfl rfl (show (5 : Nat) < 14 by decide) ?_
  refine uc_aload_n 0 dX4_init_50 rfl ?_
  refine uc_bipush (6) dX4_init_51 (by decide) ?_
  refine uc_newa (ty := .int) 6 (6, .inl (fun _ => 0)) dX4_init_53 rfl ww_46 (by simp [ae_at]) (fun _ h => by cases h) (fun _ => rfl) (by decide) (by decide +kernel) (by decide) (by decide) (by decide) (fun q4 => ?_)
  refine uc_nw (uc_ap _ _ _ _) ?_
  refine uc_putF (k0 := 0) dX4_init_55 fk_RX4_36 (fun C T N h => by cases h; rfl) rfl rfl rfl (show (6 : Nat) < 14 by decide) ?_
  refine uc_aload_n 0 dX4_init_58 rfl ?_
  refine uc_bipush (6) dX4_init_59 (by decide) ?_
  refine uc_newa (ty := .int) 6 (6, .inl (fun _ => 0)) dX4_init_61 rfl ww_46 (by simp [ae_at]) (fun _ h => by cases h) (fun _ => rfl) (by decide) (by decide +kernel) (by decide) (by decide) (by decide) (fun q5 => ?_)
  refine uc_nw (uc_ap _ _ _ _) ?_
  refine uc_putF (k0 := 0) dX4_init_63 fk_RX4_40 (fun C T N h => by cases h; rfl) rfl rfl rfl (show (7 : Nat) < 14 by decide) ?_
  refine uc_aload_n 0 dX4_init_66 rfl ?_
  refine uc_bipush (20) dX4_init_67 (by decide) ?_
  refine uc_newa (ty := .int) 20 (20, .inl (fun _ => 0)) dX4_init_69 rfl ww_46 (by simp [ae_at]) (fun _ h => by cases h) (fun _ => rfl) (by decide) (by decide +kernel) (by decide) (by decide) (by decide) (fun q6 => ?_)
  refine uc_nw (uc_ap _ _ _ _) ?_
  refine uc_putF (k0 := 0) dX4_init_71 fk_RX4_43 (fun C T N h => by cases h; rfl) rfl rfl rfl (show (8 : Nat) < 14 by decide) ?_
  exact uc_vret dX4_init_74 rfl rfl ⟨q1, q2, q3, r3, q4, q5, q6, rfl⟩
def kp_X12 (gc : FieldType → ClassId) (u8 h0 : Nat) (ws : va_W) (w : va_W) : Prop := ∃ (q1 : Nat) (q2 : Nat) (q3 : Nat) (q4 : Nat) (q5 : Nat) (q6 : Nat) (q7 : Nat) (q8 : Nat) (q9 : Nat) (q10 : Nat) (q11 : Nat) (q12 : Nat) (q13 : Nat) (q14 : Nat) (q15 : Nat) (q16 : Nat) (q17 : Nat) (q18 : Nat) (q19 : Nat) (q20 : Nat) (q21 : Nat) (q22 : Nat) (q23 : Nat) (q24 : Nat) (q25 : Nat) (q26 : Nat) (q27 : Nat), w = (h0, .inr (10, [.int (64), .ref q1, .ref q2, .ref q3, .ref q4, .int 0, .ref q5, .ref q6, .ref q7, .ref q8, .ref q9, .ref q10, .ref q11, .ref q12, .ref q13, .ref q14, .ref q15, .int 0, .int 0, .ref q16, .int 0, .int 0, .int (-1), .int 0, .int 0, .int 0, .int 0, .int 0, .long 0, .long 0, .int 0, .int 0, .ref q17, .ref q18, .ref q19, .ref q20, .ref q21, .ref q22, .int 0, .int 0, .int 0, .int 0, .ref q23, .int 0, .ref q24, .int 0, .long 0, .double 0, .ref q25, .ref q26, .ref q27, .int 0])) :: (ws ++ [(q1, .inl (gc .int, 256, .inl (fun _ => 0))), (q2, .inl (gc .int, 256, .inl (fun _ => 0))), (q3, .inl (gc .boolean, 256, .inl (fun _ => 0))), (q4, .inl (gc .int, 2048, .inl (fun _ => 0))), (q5, .inl (gc .long, 32, .inr (.inl (fun _ => 0)))), (q6, .inl (gc .int, 32, .inl (fun _ => 0))), (q7, .inl (gc .int, 32, .inl (fun _ => 0))), (q8, .inl (gc .int, 32, .inl (fun _ => 0))), (q9, .inl (gc .int, 32, .inl (fun _ => 0))), (q10, .inl (gc .int, 32, .inl (fun _ => 0))), (q11, .inl (gc .int, 32, .inl (fun _ => 0))), (q12, .inl (gc .int, 32, .inl (fun _ => 0))), (q13, .inl (gc .long, 256, .inr (.inl (fun _ => 0)))), (q14, .inl (gc .int, 256, .inl (fun _ => 0))), (q15, .inl (gc .int, 256, .inl (fun _ => 0))), (q16, .inl (gc .int, 500, .inl (fun _ => 0))), (q17, .inl (gc .int, 600, .inl (fun _ => 0))), (q18, .inl (gc .int, 600, .inl (fun _ => 0))), (q19, .inl (gc .int, 600, .inl (fun _ => 0))), (q20, .inl (gc .int, 600, .inl (fun _ => 0))), (q21, .inl (gc .long, 600, .inr (.inl (fun _ => 0)))), (q22, .inl (gc .double, 600, .inr (.inr (.inr (.inl (fun _ => 0)))))), (q23, .inl (gc .int, 20, .inl (fun _ => 0))), (q24, .inl (gc .int, 1792, .inl (fun _ => 0))), (q25, .inl (gc .long, 64, .inr (.inl (fun _ => 0)))), (q26, .inl (gc .double, 64, .inr (.inr (.inr (.inl (fun _ => 0)))))), (q27, .inl (gc .int, 600, .inl (fun _ => 0)))])
theorem kt_X12_5 {l : Launch} {D : va_G} {gc : FieldType → ClassId} {b u8 h0 : Nat} {ws : va_W} (d : Nat) {q1 : Nat} {q2 : Nat} {q3 : Nat} {q4 : Nat} {q5 : Nat} {q6 : Nat} {q7 : Nat} {q8 : Nat} {q9 : Nat} {q10 : Nat} {q11 : Nat} {q12 : Nat} {q13 : Nat} {q14 : Nat} {q15 : Nat} {q16 : Nat} {q17 : Nat} {q18 : Nat} {q19 : Nat} {q20 : Nat} {q21 : Nat} {q22 : Nat} {q23 : Nat} {q24 : Nat} : uc_T l D gc b u8 (d + 1) 27 10480 mX12_init (kp_X12 gc u8 h0 ws) 216 (lv_args 0 [.ref h0]) [] ((h0, .inr (10, [.int 0, .ref q1, .ref q2, .ref q3, .ref q4, .int 0, .ref q5, .ref q6, .ref q7, .ref q8, .ref q9, .ref q10, .ref q11, .ref q12, .ref q13, .ref q14, .ref q15, .int 0, .int 0, .ref q16, .int 0, .int 0, .int (-1), .int 0, .int 0, .int 0, .int 0, .int 0, .long 0, .long 0, .int 0, .int 0, .ref q17, .ref q18, .ref q19, .ref q20, .ref q21, .ref q22, .int 0, .int 0, .int 0, .int 0, .ref q23, .int 0, .ref q24, .int 0, .long 0, .double 0, .null, .null, .null, .int 0])) :: (ws ++ [(q1, .inl (gc .int, 256, .inl (fun _ => 0))), (q2, .inl (gc .int, 256, .inl (fun _ => 0))), (q3, .inl (gc .boolean, 256, .inl (fun _ => 0))), (q4, .inl (gc .int, 2048, .inl (fun _ => 0))), (q5, .inl (gc .long, 32, .inr (.inl (fun _ => 0)))), (q6, .inl (gc .int, 32, .inl (fun _ => 0))), (q7, .inl (gc .int, 32, .inl (fun _ => 0))), (q8, .inl (gc .int, 32, .inl (fun _ => 0))), (q9, .inl (gc .int, 32, .inl (fun _ => 0))), (q10, .inl (gc .int, 32, .inl (fun _ => 0))), (q11, .inl (gc .int, 32, .inl (fun _ => 0))), (q12, .inl (gc .int, 32, .inl (fun _ => 0))), (q13, .inl (gc .long, 256, .inr (.inl (fun _ => 0)))), (q14, .inl (gc .int, 256, .inl (fun _ => 0))), (q15, .inl (gc .int, 256, .inl (fun _ => 0))), (q16, .inl (gc .int, 500, .inl (fun _ => 0))), (q17, .inl (gc .int, 600, .inl (fun _ => 0))), (q18, .inl (gc .int, 600, .inl (fun _ => 0))), (q19, .inl (gc .int, 600, .inl (fun _ => 0))), (q20, .inl (gc .int, 600, .inl (fun _ => 0))), (q21, .inl (gc .long, 600, .inr (.inl (fun _ => 0)))), (q22, .inl (gc .double, 600, .inr (.inr (.inr (.inl (fun _ => 0)))))), (q23, .inl (gc .int, 20, .inl (fun _ => 0))), (q24, .inl (gc .int, 1792, .inl (fun _ => 0)))])) 24 9752 := by
  refine uc_aload_n 0 dX12_init_216 rfl ?_
  refine uc_bipush (64) dX12_init_217 (by decide) ?_
  refine uc_newa (ty := .long) 64 (64, .inr (.inl (fun _ => 0))) dX12_init_219 rfl ww_137 (by simp [ae_at]) (fun _ h => by cases h) (fun _ => rfl) (by decide) (by decide +kernel) (by decide) (by decide) (by decide) (fun q25 => ?_)
  refine uc_nw (uc_ap _ _ _ _) ?_
  refine uc_putF (k0 := 0) dX12_init_221 fk_RX12_91 (fun C T N h => by cases h; rfl) rfl rfl rfl (show (48 : Nat) < 52 by decide) ?_
  refine uc_hd (x' := (h0, .inr (10, [.int 0, .ref q1, .ref q2, .ref q3, .ref q4, .int 0, .ref q5, .ref q6, .ref q7, .ref q8, .ref q9, .ref q10, .ref q11, .ref q12, .ref q13, .ref q14, .ref q15, .int 0, .int 0, .ref q16, .int 0, .int 0, .int (-1), .int 0, .int 0, .int 0, .int 0, .int 0, .long 0, .long 0, .int 0, .int 0, .ref q17, .ref q18, .ref q19, .ref q20, .ref q21, .ref q22, .int 0, .int 0, .int 0, .int 0, .ref q23, .int 0, .ref q24, .int 0, .long 0, .double 0, .ref q25, .null, .null, .int 0]))) rfl ?_
  refine uc_aload_n 0 dX12_init_224 rfl ?_
  refine uc_bipush (64) dX12_init_225 (by decide) ?_
  refine uc_newa (ty := .double) 64 (64, .inr (.inr (.inr (.inl (fun _ => 0))))) dX12_init_227 rfl ww_1455 (by simp [ae_at]) (fun _ h => by cases h) (fun _ => rfl) (by decide) (by decide +kernel) (by decide) (by decide) (by decide) (fun q26 => ?_)
  refine uc_nw (uc_ap _ _ _ _) ?_
  refine uc_putF (k0 := 0) dX12_init_229 fk_RX12_94 (fun C T N h => by cases h; rfl) rfl rfl rfl (show (49 : Nat) < 52 by decide) ?_
  refine uc_hd (x' := (h0, .inr (10, [.int 0, .ref q1, .ref q2, .ref q3, .ref q4, .int 0, .ref q5, .ref q6, .ref q7, .ref q8, .ref q9, .ref q10, .ref q11, .ref q12, .ref q13, .ref q14, .ref q15, .int 0, .int 0, .ref q16, .int 0, .int 0, .int (-1), .int 0, .int 0, .int 0, .int 0, .int 0, .long 0, .long 0, .int 0, .int 0, .ref q17, .ref q18, .ref q19, .ref q20, .ref q21, .ref q22, .int 0, .int 0, .int 0, .int 0, .ref q23, .int 0, .ref q24, .int 0, .long 0, .double 0, .ref q25, .ref q26, .null, .int 0]))) rfl ?_
  refine uc_aload_n 0 dX12_init_232 rfl ?_
  refine uc_sipush (600) dX12_init_233 (by decide) ?_
  refine uc_newa (ty := .int) 600 (600, .inl (fun _ => 0)) dX12_init_236 rfl ww_46 (by simp [ae_at]) (fun _ h => by cases h) (fun _ => rfl) (by decide) (by decide +kernel) (by decide) (by decide) (by decide) (fun q27 => ?_)
  refine uc_nw (uc_ap _ _ _ _) ?_
  refine uc_putF (k0 := 0) dX12_init_238 fk_RX12_97 (fun C T N h => by cases h; rfl) rfl rfl rfl (show (50 : Nat) < 52 by decide) ?_
  refine uc_hd (x' := (h0, .inr (10, [.int 0, .ref q1, .ref q2, .ref q3, .ref q4, .int 0, .ref q5, .ref q6, .ref q7, .ref q8, .ref q9, .ref q10, .ref q11, .ref q12, .ref q13, .ref q14, .ref q15, .int 0, .int 0, .ref q16, .int 0, .int 0, .int (-1), .int 0, .int 0, .int 0, .int 0, .int 0, .long 0, .long 0, .int 0, .int 0, .ref q17, .ref q18, .ref q19, .ref q20, .ref q21, .ref q22, .int 0, .int 0, .int 0, .int 0, .ref q23, .int 0, .ref q24, .int 0, .long 0, .double 0, .ref q25, .ref q26, .ref q27, .int 0]))) rfl ?_
  refine uc_aload_n 0 dX12_init_241 rfl ?_
  refine uc_bipush (64) dX12_init_242 (by decide) ?_
  refine uc_put (k0 := 0) dX12_init_244 fk_RX12_100 rfl rfl rfl (show (0 : Nat) < 52 by decide) ?_
  refine uc_hd (x' := (h0, .inr (10, [.int (64), .ref q1, .ref q2, .ref q3, .ref q4, .int 0, .ref q5, .ref q6, .ref q7, .ref q8, .ref q9, .ref q10, .ref q11, .ref q12, .ref q13, .ref q14, .ref q15, .int 0, .int 0, .ref q16, .int 0, .int 0, .int (-1), .int 0, .int 0, .int 0, .int 0, .int 0, .long 0, .long 0, .int 0, .int 0, .ref q17, .ref q18, .ref q19, .ref q20, .ref q21, .ref q22, .int 0, .int 0, .int 0, .int 0, .ref q23, .int 0, .ref q24, .int 0, .long 0, .double 0, .ref q25, .ref q26, .ref q27, .int 0]))) rfl ?_
  exact uc_vret dX12_init_247 rfl rfl ⟨q1, q2, q3, q4, q5, q6, q7, q8, q9, q10, q11, q12, q13, q14, q15, q16, q17, q18, q19, q20, q21, q22, q23, q24, q25, q26, q27, rfl⟩
theorem kt_X12_4 {l : Launch} {D : va_G} {gc : FieldType → ClassId} {b u8 h0 : Nat} {ws : va_W} (d : Nat) {q1 : Nat} {q2 : Nat} {q3 : Nat} {q4 : Nat} {q5 : Nat} {q6 : Nat} {q7 : Nat} {q8 : Nat} {q9 : Nat} {q10 : Nat} {q11 : Nat} {q12 : Nat} {q13 : Nat} {q14 : Nat} {q15 : Nat} {q16 : Nat} {q17 : Nat} {q18 : Nat} {q19 : Nat} : uc_T l D gc b u8 (d + 1) 27 10480 mX12_init (kp_X12 gc u8 h0 ws) 172 (lv_args 0 [.ref h0]) [] ((h0, .inr (10, [.int 0, .ref q1, .ref q2, .ref q3, .ref q4, .int 0, .ref q5, .ref q6, .ref q7, .ref q8, .ref q9, .ref q10, .ref q11, .ref q12, .ref q13, .ref q14, .ref q15, .int 0, .int 0, .ref q16, .int 0, .int 0, .int (-1), .int 0, .int 0, .int 0, .int 0, .int 0, .long 0, .long 0, .int 0, .int 0, .ref q17, .ref q18, .ref q19, .null, .null, .null, .int 0, .int 0, .int 0, .int 0, .null, .int 0, .null, .int 0, .long 0, .double 0, .null, .null, .null, .int 0])) :: (ws ++ [(q1, .inl (gc .int, 256, .inl (fun _ => 0))), (q2, .inl (gc .int, 256, .inl (fun _ => 0))), (q3, .inl (gc .boolean, 256, .inl (fun _ => 0))), (q4, .inl (gc .int, 2048, .inl (fun _ => 0))), (q5, .inl (gc .long, 32, .inr (.inl (fun _ => 0)))), (q6, .inl (gc .int, 32, .inl (fun _ => 0))), (q7, .inl (gc .int, 32, .inl (fun _ => 0))), (q8, .inl (gc .int, 32, .inl (fun _ => 0))), (q9, .inl (gc .int, 32, .inl (fun _ => 0))), (q10, .inl (gc .int, 32, .inl (fun _ => 0))), (q11, .inl (gc .int, 32, .inl (fun _ => 0))), (q12, .inl (gc .int, 32, .inl (fun _ => 0))), (q13, .inl (gc .long, 256, .inr (.inl (fun _ => 0)))), (q14, .inl (gc .int, 256, .inl (fun _ => 0))), (q15, .inl (gc .int, 256, .inl (fun _ => 0))), (q16, .inl (gc .int, 500, .inl (fun _ => 0))), (q17, .inl (gc .int, 600, .inl (fun _ => 0))), (q18, .inl (gc .int, 600, .inl (fun _ => 0))), (q19, .inl (gc .int, 600, .inl (fun _ => 0)))])) 19 6140 := by
  refine uc_aload_n 0 dX12_init_172 rfl ?_
  refine uc_sipush (600) dX12_init_173 (by decide) ?_
  refine uc_newa (ty := .int) 600 (600, .inl (fun _ => 0)) dX12_init_176 rfl ww_46 (by simp [ae_at]) (fun _ h => by cases h) (fun _ => rfl) (by decide) (by decide +kernel) (by decide) (by decide) (by decide) (fun q20 => ?_)
  refine uc_nw (uc_ap _ _ _ _) ?_
  refine uc_putF (k0 := 0) dX12_init_178 fk_RX12_75 (fun C T N h => by cases h; rfl) rfl rfl rfl (show (35 : Nat) < 52 by decide) ?_
  refine uc_hd (x' := (h0, .inr (10, [.int 0, .ref q1, .ref q2, .ref q3, .ref q4, .int 0, .ref q5, .ref q6, .ref q7, .ref q8, .ref q9, .ref q10, .ref q11, .ref q12, .ref q13, .ref q14, .ref q15, .int 0, .int 0, .ref q16, .int 0, .int 0, .int (-1), .int 0, .int 0, .int 0, .int 0, .int 0, .long 0, .long 0, .int 0, .int 0, .ref q17, .ref q18, .ref q19, .ref q20, .null, .null, .int 0, .int 0, .int 0, .int 0, .null, .int 0, .null, .int 0, .long 0, .double 0, .null, .null, .null, .int 0]))) rfl ?_
  refine uc_aload_n 0 dX12_init_181 rfl ?_
  refine uc_sipush (600) dX12_init_182 (by decide) ?_
  refine uc_newa (ty := .long) 600 (600, .inr (.inl (fun _ => 0))) dX12_init_185 rfl ww_137 (by simp [ae_at]) (fun _ h => by cases h) (fun _ => rfl) (by decide) (by decide +kernel) (by decide) (by decide) (by decide) (fun q21 => ?_)
  refine uc_nw (uc_ap _ _ _ _) ?_
  refine uc_putF (k0 := 0) dX12_init_187 fk_RX12_78 (fun C T N h => by cases h; rfl) rfl rfl rfl (show (36 : Nat) < 52 by decide) ?_
  refine uc_hd (x' := (h0, .inr (10, [.int 0, .ref q1, .ref q2, .ref q3, .ref q4, .int 0, .ref q5, .ref q6, .ref q7, .ref q8, .ref q9, .ref q10, .ref q11, .ref q12, .ref q13, .ref q14, .ref q15, .int 0, .int 0, .ref q16, .int 0, .int 0, .int (-1), .int 0, .int 0, .int 0, .int 0, .int 0, .long 0, .long 0, .int 0, .int 0, .ref q17, .ref q18, .ref q19, .ref q20, .ref q21, .null, .int 0, .int 0, .int 0, .int 0, .null, .int 0, .null, .int 0, .long 0, .double 0, .null, .null, .null, .int 0]))) rfl ?_
  refine uc_aload_n 0 dX12_init_190 rfl ?_
  refine uc_sipush (600) dX12_init_191 (by decide) ?_
  refine uc_newa (ty := .double) 600 (600, .inr (.inr (.inr (.inl (fun _ => 0))))) dX12_init_194 rfl ww_1455 (by simp [ae_at]) (fun _ h => by cases h) (fun _ => rfl) (by decide) (by decide +kernel) (by decide) (by decide) (by decide) (fun q22 => ?_)
  refine uc_nw (uc_ap _ _ _ _) ?_
  refine uc_putF (k0 := 0) dX12_init_196 fk_RX12_81 (fun C T N h => by cases h; rfl) rfl rfl rfl (show (37 : Nat) < 52 by decide) ?_
  refine uc_hd (x' := (h0, .inr (10, [.int 0, .ref q1, .ref q2, .ref q3, .ref q4, .int 0, .ref q5, .ref q6, .ref q7, .ref q8, .ref q9, .ref q10, .ref q11, .ref q12, .ref q13, .ref q14, .ref q15, .int 0, .int 0, .ref q16, .int 0, .int 0, .int (-1), .int 0, .int 0, .int 0, .int 0, .int 0, .long 0, .long 0, .int 0, .int 0, .ref q17, .ref q18, .ref q19, .ref q20, .ref q21, .ref q22, .int 0, .int 0, .int 0, .int 0, .null, .int 0, .null, .int 0, .long 0, .double 0, .null, .null, .null, .int 0]))) rfl ?_
  refine uc_aload_n 0 dX12_init_199 rfl ?_
  refine uc_bipush (20) dX12_init_200 (by decide) ?_
  refine uc_newa (ty := .int) 20 (20, .inl (fun _ => 0)) dX12_init_202 rfl ww_46 (by simp [ae_at]) (fun _ h => by cases h) (fun _ => rfl) (by decide) (by decide +kernel) (by decide) (by decide) (by decide) (fun q23 => ?_)
  refine uc_nw (uc_ap _ _ _ _) ?_
  refine uc_putF (k0 := 0) dX12_init_204 fk_RX12_85 (fun C T N h => by cases h; rfl) rfl rfl rfl (show (42 : Nat) < 52 by decide) ?_
  refine uc_hd (x' := (h0, .inr (10, [.int 0, .ref q1, .ref q2, .ref q3, .ref q4, .int 0, .ref q5, .ref q6, .ref q7, .ref q8, .ref q9, .ref q10, .ref q11, .ref q12, .ref q13, .ref q14, .ref q15, .int 0, .int 0, .ref q16, .int 0, .int 0, .int (-1), .int 0, .int 0, .int 0, .int 0, .int 0, .long 0, .long 0, .int 0, .int 0, .ref q17, .ref q18, .ref q19, .ref q20, .ref q21, .ref q22, .int 0, .int 0, .int 0, .int 0, .ref q23, .int 0, .null, .int 0, .long 0, .double 0, .null, .null, .null, .int 0]))) rfl ?_
  refine uc_aload_n 0 dX12_init_207 rfl ?_
  refine uc_sipush (1792) dX12_init_208 (by decide) ?_
  refine uc_newa (ty := .int) 1792 (1792, .inl (fun _ => 0)) dX12_init_211 rfl ww_46 (by simp [ae_at]) (fun _ h => by cases h) (fun _ => rfl) (by decide) (by decide +kernel) (by decide) (by decide) (by decide) (fun q24 => ?_)
  refine uc_nw (uc_ap _ _ _ _) ?_
  refine uc_putF (k0 := 0) dX12_init_213 fk_RX12_88 (fun C T N h => by cases h; rfl) rfl rfl rfl (show (44 : Nat) < 52 by decide) ?_
  refine uc_hd (x' := (h0, .inr (10, [.int 0, .ref q1, .ref q2, .ref q3, .ref q4, .int 0, .ref q5, .ref q6, .ref q7, .ref q8, .ref q9, .ref q10, .ref q11, .ref q12, .ref q13, .ref q14, .ref q15, .int 0, .int 0, .ref q16, .int 0, .int 0, .int (-1), .int 0, .int 0, .int 0, .int 0, .int 0, .long 0, .long 0, .int 0, .int 0, .ref q17, .ref q18, .ref q19, .ref q20, .ref q21, .ref q22, .int 0, .int 0, .int 0, .int 0, .ref q23, .int 0, .ref q24, .int 0, .long 0, .double 0, .null, .null, .null, .int 0]))) rfl ?_
  exact kt_X12_5 d
theorem kt_X12_3 {l : Launch} {D : va_G} {gc : FieldType → ClassId} {b u8 h0 : Nat} {ws : va_W} (d : Nat) {q1 : Nat} {q2 : Nat} {q3 : Nat} {q4 : Nat} {q5 : Nat} {q6 : Nat} {q7 : Nat} {q8 : Nat} {q9 : Nat} {q10 : Nat} {q11 : Nat} {q12 : Nat} {q13 : Nat} {q14 : Nat} {q15 : Nat} : uc_T l D gc b u8 (d + 1) 27 10480 mX12_init (kp_X12 gc u8 h0 ws) 131 (lv_args 0 [.ref h0]) [] ((h0, .inr (10, [.int 0, .ref q1, .ref q2, .ref q3, .ref q4, .int 0, .ref q5, .ref q6, .ref q7, .ref q8, .ref q9, .ref q10, .ref q11, .ref q12, .ref q13, .ref q14, .ref q15, .int 0, .int 0, .null, .int 0, .int 0, .int 0, .int 0, .int 0, .int 0, .int 0, .int 0, .long 0, .long 0, .int 0, .int 0, .null, .null, .null, .null, .null, .null, .int 0, .int 0, .int 0, .int 0, .null, .int 0, .null, .int 0, .long 0, .double 0, .null, .null, .null, .int 0])) :: (ws ++ [(q1, .inl (gc .int, 256, .inl (fun _ => 0))), (q2, .inl (gc .int, 256, .inl (fun _ => 0))), (q3, .inl (gc .boolean, 256, .inl (fun _ => 0))), (q4, .inl (gc .int, 2048, .inl (fun _ => 0))), (q5, .inl (gc .long, 32, .inr (.inl (fun _ => 0)))), (q6, .inl (gc .int, 32, .inl (fun _ => 0))), (q7, .inl (gc .int, 32, .inl (fun _ => 0))), (q8, .inl (gc .int, 32, .inl (fun _ => 0))), (q9, .inl (gc .int, 32, .inl (fun _ => 0))), (q10, .inl (gc .int, 32, .inl (fun _ => 0))), (q11, .inl (gc .int, 32, .inl (fun _ => 0))), (q12, .inl (gc .int, 32, .inl (fun _ => 0))), (q13, .inl (gc .long, 256, .inr (.inl (fun _ => 0)))), (q14, .inl (gc .int, 256, .inl (fun _ => 0))), (q15, .inl (gc .int, 256, .inl (fun _ => 0)))])) 15 3840 := by
  refine uc_aload_n 0 dX12_init_131 rfl ?_
  refine uc_sipush (500) dX12_init_132 (by decide) ?_
  refine uc_newa (ty := .int) 500 (500, .inl (fun _ => 0)) dX12_init_135 rfl ww_46 (by simp [ae_at]) (fun _ h => by cases h) (fun _ => rfl) (by decide) (by decide +kernel) (by decide) (by decide) (by decide) (fun q16 => ?_)
  refine uc_nw (uc_ap _ _ _ _) ?_
  refine uc_putF (k0 := 0) dX12_init_137 fk_RX12_59 (fun C T N h => by cases h; rfl) rfl rfl rfl (show (19 : Nat) < 52 by decide) ?_
  refine uc_hd (x' := (h0, .inr (10, [.int 0, .ref q1, .ref q2, .ref q3, .ref q4, .int 0, .ref q5, .ref q6, .ref q7, .ref q8, .ref q9, .ref q10, .ref q11, .ref q12, .ref q13, .ref q14, .ref q15, .int 0, .int 0, .ref q16, .int 0, .int 0, .int 0, .int 0, .int 0, .int 0, .int 0, .int 0, .long 0, .long 0, .int 0, .int 0, .null, .null, .null, .null, .null, .null, .int 0, .int 0, .int 0, .int 0, .null, .int 0, .null, .int 0, .long 0, .double 0, .null, .null, .null, .int 0]))) rfl ?_
  refine uc_aload_n 0 dX12_init_140 rfl ?_
  refine uc_iconst (-1) dX12_init_141 (by decide) ?_
  refine uc_put (k0 := 0) dX12_init_142 fk_RX12_62 rfl rfl rfl (show (22 : Nat) < 52 by decide) ?_
  refine uc_hd (x' := (h0, .inr (10, [.int 0, .ref q1, .ref q2, .ref q3, .ref q4, .int 0, .ref q5, .ref q6, .ref q7, .ref q8, .ref q9, .ref q10, .ref q11, .ref q12, .ref q13, .ref q14, .ref q15, .int 0, .int 0, .ref q16, .int 0, .int 0, .int (-1), .int 0, .int 0, .int 0, .int 0, .int 0, .long 0, .long 0, .int 0, .int 0, .null, .null, .null, .null, .null, .null, .int 0, .int 0, .int 0, .int 0, .null, .int 0, .null, .int 0, .long 0, .double 0, .null, .null, .null, .int 0]))) rfl ?_
  refine uc_aload_n 0 dX12_init_145 rfl ?_
  refine uc_sipush (600) dX12_init_146 (by decide) ?_
  refine uc_newa (ty := .int) 600 (600, .inl (fun _ => 0)) dX12_init_149 rfl ww_46 (by simp [ae_at]) (fun _ h => by cases h) (fun _ => rfl) (by decide) (by decide +kernel) (by decide) (by decide) (by decide) (fun q17 => ?_)
  refine uc_nw (uc_ap _ _ _ _) ?_
  refine uc_putF (k0 := 0) dX12_init_151 fk_RX12_66 (fun C T N h => by cases h; rfl) rfl rfl rfl (show (32 : Nat) < 52 by decide) ?_
  refine uc_hd (x' := (h0, .inr (10, [.int 0, .ref q1, .ref q2, .ref q3, .ref q4, .int 0, .ref q5, .ref q6, .ref q7, .ref q8, .ref q9, .ref q10, .ref q11, .ref q12, .ref q13, .ref q14, .ref q15, .int 0, .int 0, .ref q16, .int 0, .int 0, .int (-1), .int 0, .int 0, .int 0, .int 0, .int 0, .long 0, .long 0, .int 0, .int 0, .ref q17, .null, .null, .null, .null, .null, .int 0, .int 0, .int 0, .int 0, .null, .int 0, .null, .int 0, .long 0, .double 0, .null, .null, .null, .int 0]))) rfl ?_
  refine uc_aload_n 0 dX12_init_154 rfl ?_
  refine uc_sipush (600) dX12_init_155 (by decide) ?_
  refine uc_newa (ty := .int) 600 (600, .inl (fun _ => 0)) dX12_init_158 rfl ww_46 (by simp [ae_at]) (fun _ h => by cases h) (fun _ => rfl) (by decide) (by decide +kernel) (by decide) (by decide) (by decide) (fun q18 => ?_)
  refine uc_nw (uc_ap _ _ _ _) ?_
  refine uc_putF (k0 := 0) dX12_init_160 fk_RX12_69 (fun C T N h => by cases h; rfl) rfl rfl rfl (show (33 : Nat) < 52 by decide) ?_
  refine uc_hd (x' := (h0, .inr (10, [.int 0, .ref q1, .ref q2, .ref q3, .ref q4, .int 0, .ref q5, .ref q6, .ref q7, .ref q8, .ref q9, .ref q10, .ref q11, .ref q12, .ref q13, .ref q14, .ref q15, .int 0, .int 0, .ref q16, .int 0, .int 0, .int (-1), .int 0, .int 0, .int 0, .int 0, .int 0, .long 0, .long 0, .int 0, .int 0, .ref q17, .ref q18, .null, .null, .null, .null, .int 0, .int 0, .int 0, .int 0, .null, .int 0, .null, .int 0, .long 0, .double 0, .null, .null, .null, .int 0]))) rfl ?_
  refine uc_aload_n 0 dX12_init_163 rfl ?_
  refine uc_sipush (600) dX12_init_164 (by decide) ?_
  refine uc_newa (ty := .int) 600 (600, .inl (fun _ => 0)) dX12_init_167 rfl ww_46 (by simp [ae_at]) (fun _ h => by cases h) (fun _ => rfl) (by decide) (by decide +kernel) (by decide) (by decide) (by decide) (fun q19 => ?_)
  refine uc_nw (uc_ap _ _ _ _) ?_
  refine uc_putF (k0 := 0) dX12_init_169 fk_RX12_72 (fun C T N h => by cases h; rfl) rfl rfl rfl (show (34 : Nat) < 52 by decide) ?_
  refine uc_hd (x' := (h0, .inr (10, [.int 0, .ref q1, .ref q2, .ref q3, .ref q4, .int 0, .ref q5, .ref q6, .ref q7, .ref q8, .ref q9, .ref q10, .ref q11, .ref q12, .ref q13, .ref q14, .ref q15, .int 0, .int 0, .ref q16, .int 0, .int 0, .int (-1), .int 0, .int 0, .int 0, .int 0, .int 0, .long 0, .long 0, .int 0, .int 0, .ref q17, .ref q18, .ref q19, .null, .null, .null, .int 0, .int 0, .int 0, .int 0, .null, .int 0, .null, .int 0, .long 0, .double 0, .null, .null, .null, .int 0]))) rfl ?_
  exact kt_X12_4 d
theorem kt_X12_2 {l : Launch} {D : va_G} {gc : FieldType → ClassId} {b u8 h0 : Nat} {ws : va_W} (d : Nat) {q1 : Nat} {q2 : Nat} {q3 : Nat} {q4 : Nat} {q5 : Nat} {q6 : Nat} {q7 : Nat} {q8 : Nat} {q9 : Nat} {q10 : Nat} : uc_T l D gc b u8 (d + 1) 27 10480 mX12_init (kp_X12 gc u8 h0 ws) 88 (lv_args 0 [.ref h0]) [] ((h0, .inr (10, [.int 0, .ref q1, .ref q2, .ref q3, .ref q4, .int 0, .ref q5, .ref q6, .ref q7, .ref q8, .ref q9, .ref q10, .null, .null, .null, .null, .null, .int 0, .int 0, .null, .int 0, .int 0, .int 0, .int 0, .int 0, .int 0, .int 0, .int 0, .long 0, .long 0, .int 0, .int 0, .null, .null, .null, .null, .null, .null, .int 0, .int 0, .int 0, .int 0, .null, .int 0, .null, .int 0, .long 0, .double 0, .null, .null, .null, .int 0])) :: (ws ++ [(q1, .inl (gc .int, 256, .inl (fun _ => 0))), (q2, .inl (gc .int, 256, .inl (fun _ => 0))), (q3, .inl (gc .boolean, 256, .inl (fun _ => 0))), (q4, .inl (gc .int, 2048, .inl (fun _ => 0))), (q5, .inl (gc .long, 32, .inr (.inl (fun _ => 0)))), (q6, .inl (gc .int, 32, .inl (fun _ => 0))), (q7, .inl (gc .int, 32, .inl (fun _ => 0))), (q8, .inl (gc .int, 32, .inl (fun _ => 0))), (q9, .inl (gc .int, 32, .inl (fun _ => 0))), (q10, .inl (gc .int, 32, .inl (fun _ => 0)))])) 10 3008 := by
  refine uc_aload_n 0 dX12_init_88 rfl ?_
  refine uc_bipush (32) dX12_init_89 (by decide) ?_
  refine uc_newa (ty := .int) 32 (32, .inl (fun _ => 0)) dX12_init_91 rfl ww_46 (by simp [ae_at]) (fun _ h => by cases h) (fun _ => rfl) (by decide) (by decide +kernel) (by decide) (by decide) (by decide) (fun q11 => ?_)
  refine uc_nw (uc_ap _ _ _ _) ?_
  refine uc_putF (k0 := 0) dX12_init_93 fk_RX12_44 (fun C T N h => by cases h; rfl) rfl rfl rfl (show (12 : Nat) < 52 by decide) ?_
  refine uc_hd (x' := (h0, .inr (10, [.int 0, .ref q1, .ref q2, .ref q3, .ref q4, .int 0, .ref q5, .ref q6, .ref q7, .ref q8, .ref q9, .ref q10, .ref q11, .null, .null, .null, .null, .int 0, .int 0, .null, .int 0, .int 0, .int 0, .int 0, .int 0, .int 0, .int 0, .int 0, .long 0, .long 0, .int 0, .int 0, .null, .null, .null, .null, .null, .null, .int 0, .int 0, .int 0, .int 0, .null, .int 0, .null, .int 0, .long 0, .double 0, .null, .null, .null, .int 0]))) rfl ?_
  refine uc_aload_n 0 dX12_init_96 rfl ?_
  refine uc_bipush (32) dX12_init_97 (by decide) ?_
  refine uc_newa (ty := .int) 32 (32, .inl (fun _ => 0)) dX12_init_99 rfl ww_46 (by simp [ae_at]) (fun _ h => by cases h) (fun _ => rfl) (by decide) (by decide +kernel) (by decide) (by decide) (by decide) (fun q12 => ?_)
  refine uc_nw (uc_ap _ _ _ _) ?_
  refine uc_putF (k0 := 0) dX12_init_101 fk_RX12_47 (fun C T N h => by cases h; rfl) rfl rfl rfl (show (13 : Nat) < 52 by decide) ?_
  refine uc_hd (x' := (h0, .inr (10, [.int 0, .ref q1, .ref q2, .ref q3, .ref q4, .int 0, .ref q5, .ref q6, .ref q7, .ref q8, .ref q9, .ref q10, .ref q11, .ref q12, .null, .null, .null, .int 0, .int 0, .null, .int 0, .int 0, .int 0, .int 0, .int 0, .int 0, .int 0, .int 0, .long 0, .long 0, .int 0, .int 0, .null, .null, .null, .null, .null, .null, .int 0, .int 0, .int 0, .int 0, .null, .int 0, .null, .int 0, .long 0, .double 0, .null, .null, .null, .int 0]))) rfl ?_
  refine uc_aload_n 0 dX12_init_104 rfl ?_
  refine uc_sipush (256) dX12_init_105 (by decide) ?_
  refine uc_newa (ty := .long) 256 (256, .inr (.inl (fun _ => 0))) dX12_init_108 rfl ww_137 (by simp [ae_at]) (fun _ h => by cases h) (fun _ => rfl) (by decide) (by decide +kernel) (by decide) (by decide) (by decide) (fun q13 => ?_)
  refine uc_nw (uc_ap _ _ _ _) ?_
  refine uc_putF (k0 := 0) dX12_init_110 fk_RX12_50 (fun C T N h => by cases h; rfl) rfl rfl rfl (show (14 : Nat) < 52 by decide) ?_
  refine uc_hd (x' := (h0, .inr (10, [.int 0, .ref q1, .ref q2, .ref q3, .ref q4, .int 0, .ref q5, .ref q6, .ref q7, .ref q8, .ref q9, .ref q10, .ref q11, .ref q12, .ref q13, .null, .null, .int 0, .int 0, .null, .int 0, .int 0, .int 0, .int 0, .int 0, .int 0, .int 0, .int 0, .long 0, .long 0, .int 0, .int 0, .null, .null, .null, .null, .null, .null, .int 0, .int 0, .int 0, .int 0, .null, .int 0, .null, .int 0, .long 0, .double 0, .null, .null, .null, .int 0]))) rfl ?_
  refine uc_aload_n 0 dX12_init_113 rfl ?_
  refine uc_sipush (256) dX12_init_114 (by decide) ?_
  refine uc_newa (ty := .int) 256 (256, .inl (fun _ => 0)) dX12_init_117 rfl ww_46 (by simp [ae_at]) (fun _ h => by cases h) (fun _ => rfl) (by decide) (by decide +kernel) (by decide) (by decide) (by decide) (fun q14 => ?_)
  refine uc_nw (uc_ap _ _ _ _) ?_
  refine uc_putF (k0 := 0) dX12_init_119 fk_RX12_53 (fun C T N h => by cases h; rfl) rfl rfl rfl (show (15 : Nat) < 52 by decide) ?_
  refine uc_hd (x' := (h0, .inr (10, [.int 0, .ref q1, .ref q2, .ref q3, .ref q4, .int 0, .ref q5, .ref q6, .ref q7, .ref q8, .ref q9, .ref q10, .ref q11, .ref q12, .ref q13, .ref q14, .null, .int 0, .int 0, .null, .int 0, .int 0, .int 0, .int 0, .int 0, .int 0, .int 0, .int 0, .long 0, .long 0, .int 0, .int 0, .null, .null, .null, .null, .null, .null, .int 0, .int 0, .int 0, .int 0, .null, .int 0, .null, .int 0, .long 0, .double 0, .null, .null, .null, .int 0]))) rfl ?_
  refine uc_aload_n 0 dX12_init_122 rfl ?_
  refine uc_sipush (256) dX12_init_123 (by decide) ?_
  refine uc_newa (ty := .int) 256 (256, .inl (fun _ => 0)) dX12_init_126 rfl ww_46 (by simp [ae_at]) (fun _ h => by cases h) (fun _ => rfl) (by decide) (by decide +kernel) (by decide) (by decide) (by decide) (fun q15 => ?_)
  refine uc_nw (uc_ap _ _ _ _) ?_
  refine uc_putF (k0 := 0) dX12_init_128 fk_RX12_56 (fun C T N h => by cases h; rfl) rfl rfl rfl (show (16 : Nat) < 52 by decide) ?_
  refine uc_hd (x' := (h0, .inr (10, [.int 0, .ref q1, .ref q2, .ref q3, .ref q4, .int 0, .ref q5, .ref q6, .ref q7, .ref q8, .ref q9, .ref q10, .ref q11, .ref q12, .ref q13, .ref q14, .ref q15, .int 0, .int 0, .null, .int 0, .int 0, .int 0, .int 0, .int 0, .int 0, .int 0, .int 0, .long 0, .long 0, .int 0, .int 0, .null, .null, .null, .null, .null, .null, .int 0, .int 0, .int 0, .int 0, .null, .int 0, .null, .int 0, .long 0, .double 0, .null, .null, .null, .int 0]))) rfl ?_
  exact kt_X12_3 d
theorem kt_X12_1 {l : Launch} {D : va_G} {gc : FieldType → ClassId} {b u8 h0 : Nat} {ws : va_W} (d : Nat) {q1 : Nat} {q2 : Nat} {q3 : Nat} {q4 : Nat} {q5 : Nat} : uc_T l D gc b u8 (d + 1) 27 10480 mX12_init (kp_X12 gc u8 h0 ws) 48 (lv_args 0 [.ref h0]) [] ((h0, .inr (10, [.int 0, .ref q1, .ref q2, .ref q3, .ref q4, .int 0, .ref q5, .null, .null, .null, .null, .null, .null, .null, .null, .null, .null, .int 0, .int 0, .null, .int 0, .int 0, .int 0, .int 0, .int 0, .int 0, .int 0, .int 0, .long 0, .long 0, .int 0, .int 0, .null, .null, .null, .null, .null, .null, .int 0, .int 0, .int 0, .int 0, .null, .int 0, .null, .int 0, .long 0, .double 0, .null, .null, .null, .int 0])) :: (ws ++ [(q1, .inl (gc .int, 256, .inl (fun _ => 0))), (q2, .inl (gc .int, 256, .inl (fun _ => 0))), (q3, .inl (gc .boolean, 256, .inl (fun _ => 0))), (q4, .inl (gc .int, 2048, .inl (fun _ => 0))), (q5, .inl (gc .long, 32, .inr (.inl (fun _ => 0))))])) 5 2848 := by
  refine uc_aload_n 0 dX12_init_48 rfl ?_
  refine uc_bipush (32) dX12_init_49 (by decide) ?_
  refine uc_newa (ty := .int) 32 (32, .inl (fun _ => 0)) dX12_init_51 rfl ww_46 (by simp [ae_at]) (fun _ h => by cases h) (fun _ => rfl) (by decide) (by decide +kernel) (by decide) (by decide) (by decide) (fun q6 => ?_)
  refine uc_nw (uc_ap _ _ _ _) ?_
  refine uc_putF (k0 := 0) dX12_init_53 fk_RX12_29 (fun C T N h => by cases h; rfl) rfl rfl rfl (show (7 : Nat) < 52 by decide) ?_
  refine uc_hd (x' := (h0, .inr (10, [.int 0, .ref q1, .ref q2, .ref q3, .ref q4, .int 0, .ref q5, .ref q6, .null, .null, .null, .null, .null, .null, .null, .null, .null, .int 0, .int 0, .null, .int 0, .int 0, .int 0, .int 0, .int 0, .int 0, .int 0, .int 0, .long 0, .long 0, .int 0, .int 0, .null, .null, .null, .null, .null, .null, .int 0, .int 0, .int 0, .int 0, .null, .int 0, .null, .int 0, .long 0, .double 0, .null, .null, .null, .int 0]))) rfl ?_
  refine uc_aload_n 0 dX12_init_56 rfl ?_
  refine uc_bipush (32) dX12_init_57 (by decide) ?_
  refine uc_newa (ty := .int) 32 (32, .inl (fun _ => 0)) dX12_init_59 rfl ww_46 (by simp [ae_at]) (fun _ h => by cases h) (fun _ => rfl) (by decide) (by decide +kernel) (by decide) (by decide) (by decide) (fun q7 => ?_)
  refine uc_nw (uc_ap _ _ _ _) ?_
  refine uc_putF (k0 := 0) dX12_init_61 fk_RX12_32 (fun C T N h => by cases h; rfl) rfl rfl rfl (show (8 : Nat) < 52 by decide) ?_
  refine uc_hd (x' := (h0, .inr (10, [.int 0, .ref q1, .ref q2, .ref q3, .ref q4, .int 0, .ref q5, .ref q6, .ref q7, .null, .null, .null, .null, .null, .null, .null, .null, .int 0, .int 0, .null, .int 0, .int 0, .int 0, .int 0, .int 0, .int 0, .int 0, .int 0, .long 0, .long 0, .int 0, .int 0, .null, .null, .null, .null, .null, .null, .int 0, .int 0, .int 0, .int 0, .null, .int 0, .null, .int 0, .long 0, .double 0, .null, .null, .null, .int 0]))) rfl ?_
  refine uc_aload_n 0 dX12_init_64 rfl ?_
  refine uc_bipush (32) dX12_init_65 (by decide) ?_
  refine uc_newa (ty := .int) 32 (32, .inl (fun _ => 0)) dX12_init_67 rfl ww_46 (by simp [ae_at]) (fun _ h => by cases h) (fun _ => rfl) (by decide) (by decide +kernel) (by decide) (by decide) (by decide) (fun q8 => ?_)
  refine uc_nw (uc_ap _ _ _ _) ?_
  refine uc_putF (k0 := 0) dX12_init_69 fk_RX12_35 (fun C T N h => by cases h; rfl) rfl rfl rfl (show (9 : Nat) < 52 by decide) ?_
  refine uc_hd (x' := (h0, .inr (10, [.int 0, .ref q1, .ref q2, .ref q3, .ref q4, .int 0, .ref q5, .ref q6, .ref q7, .ref q8, .null, .null, .null, .null, .null, .null, .null, .int 0, .int 0, .null, .int 0, .int 0, .int 0, .int 0, .int 0, .int 0, .int 0, .int 0, .long 0, .long 0, .int 0, .int 0, .null, .null, .null, .null, .null, .null, .int 0, .int 0, .int 0, .int 0, .null, .int 0, .null, .int 0, .long 0, .double 0, .null, .null, .null, .int 0]))) rfl ?_
  refine uc_aload_n 0 dX12_init_72 rfl ?_
  refine uc_bipush (32) dX12_init_73 (by decide) ?_
  refine uc_newa (ty := .int) 32 (32, .inl (fun _ => 0)) dX12_init_75 rfl ww_46 (by simp [ae_at]) (fun _ h => by cases h) (fun _ => rfl) (by decide) (by decide +kernel) (by decide) (by decide) (by decide) (fun q9 => ?_)
  refine uc_nw (uc_ap _ _ _ _) ?_
  refine uc_putF (k0 := 0) dX12_init_77 fk_RX12_38 (fun C T N h => by cases h; rfl) rfl rfl rfl (show (10 : Nat) < 52 by decide) ?_
  refine uc_hd (x' := (h0, .inr (10, [.int 0, .ref q1, .ref q2, .ref q3, .ref q4, .int 0, .ref q5, .ref q6, .ref q7, .ref q8, .ref q9, .null, .null, .null, .null, .null, .null, .int 0, .int 0, .null, .int 0, .int 0, .int 0, .int 0, .int 0, .int 0, .int 0, .int 0, .long 0, .long 0, .int 0, .int 0, .null, .null, .null, .null, .null, .null, .int 0, .int 0, .int 0, .int 0, .null, .int 0, .null, .int 0, .long 0, .double 0, .null, .null, .null, .int 0]))) rfl ?_
  refine uc_aload_n 0 dX12_init_80 rfl ?_
  refine uc_bipush (32) dX12_init_81 (by decide) ?_
  refine uc_newa (ty := .int) 32 (32, .inl (fun _ => 0)) dX12_init_83 rfl ww_46 (by simp [ae_at]) (fun _ h => by cases h) (fun _ => rfl) (by decide) (by decide +kernel) (by decide) (by decide) (by decide) (fun q10 => ?_)
  refine uc_nw (uc_ap _ _ _ _) ?_
  refine uc_putF (k0 := 0) dX12_init_85 fk_RX12_41 (fun C T N h => by cases h; rfl) rfl rfl rfl (show (11 : Nat) < 52 by decide) ?_
  refine uc_hd (x' := (h0, .inr (10, [.int 0, .ref q1, .ref q2, .ref q3, .ref q4, .int 0, .ref q5, .ref q6, .ref q7, .ref q8, .ref q9, .ref q10, .null, .null, .null, .null, .null, .int 0, .int 0, .null, .int 0, .int 0, .int 0, .int 0, .int 0, .int 0, .int 0, .int 0, .long 0, .long 0, .int 0, .int 0, .null, .null, .null, .null, .null, .null, .int 0, .int 0, .int 0, .int 0, .null, .int 0, .null, .int 0, .long 0, .double 0, .null, .null, .null, .int 0]))) rfl ?_
  exact kt_X12_2 d
theorem k_X12_init {l : Launch} {D : va_G} {gc : FieldType → ClassId} {b u8 h0 : Nat} {ws : va_W} (d : Nat) : uc_M l D gc b u8 yX12_init mX12_init [.ref h0] ((h0, .inr (10, [.int 0, .null, .null, .null, .null, .int 0, .null, .null, .null, .null, .null, .null, .null, .null, .null, .null, .null, .int 0, .int 0, .null, .int 0, .int 0, .int 0, .int 0, .int 0, .int 0, .int 0, .int 0, .long 0, .long 0, .int 0, .int 0, .null, .null, .null, .null, .null, .null, .int 0, .int 0, .int 0, .int 0, .null, .int 0, .null, .int 0, .long 0, .double 0, .null, .null, .null, .int 0])) :: ws) (kp_X12 gc u8 h0 ws) (d + 1) 27 10480 := by
  refine uc_enter rfl rfl rfl rfl (show (1 : Nat) ≤ 1 by decide) ?_
  refine uc_nw (ws' := (h0, .inr (10, [.int 0, .null, .null, .null, .null, .int 0, .null, .null, .null, .null, .null, .null, .null, .null, .null, .null, .null, .int 0, .int 0, .null, .int 0, .int 0, .int 0, .int 0, .int 0, .int 0, .int 0, .int 0, .long 0, .long 0, .int 0, .int 0, .null, .null, .null, .null, .null, .null, .int 0, .int 0, .int 0, .int 0, .null, .int 0, .null, .int 0, .long 0, .double 0, .null, .null, .null, .int 0])) :: (ws ++ [])) (by rw [List.append_nil]) ?_
  refine uc_aload_n 0 dX12_init_0 rfl ?_
  refine uc_objInit dX12_init_1 ww_1297 ww_31 ww_32 (by omega) (show (0 : Nat) ≤ 8 by decide) ?_
  refine uc_aload_n 0 dX12_init_4 rfl ?_
  refine uc_sipush (256) dX12_init_5 (by decide) ?_
  refine uc_newa (ty := .int) 256 (256, .inl (fun _ => 0)) dX12_init_8 rfl ww_46 (by simp [ae_at]) (fun _ h => by cases h) (fun _ => rfl) (by decide) (by decide +kernel) (by decide) (by decide) (by decide) (fun q1 => ?_)
  refine uc_nw (uc_ap _ _ _ _) ?_
  refine uc_putF (k0 := 0) dX12_init_10 fk_RX12_9 (fun C T N h => by cases h; rfl) rfl rfl rfl (show (1 : Nat) < 52 by decide) ?_
  refine uc_hd (x' := (h0, .inr (10, [.int 0, .ref q1, .null, .null, .null, .int 0, .null, .null, .null, .null, .null, .null, .null, .null, .null, .null, .null, .int 0, .int 0, .null, .int 0, .int 0, .int 0, .int 0, .int 0, .int 0, .int 0, .int 0, .long 0, .long 0, .int 0, .int 0, .null, .null, .null, .null, .null, .null, .int 0, .int 0, .int 0, .int 0, .null, .int 0, .null, .int 0, .long 0, .double 0, .null, .null, .null, .int 0]))) rfl ?_
  refine uc_aload_n 0 dX12_init_13 rfl ?_
  refine uc_sipush (256) dX12_init_14 (by decide) ?_
  refine uc_newa (ty := .int) 256 (256, .inl (fun _ => 0)) dX12_init_17 rfl ww_46 (by simp [ae_at]) (fun _ h => by cases h) (fun _ => rfl) (by decide) (by decide +kernel) (by decide) (by decide) (by decide) (fun q2 => ?_)
  refine uc_nw (uc_ap _ _ _ _) ?_
  refine uc_putF (k0 := 0) dX12_init_19 fk_RX12_15 (fun C T N h => by cases h; rfl) rfl rfl rfl (show (2 : Nat) < 52 by decide) ?_
  refine uc_hd (x' := (h0, .inr (10, [.int 0, .ref q1, .ref q2, .null, .null, .int 0, .null, .null, .null, .null, .null, .null, .null, .null, .null, .null, .null, .int 0, .int 0, .null, .int 0, .int 0, .int 0, .int 0, .int 0, .int 0, .int 0, .int 0, .long 0, .long 0, .int 0, .int 0, .null, .null, .null, .null, .null, .null, .int 0, .int 0, .int 0, .int 0, .null, .int 0, .null, .int 0, .long 0, .double 0, .null, .null, .null, .int 0]))) rfl ?_
  refine uc_aload_n 0 dX12_init_22 rfl ?_
  refine uc_sipush (256) dX12_init_23 (by decide) ?_
  refine uc_newa (ty := .boolean) 256 (256, .inl (fun _ => 0)) dX12_init_26 rfl ww_301 (by simp [ae_at]) (fun _ h => by cases h) (fun _ => rfl) (by decide) (by decide +kernel) (by decide) (by decide) (by decide) (fun q3 => ?_)
  refine uc_nw (uc_ap _ _ _ _) ?_
  refine uc_putF (k0 := 0) dX12_init_28 fk_RX12_18 (fun C T N h => by cases h; rfl) rfl rfl rfl (show (3 : Nat) < 52 by decide) ?_
  refine uc_hd (x' := (h0, .inr (10, [.int 0, .ref q1, .ref q2, .ref q3, .null, .int 0, .null, .null, .null, .null, .null, .null, .null, .null, .null, .null, .null, .int 0, .int 0, .null, .int 0, .int 0, .int 0, .int 0, .int 0, .int 0, .int 0, .int 0, .long 0, .long 0, .int 0, .int 0, .null, .null, .null, .null, .null, .null, .int 0, .int 0, .int 0, .int 0, .null, .int 0, .null, .int 0, .long 0, .double 0, .null, .null, .null, .int 0]))) rfl ?_
  refine uc_aload_n 0 dX12_init_31 rfl ?_
  refine uc_sipush (2048) dX12_init_32 (by decide) ?_
  refine uc_newa (ty := .int) 2048 (2048, .inl (fun _ => 0)) dX12_init_35 rfl ww_46 (by simp [ae_at]) (fun _ h => by cases h) (fun _ => rfl) (by decide) (by decide +kernel) (by decide) (by decide) (by decide) (fun q4 => ?_)
  refine uc_nw (uc_ap _ _ _ _) ?_
  refine uc_putF (k0 := 0) dX12_init_37 fk_RX12_22 (fun C T N h => by cases h; rfl) rfl rfl rfl (show (4 : Nat) < 52 by decide) ?_
  refine uc_hd (x' := (h0, .inr (10, [.int 0, .ref q1, .ref q2, .ref q3, .ref q4, .int 0, .null, .null, .null, .null, .null, .null, .null, .null, .null, .null, .null, .int 0, .int 0, .null, .int 0, .int 0, .int 0, .int 0, .int 0, .int 0, .int 0, .int 0, .long 0, .long 0, .int 0, .int 0, .null, .null, .null, .null, .null, .null, .int 0, .int 0, .int 0, .int 0, .null, .int 0, .null, .int 0, .long 0, .double 0, .null, .null, .null, .int 0]))) rfl ?_
  refine uc_aload_n 0 dX12_init_40 rfl ?_
  refine uc_bipush (32) dX12_init_41 (by decide) ?_
  refine uc_newa (ty := .long) 32 (32, .inr (.inl (fun _ => 0))) dX12_init_43 rfl ww_137 (by simp [ae_at]) (fun _ h => by cases h) (fun _ => rfl) (by decide) (by decide +kernel) (by decide) (by decide) (by decide) (fun q5 => ?_)
  refine uc_nw (uc_ap _ _ _ _) ?_
  refine uc_putF (k0 := 0) dX12_init_45 fk_RX12_25 (fun C T N h => by cases h; rfl) rfl rfl rfl (show (6 : Nat) < 52 by decide) ?_
  refine uc_hd (x' := (h0, .inr (10, [.int 0, .ref q1, .ref q2, .ref q3, .ref q4, .int 0, .ref q5, .null, .null, .null, .null, .null, .null, .null, .null, .null, .null, .int 0, .int 0, .null, .int 0, .int 0, .int 0, .int 0, .int 0, .int 0, .int 0, .int 0, .long 0, .long 0, .int 0, .int 0, .null, .null, .null, .null, .null, .null, .int 0, .int 0, .int 0, .int 0, .null, .int 0, .null, .int 0, .long 0, .double 0, .null, .null, .null, .int 0]))) rfl ?_
  exact kt_X12_1 d
