theorem lyX_0 : ΛX 0 = (0, 6, [3, 14, 15, 19, 29, 0, 0, 0]) := rfl
theorem ltX_0 : 0 < 29 := by decide
theorem lyX_1 : ΛX 1 = (3, 3, [10]) := rfl
theorem ltX_1 : 1 < 29 := by decide
theorem lyX_2 : ΛX 2 = (0, 3, [0, 0, 0, 0, 0, 0]) := rfl
theorem ltX_2 : 2 < 29 := by decide
theorem lyX_3 : ΛX 3 = (0, 3, [0, 0, 0, 0, 0, 0]) := rfl
theorem ltX_3 : 3 < 29 := by decide
theorem lyX_4 : ΛX 4 = (0, 3, [0, 0, 0, 0, 0, 0]) := rfl
theorem ltX_4 : 4 < 29 := by decide
theorem lyX_5 : ΛX 5 = (0, 3, [0, 0, 0, 0, 0, 0]) := rfl
theorem ltX_5 : 5 < 29 := by decide
theorem lyX_6 : ΛX 6 = (0, 3, [0, 0, 0, 0, 0, 0]) := rfl
theorem ltX_6 : 6 < 29 := by decide
theorem lyX_7 : ΛX 7 = (0, 3, [0, 0, 0, 0, 0, 0]) := rfl
theorem ltX_7 : 7 < 29 := by decide
theorem lyX_8 : ΛX 8 = (0, 3, [0, 0, 0, 0, 0, 0]) := rfl
theorem ltX_8 : 8 < 29 := by decide
theorem lyX_9 : ΛX 9 = (0, 3, [0, 0, 0, 0, 0, 0]) := rfl
theorem ltX_9 : 9 < 29 := by decide
theorem lyX_10 : ΛX 10 = (0, 3, [0, 0, 0, 0, 0, 0]) := rfl
theorem ltX_10 : 10 < 29 := by decide
theorem lyX_11 : ΛX 11 = (0, 3, [0, 0, 0, 0, 0, 0]) := rfl
theorem ltX_11 : 11 < 29 := by decide
theorem lyX_12 : ΛX 12 = (1, 0, [16]) := rfl
theorem ltX_12 : 12 < 29 := by decide
theorem lyX_13 : ΛX 13 = (0, 2, [16, 18, 0, 0, 0, 0]) := rfl
theorem ltX_13 : 13 < 29 := by decide
theorem lyX_14 : ΛX 14 = (0, 4, [17, 0, 0, 0, 0, 0, 0]) := rfl
theorem ltX_14 : 14 < 29 := by decide
theorem lyX_15 : ΛX 15 = (1, 2, [80]) := rfl
theorem ltX_15 : 15 < 29 := by decide
theorem lyX_16 : ΛX 16 = (0, 3, [0, 0, 0, 0, 0, 0]) := rfl
theorem ltX_16 : 16 < 29 := by decide
theorem lyX_17 : ΛX 17 = (0, 0, [20, 24, 25, 26, 27, 28, 0, 0, 0, 0]) := rfl
theorem ltX_17 : 17 < 29 := by decide
theorem lyX_18 : ΛX 18 = (0, 5, [21, 22, 23, 0, 0, 0]) := rfl
theorem ltX_18 : 18 < 29 := by decide
theorem lyX_19 : ΛX 19 = (1, 0, [6]) := rfl
theorem ltX_19 : 19 < 29 := by decide
theorem lyX_20 : ΛX 20 = (1, 0, [16]) := rfl
theorem ltX_20 : 20 < 29 := by decide
theorem lyX_21 : ΛX 21 = (1, 0, [7]) := rfl
theorem ltX_21 : 21 < 29 := by decide
theorem lyX_22 : ΛX 22 = (1, 0, [1024]) := rfl
theorem ltX_22 : 22 < 29 := by decide
theorem lyX_23 : ΛX 23 = (1, 0, [1024]) := rfl
theorem ltX_23 : 23 < 29 := by decide
theorem lyX_24 : ΛX 24 = (1, 0, [1024]) := rfl
theorem ltX_24 : 24 < 29 := by decide
theorem lyX_25 : ΛX 25 = (2, 1, [16]) := rfl
theorem ltX_25 : 25 < 29 := by decide
theorem lyX_26 : ΛX 26 = (1, 2, []) := rfl
theorem ltX_26 : 26 < 29 := by decide
theorem lyX_27 : ΛX 27 = (0, 1, [30, 1, 1, 0, 0, 0, 0, 0]) := rfl
theorem ltX_27 : 27 < 29 := by decide
theorem lyX_28 : ΛX 28 = (1, 0, [64]) := rfl
theorem ltX_28 : 28 < 29 := by decide
theorem lyM_0 : ΛM 0 = (0, 7, [0, 0, 0, 0, 3, 4, 0, 0, 0, 0, 0, 0, 0, 5, 6, 7, 0, 0, 0, 8, 9, 10, 11, 12, 13, 0, 0, 0, 0]) := rfl
theorem ltM_0 : 0 < 12 := by decide
theorem lyM_1 : ΛM 1 = (1, 0, [16]) := rfl
theorem ltM_1 : 1 < 12 := by decide
theorem lyM_2 : ΛM 2 = (1, 0, [80]) := rfl
theorem ltM_2 : 2 < 12 := by decide
theorem lyM_3 : ΛM 3 = (1, 0, [60]) := rfl
theorem ltM_3 : 3 < 12 := by decide
theorem lyM_4 : ΛM 4 = (1, 0, [60]) := rfl
theorem ltM_4 : 4 < 12 := by decide
theorem lyM_5 : ΛM 5 = (1, 0, [60]) := rfl
theorem ltM_5 : 5 < 12 := by decide
theorem lyM_6 : ΛM 6 = (1, 0, [16]) := rfl
theorem ltM_6 : 6 < 12 := by decide
theorem lyM_7 : ΛM 7 = (1, 0, [1024]) := rfl
theorem ltM_7 : 7 < 12 := by decide
theorem lyM_8 : ΛM 8 = (1, 0, [1024]) := rfl
theorem ltM_8 : 8 < 12 := by decide
theorem lyM_9 : ΛM 9 = (1, 0, [16384]) := rfl
theorem ltM_9 : 9 < 12 := by decide
theorem lyM_10 : ΛM 10 = (2, 1, [1024]) := rfl
theorem ltM_10 : 10 < 12 := by decide
theorem lyM_11 : ΛM 11 = (1, 0, [64]) := rfl
theorem ltM_11 : 11 < 12 := by decide
theorem fd_X6_11 : kFd "KindSayings" 11 6 0 := ⟨RX6, TX6, 8, rfl, by decide, w_320, inG6⟩
theorem fd_X6_15 : kFd "KindSayings" 15 6 1 := ⟨RX6, TX6, 8, rfl, by decide, w_321, inG6⟩
theorem fd_X6_22 : kFd "KindSayings" 22 6 2 := ⟨RX6, TX6, 8, rfl, by decide, w_322, inG6⟩
theorem fd_X6_29 : kFd "KindSayings" 29 6 3 := ⟨RX6, TX6, 8, rfl, by decide, w_323, inG6⟩
theorem fd_X6_36 : kFd "KindSayings" 36 6 4 := ⟨RX6, TX6, 8, rfl, by decide, w_324, inG6⟩
theorem fd_X6_40 : kFd "KindSayings" 40 6 5 := ⟨RX6, TX6, 8, rfl, by decide, w_325, inG6⟩
theorem fw_X6_40 : kFw "KindSayings" 40 6 5 .int := ⟨RX6, TX6, 8, tyX6, rfl, by decide, w_325, inG6, tyX6_ok, nmX6, rfl, by decide +kernel⟩
theorem fd_X6_44 : kFd "KindSayings" 44 6 6 := ⟨RX6, TX6, 8, rfl, by decide, w_326, inG6⟩
theorem fw_X6_44 : kFw "KindSayings" 44 6 6 .int := ⟨RX6, TX6, 8, tyX6, rfl, by decide, w_326, inG6, tyX6_ok, nmX6, rfl, by decide +kernel⟩
theorem fd_X6_47 : kFd "KindSayings" 47 6 7 := ⟨RX6, TX6, 8, rfl, by decide, w_327, inG6⟩
theorem fw_X6_47 : kFw "KindSayings" 47 6 7 .int := ⟨RX6, TX6, 8, tyX6, rfl, by decide, w_327, inG6, tyX6_ok, nmX6, rfl, by decide +kernel⟩
theorem fd_X6_62 : kFd "KindSayings" 62 0 8 := ⟨RX0, TX0, 10, rfl, by decide, w_235, inG0⟩
theorem fw_X6_62 : kFw "KindSayings" 62 0 8 .int := ⟨RX0, TX0, 10, tyX0, rfl, by decide, w_235, inG0, tyX0_ok, nmX0, rfl, by decide +kernel⟩
theorem fd_X6_87 : kFd "KindSayings" 87 2 0 := ⟨RX2, TX2, 6, rfl, by decide, w_166, inG2⟩
theorem fd_X6_91 : kFd "KindSayings" 91 4 1 := ⟨RX4, TX4, 7, rfl, by decide, w_101, inG4⟩
theorem fw_X6_91 : kFw "KindSayings" 91 4 1 .int := ⟨RX4, TX4, 7, tyX4, rfl, by decide, w_101, inG4, tyX4_ok, nmX4, rfl, by decide +kernel⟩
theorem fd_X6_104 : kFd "KindSayings" 104 2 1 := ⟨RX2, TX2, 6, rfl, by decide, w_168, inG2⟩
theorem fd_X6_112 : kFd "KindSayings" 112 0 9 := ⟨RX0, TX0, 10, rfl, by decide, w_237, inG0⟩
theorem fw_X6_112 : kFw "KindSayings" 112 0 9 .int := ⟨RX0, TX0, 10, tyX0, rfl, by decide, w_237, inG0, tyX0_ok, nmX0, rfl, by decide +kernel⟩
theorem fd_X6_115 : kFd "KindSayings" 115 3 0 := ⟨RX3, TX3, 6, rfl, by decide, w_136, inG3⟩
theorem fw_X6_115 : kFw "KindSayings" 115 3 0 .int := ⟨RX3, TX3, 6, tyX3, rfl, by decide, w_136, inG3, tyX3_ok, nmX3, rfl, by decide +kernel⟩
theorem fd_X6_118 : kFd "KindSayings" 118 3 2 := ⟨RX3, TX3, 6, rfl, by decide, w_142, inG3⟩
theorem fw_X6_118 : kFw "KindSayings" 118 3 2 .int := ⟨RX3, TX3, 6, tyX3, rfl, by decide, w_142, inG3, tyX3_ok, nmX3, rfl, by decide +kernel⟩
theorem fd_X6_121 : kFd "KindSayings" 121 3 3 := ⟨RX3, TX3, 6, rfl, by decide, w_145, inG3⟩
theorem fw_X6_121 : kFw "KindSayings" 121 3 3 .int := ⟨RX3, TX3, 6, tyX3, rfl, by decide, w_145, inG3, tyX3_ok, nmX3, rfl, by decide +kernel⟩
theorem fd_X6_124 : kFd "KindSayings" 124 3 1 := ⟨RX3, TX3, 6, rfl, by decide, w_139, inG3⟩
theorem fw_X6_124 : kFw "KindSayings" 124 3 1 .int := ⟨RX3, TX3, 6, tyX3, rfl, by decide, w_139, inG3, tyX3_ok, nmX3, rfl, by decide +kernel⟩
theorem fd_X6_127 : kFd "KindSayings" 127 3 5 := ⟨RX3, TX3, 6, rfl, by decide, w_151, inG3⟩
theorem fw_X6_127 : kFw "KindSayings" 127 3 5 .boolean := ⟨RX3, TX3, 6, tyX3, rfl, by decide, w_151, inG3, tyX3_ok, nmX3, rfl, by decide +kernel⟩
theorem fd_X6_131 : kFd "KindSayings" 131 3 4 := ⟨RX3, TX3, 6, rfl, by decide, w_148, inG3⟩
theorem fw_X6_131 : kFw "KindSayings" 131 3 4 .int := ⟨RX3, TX3, 6, tyX3, rfl, by decide, w_148, inG3, tyX3_ok, nmX3, rfl, by decide +kernel⟩
theorem fd_X6_204 : kFd "KindSayings" 204 1 7 := ⟨RX1, TX1, 8, rfl, by decide, w_274, inG1⟩
theorem fw_X6_204 : kFw "KindSayings" 204 1 7 .int := ⟨RX1, TX1, 8, tyX1, rfl, by decide, w_274, inG1, tyX1_ok, nmX1, rfl, by decide +kernel⟩
theorem fd_X0_12 : kFd "KindSayings$Heaps" 12 0 0 := ⟨RX0, TX0, 10, rfl, by decide, w_226, inG0⟩
theorem fd_X0_18 : kFd "KindSayings$Heaps" 18 0 1 := ⟨RX0, TX0, 10, rfl, by decide, w_227, inG0⟩
theorem fd_X0_22 : kFd "KindSayings$Heaps" 22 0 2 := ⟨RX0, TX0, 10, rfl, by decide, w_228, inG0⟩
theorem fd_X0_25 : kFd "KindSayings$Heaps" 25 0 3 := ⟨RX0, TX0, 10, rfl, by decide, w_229, inG0⟩
theorem fd_X0_28 : kFd "KindSayings$Heaps" 28 0 4 := ⟨RX0, TX0, 10, rfl, by decide, w_230, inG0⟩
theorem fd_X0_32 : kFd "KindSayings$Heaps" 32 0 5 := ⟨RX0, TX0, 10, rfl, by decide, w_231, inG0⟩
theorem fd_X0_48 : kFd "KindSayings$Heaps" 48 0 6 := ⟨RX0, TX0, 10, rfl, by decide, w_232, inG0⟩
theorem fw_X0_48 : kFw "KindSayings$Heaps" 48 0 6 .int := ⟨RX0, TX0, 10, tyX0, rfl, by decide, w_232, inG0, tyX0_ok, nmX0, rfl, by decide +kernel⟩
theorem fd_X0_52 : kFd "KindSayings$Heaps" 52 0 7 := ⟨RX0, TX0, 10, rfl, by decide, w_233, inG0⟩
theorem fw_X0_52 : kFw "KindSayings$Heaps" 52 0 7 .int := ⟨RX0, TX0, 10, tyX0, rfl, by decide, w_233, inG0, tyX0_ok, nmX0, rfl, by decide +kernel⟩
theorem fd_X0_59 : kFd "KindSayings$Heaps" 59 0 8 := ⟨RX0, TX0, 10, rfl, by decide, w_234, inG0⟩
theorem fw_X0_59 : kFw "KindSayings$Heaps" 59 0 8 .int := ⟨RX0, TX0, 10, tyX0, rfl, by decide, w_234, inG0, tyX0_ok, nmX0, rfl, by decide +kernel⟩
theorem fd_X0_62 : kFd "KindSayings$Heaps" 62 0 9 := ⟨RX0, TX0, 10, rfl, by decide, w_236, inG0⟩
theorem fw_X0_62 : kFw "KindSayings$Heaps" 62 0 9 .int := ⟨RX0, TX0, 10, tyX0, rfl, by decide, w_236, inG0, tyX0_ok, nmX0, rfl, by decide +kernel⟩
theorem fd_X1_9 : kFd "KindSayings$Proof" 9 1 0 := ⟨RX1, TX1, 8, rfl, by decide, w_266, inG1⟩
theorem fd_X1_15 : kFd "KindSayings$Proof" 15 1 1 := ⟨RX1, TX1, 8, rfl, by decide, w_267, inG1⟩
theorem fw_X1_15 : kFw "KindSayings$Proof" 15 1 1 .long := ⟨RX1, TX1, 8, tyX1, rfl, by decide, w_267, inG1, tyX1_ok, nmX1, rfl, by decide +kernel⟩
theorem fd_X1_19 : kFd "KindSayings$Proof" 19 1 3 := ⟨RX1, TX1, 8, rfl, by decide, w_269, inG1⟩
theorem fw_X1_19 : kFw "KindSayings$Proof" 19 1 3 .int := ⟨RX1, TX1, 8, tyX1, rfl, by decide, w_269, inG1, tyX1_ok, nmX1, rfl, by decide +kernel⟩
theorem fd_X1_23 : kFd "KindSayings$Proof" 23 1 4 := ⟨RX1, TX1, 8, rfl, by decide, w_270, inG1⟩
theorem fw_X1_23 : kFw "KindSayings$Proof" 23 1 4 .int := ⟨RX1, TX1, 8, tyX1, rfl, by decide, w_270, inG1, tyX1_ok, nmX1, rfl, by decide +kernel⟩
theorem fd_X1_26 : kFd "KindSayings$Proof" 26 1 7 := ⟨RX1, TX1, 8, rfl, by decide, w_273, inG1⟩
theorem fw_X1_26 : kFw "KindSayings$Proof" 26 1 7 .int := ⟨RX1, TX1, 8, tyX1, rfl, by decide, w_273, inG1, tyX1_ok, nmX1, rfl, by decide +kernel⟩
theorem fd_X1_44 : kFd "KindSayings$Proof" 44 1 2 := ⟨RX1, TX1, 8, rfl, by decide, w_268, inG1⟩
theorem fw_X1_44 : kFw "KindSayings$Proof" 44 1 2 .long := ⟨RX1, TX1, 8, tyX1, rfl, by decide, w_268, inG1, tyX1_ok, nmX1, rfl, by decide +kernel⟩
theorem fd_X1_60 : kFd "KindSayings$Proof" 60 1 5 := ⟨RX1, TX1, 8, rfl, by decide, w_271, inG1⟩
theorem fw_X1_60 : kFw "KindSayings$Proof" 60 1 5 .int := ⟨RX1, TX1, 8, tyX1, rfl, by decide, w_271, inG1, tyX1_ok, nmX1, rfl, by decide +kernel⟩
theorem fd_X1_63 : kFd "KindSayings$Proof" 63 1 6 := ⟨RX1, TX1, 8, rfl, by decide, w_272, inG1⟩
theorem fw_X1_63 : kFw "KindSayings$Proof" 63 1 6 .int := ⟨RX1, TX1, 8, tyX1, rfl, by decide, w_272, inG1, tyX1_ok, nmX1, rfl, by decide +kernel⟩
theorem fd_X2_12 : kFd "KindSayings$Reader" 12 2 0 := ⟨RX2, TX2, 6, rfl, by decide, w_165, inG2⟩
theorem fd_X2_21 : kFd "KindSayings$Reader" 21 2 1 := ⟨RX2, TX2, 6, rfl, by decide, w_167, inG2⟩
theorem fd_X2_25 : kFd "KindSayings$Reader" 25 2 2 := ⟨RX2, TX2, 6, rfl, by decide, w_169, inG2⟩
theorem fw_X2_25 : kFw "KindSayings$Reader" 25 2 2 .int := ⟨RX2, TX2, 6, tyX2, rfl, by decide, w_169, inG2, tyX2_ok, nmX2, rfl, by decide +kernel⟩
theorem fd_X2_29 : kFd "KindSayings$Reader" 29 2 3 := ⟨RX2, TX2, 6, rfl, by decide, w_170, inG2⟩
theorem fw_X2_29 : kFw "KindSayings$Reader" 29 2 3 .int := ⟨RX2, TX2, 6, tyX2, rfl, by decide, w_170, inG2, tyX2_ok, nmX2, rfl, by decide +kernel⟩
theorem fd_X2_32 : kFd "KindSayings$Reader" 32 2 4 := ⟨RX2, TX2, 6, rfl, by decide, w_171, inG2⟩
theorem fw_X2_32 : kFw "KindSayings$Reader" 32 2 4 .int := ⟨RX2, TX2, 6, tyX2, rfl, by decide, w_171, inG2, tyX2_ok, nmX2, rfl, by decide +kernel⟩
theorem fd_X2_45 : kFd "KindSayings$Reader" 45 3 2 := ⟨RX3, TX3, 6, rfl, by decide, w_141, inG3⟩
theorem fw_X2_45 : kFw "KindSayings$Reader" 45 3 2 .int := ⟨RX3, TX3, 6, tyX3, rfl, by decide, w_141, inG3, tyX3_ok, nmX3, rfl, by decide +kernel⟩
theorem fd_X2_48 : kFd "KindSayings$Reader" 48 2 5 := ⟨RX2, TX2, 6, rfl, by decide, w_172, inG2⟩
theorem fw_X2_48 : kFw "KindSayings$Reader" 48 2 5 .int := ⟨RX2, TX2, 6, tyX2, rfl, by decide, w_172, inG2, tyX2_ok, nmX2, rfl, by decide +kernel⟩
theorem fd_X2_55 : kFd "KindSayings$Reader" 55 3 3 := ⟨RX3, TX3, 6, rfl, by decide, w_144, inG3⟩
theorem fw_X2_55 : kFw "KindSayings$Reader" 55 3 3 .int := ⟨RX3, TX3, 6, tyX3, rfl, by decide, w_144, inG3, tyX3_ok, nmX3, rfl, by decide +kernel⟩
theorem fd_X2_62 : kFd "KindSayings$Reader" 62 3 4 := ⟨RX3, TX3, 6, rfl, by decide, w_147, inG3⟩
theorem fw_X2_62 : kFw "KindSayings$Reader" 62 3 4 .int := ⟨RX3, TX3, 6, tyX3, rfl, by decide, w_147, inG3, tyX3_ok, nmX3, rfl, by decide +kernel⟩
theorem fd_X2_65 : kFd "KindSayings$Reader" 65 4 2 := ⟨RX4, TX4, 7, rfl, by decide, w_102, inG4⟩
theorem fw_X2_65 : kFw "KindSayings$Reader" 65 4 2 .int := ⟨RX4, TX4, 7, tyX4, rfl, by decide, w_102, inG4, tyX4_ok, nmX4, rfl, by decide +kernel⟩
theorem fd_X2_68 : kFd "KindSayings$Reader" 68 4 3 := ⟨RX4, TX4, 7, rfl, by decide, w_104, inG4⟩
theorem fw_X2_68 : kFw "KindSayings$Reader" 68 4 3 .int := ⟨RX4, TX4, 7, tyX4, rfl, by decide, w_104, inG4, tyX4_ok, nmX4, rfl, by decide +kernel⟩
theorem fd_X2_71 : kFd "KindSayings$Reader" 71 3 5 := ⟨RX3, TX3, 6, rfl, by decide, w_150, inG3⟩
theorem fw_X2_71 : kFw "KindSayings$Reader" 71 3 5 .boolean := ⟨RX3, TX3, 6, tyX3, rfl, by decide, w_150, inG3, tyX3_ok, nmX3, rfl, by decide +kernel⟩
theorem fd_X2_78 : kFd "KindSayings$Reader" 78 3 0 := ⟨RX3, TX3, 6, rfl, by decide, w_135, inG3⟩
theorem fw_X2_78 : kFw "KindSayings$Reader" 78 3 0 .int := ⟨RX3, TX3, 6, tyX3, rfl, by decide, w_135, inG3, tyX3_ok, nmX3, rfl, by decide +kernel⟩
theorem fd_X2_81 : kFd "KindSayings$Reader" 81 3 1 := ⟨RX3, TX3, 6, rfl, by decide, w_138, inG3⟩
theorem fw_X2_81 : kFw "KindSayings$Reader" 81 3 1 .int := ⟨RX3, TX3, 6, tyX3, rfl, by decide, w_138, inG3, tyX3_ok, nmX3, rfl, by decide +kernel⟩
theorem fd_X2_90 : kFd "KindSayings$Reader" 90 4 5 := ⟨RX4, TX4, 7, rfl, by decide, w_109, inG4⟩
theorem fw_X2_90 : kFw "KindSayings$Reader" 90 4 5 .int := ⟨RX4, TX4, 7, tyX4, rfl, by decide, w_109, inG4, tyX4_ok, nmX4, rfl, by decide +kernel⟩
theorem fd_X2_113 : kFd "KindSayings$Reader" 113 4 4 := ⟨RX4, TX4, 7, rfl, by decide, w_107, inG4⟩
theorem fw_X2_113 : kFw "KindSayings$Reader" 113 4 4 .int := ⟨RX4, TX4, 7, tyX4, rfl, by decide, w_107, inG4, tyX4_ok, nmX4, rfl, by decide +kernel⟩
theorem fd_X3_9 : kFd "KindSayings$Saying" 9 3 0 := ⟨RX3, TX3, 6, rfl, by decide, w_134, inG3⟩
theorem fw_X3_9 : kFw "KindSayings$Saying" 9 3 0 .int := ⟨RX3, TX3, 6, tyX3, rfl, by decide, w_134, inG3, tyX3_ok, nmX3, rfl, by decide +kernel⟩
theorem fd_X3_15 : kFd "KindSayings$Saying" 15 3 1 := ⟨RX3, TX3, 6, rfl, by decide, w_137, inG3⟩
theorem fw_X3_15 : kFw "KindSayings$Saying" 15 3 1 .int := ⟨RX3, TX3, 6, tyX3, rfl, by decide, w_137, inG3, tyX3_ok, nmX3, rfl, by decide +kernel⟩
theorem fd_X3_22 : kFd "KindSayings$Saying" 22 3 2 := ⟨RX3, TX3, 6, rfl, by decide, w_140, inG3⟩
theorem fw_X3_22 : kFw "KindSayings$Saying" 22 3 2 .int := ⟨RX3, TX3, 6, tyX3, rfl, by decide, w_140, inG3, tyX3_ok, nmX3, rfl, by decide +kernel⟩
theorem fd_X3_25 : kFd "KindSayings$Saying" 25 3 3 := ⟨RX3, TX3, 6, rfl, by decide, w_143, inG3⟩
theorem fw_X3_25 : kFw "KindSayings$Saying" 25 3 3 .int := ⟨RX3, TX3, 6, tyX3, rfl, by decide, w_143, inG3, tyX3_ok, nmX3, rfl, by decide +kernel⟩
theorem fd_X3_32 : kFd "KindSayings$Saying" 32 3 4 := ⟨RX3, TX3, 6, rfl, by decide, w_146, inG3⟩
theorem fw_X3_32 : kFw "KindSayings$Saying" 32 3 4 .int := ⟨RX3, TX3, 6, tyX3, rfl, by decide, w_146, inG3, tyX3_ok, nmX3, rfl, by decide +kernel⟩
theorem fd_X3_35 : kFd "KindSayings$Saying" 35 3 5 := ⟨RX3, TX3, 6, rfl, by decide, w_149, inG3⟩
theorem fw_X3_35 : kFw "KindSayings$Saying" 35 3 5 .boolean := ⟨RX3, TX3, 6, tyX3, rfl, by decide, w_149, inG3, tyX3_ok, nmX3, rfl, by decide +kernel⟩
theorem fd_X4_9 : kFd "KindSayings$Tokens" 9 4 0 := ⟨RX4, TX4, 7, rfl, by decide, w_99, inG4⟩
theorem fd_X4_15 : kFd "KindSayings$Tokens" 15 4 1 := ⟨RX4, TX4, 7, rfl, by decide, w_100, inG4⟩
theorem fw_X4_15 : kFw "KindSayings$Tokens" 15 4 1 .int := ⟨RX4, TX4, 7, tyX4, rfl, by decide, w_100, inG4, tyX4_ok, nmX4, rfl, by decide +kernel⟩
theorem fd_X4_21 : kFd "KindSayings$Tokens" 21 4 6 := ⟨RX4, TX4, 7, rfl, by decide, w_110, inG4⟩
theorem fw_X4_21 : kFw "KindSayings$Tokens" 21 4 6 .int := ⟨RX4, TX4, 7, tyX4, rfl, by decide, w_110, inG4, tyX4_ok, nmX4, rfl, by decide +kernel⟩
theorem fd_X4_24 : kFd "KindSayings$Tokens" 24 4 5 := ⟨RX4, TX4, 7, rfl, by decide, w_108, inG4⟩
theorem fw_X4_24 : kFw "KindSayings$Tokens" 24 4 5 .int := ⟨RX4, TX4, 7, tyX4, rfl, by decide, w_108, inG4, tyX4_ok, nmX4, rfl, by decide +kernel⟩
theorem fd_X4_34 : kFd "KindSayings$Tokens" 34 4 4 := ⟨RX4, TX4, 7, rfl, by decide, w_106, inG4⟩
theorem fw_X4_34 : kFw "KindSayings$Tokens" 34 4 4 .int := ⟨RX4, TX4, 7, tyX4, rfl, by decide, w_106, inG4, tyX4_ok, nmX4, rfl, by decide +kernel⟩
theorem fd_X4_37 : kFd "KindSayings$Tokens" 37 4 3 := ⟨RX4, TX4, 7, rfl, by decide, w_105, inG4⟩
theorem fw_X4_37 : kFw "KindSayings$Tokens" 37 4 3 .int := ⟨RX4, TX4, 7, tyX4, rfl, by decide, w_105, inG4, tyX4_ok, nmX4, rfl, by decide +kernel⟩
theorem fd_X4_40 : kFd "KindSayings$Tokens" 40 4 2 := ⟨RX4, TX4, 7, rfl, by decide, w_103, inG4⟩
theorem fw_X4_40 : kFw "KindSayings$Tokens" 40 4 2 .int := ⟨RX4, TX4, 7, tyX4, rfl, by decide, w_103, inG4, tyX4_ok, nmX4, rfl, by decide +kernel⟩
theorem fd_X5_9 : kFd "KindSayings$Walk" 9 5 0 := ⟨RX5, TX5, 6, rfl, by decide, w_198, inG5⟩
theorem fd_X5_15 : kFd "KindSayings$Walk" 15 5 1 := ⟨RX5, TX5, 6, rfl, by decide, w_199, inG5⟩
theorem fd_X5_18 : kFd "KindSayings$Walk" 18 5 2 := ⟨RX5, TX5, 6, rfl, by decide, w_200, inG5⟩
theorem fd_X5_33 : kFd "KindSayings$Walk" 33 5 3 := ⟨RX5, TX5, 6, rfl, by decide, w_201, inG5⟩
theorem fw_X5_33 : kFw "KindSayings$Walk" 33 5 3 .int := ⟨RX5, TX5, 6, tyX5, rfl, by decide, w_201, inG5, tyX5_ok, nmX5, rfl, by decide +kernel⟩
theorem fd_X5_37 : kFd "KindSayings$Walk" 37 5 4 := ⟨RX5, TX5, 6, rfl, by decide, w_202, inG5⟩
theorem fw_X5_37 : kFw "KindSayings$Walk" 37 5 4 .int := ⟨RX5, TX5, 6, tyX5, rfl, by decide, w_202, inG5, tyX5_ok, nmX5, rfl, by decide +kernel⟩
theorem fd_X5_40 : kFd "KindSayings$Walk" 40 5 5 := ⟨RX5, TX5, 6, rfl, by decide, w_203, inG5⟩
theorem fw_X5_40 : kFw "KindSayings$Walk" 40 5 5 .int := ⟨RX5, TX5, 6, tyX5, rfl, by decide, w_203, inG5, tyX5_ok, nmX5, rfl, by decide +kernel⟩
theorem fd_X7_7 : kFd "KindSayingsModel" 7 7 1 := ⟨RX7, TX7, 29, rfl, by decide, w_771, inG7⟩
theorem fw_X7_7 : kFw "KindSayingsModel" 7 7 1 .int := ⟨RX7, TX7, 29, tyX7, rfl, by decide, w_771, inG7, tyX7_ok, nmX7, rfl, by decide +kernel⟩
theorem fd_X7_13 : kFd "KindSayingsModel" 13 7 2 := ⟨RX7, TX7, 29, rfl, by decide, w_772, inG7⟩
theorem fw_X7_13 : kFw "KindSayingsModel" 13 7 2 .int := ⟨RX7, TX7, 29, tyX7, rfl, by decide, w_772, inG7, tyX7_ok, nmX7, rfl, by decide +kernel⟩
theorem fd_X7_16 : kFd "KindSayingsModel" 16 7 3 := ⟨RX7, TX7, 29, rfl, by decide, w_773, inG7⟩
theorem fw_X7_16 : kFw "KindSayingsModel" 16 7 3 .int := ⟨RX7, TX7, 29, tyX7, rfl, by decide, w_773, inG7, tyX7_ok, nmX7, rfl, by decide +kernel⟩
theorem fd_X7_19 : kFd "KindSayingsModel" 19 7 4 := ⟨RX7, TX7, 29, rfl, by decide, w_774, inG7⟩
theorem fd_X7_23 : kFd "KindSayingsModel" 23 7 5 := ⟨RX7, TX7, 29, rfl, by decide, w_775, inG7⟩
theorem fd_X7_26 : kFd "KindSayingsModel" 26 7 13 := ⟨RX7, TX7, 29, rfl, by decide, w_783, inG7⟩
theorem fd_X7_29 : kFd "KindSayingsModel" 29 7 14 := ⟨RX7, TX7, 29, rfl, by decide, w_784, inG7⟩
theorem fd_X7_32 : kFd "KindSayingsModel" 32 7 15 := ⟨RX7, TX7, 29, rfl, by decide, w_785, inG7⟩
theorem fd_X7_35 : kFd "KindSayingsModel" 35 7 19 := ⟨RX7, TX7, 29, rfl, by decide, w_789, inG7⟩
theorem fd_X7_38 : kFd "KindSayingsModel" 38 7 20 := ⟨RX7, TX7, 29, rfl, by decide, w_790, inG7⟩
theorem fd_X7_41 : kFd "KindSayingsModel" 41 7 21 := ⟨RX7, TX7, 29, rfl, by decide, w_791, inG7⟩
theorem fd_X7_44 : kFd "KindSayingsModel" 44 7 22 := ⟨RX7, TX7, 29, rfl, by decide, w_792, inG7⟩
theorem fd_X7_47 : kFd "KindSayingsModel" 47 7 23 := ⟨RX7, TX7, 29, rfl, by decide, w_793, inG7⟩
theorem fd_X7_51 : kFd "KindSayingsModel" 51 7 24 := ⟨RX7, TX7, 29, rfl, by decide, w_794, inG7⟩
theorem fd_X7_57 : kFd "KindSayingsModel" 57 7 0 := ⟨RX7, TX7, 29, rfl, by decide, w_770, inG7⟩
theorem fw_X7_57 : kFw "KindSayingsModel" 57 7 0 .int := ⟨RX7, TX7, 29, tyX7, rfl, by decide, w_770, inG7, tyX7_ok, nmX7, rfl, by decide +kernel⟩
theorem fd_X7_68 : kFd "KindSayingsModel" 68 7 17 := ⟨RX7, TX7, 29, rfl, by decide, w_787, inG7⟩
theorem fw_X7_68 : kFw "KindSayingsModel" 68 7 17 .boolean := ⟨RX7, TX7, 29, tyX7, rfl, by decide, w_787, inG7, tyX7_ok, nmX7, rfl, by decide +kernel⟩
theorem fd_X7_79 : kFd "KindSayingsModel" 79 7 18 := ⟨RX7, TX7, 29, rfl, by decide, w_788, inG7⟩
theorem fw_X7_79 : kFw "KindSayingsModel" 79 7 18 .int := ⟨RX7, TX7, 29, tyX7, rfl, by decide, w_788, inG7, tyX7_ok, nmX7, rfl, by decide +kernel⟩
theorem fd_X7_98 : kFd "KindSayingsModel" 98 7 6 := ⟨RX7, TX7, 29, rfl, by decide, w_776, inG7⟩
theorem fw_X7_98 : kFw "KindSayingsModel" 98 7 6 .int := ⟨RX7, TX7, 29, tyX7, rfl, by decide, w_776, inG7, tyX7_ok, nmX7, rfl, by decide +kernel⟩
theorem fd_X7_113 : kFd "KindSayingsModel" 113 7 7 := ⟨RX7, TX7, 29, rfl, by decide, w_777, inG7⟩
theorem fw_X7_113 : kFw "KindSayingsModel" 113 7 7 .int := ⟨RX7, TX7, 29, tyX7, rfl, by decide, w_777, inG7, tyX7_ok, nmX7, rfl, by decide +kernel⟩
theorem fd_X7_119 : kFd "KindSayingsModel" 119 7 9 := ⟨RX7, TX7, 29, rfl, by decide, w_779, inG7⟩
theorem fw_X7_119 : kFw "KindSayingsModel" 119 7 9 .int := ⟨RX7, TX7, 29, tyX7, rfl, by decide, w_779, inG7, tyX7_ok, nmX7, rfl, by decide +kernel⟩
theorem fd_X7_122 : kFd "KindSayingsModel" 122 7 8 := ⟨RX7, TX7, 29, rfl, by decide, w_778, inG7⟩
theorem fw_X7_122 : kFw "KindSayingsModel" 122 7 8 .int := ⟨RX7, TX7, 29, tyX7, rfl, by decide, w_778, inG7, tyX7_ok, nmX7, rfl, by decide +kernel⟩
theorem fd_X7_129 : kFd "KindSayingsModel" 129 7 10 := ⟨RX7, TX7, 29, rfl, by decide, w_780, inG7⟩
theorem fw_X7_129 : kFw "KindSayingsModel" 129 7 10 .int := ⟨RX7, TX7, 29, tyX7, rfl, by decide, w_780, inG7, tyX7_ok, nmX7, rfl, by decide +kernel⟩
theorem fd_X7_132 : kFd "KindSayingsModel" 132 7 11 := ⟨RX7, TX7, 29, rfl, by decide, w_781, inG7⟩
theorem fw_X7_132 : kFw "KindSayingsModel" 132 7 11 .int := ⟨RX7, TX7, 29, tyX7, rfl, by decide, w_781, inG7, tyX7_ok, nmX7, rfl, by decide +kernel⟩
theorem fd_X7_139 : kFd "KindSayingsModel" 139 7 16 := ⟨RX7, TX7, 29, rfl, by decide, w_786, inG7⟩
theorem fw_X7_139 : kFw "KindSayingsModel" 139 7 16 .int := ⟨RX7, TX7, 29, tyX7, rfl, by decide, w_786, inG7, tyX7_ok, nmX7, rfl, by decide +kernel⟩
theorem fd_X7_148 : kFd "KindSayingsModel" 148 7 12 := ⟨RX7, TX7, 29, rfl, by decide, w_782, inG7⟩
theorem fw_X7_148 : kFw "KindSayingsModel" 148 7 12 .int := ⟨RX7, TX7, 29, tyX7, rfl, by decide, w_782, inG7, tyX7_ok, nmX7, rfl, by decide +kernel⟩
theorem fd_X7_198 : kFd "KindSayingsModel" 198 7 26 := ⟨RX7, TX7, 29, rfl, by decide, w_796, inG7⟩
theorem fw_X7_198 : kFw "KindSayingsModel" 198 7 26 .int := ⟨RX7, TX7, 29, tyX7, rfl, by decide, w_796, inG7, tyX7_ok, nmX7, rfl, by decide +kernel⟩
theorem fd_X7_201 : kFd "KindSayingsModel" 201 7 27 := ⟨RX7, TX7, 29, rfl, by decide, w_797, inG7⟩
theorem fw_X7_201 : kFw "KindSayingsModel" 201 7 27 .int := ⟨RX7, TX7, 29, tyX7, rfl, by decide, w_797, inG7, tyX7_ok, nmX7, rfl, by decide +kernel⟩
theorem fd_X7_204 : kFd "KindSayingsModel" 204 7 28 := ⟨RX7, TX7, 29, rfl, by decide, w_798, inG7⟩
theorem fw_X7_204 : kFw "KindSayingsModel" 204 7 28 .int := ⟨RX7, TX7, 29, tyX7, rfl, by decide, w_798, inG7, tyX7_ok, nmX7, rfl, by decide +kernel⟩
theorem fd_X7_213 : kFd "KindSayingsModel" 213 7 25 := ⟨RX7, TX7, 29, rfl, by decide, w_795, inG7⟩
theorem fw_X7_213 : kFw "KindSayingsModel" 213 7 25 .int := ⟨RX7, TX7, 29, tyX7, rfl, by decide, w_795, inG7, tyX7_ok, nmX7, rfl, by decide +kernel⟩
theorem cl_X6_51 : kCv "KindSayings" 51 yX6_startOver cX6_startOver 3 none 0 := ⟨w_293, w_295, w_0, w_66, w_296, by decide, by decide, by decide +kernel⟩
theorem cl_X6_54 : kCv "KindSayings" 54 yX6_sortCount cX6_sortCount 1 (some .int) 0 := ⟨w_309, w_311, w_1, w_66, w_312, by decide, by decide, by decide +kernel⟩
theorem cl_X6_58 : kCv "KindSayings" 58 yX0_shape cX0_shape 3 none 2 := ⟨w_313, w_314, w_315, w_70, w_316, by decide, by decide, by decide +kernel⟩
theorem cl_X6_65 : kCv "KindSayings" 65 yX6_isSort cX6_isSort 2 (some .boolean) 1 := ⟨w_361, w_363, w_2, w_66, w_364, by decide, by decide, by decide +kernel⟩
theorem cl_X6_69 : kCv "KindSayings" 69 yX6_thingsAtHand cX6_thingsAtHand 3 (some .int) 0 := ⟨w_365, w_367, w_3, w_66, w_368, by decide, by decide, by decide +kernel⟩
theorem cl_X6_72 : kCv "KindSayings" 72 yX6_sayingAt cX6_sayingAt 2 (some (.object "KindSayings$Saying")) 1 := ⟨w_373, w_375, w_4, w_66, w_376, by decide, by decide, by decide +kernel⟩
theorem cl_X6_76 : kCv "KindSayings" 76 yX6_sumAtHand cX6_sumAtHand 4 (some .int) 1 := ⟨w_377, w_379, w_5, w_66, w_380, by decide, by decide, by decide +kernel⟩
theorem cl_X6_80 : kCv "KindSayings" 80 yX3_isTrue cX3_isTrue 2 (some .boolean) 1 := ⟨w_385, w_386, w_387, w_69, w_388, by decide, by decide, by decide +kernel⟩
theorem cl_X6_83 : kCs "KindSayings" 83 yX6_bit cX6_bit 1 (some .int) 1 := ⟨w_393, w_394, w_66, w_395, by decide, by decide, by decide +kernel⟩
theorem cl_X6_96 : kCv "KindSayings" 96 yX4_append cX4_append 5 none 2 := ⟨w_404, w_405, w_406, w_68, w_407, by decide, by decide, by decide +kernel⟩
theorem cl_X6_100 : kCv "KindSayings" 100 yX2_readDraft cX2_readDraft 4 (some .int) 1 := ⟨w_417, w_418, w_419, w_67, w_420, by decide, by decide, by decide +kernel⟩
theorem cl_X6_108 : kCv "KindSayings" 108 yX3_become cX3_become 2 none 1 := ⟨w_500, w_501, w_502, w_69, w_503, by decide, by decide, by decide +kernel⟩
theorem cl_X6_134 : kCs "KindSayings" 134 yX6_isSet cX6_isSet 1 (some .boolean) 1 := ⟨w_512, w_513, w_66, w_514, by decide, by decide, by decide +kernel⟩
theorem cl_X6_137 : kCv "KindSayings" 137 yX6_freshHeaps cX6_freshHeaps 1 (some (.object "KindSayings$Heaps")) 0 := ⟨w_515, w_517, w_21, w_66, w_518, by decide, by decide, by decide +kernel⟩
theorem cl_X6_141 : kCv "KindSayings" 141 yX0_worldsOf cX0_worldsOf 2 (some .int) 1 := ⟨w_561, w_562, w_563, w_70, w_564, by decide, by decide, by decide +kernel⟩
theorem cl_X6_144 : kCv "KindSayings" 144 yX6_isSortOrEvery cX6_isSortOrEvery 2 (some .boolean) 1 := ⟨w_569, w_571, w_26, w_66, w_572, by decide, by decide, by decide +kernel⟩
theorem cl_X6_147 : kCv "KindSayings" 147 yX0_firstWorld cX0_firstWorld 6 (some .int) 2 := ⟨w_573, w_574, w_575, w_70, w_576, by decide, by decide, by decide +kernel⟩
theorem cl_X6_151 : kCv "KindSayings" 151 yX0_thingsIn cX0_thingsIn 7 (some .int) 2 := ⟨w_577, w_578, w_579, w_70, w_580, by decide, by decide, by decide +kernel⟩
theorem cl_X6_154 : kCv "KindSayings" 154 yX0_isFollowing cX0_isFollowing 3 (some .boolean) 2 := ⟨w_588, w_589, w_590, w_70, w_591, by decide, by decide, by decide +kernel⟩
theorem cl_X6_158 : kCs "KindSayings" 158 yX6_has cX6_has 2 (some .boolean) 2 := ⟨w_304, w_221, w_66, w_222, by decide, by decide, by decide +kernel⟩
theorem cl_X6_161 : kCv "KindSayings" 161 yX0_fewestClashing cX0_fewestClashing 5 (some .int) 1 := ⟨w_605, w_606, w_607, w_70, w_608, by decide, by decide, by decide +kernel⟩
theorem cl_X6_164 : kCs "KindSayings" 164 yJ6_bitCount_0f7a4 cJ6_bitCount_0f7a4 1 (some .int) 1 := ⟨w_615, w_610, w_75, w_611, by decide, by decide, by decide +kernel⟩
theorem cl_X6_169 : kCs "KindSayings" 169 yJ9_max_7cf53 cJ9_max_7cf53 2 (some .int) 2 := ⟨w_620, w_621, w_74, w_622, by decide, by decide, by decide +kernel⟩
theorem cl_X6_174 : kCv "KindSayings" 174 yX0_heapsOf cX0_heapsOf 4 (some .int) 1 := ⟨w_627, w_628, w_629, w_70, w_630, by decide, by decide, by decide +kernel⟩
theorem cl_X6_177 : kCv "KindSayings" 177 yX6_isFact cX6_isFact 4 (some .boolean) 3 := ⟨w_643, w_645, w_27, w_66, w_646, by decide, by decide, by decide +kernel⟩
theorem cl_X6_181 : kCv "KindSayings" 181 yX6_work cX6_work 6 none 1 := ⟨w_647, w_649, w_28, w_66, w_650, by decide, by decide, by decide +kernel⟩
theorem cl_X6_185 : kCs "KindSayings" 185 yX6_factNumber cX6_factNumber 3 (some .int) 3 := ⟨w_695, w_224, w_66, w_225, by decide, by decide, by decide +kernel⟩
theorem cl_X6_189 : kCv "KindSayings" 189 yX1_roundAt cX1_roundAt 2 (some .int) 1 := ⟨w_696, w_697, w_698, w_72, w_699, by decide, by decide, by decide +kernel⟩
theorem cl_X6_192 : kCv "KindSayings" 192 yX1_step cX1_step 5 (some .int) 2 := ⟨w_704, w_705, w_706, w_72, w_707, by decide, by decide, by decide +kernel⟩
theorem cl_X6_195 : kCv "KindSayings" 195 yX1_facts cX1_facts 1 (some .long) 0 := ⟨w_713, w_714, w_715, w_72, w_716, by decide, by decide, by decide +kernel⟩
theorem cl_X6_199 : kCs "KindSayings" 199 yJ13_bitCount_95d88 cJ13_bitCount_95d88 2 (some .int) 1 := ⟨w_717, w_718, w_76, w_719, by decide, by decide, by decide +kernel⟩
theorem cl_X6_207 : kCs "KindSayings" 207 yX6_isQuarrel cX6_isQuarrel 10 (some .boolean) 1 := ⟨w_723, w_724, w_66, w_725, by decide, by decide, by decide +kernel⟩
theorem cl_X6_211 : kCv "KindSayings" 211 yX0_factsOf cX0_factsOf 11 (some .long) 1 := ⟨w_727, w_728, w_729, w_70, w_730, by decide, by decide, by decide +kernel⟩
theorem cl_X6_215 : kCv "KindSayings" 215 yX6_everyFact cX6_everyFact 6 (some .long) 0 := ⟨w_739, w_741, w_37, w_66, w_742, by decide, by decide, by decide +kernel⟩
theorem cl_X6_220 : kCv "KindSayings" 220 yX6_plainSayings cX6_plainSayings 4 (some .int) 0 := ⟨w_748, w_750, w_38, w_66, w_751, by decide, by decide, by decide +kernel⟩
theorem cl_X6_223 : kCv "KindSayings" 223 yX3_becomeFirst cX3_becomeFirst 2 none 1 := ⟨w_297, w_298, w_299, w_69, w_300, by decide, by decide, by decide +kernel⟩
theorem cl_X6_226 : kCv "KindSayings" 226 yX3_weight cX3_weight 4 (some .int) 1 := ⟨w_381, w_382, w_383, w_69, w_384, by decide, by decide, by decide +kernel⟩
theorem cl_X6_229 : kCv "KindSayings" 229 yX0_refresh cX0_refresh 5 none 1 := ⟨w_519, w_520, w_521, w_70, w_522, by decide, by decide, by decide +kernel⟩
theorem cl_X6_233 : kCv "KindSayings" 233 yX1_work cX1_work 7 none 3 := ⟨w_651, w_652, w_653, w_72, w_654, by decide, by decide, by decide +kernel⟩
theorem cl_X6_238 : kCs "KindSayings" 238 yX6_everySort cX6_everySort 1 (some .int) 1 := ⟨w_305, w_306, w_66, w_307, by decide, by decide, by decide +kernel⟩
theorem cl_X0_36 : kCs "KindSayings$Heaps" 36 yX0_witnessOf cX0_witnessOf 5 (some .long) 1 := ⟨w_217, w_218, w_70, w_219, by decide, by decide, by decide +kernel⟩
theorem cl_X0_55 : kCs "KindSayings$Heaps" 55 yX0_choose cX0_choose 4 (some .int) 2 := ⟨w_317, w_318, w_70, w_319, by decide, by decide, by decide +kernel⟩
theorem cl_X0_65 : kCs "KindSayings$Heaps" 65 yX0_likes cX0_likes 5 (some .int) 2 := ⟨w_523, w_524, w_70, w_525, by decide, by decide, by decide +kernel⟩
theorem cl_X0_69 : kCv "KindSayings$Heaps" 69 yX0_mark cX0_mark 6 none 2 := ⟨w_530, w_532, w_22, w_70, w_533, by decide, by decide, by decide +kernel⟩
theorem cl_X0_73 : kCv "KindSayings$Heaps" 73 yX0_fillHeaps cX0_fillHeaps 3 none 0 := ⟨w_553, w_555, w_24, w_70, w_556, by decide, by decide, by decide +kernel⟩
theorem cl_X0_76 : kCv "KindSayings$Heaps" 76 yX0_addTogether cX0_addTogether 4 none 0 := ⟨w_557, w_559, w_25, w_70, w_560, by decide, by decide, by decide +kernel⟩
theorem cl_X0_79 : kCv "KindSayings$Heaps" 79 yX3_isLike cX3_isLike 2 (some .boolean) 1 := ⟨w_526, w_527, w_528, w_69, w_529, by decide, by decide, by decide +kernel⟩
theorem cl_X0_85 : kCv "KindSayings$Heaps" 85 yX5_begin cX5_begin 5 none 3 := ⟨w_534, w_535, w_536, w_71, w_537, by decide, by decide, by decide +kernel⟩
theorem cl_X0_89 : kCv "KindSayings$Heaps" 89 yX5_sum cX5_sum 1 (some .int) 0 := ⟨w_540, w_541, w_542, w_71, w_543, by decide, by decide, by decide +kernel⟩
theorem cl_X0_93 : kCv "KindSayings$Heaps" 93 yX3_isTrue cX3_isTrue 2 (some .boolean) 1 := ⟨w_544, w_386, w_387, w_69, w_388, by decide, by decide, by decide +kernel⟩
theorem cl_X0_97 : kCv "KindSayings$Heaps" 97 yX5_advance cX5_advance 2 (some .boolean) 0 := ⟨w_545, w_546, w_547, w_71, w_548, by decide, by decide, by decide +kernel⟩
theorem cl_X0_101 : kCv "KindSayings$Heaps" 101 yX0_worldsOf cX0_worldsOf 2 (some .int) 1 := ⟨w_592, w_562, w_563, w_70, w_564, by decide, by decide, by decide +kernel⟩
theorem cl_X0_105 : kCs "KindSayings$Heaps" 105 yJ6_bitCount_0f7a4 cJ6_bitCount_0f7a4 1 (some .int) 1 := ⟨w_609, w_610, w_75, w_611, by decide, by decide, by decide +kernel⟩
theorem cl_X0_110 : kCs "KindSayings$Heaps" 110 yX0_rowsOf cX0_rowsOf 2 (some .int) 2 := ⟨w_581, w_582, w_70, w_583, by decide, by decide, by decide +kernel⟩
theorem cl_X0_115 : kCv "KindSayings$Heaps" 115 yX5_witnessed cX5_witnessed 6 (some .long) 1 := ⟨w_732, w_733, w_734, w_71, w_735, by decide, by decide, by decide +kernel⟩
theorem cl_X1_33 : kCv "KindSayings$Proof" 33 yX1_isSame cX1_isSame 2 (some .boolean) 1 := ⟨w_656, w_658, w_29, w_72, w_659, by decide, by decide, by decide +kernel⟩
theorem cl_X1_37 : kCv "KindSayings$Proof" 37 yX1_isTold cX1_isTold 2 (some .boolean) 1 := ⟨w_664, w_666, w_31, w_72, w_667, by decide, by decide, by decide +kernel⟩
theorem cl_X1_40 : kCv "KindSayings$Proof" 40 yX1_factsAhead cX1_factsAhead 5 (some .long) 1 := ⟨w_668, w_670, w_32, w_72, w_671, by decide, by decide, by decide +kernel⟩
theorem cl_X1_47 : kCv "KindSayings$Proof" 47 yX1_isAnyComing cX1_isAnyComing 4 (some .boolean) 1 := ⟨w_672, w_674, w_33, w_72, w_675, by decide, by decide, by decide +kernel⟩
theorem cl_X1_50 : kCv "KindSayings$Proof" 50 yX1_isOfKinds cX1_isOfKinds 2 (some .boolean) 1 := ⟨w_660, w_662, w_30, w_72, w_663, by decide, by decide, by decide +kernel⟩
theorem cl_X1_53 : kCv "KindSayings$Proof" 53 yX1_leastMood cX1_leastMood 4 (some .int) 1 := ⟨w_676, w_678, w_34, w_72, w_679, by decide, by decide, by decide +kernel⟩
theorem cl_X1_57 : kCv "KindSayings$Proof" 57 yX1_roundAt cX1_roundAt 2 (some .int) 1 := ⟨w_708, w_697, w_698, w_72, w_699, by decide, by decide, by decide +kernel⟩
theorem cl_X1_69 : kCv "KindSayings$Proof" 69 yX1_isShowing cX1_isShowing 9 (some .boolean) 3 := ⟨w_682, w_684, w_35, w_72, w_685, by decide, by decide, by decide +kernel⟩
theorem cl_X1_83 : kCv "KindSayings$Proof" 83 yX1_isShownOf cX1_isShownOf 5 (some .boolean) 2 := ⟨w_691, w_693, w_36, w_72, w_694, by decide, by decide, by decide +kernel⟩
theorem cl_X2_35 : kCv "KindSayings$Reader" 35 yX4_begin cX4_begin 1 none 0 := ⟨w_421, w_422, w_423, w_68, w_424, by decide, by decide, by decide +kernel⟩
theorem cl_X2_38 : kCv "KindSayings$Reader" 38 yX2_readHead cX2_readHead 1 none 0 := ⟨w_456, w_458, w_11, w_67, w_459, by decide, by decide, by decide +kernel⟩
theorem cl_X2_41 : kCv "KindSayings$Reader" 41 yX2_readSide cX2_readSide 4 (some .int) 0 := ⟨w_473, w_475, w_15, w_67, w_476, by decide, by decide, by decide +kernel⟩
theorem cl_X2_51 : kCv "KindSayings$Reader" 51 yX2_pass cX2_pass 2 none 1 := ⟨w_465, w_467, w_13, w_67, w_468, by decide, by decide, by decide +kernel⟩
theorem cl_X2_58 : kCv "KindSayings$Reader" 58 yX2_factTold cX2_factTold 3 (some .int) 2 := ⟨w_495, w_497, w_20, w_67, w_498, by decide, by decide, by decide +kernel⟩
theorem cl_X2_75 : kCv "KindSayings$Reader" 75 yX4_advance cX4_advance 2 none 0 := ⟨w_460, w_426, w_427, w_68, w_428, by decide, by decide, by decide +kernel⟩
theorem cl_X2_84 : kCv "KindSayings$Reader" 84 yX2_fail cX2_fail 1 none 0 := ⟨w_461, w_463, w_12, w_67, w_464, by decide, by decide, by decide +kernel⟩
theorem cl_X2_87 : kCv "KindSayings$Reader" 87 yX2_readNumber cX2_readNumber 1 none 0 := ⟨w_469, w_471, w_14, w_67, w_472, by decide, by decide, by decide +kernel⟩
theorem cl_X2_93 : kCv "KindSayings$Reader" 93 yX2_readUnion cX2_readUnion 4 (some .int) 1 := ⟨w_477, w_479, w_16, w_67, w_480, by decide, by decide, by decide +kernel⟩
theorem cl_X2_97 : kCv "KindSayings$Reader" 97 yX2_readMeet cX2_readMeet 4 (some .int) 1 := ⟨w_481, w_483, w_17, w_67, w_484, by decide, by decide, by decide +kernel⟩
theorem cl_X2_100 : kCv "KindSayings$Reader" 100 yX2_readPart cX2_readPart 5 (some .int) 1 := ⟨w_485, w_487, w_18, w_67, w_488, by decide, by decide, by decide +kernel⟩
theorem cl_X2_103 : kCv "KindSayings$Reader" 103 yX2_isPart cX2_isPart 4 (some .boolean) 3 := ⟨w_489, w_491, w_19, w_67, w_492, by decide, by decide, by decide +kernel⟩
theorem cl_X3_39 : kCv "KindSayings$Saying" 39 yX3_isTrueUnturned cX3_isTrueUnturned 4 (some .boolean) 3 := ⟨w_389, w_391, w_6, w_69, w_392, by decide, by decide, by decide +kernel⟩
theorem cl_X4_27 : kCv "KindSayings$Tokens" 27 yX4_advance cX4_advance 2 none 0 := ⟨w_425, w_426, w_427, w_68, w_428, by decide, by decide, by decide +kernel⟩
theorem cl_X4_30 : kCv "KindSayings$Tokens" 30 yX4_byteAt cX4_byteAt 2 (some .int) 1 := ⟨w_429, w_431, w_7, w_68, w_432, by decide, by decide, by decide +kernel⟩
theorem cl_X4_43 : kCs "KindSayings$Tokens" 43 yX4_isLetter cX4_isLetter 1 (some .boolean) 1 := ⟨w_433, w_434, w_68, w_435, by decide, by decide, by decide +kernel⟩
theorem cl_X4_47 : kCv "KindSayings$Tokens" 47 yX4_takeWord cX4_takeWord 4 none 0 := ⟨w_436, w_438, w_8, w_68, w_439, by decide, by decide, by decide +kernel⟩
theorem cl_X4_50 : kCs "KindSayings$Tokens" 50 yX4_isFigure cX4_isFigure 1 (some .boolean) 1 := ⟨w_442, w_443, w_68, w_444, by decide, by decide, by decide +kernel⟩
theorem cl_X4_53 : kCv "KindSayings$Tokens" 53 yX4_takeNumber cX4_takeNumber 2 none 0 := ⟨w_445, w_447, w_9, w_68, w_448, by decide, by decide, by decide +kernel⟩
theorem cl_X4_56 : kCv "KindSayings$Tokens" 56 yX4_takeSign cX4_takeSign 2 none 1 := ⟨w_452, w_454, w_10, w_68, w_455, by decide, by decide, by decide +kernel⟩
theorem cl_X4_64 : kCs "KindSayings$Tokens" 64 yJ9_min_7cf53 cJ9_min_7cf53 2 (some .int) 2 := ⟨w_449, w_450, w_74, w_451, by decide, by decide, by decide +kernel⟩
theorem cl_X5_21 : kCv "KindSayings$Walk" 21 yX3_weight cX3_weight 4 (some .int) 1 := ⟨w_538, w_382, w_383, w_69, w_384, by decide, by decide, by decide +kernel⟩
theorem cl_X5_27 : kCs "KindSayings$Walk" 27 yJ9_min_7cf53 cJ9_min_7cf53 2 (some .int) 2 := ⟨w_539, w_450, w_74, w_451, by decide, by decide, by decide +kernel⟩
theorem cl_X5_43 : kCv "KindSayings$Walk" 43 yX5_fillFrom cX5_fillFrom 5 none 2 := ⟨w_549, w_551, w_23, w_71, w_552, by decide, by decide, by decide +kernel⟩
theorem cl_L_13 : kCv "KindSayingsLaw" 13 yX6_kinds cX6_kinds 3 (some .int) 1 := ⟨w_345, w_346, w_347, w_66, w_348, by decide, by decide, by decide +kernel⟩
theorem cl_L_17 : kCv "KindSayingsLaw" 17 yX7_kinds cX7_kinds 3 (some .int) 1 := ⟨w_858, w_859, w_860, w_73, w_861, by decide, by decide, by decide +kernel⟩
theorem cl_L_18 : kCv "KindSayingsLaw" 18 yX6_most cX6_most 3 (some .int) 1 := ⟨w_349, w_350, w_351, w_66, w_352, by decide, by decide, by decide +kernel⟩
theorem cl_L_21 : kCv "KindSayingsLaw" 21 yX7_most cX7_most 3 (some .int) 1 := ⟨w_865, w_866, w_867, w_73, w_868, by decide, by decide, by decide +kernel⟩
theorem cl_L_22 : kCv "KindSayingsLaw" 22 yX6_worlds cX6_worlds 1 (some .int) 0 := ⟨w_353, w_354, w_355, w_66, w_356, by decide, by decide, by decide +kernel⟩
theorem cl_L_26 : kCv "KindSayingsLaw" 26 yX7_worlds cX7_worlds 1 (some .int) 0 := ⟨w_869, w_870, w_871, w_73, w_872, by decide, by decide, by decide +kernel⟩
theorem cl_L_27 : kCv "KindSayingsLaw" 27 yX6_put cX6_put 4 (some .int) 2 := ⟨w_357, w_358, w_359, w_66, w_360, by decide, by decide, by decide +kernel⟩
theorem cl_L_31 : kCv "KindSayingsLaw" 31 yX7_put cX7_put 4 (some .int) 2 := ⟨w_894, w_895, w_896, w_73, w_897, by decide, by decide, by decide +kernel⟩
theorem cl_L_32 : kCv "KindSayingsLaw" 32 yX6_holds cX6_holds 4 (some .int) 1 := ⟨w_369, w_370, w_371, w_66, w_372, by decide, by decide, by decide +kernel⟩
theorem cl_L_35 : kCv "KindSayingsLaw" 35 yX7_holds cX7_holds 2 (some .int) 1 := ⟨w_902, w_903, w_904, w_73, w_905, by decide, by decide, by decide +kernel⟩
theorem cl_L_36 : kCv "KindSayingsLaw" 36 yX6_size cX6_size 4 (some .int) 2 := ⟨w_396, w_397, w_398, w_66, w_399, by decide, by decide, by decide +kernel⟩
theorem cl_L_39 : kCv "KindSayingsLaw" 39 yX7_size cX7_size 5 (some .int) 2 := ⟨w_909, w_910, w_911, w_73, w_912, by decide, by decide, by decide +kernel⟩
theorem cl_L_42 : kCv "KindSayingsLaw" 42 yX6_type cX6_type 5 (some .int) 2 := ⟨w_400, w_401, w_402, w_66, w_403, by decide, by decide, by decide +kernel⟩
theorem cl_L_46 : kCv "KindSayingsLaw" 46 yX7_type cX7_type 5 (some .int) 2 := ⟨w_913, w_914, w_915, w_73, w_916, by decide, by decide, by decide +kernel⟩
theorem cl_L_47 : kCv "KindSayingsLaw" 47 yX6_clear cX6_clear 2 (some .int) 0 := ⟨w_409, w_410, w_411, w_66, w_412, by decide, by decide, by decide +kernel⟩
theorem cl_L_50 : kCv "KindSayingsLaw" 50 yX7_clear cX7_clear 2 (some .int) 0 := ⟨w_918, w_919, w_920, w_73, w_921, by decide, by decide, by decide +kernel⟩
theorem cl_L_51 : kCv "KindSayingsLaw" 51 yX6_read cX6_read 4 (some .int) 1 := ⟨w_413, w_414, w_415, w_66, w_416, by decide, by decide, by decide +kernel⟩
theorem cl_L_54 : kCv "KindSayingsLaw" 54 yX7_read cX7_read 11 (some .int) 1 := ⟨w_922, w_923, w_924, w_73, w_925, by decide, by decide, by decide +kernel⟩
theorem cl_L_55 : kCv "KindSayingsLaw" 55 yX6_about cX6_about 4 (some .int) 2 := ⟨w_504, w_505, w_506, w_66, w_507, by decide, by decide, by decide +kernel⟩
theorem cl_L_58 : kCv "KindSayingsLaw" 58 yX7_about cX7_about 3 (some .int) 2 := ⟨w_975, w_976, w_977, w_73, w_978, by decide, by decide, by decide +kernel⟩
theorem cl_L_59 : kCv "KindSayingsLaw" 59 yX6_can cX6_can 2 (some .int) 1 := ⟨w_508, w_509, w_510, w_66, w_511, by decide, by decide, by decide +kernel⟩
theorem cl_L_62 : kCv "KindSayingsLaw" 62 yX7_can cX7_can 2 (some .int) 1 := ⟨w_979, w_980, w_981, w_73, w_982, by decide, by decide, by decide +kernel⟩
theorem cl_L_63 : kCv "KindSayingsLaw" 63 yX6_least cX6_least 4 (some .int) 2 := ⟨w_565, w_566, w_567, w_66, w_568, by decide, by decide, by decide +kernel⟩
theorem cl_L_66 : kCv "KindSayingsLaw" 66 yX7_least cX7_least 3 (some .int) 2 := ⟨w_993, w_994, w_995, w_73, w_996, by decide, by decide, by decide +kernel⟩
theorem cl_L_67 : kCv "KindSayingsLaw" 67 yX6_follows cX6_follows 3 (some .int) 2 := ⟨w_584, w_585, w_586, w_66, w_587, by decide, by decide, by decide +kernel⟩
theorem cl_L_70 : kCv "KindSayingsLaw" 70 yX7_follows cX7_follows 3 (some .int) 2 := ⟨w_1005, w_1006, w_1007, w_73, w_1008, by decide, by decide, by decide +kernel⟩
theorem cl_L_71 : kCv "KindSayingsLaw" 71 yX6_against cX6_against 5 (some .int) 3 := ⟨w_593, w_594, w_595, w_66, w_596, by decide, by decide, by decide +kernel⟩
theorem cl_L_75 : kCv "KindSayingsLaw" 75 yX7_against cX7_against 4 (some .int) 3 := ⟨w_1009, w_1010, w_1011, w_73, w_1012, by decide, by decide, by decide +kernel⟩
theorem cl_L_76 : kCv "KindSayingsLaw" 76 yX6_unsaid cX6_unsaid 5 (some .int) 1 := ⟨w_597, w_598, w_599, w_66, w_600, by decide, by decide, by decide +kernel⟩
theorem cl_L_79 : kCv "KindSayingsLaw" 79 yX7_unsaid cX7_unsaid 4 (some .int) 1 := ⟨w_1013, w_1014, w_1015, w_73, w_1016, by decide, by decide, by decide +kernel⟩
theorem cl_L_80 : kCv "KindSayingsLaw" 80 yX6_clash cX6_clash 4 (some .int) 2 := ⟨w_601, w_602, w_603, w_66, w_604, by decide, by decide, by decide +kernel⟩
theorem cl_L_83 : kCv "KindSayingsLaw" 83 yX7_clash cX7_clash 5 (some .int) 2 := ⟨w_1017, w_1018, w_1019, w_73, w_1020, by decide, by decide, by decide +kernel⟩
theorem cl_L_84 : kCv "KindSayingsLaw" 84 yX6_ask cX6_ask 9 (some .int) 1 := ⟨w_616, w_617, w_618, w_66, w_619, by decide, by decide, by decide +kernel⟩
theorem cl_L_87 : kCv "KindSayingsLaw" 87 yX7_ask cX7_ask 8 (some .int) 1 := ⟨w_1024, w_1025, w_1026, w_73, w_1027, by decide, by decide, by decide +kernel⟩
theorem cl_L_88 : kCv "KindSayingsLaw" 88 yX6_heaps cX6_heaps 2 (some .int) 1 := ⟨w_623, w_624, w_625, w_66, w_626, by decide, by decide, by decide +kernel⟩
theorem cl_L_91 : kCv "KindSayingsLaw" 91 yX7_heaps cX7_heaps 4 (some .int) 1 := ⟨w_1028, w_1029, w_1030, w_73, w_1031, by decide, by decide, by decide +kernel⟩
theorem cl_L_92 : kCv "KindSayingsLaw" 92 yX6_twin cX6_twin 4 (some .int) 1 := ⟨w_631, w_632, w_633, w_66, w_634, by decide, by decide, by decide +kernel⟩
theorem cl_L_95 : kCv "KindSayingsLaw" 95 yX7_twin cX7_twin 5 (some .int) 1 := ⟨w_1032, w_1033, w_1034, w_73, w_1035, by decide, by decide, by decide +kernel⟩
theorem cl_L_96 : kCv "KindSayingsLaw" 96 yX6_moods cX6_moods 3 (some .int) 1 := ⟨w_635, w_636, w_637, w_66, w_638, by decide, by decide, by decide +kernel⟩
theorem cl_L_99 : kCv "KindSayingsLaw" 99 yX7_moods cX7_moods 3 (some .int) 1 := ⟨w_1036, w_1037, w_1038, w_73, w_1039, by decide, by decide, by decide +kernel⟩
theorem cl_L_100 : kCv "KindSayingsLaw" 100 yX6_round cX6_round 5 (some .int) 4 := ⟨w_639, w_640, w_641, w_66, w_642, by decide, by decide, by decide +kernel⟩
theorem cl_L_104 : kCv "KindSayingsLaw" 104 yX7_round cX7_round 5 (some .int) 4 := ⟨w_1040, w_1041, w_1042, w_73, w_1043, by decide, by decide, by decide +kernel⟩
theorem cl_L_105 : kCv "KindSayingsLaw" 105 yX6_by cX6_by 6 (some .int) 5 := ⟨w_700, w_701, w_702, w_66, w_703, by decide, by decide, by decide +kernel⟩
theorem cl_L_109 : kCv "KindSayingsLaw" 109 yX7_by cX7_by 9 (some .int) 5 := ⟨w_1064, w_1065, w_1066, w_73, w_1067, by decide, by decide, by decide +kernel⟩
theorem cl_L_110 : kCv "KindSayingsLaw" 110 yX6_shown cX6_shown 5 (some .int) 2 := ⟨w_709, w_710, w_711, w_66, w_712, by decide, by decide, by decide +kernel⟩
theorem cl_L_113 : kCv "KindSayingsLaw" 113 yX7_shown cX7_shown 7 (some .int) 2 := ⟨w_1068, w_1069, w_1070, w_73, w_1071, by decide, by decide, by decide +kernel⟩
theorem cl_L_114 : kCv "KindSayingsLaw" 114 yX6_count cX6_count 2 (some .int) 1 := ⟨w_744, w_745, w_746, w_66, w_747, by decide, by decide, by decide +kernel⟩
theorem cl_L_117 : kCv "KindSayingsLaw" 117 yX7_count cX7_count 4 (some .int) 1 := ⟨w_1072, w_1073, w_1074, w_73, w_1075, by decide, by decide, by decide +kernel⟩
theorem cl_X7_54 : kCv "KindSayingsModel" 54 yX7_begins cX7_begins 2 none 0 := ⟨w_758, w_760, w_39, w_73, w_761, by decide, by decide, by decide +kernel⟩
theorem cl_X7_60 : kCv "KindSayingsModel" 60 yX7_sorts cX7_sorts 1 (some .int) 0 := ⟨w_766, w_768, w_41, w_73, w_769, by decide, by decide, by decide +kernel⟩
theorem cl_X7_64 : kCv "KindSayingsModel" 64 yX7_of cX7_of 4 (some .int) 1 := ⟨w_762, w_764, w_40, w_73, w_765, by decide, by decide, by decide +kernel⟩
theorem cl_X7_72 : kCs "KindSayingsModel" 72 yX7_in cX7_in 3 (some .boolean) 3 := ⟨w_862, w_863, w_73, w_864, by decide, by decide, by decide +kernel⟩
theorem cl_X7_76 : kCv "KindSayingsModel" 76 yX7_loads cX7_loads 6 none 0 := ⟨w_873, w_875, w_42, w_73, w_876, by decide, by decide, by decide +kernel⟩
theorem cl_X7_82 : kCv "KindSayingsModel" 82 yX7_all cX7_all 4 (some .int) 1 := ⟨w_898, w_900, w_47, w_73, w_901, by decide, by decide, by decide +kernel⟩
theorem cl_X7_86 : kCv "KindSayingsModel" 86 yX7_sizeOf cX7_sizeOf 5 (some .int) 2 := ⟨w_885, w_887, w_45, w_73, w_888, by decide, by decide, by decide +kernel⟩
theorem cl_X7_90 : kCs "KindSayingsModel" 90 yX7_isSaying cX7_isSaying 1 (some .boolean) 1 := ⟨w_906, w_907, w_73, w_908, by decide, by decide, by decide +kernel⟩
theorem cl_X7_94 : kCv "KindSayingsModel" 94 yX7_isSo cX7_isSo 9 (some .boolean) 2 := ⟨w_881, w_883, w_44, w_73, w_884, by decide, by decide, by decide +kernel⟩
theorem cl_X7_105 : kCs "KindSayingsModel" 105 yX7_add cX7_add 3 (some .long) 2 := ⟨w_934, w_935, w_73, w_936, by decide, by decide, by decide +kernel⟩
theorem cl_X7_109 : kCs "KindSayingsModel" 109 yX7_word cX7_word 5 (some .long) 5 := ⟨w_941, w_942, w_73, w_943, by decide, by decide, by decide +kernel⟩
theorem cl_X7_116 : kCv "KindSayingsModel" 116 yX7_byteAt cX7_byteAt 2 (some .int) 1 := ⟨w_930, w_932, w_49, w_73, w_933, by decide, by decide, by decide +kernel⟩
theorem cl_X7_125 : kCs "KindSayingsModel" 125 yX7_wordOf cX7_wordOf 2 (some .int) 1 := ⟨w_938, w_939, w_73, w_940, by decide, by decide, by decide +kernel⟩
theorem cl_X7_135 : kCv "KindSayingsModel" 135 yX7_isWell cX7_isWell 1 (some .boolean) 0 := ⟨w_948, w_950, w_51, w_73, w_951, by decide, by decide, by decide +kernel⟩
theorem cl_X7_142 : kCv "KindSayingsModel" 142 yX7_isSign cX7_isSign 2 (some .boolean) 1 := ⟨w_956, w_958, w_53, w_73, w_959, by decide, by decide, by decide +kernel⟩
theorem cl_X7_145 : kCv "KindSayingsModel" 145 yX7_isKindSign cX7_isKindSign 1 (some .boolean) 0 := ⟨w_960, w_962, w_54, w_73, w_963, by decide, by decide, by decide +kernel⟩
theorem cl_X7_151 : kCv "KindSayingsModel" 151 yX7_fails cX7_fails 1 none 0 := ⟨w_944, w_946, w_50, w_73, w_947, by decide, by decide, by decide +kernel⟩
theorem cl_X7_154 : kCv "KindSayingsModel" 154 yX7_advances cX7_advances 5 none 0 := ⟨w_926, w_928, w_48, w_73, w_929, by decide, by decide, by decide +kernel⟩
theorem cl_X7_157 : kCs "KindSayingsModel" 157 yX7_joins cX7_joins 3 (some .int) 3 := ⟨w_964, w_965, w_73, w_966, by decide, by decide, by decide +kernel⟩
theorem cl_X7_161 : kCv "KindSayingsModel" 161 yX7_hasOpen cX7_hasOpen 4 (some .boolean) 1 := ⟨w_967, w_969, w_55, w_73, w_970, by decide, by decide, by decide +kernel⟩
theorem cl_X7_164 : kCv "KindSayingsModel" 164 yX7_every cX7_every 1 (some .int) 0 := ⟨w_971, w_973, w_56, w_73, w_974, by decide, by decide, by decide +kernel⟩
theorem cl_X7_167 : kCv "KindSayingsModel" 167 yX7_side cX7_side 8 (some .int) 0 := ⟨w_952, w_954, w_52, w_73, w_955, by decide, by decide, by decide +kernel⟩
theorem cl_X7_172 : kCv "KindSayingsModel" 172 yX7_isFact cX7_isFact 7 (some .boolean) 3 := ⟨w_890, w_892, w_46, w_73, w_893, by decide, by decide, by decide +kernel⟩
theorem cl_X7_175 : kCv "KindSayingsModel" 175 yX7_takes cX7_takes 5 none 0 := ⟨w_877, w_879, w_43, w_73, w_880, by decide, by decide, by decide +kernel⟩
theorem cl_X7_178 : kCs "KindSayingsModel" 178 yX7_isIn cX7_isIn 2 (some .boolean) 2 := ⟨w_990, w_991, w_73, w_992, by decide, by decide, by decide +kernel⟩
theorem cl_X7_182 : kCs "KindSayingsModel" 182 yX7_isSet cX7_isSet 1 (some .boolean) 1 := ⟨w_983, w_984, w_73, w_985, by decide, by decide, by decide +kernel⟩
theorem cl_X7_185 : kCv "KindSayingsModel" 185 yX7_canBe cX7_canBe 4 (some .int) 1 := ⟨w_986, w_988, w_57, w_73, w_989, by decide, by decide, by decide +kernel⟩
theorem cl_X7_188 : kCv "KindSayingsModel" 188 yX7_firstOf cX7_firstOf 6 (some .int) 2 := ⟨w_997, w_999, w_58, w_73, w_1000, by decide, by decide, by decide +kernel⟩
theorem cl_X7_192 : kCv "KindSayingsModel" 192 yX7_told cX7_told 5 (some .int) 2 := ⟨w_1001, w_1003, w_59, w_73, w_1004, by decide, by decide, by decide +kernel⟩
theorem cl_X7_195 : kCs "KindSayingsModel" 195 yX7_ones cX7_ones 3 (some .int) 1 := ⟨w_1021, w_1022, w_73, w_1023, by decide, by decide, by decide +kernel⟩
theorem cl_X7_207 : kCv "KindSayingsModel" 207 yX7_isBy cX7_isBy 3 (some .boolean) 2 := ⟨w_1060, w_1062, w_64, w_73, w_1063, by decide, by decide, by decide +kernel⟩
theorem cl_X7_210 : kCv "KindSayingsModel" 210 yX7_isTold cX7_isTold 5 (some .boolean) 2 := ⟨w_1052, w_1054, w_62, w_73, w_1055, by decide, by decide, by decide +kernel⟩
theorem cl_X7_216 : kCv "KindSayingsModel" 216 yX7_isShown cX7_isShown 11 (some .boolean) 5 := ⟨w_1056, w_1058, w_63, w_73, w_1059, by decide, by decide, by decide +kernel⟩
theorem cl_X7_220 : kCv "KindSayingsModel" 220 yX7_isAsked cX7_isAsked 5 (some .boolean) 4 := ⟨w_1044, w_1046, w_60, w_73, w_1047, by decide, by decide, by decide +kernel⟩
theorem cl_X7_224 : kCv "KindSayingsModel" 224 yX7_shows cX7_shows 7 none 1 := ⟨w_1048, w_1050, w_61, w_73, w_1051, by decide, by decide, by decide +kernel⟩
theorem cl_X0_40 : kCsN "KindSayings$Heaps" 40 yX6_has cX6_has 2 (some .boolean) 2 := ⟨by decide +kernel, w_221, w_66, w_222, by decide, by decide, by decide +kernel⟩
theorem cl_X0_44 : kCsN "KindSayings$Heaps" 44 yX6_factNumber cX6_factNumber 3 (some .int) 3 := ⟨by decide +kernel, w_224, w_66, w_225, by decide, by decide, by decide +kernel⟩
theorem cl_X1_29 : kCsN "KindSayings$Proof" 29 yX6_has cX6_has 2 (some .boolean) 2 := ⟨by decide +kernel, w_221, w_66, w_222, by decide, by decide, by decide +kernel⟩
theorem cl_X1_79 : kCsN "KindSayings$Proof" 79 yX6_factNumber cX6_factNumber 3 (some .int) 3 := ⟨by decide +kernel, w_224, w_66, w_225, by decide, by decide, by decide +kernel⟩
theorem cl_X2_107 : kCsN "KindSayings$Reader" 107 yX6_sortsOfKind cX6_sortsOfKind 4 (some .int) 2 := ⟨by decide +kernel, w_302, w_66, w_303, by decide, by decide, by decide +kernel⟩
theorem cl_X2_110 : kCsN "KindSayings$Reader" 110 yX6_everySort cX6_everySort 1 (some .int) 1 := ⟨by decide +kernel, w_306, w_66, w_307, by decide, by decide, by decide +kernel⟩
theorem cl_X2_116 : kCsN "KindSayings$Reader" 116 yX6_factNumber cX6_factNumber 3 (some .int) 3 := ⟨by decide +kernel, w_224, w_66, w_225, by decide, by decide, by decide +kernel⟩
theorem cl_X3_18 : kCsN "KindSayings$Saying" 18 yX6_sortsOfKind cX6_sortsOfKind 4 (some .int) 2 := ⟨by decide +kernel, w_302, w_66, w_303, by decide, by decide, by decide +kernel⟩
theorem cl_X3_28 : kCsN "KindSayings$Saying" 28 yX6_factNumber cX6_factNumber 3 (some .int) 3 := ⟨by decide +kernel, w_224, w_66, w_225, by decide, by decide, by decide +kernel⟩
/-- enough for every loop -/
abbrev FU : Nat := 1000000
def bI (b : Bool) : Int32 := if b then 1 else 0
theorem bI01 (b : Bool) : bI b = 0 ∨ bI b = 1 := by cases b <;> simp [bI]
theorem bI_of {x : Int32} (h : x = 0 ∨ x = 1) : some (Value.int x) = some (.int (bI (decide (x = 1)))) := by rcases h with rfl | rfl <;> rfl
theorem ks_ge10 {x : Int32} (h : 10 ≤ x) : 10 ≤ x.toNatClampNeg := by
  have h1 : (10 : Int) ≤ x.toInt := Int32.le_iff_toInt_le.mp h
  rw [← Int32.toNat_toInt]
  omega
theorem ks_ge10r {x : Int32} (h0 : ¬ x < 0) (h : 10 ≤ x.toNatClampNeg) : 10 ≤ x := by
  refine Int32.le_iff_toInt_le.mpr ?_
  rw [← Int32.toNat_toInt] at h
  show (10 : Int) ≤ x.toInt
  omega
set_option maxRecDepth 100000 in
theorem c_X6_sayingAt_in (l : Launch) (D : va_G) (cA : Nat → ClassId) (st ad : Nat → Nat) (a : Nat) (τ : Tau) (p1 : Int32) (h : ¬ (p1 < 0 ∨ 10 ≤ p1.toNatClampNeg)) : KE ΛX 29 D cA st ad l yX6_sayingAt cX6_sayingAt 2 (some (.object "KindSayings$Saying")) 0 0 [.ref (adr ad a 0), .int p1] a τ (some (.ref (adr ad a (p1.toNatClampNeg + 2)))) τ := by
  refine KE.of "KindSayings" rfl (by decide) (Nat.le_of_ble_eq_true rfl) (fun p e s m args below meth c A ls Rm Q hE hRm hQ hw hl => ?_)
  obtain ⟨hx, hb, hml, hown, hts, -⟩ := id hE
  have hl : lv_has ls 2 [(0, .ref (adr ad a 0)), (1, .int p1)] := hl
  refine lv_iload_n hx hb dX6_sayingAt_0 rfl (lv_at hl 1 rfl) ?_
  refine lv_if_lt (tgt := 22) hx hb dX6_sayingAt_1 (by decide) (fun c1 => ?_) (fun c1 => ?_)
  · exact absurd (Or.inl c1) h
  · refine lv_iload_n hx hb dX6_sayingAt_4 rfl (lv_at hl 1 rfl) ?_
    refine lv_aload_n hx hb dX6_sayingAt_5 rfl (lv_at hl 0 rfl) ?_
    refine ks_getR hE hw 0 0 ltX_0 lyX_0 rfl fd_X6_11 dX6_sayingAt_6 ?_
    refine ks_alen hE hw 1 ltX_1 lyX_1 rfl 10 rfl dX6_sayingAt_9 ?_
    refine lv_icmp_ge (tgt := 22) hx hb dX6_sayingAt_10 (by decide) (fun c2 => ?_) (fun c2 => ?_)
    · exact absurd (Or.inr (ks_ge10 c2)) h
    · refine lv_aload_n hx hb dX6_sayingAt_13 rfl (lv_at hl 0 rfl) ?_
      refine ks_getR hE hw 0 0 ltX_0 lyX_0 rfl fd_X6_11 dX6_sayingAt_14 ?_
      refine lv_iload_n hx hb dX6_sayingAt_17 rfl (lv_at hl 1 rfl) ?_
      refine ks_aald hE hw 1 ltX_1 lyX_1 h dX6_sayingAt_18 ?_
      refine lv_goto (tgt := 23) hx hb dX6_sayingAt_19 (by decide) ?_
      exact ke_aret hE hw hQ (Or.inr ⟨_, rfl⟩) dX6_sayingAt_23 rfl rfl
set_option maxRecDepth 100000 in
theorem c_X6_sayingAt_out (l : Launch) (D : va_G) (cA : Nat → ClassId) (st ad : Nat → Nat) (a : Nat) (τ : Tau) (p1 : Int32) (h : p1 < 0 ∨ 10 ≤ p1.toNatClampNeg) : KE ΛX 29 D cA st ad l yX6_sayingAt cX6_sayingAt 2 (some (.object "KindSayings$Saying")) 0 0 [.ref (adr ad a 0), .int p1] a τ (some .null) τ := by
  refine KE.of "KindSayings" rfl (by decide) (Nat.le_of_ble_eq_true rfl) (fun p e s m args below meth c A ls Rm Q hE hRm hQ hw hl => ?_)
  obtain ⟨hx, hb, hml, hown, hts, -⟩ := id hE
  have hl : lv_has ls 2 [(0, .ref (adr ad a 0)), (1, .int p1)] := hl
  refine lv_iload_n hx hb dX6_sayingAt_0 rfl (lv_at hl 1 rfl) ?_
  refine lv_if_lt (tgt := 22) hx hb dX6_sayingAt_1 (by decide) (fun c1 => ?_) (fun c1 => ?_)
  · refine lv_null hx hb dX6_sayingAt_22 ?_
    exact ke_aret hE hw hQ (Or.inl rfl) dX6_sayingAt_23 rfl rfl
  · refine lv_iload_n hx hb dX6_sayingAt_4 rfl (lv_at hl 1 rfl) ?_
    refine lv_aload_n hx hb dX6_sayingAt_5 rfl (lv_at hl 0 rfl) ?_
    refine ks_getR hE hw 0 0 ltX_0 lyX_0 rfl fd_X6_11 dX6_sayingAt_6 ?_
    refine ks_alen hE hw 1 ltX_1 lyX_1 rfl 10 rfl dX6_sayingAt_9 ?_
    refine lv_icmp_ge (tgt := 22) hx hb dX6_sayingAt_10 (by decide) (fun c2 => ?_) (fun c2 => ?_)
    · refine lv_null hx hb dX6_sayingAt_22 ?_
      exact ke_aret hE hw hQ (Or.inl rfl) dX6_sayingAt_23 rfl rfl
    · exact absurd (h.elim (fun z => c1 z) (fun z => c2 (ks_ge10r c1 z))) (fun z => z)
