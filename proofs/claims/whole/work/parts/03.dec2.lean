theorem dX7_type_28 : decode cX7_type 28 = .ok (.bipush (-3), 2) := by decide +kernel
theorem dX7_type_30 : decode cX7_type 30 = .ok (.ireturn, 1) := by decide +kernel
theorem dX7_type_31 : decode cX7_type 31 = .ok (.iload_n 3, 1) := by decide +kernel
theorem dX7_type_32 : decode cX7_type 32 = .ok (.iconst 1, 1) := by decide +kernel
theorem dX7_type_33 : decode cX7_type 33 = .ok (.isub, 1) := by decide +kernel
theorem dX7_type_34 : decode cX7_type 34 = .ok (.istore 4, 2) := by decide +kernel
theorem dX7_type_36 : decode cX7_type 36 = .ok (.iload 4, 2) := by decide +kernel
theorem dX7_type_38 : decode cX7_type 38 = .ok (.ifCond .lt 40, 3) := by decide +kernel
theorem dX7_type_41 : decode cX7_type 41 = .ok (.aload_n 0, 1) := by decide +kernel
theorem dX7_type_42 : decode cX7_type 42 = .ok (.getfield 23, 3) := by decide +kernel
theorem dX7_type_45 : decode cX7_type 45 = .ok (.aload_n 0, 1) := by decide +kernel
theorem dX7_type_46 : decode cX7_type 46 = .ok (.getfield 98, 3) := by decide +kernel
theorem dX7_type_49 : decode cX7_type 49 = .ok (.lload_n 1, 1) := by decide +kernel
theorem dX7_type_50 : decode cX7_type 50 = .ok (.bipush 8, 2) := by decide +kernel
theorem dX7_type_52 : decode cX7_type 52 = .ok (.iload 4, 2) := by decide +kernel
theorem dX7_type_54 : decode cX7_type 54 = .ok (.imul, 1) := by decide +kernel
theorem dX7_type_55 : decode cX7_type 55 = .ok (.lshr, 1) := by decide +kernel
theorem dX7_type_56 : decode cX7_type 56 = .ok (.ldc2_w 101, 3) := by decide +kernel
theorem dX7_type_59 : decode cX7_type 59 = .ok (.land, 1) := by decide +kernel
theorem dX7_type_60 : decode cX7_type 60 = .ok (.l2i, 1) := by decide +kernel
theorem dX7_type_61 : decode cX7_type 61 = .ok (.iastore, 1) := by decide +kernel
theorem dX7_type_62 : decode cX7_type 62 = .ok (.aload_n 0, 1) := by decide +kernel
theorem dX7_type_63 : decode cX7_type 63 = .ok (.dup, 1) := by decide +kernel
theorem dX7_type_64 : decode cX7_type 64 = .ok (.getfield 98, 3) := by decide +kernel
theorem dX7_type_67 : decode cX7_type 67 = .ok (.iconst 1, 1) := by decide +kernel
theorem dX7_type_68 : decode cX7_type 68 = .ok (.iadd, 1) := by decide +kernel
theorem dX7_type_69 : decode cX7_type 69 = .ok (.putfield 98, 3) := by decide +kernel
theorem dX7_type_72 : decode cX7_type 72 = .ok (.iinc 4 (-1), 3) := by decide +kernel
theorem dX7_type_75 : decode cX7_type 75 = .ok (.goto (-39), 3) := by decide +kernel
theorem dX7_type_78 : decode cX7_type 78 = .ok (.aload_n 0, 1) := by decide +kernel
theorem dX7_type_79 : decode cX7_type 79 = .ok (.getfield 98, 3) := by decide +kernel
theorem dX7_type_82 : decode cX7_type 82 = .ok (.ireturn, 1) := by decide +kernel
theorem dX7_clear_0 : decode cX7_clear 0 = .ok (.aload_n 0, 1) := by decide +kernel
theorem dX7_clear_1 : decode cX7_clear 1 = .ok (.iconst 0, 1) := by decide +kernel
theorem dX7_clear_2 : decode cX7_clear 2 = .ok (.putfield 57, 3) := by decide +kernel
theorem dX7_clear_5 : decode cX7_clear 5 = .ok (.aload_n 0, 1) := by decide +kernel
theorem dX7_clear_6 : decode cX7_clear 6 = .ok (.getfield 98, 3) := by decide +kernel
theorem dX7_clear_9 : decode cX7_clear 9 = .ok (.istore_n 1, 1) := by decide +kernel
theorem dX7_clear_10 : decode cX7_clear 10 = .ok (.aload_n 0, 1) := by decide +kernel
theorem dX7_clear_11 : decode cX7_clear 11 = .ok (.iconst 0, 1) := by decide +kernel
theorem dX7_clear_12 : decode cX7_clear 12 = .ok (.putfield 98, 3) := by decide +kernel
theorem dX7_clear_15 : decode cX7_clear 15 = .ok (.iload_n 1, 1) := by decide +kernel
theorem dX7_clear_16 : decode cX7_clear 16 = .ok (.ireturn, 1) := by decide +kernel
theorem dX7_byteAt_0 : decode cX7_byteAt 0 = .ok (.iload_n 1, 1) := by decide +kernel
theorem dX7_byteAt_1 : decode cX7_byteAt 1 = .ok (.aload_n 0, 1) := by decide +kernel
theorem dX7_byteAt_2 : decode cX7_byteAt 2 = .ok (.getfield 98, 3) := by decide +kernel
theorem dX7_byteAt_5 : decode cX7_byteAt 5 = .ok (.if_icmp .ge 12, 3) := by decide +kernel
theorem dX7_byteAt_8 : decode cX7_byteAt 8 = .ok (.aload_n 0, 1) := by decide +kernel
theorem dX7_byteAt_9 : decode cX7_byteAt 9 = .ok (.getfield 23, 3) := by decide +kernel
theorem dX7_byteAt_12 : decode cX7_byteAt 12 = .ok (.iload_n 1, 1) := by decide +kernel
theorem dX7_byteAt_13 : decode cX7_byteAt 13 = .ok (.iaload, 1) := by decide +kernel
theorem dX7_byteAt_14 : decode cX7_byteAt 14 = .ok (.goto 4, 3) := by decide +kernel
theorem dX7_byteAt_17 : decode cX7_byteAt 17 = .ok (.iconst (-1), 1) := by decide +kernel
theorem dX7_byteAt_18 : decode cX7_byteAt 18 = .ok (.ireturn, 1) := by decide +kernel
theorem dX7_add_0 : decode cX7_add 0 = .ok (.iload_n 2, 1) := by decide +kernel
theorem dX7_add_1 : decode cX7_add 1 = .ok (.ifCond .ne 7, 3) := by decide +kernel
theorem dX7_add_4 : decode cX7_add 4 = .ok (.lload_n 0, 1) := by decide +kernel
theorem dX7_add_5 : decode cX7_add 5 = .ok (.goto 11, 3) := by decide +kernel
theorem dX7_add_8 : decode cX7_add 8 = .ok (.ldc2_w 103, 3) := by decide +kernel
theorem dX7_add_11 : decode cX7_add 11 = .ok (.lload_n 0, 1) := by decide +kernel
theorem dX7_add_12 : decode cX7_add 12 = .ok (.lmul, 1) := by decide +kernel
theorem dX7_add_13 : decode cX7_add 13 = .ok (.iload_n 2, 1) := by decide +kernel
theorem dX7_add_14 : decode cX7_add 14 = .ok (.i2l, 1) := by decide +kernel
theorem dX7_add_15 : decode cX7_add 15 = .ok (.ladd, 1) := by decide +kernel
theorem dX7_add_16 : decode cX7_add 16 = .ok (.lreturn, 1) := by decide +kernel
theorem dX7_word_0 : decode cX7_word 0 = .ok (.lconst 0, 1) := by decide +kernel
theorem dX7_word_1 : decode cX7_word 1 = .ok (.iload_n 0, 1) := by decide +kernel
theorem dX7_word_2 : decode cX7_word 2 = .ok (.invokestatic 105, 3) := by decide +kernel
theorem dX7_word_5 : decode cX7_word 5 = .ok (.iload_n 1, 1) := by decide +kernel
theorem dX7_word_6 : decode cX7_word 6 = .ok (.invokestatic 105, 3) := by decide +kernel
theorem dX7_word_9 : decode cX7_word 9 = .ok (.iload_n 2, 1) := by decide +kernel
theorem dX7_word_10 : decode cX7_word 10 = .ok (.invokestatic 105, 3) := by decide +kernel
theorem dX7_word_13 : decode cX7_word 13 = .ok (.iload_n 3, 1) := by decide +kernel
theorem dX7_word_14 : decode cX7_word 14 = .ok (.invokestatic 105, 3) := by decide +kernel
theorem dX7_word_17 : decode cX7_word 17 = .ok (.iload 4, 2) := by decide +kernel
theorem dX7_word_19 : decode cX7_word 19 = .ok (.invokestatic 105, 3) := by decide +kernel
theorem dX7_word_22 : decode cX7_word 22 = .ok (.lreturn, 1) := by decide +kernel
theorem dX7_wordOf_0 : decode cX7_wordOf 0 = .ok (.lload_n 0, 1) := by decide +kernel
theorem dX7_wordOf_1 : decode cX7_wordOf 1 = .ok (.bipush 97, 2) := by decide +kernel
theorem dX7_wordOf_3 : decode cX7_wordOf 3 = .ok (.bipush 108, 2) := by decide +kernel
theorem dX7_wordOf_5 : decode cX7_wordOf 5 = .ok (.bipush 108, 2) := by decide +kernel
theorem dX7_wordOf_7 : decode cX7_wordOf 7 = .ok (.iconst 0, 1) := by decide +kernel
theorem dX7_wordOf_8 : decode cX7_wordOf 8 = .ok (.iconst 0, 1) := by decide +kernel
theorem dX7_wordOf_9 : decode cX7_wordOf 9 = .ok (.invokestatic 109, 3) := by decide +kernel
theorem dX7_wordOf_12 : decode cX7_wordOf 12 = .ok (.lcmp, 1) := by decide +kernel
theorem dX7_wordOf_13 : decode cX7_wordOf 13 = .ok (.ifCond .ne 7, 3) := by decide +kernel
theorem dX7_wordOf_16 : decode cX7_wordOf 16 = .ok (.iconst 0, 1) := by decide +kernel
theorem dX7_wordOf_17 : decode cX7_wordOf 17 = .ok (.goto 174, 3) := by decide +kernel
theorem dX7_wordOf_20 : decode cX7_wordOf 20 = .ok (.lload_n 0, 1) := by decide +kernel
theorem dX7_wordOf_21 : decode cX7_wordOf 21 = .ok (.bipush 115, 2) := by decide +kernel
theorem dX7_wordOf_23 : decode cX7_wordOf 23 = .ok (.bipush 111, 2) := by decide +kernel
theorem dX7_wordOf_25 : decode cX7_wordOf 25 = .ok (.bipush 109, 2) := by decide +kernel
theorem dX7_wordOf_27 : decode cX7_wordOf 27 = .ok (.bipush 101, 2) := by decide +kernel
theorem dX7_wordOf_29 : decode cX7_wordOf 29 = .ok (.iconst 0, 1) := by decide +kernel
theorem dX7_wordOf_30 : decode cX7_wordOf 30 = .ok (.invokestatic 109, 3) := by decide +kernel
theorem dX7_wordOf_33 : decode cX7_wordOf 33 = .ok (.lcmp, 1) := by decide +kernel
theorem dX7_wordOf_34 : decode cX7_wordOf 34 = .ok (.ifCond .ne 7, 3) := by decide +kernel
theorem dX7_wordOf_37 : decode cX7_wordOf 37 = .ok (.iconst 1, 1) := by decide +kernel
theorem dX7_wordOf_38 : decode cX7_wordOf 38 = .ok (.goto 153, 3) := by decide +kernel
theorem dX7_wordOf_41 : decode cX7_wordOf 41 = .ok (.lload_n 0, 1) := by decide +kernel
theorem dX7_wordOf_42 : decode cX7_wordOf 42 = .ok (.bipush 110, 2) := by decide +kernel
theorem dX7_wordOf_44 : decode cX7_wordOf 44 = .ok (.bipush 111, 2) := by decide +kernel
theorem dX7_wordOf_46 : decode cX7_wordOf 46 = .ok (.iconst 0, 1) := by decide +kernel
theorem dX7_wordOf_47 : decode cX7_wordOf 47 = .ok (.iconst 0, 1) := by decide +kernel
theorem dX7_wordOf_48 : decode cX7_wordOf 48 = .ok (.iconst 0, 1) := by decide +kernel
theorem dX7_wordOf_49 : decode cX7_wordOf 49 = .ok (.invokestatic 109, 3) := by decide +kernel
theorem dX7_wordOf_52 : decode cX7_wordOf 52 = .ok (.lcmp, 1) := by decide +kernel
theorem dX7_wordOf_53 : decode cX7_wordOf 53 = .ok (.ifCond .ne 7, 3) := by decide +kernel
theorem dX7_wordOf_56 : decode cX7_wordOf 56 = .ok (.iconst 2, 1) := by decide +kernel
theorem dX7_wordOf_57 : decode cX7_wordOf 57 = .ok (.goto 134, 3) := by decide +kernel
theorem dX7_wordOf_60 : decode cX7_wordOf 60 = .ok (.lload_n 0, 1) := by decide +kernel
theorem dX7_wordOf_61 : decode cX7_wordOf 61 = .ok (.bipush 109, 2) := by decide +kernel
theorem dX7_wordOf_63 : decode cX7_wordOf 63 = .ok (.bipush 111, 2) := by decide +kernel
theorem dX7_wordOf_65 : decode cX7_wordOf 65 = .ok (.bipush 115, 2) := by decide +kernel
theorem dX7_wordOf_67 : decode cX7_wordOf 67 = .ok (.bipush 116, 2) := by decide +kernel
theorem dX7_wordOf_69 : decode cX7_wordOf 69 = .ok (.iconst 0, 1) := by decide +kernel
theorem dX7_wordOf_70 : decode cX7_wordOf 70 = .ok (.invokestatic 109, 3) := by decide +kernel
theorem dX7_wordOf_73 : decode cX7_wordOf 73 = .ok (.lcmp, 1) := by decide +kernel
theorem dX7_wordOf_74 : decode cX7_wordOf 74 = .ok (.ifCond .ne 7, 3) := by decide +kernel
theorem dX7_wordOf_77 : decode cX7_wordOf 77 = .ok (.iconst 3, 1) := by decide +kernel
theorem dX7_wordOf_78 : decode cX7_wordOf 78 = .ok (.goto 113, 3) := by decide +kernel
theorem dX7_wordOf_81 : decode cX7_wordOf 81 = .ok (.lload_n 0, 1) := by decide +kernel
theorem dX7_wordOf_82 : decode cX7_wordOf 82 = .ok (.bipush 108, 2) := by decide +kernel
theorem dX7_wordOf_84 : decode cX7_wordOf 84 = .ok (.bipush 101, 2) := by decide +kernel
theorem dX7_wordOf_86 : decode cX7_wordOf 86 = .ok (.bipush 97, 2) := by decide +kernel
theorem dX7_wordOf_88 : decode cX7_wordOf 88 = .ok (.bipush 115, 2) := by decide +kernel
theorem dX7_wordOf_90 : decode cX7_wordOf 90 = .ok (.bipush 116, 2) := by decide +kernel
theorem dX7_wordOf_92 : decode cX7_wordOf 92 = .ok (.invokestatic 109, 3) := by decide +kernel
theorem dX7_wordOf_95 : decode cX7_wordOf 95 = .ok (.lcmp, 1) := by decide +kernel
theorem dX7_wordOf_96 : decode cX7_wordOf 96 = .ok (.ifCond .ne 7, 3) := by decide +kernel
theorem dX7_wordOf_99 : decode cX7_wordOf 99 = .ok (.iconst 4, 1) := by decide +kernel
theorem dX7_wordOf_100 : decode cX7_wordOf 100 = .ok (.goto 91, 3) := by decide +kernel
theorem dX7_wordOf_103 : decode cX7_wordOf 103 = .ok (.lload_n 0, 1) := by decide +kernel
theorem dX7_wordOf_104 : decode cX7_wordOf 104 = .ok (.bipush 106, 2) := by decide +kernel
theorem dX7_wordOf_106 : decode cX7_wordOf 106 = .ok (.bipush 117, 2) := by decide +kernel
theorem dX7_wordOf_108 : decode cX7_wordOf 108 = .ok (.bipush 115, 2) := by decide +kernel
theorem dX7_wordOf_110 : decode cX7_wordOf 110 = .ok (.bipush 116, 2) := by decide +kernel
theorem dX7_wordOf_112 : decode cX7_wordOf 112 = .ok (.iconst 0, 1) := by decide +kernel
theorem dX7_wordOf_113 : decode cX7_wordOf 113 = .ok (.invokestatic 109, 3) := by decide +kernel
theorem dX7_wordOf_116 : decode cX7_wordOf 116 = .ok (.lcmp, 1) := by decide +kernel
theorem dX7_wordOf_117 : decode cX7_wordOf 117 = .ok (.ifCond .ne 7, 3) := by decide +kernel
theorem dX7_wordOf_120 : decode cX7_wordOf 120 = .ok (.iconst 5, 1) := by decide +kernel
theorem dX7_wordOf_121 : decode cX7_wordOf 121 = .ok (.goto 70, 3) := by decide +kernel
theorem dX7_wordOf_124 : decode cX7_wordOf 124 = .ok (.lload_n 0, 1) := by decide +kernel
theorem dX7_wordOf_125 : decode cX7_wordOf 125 = .ok (.bipush 109, 2) := by decide +kernel
theorem dX7_wordOf_127 : decode cX7_wordOf 127 = .ok (.bipush 111, 2) := by decide +kernel
theorem dX7_wordOf_129 : decode cX7_wordOf 129 = .ok (.bipush 114, 2) := by decide +kernel
theorem dX7_wordOf_131 : decode cX7_wordOf 131 = .ok (.bipush 101, 2) := by decide +kernel
theorem dX7_wordOf_133 : decode cX7_wordOf 133 = .ok (.iconst 0, 1) := by decide +kernel
theorem dX7_wordOf_134 : decode cX7_wordOf 134 = .ok (.invokestatic 109, 3) := by decide +kernel
theorem dX7_wordOf_137 : decode cX7_wordOf 137 = .ok (.lcmp, 1) := by decide +kernel
theorem dX7_wordOf_138 : decode cX7_wordOf 138 = .ok (.ifCond .ne 8, 3) := by decide +kernel
theorem dX7_wordOf_141 : decode cX7_wordOf 141 = .ok (.bipush 6, 2) := by decide +kernel
theorem dX7_wordOf_143 : decode cX7_wordOf 143 = .ok (.goto 48, 3) := by decide +kernel
theorem dX7_wordOf_146 : decode cX7_wordOf 146 = .ok (.lload_n 0, 1) := by decide +kernel
theorem dX7_wordOf_147 : decode cX7_wordOf 147 = .ok (.bipush 101, 2) := by decide +kernel
theorem dX7_wordOf_149 : decode cX7_wordOf 149 = .ok (.bipush 118, 2) := by decide +kernel
theorem dX7_wordOf_151 : decode cX7_wordOf 151 = .ok (.bipush 101, 2) := by decide +kernel
theorem dX7_wordOf_153 : decode cX7_wordOf 153 = .ok (.bipush 110, 2) := by decide +kernel
theorem dX7_wordOf_155 : decode cX7_wordOf 155 = .ok (.iconst 0, 1) := by decide +kernel
theorem dX7_wordOf_156 : decode cX7_wordOf 156 = .ok (.invokestatic 109, 3) := by decide +kernel
theorem dX7_wordOf_159 : decode cX7_wordOf 159 = .ok (.lcmp, 1) := by decide +kernel
theorem dX7_wordOf_160 : decode cX7_wordOf 160 = .ok (.ifCond .ne 8, 3) := by decide +kernel
theorem dX7_wordOf_163 : decode cX7_wordOf 163 = .ok (.bipush 7, 2) := by decide +kernel
theorem dX7_wordOf_165 : decode cX7_wordOf 165 = .ok (.goto 26, 3) := by decide +kernel
theorem dX7_wordOf_168 : decode cX7_wordOf 168 = .ok (.lload_n 0, 1) := by decide +kernel
theorem dX7_wordOf_169 : decode cX7_wordOf 169 = .ok (.bipush 110, 2) := by decide +kernel
theorem dX7_wordOf_171 : decode cX7_wordOf 171 = .ok (.bipush 111, 2) := by decide +kernel
theorem dX7_wordOf_173 : decode cX7_wordOf 173 = .ok (.bipush 116, 2) := by decide +kernel
theorem dX7_wordOf_175 : decode cX7_wordOf 175 = .ok (.iconst 0, 1) := by decide +kernel
theorem dX7_wordOf_176 : decode cX7_wordOf 176 = .ok (.iconst 0, 1) := by decide +kernel
theorem dX7_wordOf_177 : decode cX7_wordOf 177 = .ok (.invokestatic 109, 3) := by decide +kernel
theorem dX7_wordOf_180 : decode cX7_wordOf 180 = .ok (.lcmp, 1) := by decide +kernel
theorem dX7_wordOf_181 : decode cX7_wordOf 181 = .ok (.ifCond .ne 8, 3) := by decide +kernel
theorem dX7_wordOf_184 : decode cX7_wordOf 184 = .ok (.bipush 8, 2) := by decide +kernel
theorem dX7_wordOf_186 : decode cX7_wordOf 186 = .ok (.goto 5, 3) := by decide +kernel
theorem dX7_wordOf_189 : decode cX7_wordOf 189 = .ok (.bipush (-9), 2) := by decide +kernel
theorem dX7_wordOf_191 : decode cX7_wordOf 191 = .ok (.ireturn, 1) := by decide +kernel
theorem dX7_advances_0 : decode cX7_advances 0 = .ok (.aload_n 0, 1) := by decide +kernel
theorem dX7_advances_1 : decode cX7_advances 1 = .ok (.aload_n 0, 1) := by decide +kernel
theorem dX7_advances_2 : decode cX7_advances 2 = .ok (.getfield 113, 3) := by decide +kernel
theorem dX7_advances_5 : decode cX7_advances 5 = .ok (.invokevirtual 116, 3) := by decide +kernel
theorem dX7_advances_8 : decode cX7_advances 8 = .ok (.bipush 32, 2) := by decide +kernel
theorem dX7_advances_10 : decode cX7_advances 10 = .ok (.if_icmp .ne 16, 3) := by decide +kernel
theorem dX7_advances_13 : decode cX7_advances 13 = .ok (.aload_n 0, 1) := by decide +kernel
theorem dX7_advances_14 : decode cX7_advances 14 = .ok (.dup, 1) := by decide +kernel
theorem dX7_advances_15 : decode cX7_advances 15 = .ok (.getfield 113, 3) := by decide +kernel
theorem dX7_advances_18 : decode cX7_advances 18 = .ok (.iconst 1, 1) := by decide +kernel
theorem dX7_advances_19 : decode cX7_advances 19 = .ok (.iadd, 1) := by decide +kernel
theorem dX7_advances_20 : decode cX7_advances 20 = .ok (.putfield 113, 3) := by decide +kernel
theorem dX7_advances_23 : decode cX7_advances 23 = .ok (.goto (-23), 3) := by decide +kernel
theorem dX7_advances_26 : decode cX7_advances 26 = .ok (.aload_n 0, 1) := by decide +kernel
theorem dX7_advances_27 : decode cX7_advances 27 = .ok (.aload_n 0, 1) := by decide +kernel
theorem dX7_advances_28 : decode cX7_advances 28 = .ok (.getfield 113, 3) := by decide +kernel
theorem dX7_advances_31 : decode cX7_advances 31 = .ok (.putfield 119, 3) := by decide +kernel
theorem dX7_advances_34 : decode cX7_advances 34 = .ok (.aload_n 0, 1) := by decide +kernel
theorem dX7_advances_35 : decode cX7_advances 35 = .ok (.aload_n 0, 1) := by decide +kernel
theorem dX7_advances_36 : decode cX7_advances 36 = .ok (.getfield 113, 3) := by decide +kernel
theorem dX7_advances_39 : decode cX7_advances 39 = .ok (.invokevirtual 116, 3) := by decide +kernel
theorem dX7_advances_42 : decode cX7_advances 42 = .ok (.istore_n 1, 1) := by decide +kernel
theorem dX7_advances_43 : decode cX7_advances 43 = .ok (.iload_n 1, 1) := by decide +kernel
theorem dX7_advances_44 : decode cX7_advances 44 = .ok (.ifCond .ge 11, 3) := by decide +kernel
theorem dX7_advances_47 : decode cX7_advances 47 = .ok (.aload_n 0, 1) := by decide +kernel
theorem dX7_advances_48 : decode cX7_advances 48 = .ok (.iconst 0, 1) := by decide +kernel
theorem dX7_advances_49 : decode cX7_advances 49 = .ok (.putfield 122, 3) := by decide +kernel
theorem dX7_advances_52 : decode cX7_advances 52 = .ok (.goto 312, 3) := by decide +kernel
theorem dX7_advances_55 : decode cX7_advances 55 = .ok (.iload_n 1, 1) := by decide +kernel
theorem dX7_advances_56 : decode cX7_advances 56 = .ok (.bipush 97, 2) := by decide +kernel
theorem dX7_advances_58 : decode cX7_advances 58 = .ok (.bipush 122, 2) := by decide +kernel
theorem dX7_advances_60 : decode cX7_advances 60 = .ok (.invokestatic 72, 3) := by decide +kernel
theorem dX7_advances_63 : decode cX7_advances 63 = .ok (.ifCond .eq 106, 3) := by decide +kernel
theorem dX7_advances_66 : decode cX7_advances 66 = .ok (.lconst 0, 1) := by decide +kernel
theorem dX7_advances_67 : decode cX7_advances 67 = .ok (.lstore_n 2, 1) := by decide +kernel
theorem dX7_advances_68 : decode cX7_advances 68 = .ok (.iconst 0, 1) := by decide +kernel
theorem dX7_advances_69 : decode cX7_advances 69 = .ok (.istore 4, 2) := by decide +kernel
theorem dX7_advances_71 : decode cX7_advances 71 = .ok (.aload_n 0, 1) := by decide +kernel
theorem dX7_advances_72 : decode cX7_advances 72 = .ok (.aload_n 0, 1) := by decide +kernel
theorem dX7_advances_73 : decode cX7_advances 73 = .ok (.getfield 113, 3) := by decide +kernel
theorem dX7_advances_76 : decode cX7_advances 76 = .ok (.invokevirtual 116, 3) := by decide +kernel
theorem dX7_advances_79 : decode cX7_advances 79 = .ok (.bipush 97, 2) := by decide +kernel
theorem dX7_advances_81 : decode cX7_advances 81 = .ok (.bipush 122, 2) := by decide +kernel
theorem dX7_advances_83 : decode cX7_advances 83 = .ok (.invokestatic 72, 3) := by decide +kernel
theorem dX7_advances_86 : decode cX7_advances 86 = .ok (.ifCond .eq 42, 3) := by decide +kernel
theorem dX7_advances_89 : decode cX7_advances 89 = .ok (.iload 4, 2) := by decide +kernel
theorem dX7_advances_91 : decode cX7_advances 91 = .ok (.iconst 5, 1) := by decide +kernel
theorem dX7_advances_92 : decode cX7_advances 92 = .ok (.if_icmp .ge 18, 3) := by decide +kernel
theorem dX7_advances_95 : decode cX7_advances 95 = .ok (.lload_n 2, 1) := by decide +kernel
theorem dX7_advances_96 : decode cX7_advances 96 = .ok (.aload_n 0, 1) := by decide +kernel
theorem dX7_advances_97 : decode cX7_advances 97 = .ok (.aload_n 0, 1) := by decide +kernel
theorem dX7_advances_98 : decode cX7_advances 98 = .ok (.getfield 113, 3) := by decide +kernel
theorem dX7_advances_101 : decode cX7_advances 101 = .ok (.invokevirtual 116, 3) := by decide +kernel
theorem dX7_advances_104 : decode cX7_advances 104 = .ok (.invokestatic 105, 3) := by decide +kernel
theorem dX7_advances_107 : decode cX7_advances 107 = .ok (.goto 4, 3) := by decide +kernel
theorem dX7_advances_110 : decode cX7_advances 110 = .ok (.lload_n 2, 1) := by decide +kernel
theorem dX7_advances_111 : decode cX7_advances 111 = .ok (.lstore_n 2, 1) := by decide +kernel
theorem dX7_advances_112 : decode cX7_advances 112 = .ok (.iinc 4 1, 3) := by decide +kernel
theorem dX7_advances_115 : decode cX7_advances 115 = .ok (.aload_n 0, 1) := by decide +kernel
theorem dX7_advances_116 : decode cX7_advances 116 = .ok (.dup, 1) := by decide +kernel
theorem dX7_advances_117 : decode cX7_advances 117 = .ok (.getfield 113, 3) := by decide +kernel
theorem dX7_advances_120 : decode cX7_advances 120 = .ok (.iconst 1, 1) := by decide +kernel
theorem dX7_advances_121 : decode cX7_advances 121 = .ok (.iadd, 1) := by decide +kernel
theorem dX7_advances_122 : decode cX7_advances 122 = .ok (.putfield 113, 3) := by decide +kernel
theorem dX7_advances_125 : decode cX7_advances 125 = .ok (.goto (-54), 3) := by decide +kernel
theorem dX7_advances_128 : decode cX7_advances 128 = .ok (.aload_n 0, 1) := by decide +kernel
theorem dX7_advances_129 : decode cX7_advances 129 = .ok (.iload 4, 2) := by decide +kernel
theorem dX7_advances_131 : decode cX7_advances 131 = .ok (.bipush 6, 2) := by decide +kernel
theorem dX7_advances_133 : decode cX7_advances 133 = .ok (.if_icmp .ge 10, 3) := by decide +kernel
theorem dX7_advances_136 : decode cX7_advances 136 = .ok (.lload_n 2, 1) := by decide +kernel
theorem dX7_advances_137 : decode cX7_advances 137 = .ok (.invokestatic 125, 3) := by decide +kernel
theorem dX7_advances_140 : decode cX7_advances 140 = .ok (.goto 5, 3) := by decide +kernel
theorem dX7_advances_143 : decode cX7_advances 143 = .ok (.bipush (-9), 2) := by decide +kernel
theorem dX7_advances_145 : decode cX7_advances 145 = .ok (.putfield 129, 3) := by decide +kernel
theorem dX7_advances_148 : decode cX7_advances 148 = .ok (.aload_n 0, 1) := by decide +kernel
theorem dX7_advances_149 : decode cX7_advances 149 = .ok (.aload_n 0, 1) := by decide +kernel
theorem dX7_advances_150 : decode cX7_advances 150 = .ok (.getfield 129, 3) := by decide +kernel
theorem dX7_advances_153 : decode cX7_advances 153 = .ok (.bipush (-9), 2) := by decide +kernel
theorem dX7_advances_155 : decode cX7_advances 155 = .ok (.if_icmp .ne 7, 3) := by decide +kernel
theorem dX7_advances_158 : decode cX7_advances 158 = .ok (.iconst 4, 1) := by decide +kernel
theorem dX7_advances_159 : decode cX7_advances 159 = .ok (.goto 4, 3) := by decide +kernel
theorem dX7_advances_162 : decode cX7_advances 162 = .ok (.iconst 1, 1) := by decide +kernel
theorem dX7_advances_163 : decode cX7_advances 163 = .ok (.putfield 122, 3) := by decide +kernel
theorem dX7_advances_166 : decode cX7_advances 166 = .ok (.goto 198, 3) := by decide +kernel
theorem dX7_advances_169 : decode cX7_advances 169 = .ok (.iload_n 1, 1) := by decide +kernel
theorem dX7_advances_170 : decode cX7_advances 170 = .ok (.bipush 48, 2) := by decide +kernel
theorem dX7_advances_172 : decode cX7_advances 172 = .ok (.bipush 57, 2) := by decide +kernel
theorem dX7_advances_174 : decode cX7_advances 174 = .ok (.invokestatic 72, 3) := by decide +kernel
theorem dX7_advances_177 : decode cX7_advances 177 = .ok (.ifCond .eq 106, 3) := by decide +kernel
theorem dX7_advances_180 : decode cX7_advances 180 = .ok (.aload_n 0, 1) := by decide +kernel
theorem dX7_advances_181 : decode cX7_advances 181 = .ok (.iconst 0, 1) := by decide +kernel
theorem dX7_advances_182 : decode cX7_advances 182 = .ok (.putfield 129, 3) := by decide +kernel
theorem dX7_advances_185 : decode cX7_advances 185 = .ok (.iconst 0, 1) := by decide +kernel
theorem dX7_advances_186 : decode cX7_advances 186 = .ok (.istore_n 2, 1) := by decide +kernel
theorem dX7_advances_187 : decode cX7_advances 187 = .ok (.aload_n 0, 1) := by decide +kernel
theorem dX7_advances_188 : decode cX7_advances 188 = .ok (.aload_n 0, 1) := by decide +kernel
theorem dX7_advances_189 : decode cX7_advances 189 = .ok (.getfield 113, 3) := by decide +kernel
theorem dX7_advances_192 : decode cX7_advances 192 = .ok (.invokevirtual 116, 3) := by decide +kernel
theorem dX7_advances_195 : decode cX7_advances 195 = .ok (.bipush 48, 2) := by decide +kernel
theorem dX7_advances_197 : decode cX7_advances 197 = .ok (.bipush 57, 2) := by decide +kernel
theorem dX7_advances_199 : decode cX7_advances 199 = .ok (.invokestatic 72, 3) := by decide +kernel
theorem dX7_advances_202 : decode cX7_advances 202 = .ok (.ifCond .eq 58, 3) := by decide +kernel
theorem dX7_advances_205 : decode cX7_advances 205 = .ok (.aload_n 0, 1) := by decide +kernel
theorem dX7_advances_206 : decode cX7_advances 206 = .ok (.aload_n 0, 1) := by decide +kernel
theorem dX7_advances_207 : decode cX7_advances 207 = .ok (.getfield 129, 3) := by decide +kernel
theorem dX7_advances_210 : decode cX7_advances 210 = .ok (.bipush 99, 2) := by decide +kernel
theorem dX7_advances_212 : decode cX7_advances 212 = .ok (.if_icmp .le 10, 3) := by decide +kernel
theorem dX7_advances_215 : decode cX7_advances 215 = .ok (.aload_n 0, 1) := by decide +kernel
theorem dX7_advances_216 : decode cX7_advances 216 = .ok (.getfield 129, 3) := by decide +kernel
theorem dX7_advances_219 : decode cX7_advances 219 = .ok (.goto 22, 3) := by decide +kernel
theorem dX7_advances_222 : decode cX7_advances 222 = .ok (.bipush 10, 2) := by decide +kernel
theorem dX7_advances_224 : decode cX7_advances 224 = .ok (.aload_n 0, 1) := by decide +kernel
theorem dX7_advances_225 : decode cX7_advances 225 = .ok (.getfield 129, 3) := by decide +kernel
theorem dX7_advances_228 : decode cX7_advances 228 = .ok (.imul, 1) := by decide +kernel
theorem dX7_advances_229 : decode cX7_advances 229 = .ok (.aload_n 0, 1) := by decide +kernel
theorem dX7_advances_230 : decode cX7_advances 230 = .ok (.aload_n 0, 1) := by decide +kernel
theorem dX7_advances_231 : decode cX7_advances 231 = .ok (.getfield 113, 3) := by decide +kernel
theorem dX7_advances_234 : decode cX7_advances 234 = .ok (.invokevirtual 116, 3) := by decide +kernel
theorem dX7_advances_237 : decode cX7_advances 237 = .ok (.iadd, 1) := by decide +kernel
theorem dX7_advances_238 : decode cX7_advances 238 = .ok (.bipush 48, 2) := by decide +kernel
theorem dX7_advances_240 : decode cX7_advances 240 = .ok (.isub, 1) := by decide +kernel
theorem dX7_advances_241 : decode cX7_advances 241 = .ok (.putfield 129, 3) := by decide +kernel
theorem dX7_advances_244 : decode cX7_advances 244 = .ok (.iinc 2 1, 3) := by decide +kernel
theorem dX7_advances_247 : decode cX7_advances 247 = .ok (.aload_n 0, 1) := by decide +kernel
theorem dX7_advances_248 : decode cX7_advances 248 = .ok (.dup, 1) := by decide +kernel
theorem dX7_advances_249 : decode cX7_advances 249 = .ok (.getfield 113, 3) := by decide +kernel
theorem dX7_advances_252 : decode cX7_advances 252 = .ok (.iconst 1, 1) := by decide +kernel
theorem dX7_advances_253 : decode cX7_advances 253 = .ok (.iadd, 1) := by decide +kernel
theorem dX7_advances_254 : decode cX7_advances 254 = .ok (.putfield 113, 3) := by decide +kernel
theorem dX7_advances_257 : decode cX7_advances 257 = .ok (.goto (-70), 3) := by decide +kernel
theorem dX7_advances_260 : decode cX7_advances 260 = .ok (.aload_n 0, 1) := by decide +kernel
theorem dX7_advances_261 : decode cX7_advances 261 = .ok (.iload_n 1, 1) := by decide +kernel
theorem dX7_advances_262 : decode cX7_advances 262 = .ok (.bipush 48, 2) := by decide +kernel
theorem dX7_advances_264 : decode cX7_advances 264 = .ok (.if_icmp .ne 12, 3) := by decide +kernel
theorem dX7_advances_267 : decode cX7_advances 267 = .ok (.iload_n 2, 1) := by decide +kernel
theorem dX7_advances_268 : decode cX7_advances 268 = .ok (.iconst 1, 1) := by decide +kernel
theorem dX7_advances_269 : decode cX7_advances 269 = .ok (.if_icmp .le 7, 3) := by decide +kernel
theorem dX7_advances_272 : decode cX7_advances 272 = .ok (.iconst 4, 1) := by decide +kernel
theorem dX7_advances_273 : decode cX7_advances 273 = .ok (.goto 4, 3) := by decide +kernel
theorem dX7_advances_276 : decode cX7_advances 276 = .ok (.iconst 2, 1) := by decide +kernel
theorem dX7_advances_277 : decode cX7_advances 277 = .ok (.putfield 122, 3) := by decide +kernel
theorem dX7_advances_280 : decode cX7_advances 280 = .ok (.goto 84, 3) := by decide +kernel
theorem dX7_advances_283 : decode cX7_advances 283 = .ok (.aload_n 0, 1) := by decide +kernel
theorem dX7_advances_284 : decode cX7_advances 284 = .ok (.iload_n 1, 1) := by decide +kernel
theorem dX7_advances_285 : decode cX7_advances 285 = .ok (.putfield 129, 3) := by decide +kernel
theorem dX7_advances_288 : decode cX7_advances 288 = .ok (.aload_n 0, 1) := by decide +kernel
theorem dX7_advances_289 : decode cX7_advances 289 = .ok (.dup, 1) := by decide +kernel
theorem dX7_advances_290 : decode cX7_advances 290 = .ok (.getfield 113, 3) := by decide +kernel
theorem dX7_advances_293 : decode cX7_advances 293 = .ok (.iconst 1, 1) := by decide +kernel
theorem dX7_advances_294 : decode cX7_advances 294 = .ok (.iadd, 1) := by decide +kernel
theorem dX7_advances_295 : decode cX7_advances 295 = .ok (.putfield 113, 3) := by decide +kernel
theorem dX7_advances_298 : decode cX7_advances 298 = .ok (.iload_n 1, 1) := by decide +kernel
theorem dX7_advances_299 : decode cX7_advances 299 = .ok (.bipush 65, 2) := by decide +kernel
theorem dX7_advances_301 : decode cX7_advances 301 = .ok (.bipush 68, 2) := by decide +kernel
theorem dX7_advances_303 : decode cX7_advances 303 = .ok (.invokestatic 72, 3) := by decide +kernel
theorem dX7_advances_306 : decode cX7_advances 306 = .ok (.ifCond .ne 39, 3) := by decide +kernel
theorem dX7_advances_309 : decode cX7_advances 309 = .ok (.iload_n 1, 1) := by decide +kernel
theorem dX7_advances_310 : decode cX7_advances 310 = .ok (.bipush 58, 2) := by decide +kernel
theorem dX7_advances_312 : decode cX7_advances 312 = .ok (.if_icmp .eq 33, 3) := by decide +kernel
theorem dX7_advances_315 : decode cX7_advances 315 = .ok (.iload_n 1, 1) := by decide +kernel
theorem dX7_advances_316 : decode cX7_advances 316 = .ok (.bipush 124, 2) := by decide +kernel
theorem dX7_advances_318 : decode cX7_advances 318 = .ok (.if_icmp .eq 27, 3) := by decide +kernel
theorem dX7_advances_321 : decode cX7_advances 321 = .ok (.iload_n 1, 1) := by decide +kernel
theorem dX7_advances_322 : decode cX7_advances 322 = .ok (.bipush 38, 2) := by decide +kernel
theorem dX7_advances_324 : decode cX7_advances 324 = .ok (.if_icmp .eq 21, 3) := by decide +kernel
theorem dX7_advances_327 : decode cX7_advances 327 = .ok (.iload_n 1, 1) := by decide +kernel
theorem dX7_advances_328 : decode cX7_advances 328 = .ok (.bipush 33, 2) := by decide +kernel
theorem dX7_advances_330 : decode cX7_advances 330 = .ok (.if_icmp .eq 15, 3) := by decide +kernel
theorem dX7_advances_333 : decode cX7_advances 333 = .ok (.iload_n 1, 1) := by decide +kernel
theorem dX7_advances_334 : decode cX7_advances 334 = .ok (.bipush 40, 2) := by decide +kernel
theorem dX7_advances_336 : decode cX7_advances 336 = .ok (.if_icmp .eq 9, 3) := by decide +kernel
theorem dX7_advances_339 : decode cX7_advances 339 = .ok (.iload_n 1, 1) := by decide +kernel
theorem dX7_advances_340 : decode cX7_advances 340 = .ok (.bipush 41, 2) := by decide +kernel
theorem dX7_advances_342 : decode cX7_advances 342 = .ok (.if_icmp .ne 7, 3) := by decide +kernel
theorem dX7_advances_345 : decode cX7_advances 345 = .ok (.iconst 1, 1) := by decide +kernel
theorem dX7_advances_346 : decode cX7_advances 346 = .ok (.goto 4, 3) := by decide +kernel
theorem dX7_advances_349 : decode cX7_advances 349 = .ok (.iconst 0, 1) := by decide +kernel
theorem dX7_advances_350 : decode cX7_advances 350 = .ok (.istore_n 2, 1) := by decide +kernel
theorem dX7_advances_351 : decode cX7_advances 351 = .ok (.aload_n 0, 1) := by decide +kernel
theorem dX7_advances_352 : decode cX7_advances 352 = .ok (.iload_n 2, 1) := by decide +kernel
theorem dX7_advances_353 : decode cX7_advances 353 = .ok (.ifCond .eq 7, 3) := by decide +kernel
theorem dX7_advances_356 : decode cX7_advances 356 = .ok (.iconst 3, 1) := by decide +kernel
theorem dX7_advances_357 : decode cX7_advances 357 = .ok (.goto 4, 3) := by decide +kernel
theorem dX7_advances_360 : decode cX7_advances 360 = .ok (.iconst 4, 1) := by decide +kernel
theorem dX7_advances_361 : decode cX7_advances 361 = .ok (.putfield 122, 3) := by decide +kernel
theorem dX7_advances_364 : decode cX7_advances 364 = .ok (.return_, 1) := by decide +kernel
theorem dX7_isWell_0 : decode cX7_isWell 0 = .ok (.aload_n 0, 1) := by decide +kernel
theorem dX7_isWell_1 : decode cX7_isWell 1 = .ok (.getfield 132, 3) := by decide +kernel
theorem dX7_isWell_4 : decode cX7_isWell 4 = .ok (.ifCond .ge 7, 3) := by decide +kernel
theorem dX7_isWell_7 : decode cX7_isWell 7 = .ok (.iconst 1, 1) := by decide +kernel
theorem dX7_isWell_8 : decode cX7_isWell 8 = .ok (.goto 4, 3) := by decide +kernel
theorem dX7_isWell_11 : decode cX7_isWell 11 = .ok (.iconst 0, 1) := by decide +kernel
theorem dX7_isWell_12 : decode cX7_isWell 12 = .ok (.ireturn, 1) := by decide +kernel
theorem dX7_fails_0 : decode cX7_fails 0 = .ok (.aload_n 0, 1) := by decide +kernel
theorem dX7_fails_1 : decode cX7_fails 1 = .ok (.aload_n 0, 1) := by decide +kernel
theorem dX7_fails_2 : decode cX7_fails 2 = .ok (.getfield 132, 3) := by decide +kernel
theorem dX7_fails_5 : decode cX7_fails 5 = .ok (.ifCond .ge 10, 3) := by decide +kernel
theorem dX7_fails_8 : decode cX7_fails 8 = .ok (.aload_n 0, 1) := by decide +kernel
theorem dX7_fails_9 : decode cX7_fails 9 = .ok (.getfield 119, 3) := by decide +kernel
theorem dX7_fails_12 : decode cX7_fails 12 = .ok (.goto 7, 3) := by decide +kernel
theorem dX7_fails_15 : decode cX7_fails 15 = .ok (.aload_n 0, 1) := by decide +kernel
theorem dX7_fails_16 : decode cX7_fails 16 = .ok (.getfield 132, 3) := by decide +kernel
theorem dX7_fails_19 : decode cX7_fails 19 = .ok (.putfield 132, 3) := by decide +kernel
theorem dX7_fails_22 : decode cX7_fails 22 = .ok (.return_, 1) := by decide +kernel
theorem dX7_isSign_0 : decode cX7_isSign 0 = .ok (.aload_n 0, 1) := by decide +kernel
theorem dX7_isSign_1 : decode cX7_isSign 1 = .ok (.invokevirtual 135, 3) := by decide +kernel
theorem dX7_isSign_4 : decode cX7_isSign 4 = .ok (.ifCond .eq 23, 3) := by decide +kernel
theorem dX7_isSign_7 : decode cX7_isSign 7 = .ok (.aload_n 0, 1) := by decide +kernel
theorem dX7_isSign_8 : decode cX7_isSign 8 = .ok (.getfield 122, 3) := by decide +kernel
theorem dX7_isSign_11 : decode cX7_isSign 11 = .ok (.iconst 3, 1) := by decide +kernel
theorem dX7_isSign_12 : decode cX7_isSign 12 = .ok (.if_icmp .ne 15, 3) := by decide +kernel
theorem dX7_isSign_15 : decode cX7_isSign 15 = .ok (.aload_n 0, 1) := by decide +kernel
theorem dX7_isSign_16 : decode cX7_isSign 16 = .ok (.getfield 129, 3) := by decide +kernel
theorem dX7_isSign_19 : decode cX7_isSign 19 = .ok (.iload_n 1, 1) := by decide +kernel
theorem dX7_isSign_20 : decode cX7_isSign 20 = .ok (.if_icmp .ne 7, 3) := by decide +kernel
theorem dX7_isSign_23 : decode cX7_isSign 23 = .ok (.iconst 1, 1) := by decide +kernel
theorem dX7_isSign_24 : decode cX7_isSign 24 = .ok (.goto 4, 3) := by decide +kernel
theorem dX7_isSign_27 : decode cX7_isSign 27 = .ok (.iconst 0, 1) := by decide +kernel
theorem dX7_isSign_28 : decode cX7_isSign 28 = .ok (.ireturn, 1) := by decide +kernel
theorem dX7_isKindSign_0 : decode cX7_isKindSign 0 = .ok (.aload_n 0, 1) := by decide +kernel
theorem dX7_isKindSign_1 : decode cX7_isKindSign 1 = .ok (.invokevirtual 135, 3) := by decide +kernel
theorem dX7_isKindSign_4 : decode cX7_isKindSign 4 = .ok (.ifCond .eq 36, 3) := by decide +kernel
theorem dX7_isKindSign_7 : decode cX7_isKindSign 7 = .ok (.aload_n 0, 1) := by decide +kernel
theorem dX7_isKindSign_8 : decode cX7_isKindSign 8 = .ok (.getfield 122, 3) := by decide +kernel
theorem dX7_isKindSign_11 : decode cX7_isKindSign 11 = .ok (.iconst 3, 1) := by decide +kernel
theorem dX7_isKindSign_12 : decode cX7_isKindSign 12 = .ok (.if_icmp .ne 28, 3) := by decide +kernel
theorem dX7_isKindSign_15 : decode cX7_isKindSign 15 = .ok (.aload_n 0, 1) := by decide +kernel
theorem dX7_isKindSign_16 : decode cX7_isKindSign 16 = .ok (.getfield 129, 3) := by decide +kernel
theorem dX7_isKindSign_19 : decode cX7_isKindSign 19 = .ok (.bipush 65, 2) := by decide +kernel
theorem dX7_isKindSign_21 : decode cX7_isKindSign 21 = .ok (.bipush 65, 2) := by decide +kernel
theorem dX7_isKindSign_23 : decode cX7_isKindSign 23 = .ok (.aload_n 0, 1) := by decide +kernel
theorem dX7_isKindSign_24 : decode cX7_isKindSign 24 = .ok (.getfield 7, 3) := by decide +kernel
theorem dX7_isKindSign_27 : decode cX7_isKindSign 27 = .ok (.iadd, 1) := by decide +kernel
theorem dX7_isKindSign_28 : decode cX7_isKindSign 28 = .ok (.iconst 1, 1) := by decide +kernel
theorem dX7_isKindSign_29 : decode cX7_isKindSign 29 = .ok (.isub, 1) := by decide +kernel
theorem dX7_isKindSign_30 : decode cX7_isKindSign 30 = .ok (.invokestatic 72, 3) := by decide +kernel
theorem dX7_isKindSign_33 : decode cX7_isKindSign 33 = .ok (.ifCond .eq 7, 3) := by decide +kernel
theorem dX7_isKindSign_36 : decode cX7_isKindSign 36 = .ok (.iconst 1, 1) := by decide +kernel
theorem dX7_isKindSign_37 : decode cX7_isKindSign 37 = .ok (.goto 4, 3) := by decide +kernel
theorem dX7_isKindSign_40 : decode cX7_isKindSign 40 = .ok (.iconst 0, 1) := by decide +kernel
theorem dX7_isKindSign_41 : decode cX7_isKindSign 41 = .ok (.ireturn, 1) := by decide +kernel
theorem dX7_every_0 : decode cX7_every 0 = .ok (.iconst 1, 1) := by decide +kernel
theorem dX7_every_1 : decode cX7_every 1 = .ok (.aload_n 0, 1) := by decide +kernel
theorem dX7_every_2 : decode cX7_every 2 = .ok (.invokevirtual 60, 3) := by decide +kernel
theorem dX7_every_5 : decode cX7_every 5 = .ok (.ishl, 1) := by decide +kernel
theorem dX7_every_6 : decode cX7_every 6 = .ok (.iconst 1, 1) := by decide +kernel
theorem dX7_every_7 : decode cX7_every 7 = .ok (.isub, 1) := by decide +kernel
theorem dX7_every_8 : decode cX7_every 8 = .ok (.ireturn, 1) := by decide +kernel
theorem dX7_side_0 : decode cX7_side 0 = .ok (.iconst 0, 1) := by decide +kernel
theorem dX7_side_1 : decode cX7_side 1 = .ok (.istore_n 1, 1) := by decide +kernel
theorem dX7_side_2 : decode cX7_side 2 = .ok (.iconst 0, 1) := by decide +kernel
theorem dX7_side_3 : decode cX7_side 3 = .ok (.istore_n 2, 1) := by decide +kernel
theorem dX7_side_4 : decode cX7_side 4 = .ok (.iconst 0, 1) := by decide +kernel
theorem dX7_side_5 : decode cX7_side 5 = .ok (.istore_n 3, 1) := by decide +kernel
theorem dX7_side_6 : decode cX7_side 6 = .ok (.iconst 1, 1) := by decide +kernel
theorem dX7_side_7 : decode cX7_side 7 = .ok (.istore 4, 2) := by decide +kernel
theorem dX7_side_9 : decode cX7_side 9 = .ok (.iconst 1, 1) := by decide +kernel
theorem dX7_side_10 : decode cX7_side 10 = .ok (.istore 5, 2) := by decide +kernel
theorem dX7_side_12 : decode cX7_side 12 = .ok (.iconst 0, 1) := by decide +kernel
theorem dX7_side_13 : decode cX7_side 13 = .ok (.istore 6, 2) := by decide +kernel
theorem dX7_side_15 : decode cX7_side 15 = .ok (.aload_n 0, 1) := by decide +kernel
theorem dX7_side_16 : decode cX7_side 16 = .ok (.bipush (-9), 2) := by decide +kernel
theorem dX7_side_18 : decode cX7_side 18 = .ok (.putfield 139, 3) := by decide +kernel
theorem dX7_side_21 : decode cX7_side 21 = .ok (.iload 5, 2) := by decide +kernel
theorem dX7_side_23 : decode cX7_side 23 = .ok (.ifCond .eq 450, 3) := by decide +kernel
theorem dX7_side_26 : decode cX7_side 26 = .ok (.aload_n 0, 1) := by decide +kernel
theorem dX7_side_27 : decode cX7_side 27 = .ok (.invokevirtual 135, 3) := by decide +kernel
theorem dX7_side_30 : decode cX7_side 30 = .ok (.ifCond .eq 443, 3) := by decide +kernel
theorem dX7_side_33 : decode cX7_side 33 = .ok (.iload 4, 2) := by decide +kernel
theorem dX7_side_35 : decode cX7_side 35 = .ok (.ifCond .eq 172, 3) := by decide +kernel
theorem dX7_side_38 : decode cX7_side 38 = .ok (.aload_n 0, 1) := by decide +kernel
theorem dX7_side_39 : decode cX7_side 39 = .ok (.bipush 33, 2) := by decide +kernel
theorem dX7_side_41 : decode cX7_side 41 = .ok (.invokevirtual 142, 3) := by decide +kernel
theorem dX7_side_44 : decode cX7_side 44 = .ok (.ifCond .ne 12, 3) := by decide +kernel
theorem dX7_side_47 : decode cX7_side 47 = .ok (.aload_n 0, 1) := by decide +kernel
theorem dX7_side_48 : decode cX7_side 48 = .ok (.bipush 40, 2) := by decide +kernel
theorem dX7_side_50 : decode cX7_side 50 = .ok (.invokevirtual 142, 3) := by decide +kernel
theorem dX7_side_53 : decode cX7_side 53 = .ok (.ifCond .eq 7, 3) := by decide +kernel
theorem dX7_side_56 : decode cX7_side 56 = .ok (.iconst 1, 1) := by decide +kernel
theorem dX7_side_57 : decode cX7_side 57 = .ok (.goto 4, 3) := by decide +kernel
theorem dX7_side_60 : decode cX7_side 60 = .ok (.iconst 0, 1) := by decide +kernel
theorem dX7_side_61 : decode cX7_side 61 = .ok (.istore 7, 2) := by decide +kernel
theorem dX7_side_63 : decode cX7_side 63 = .ok (.iload 7, 2) := by decide +kernel
theorem dX7_side_65 : decode cX7_side 65 = .ok (.ifCond .ne 10, 3) := by decide +kernel
theorem dX7_side_68 : decode cX7_side 68 = .ok (.aload_n 0, 1) := by decide +kernel
theorem dX7_side_69 : decode cX7_side 69 = .ok (.invokevirtual 145, 3) := by decide +kernel
theorem dX7_side_72 : decode cX7_side 72 = .ok (.ifCond .eq 23, 3) := by decide +kernel
theorem dX7_side_75 : decode cX7_side 75 = .ok (.aload_n 0, 1) := by decide +kernel
theorem dX7_side_76 : decode cX7_side 76 = .ok (.getfield 148, 3) := by decide +kernel
theorem dX7_side_79 : decode cX7_side 79 = .ok (.bipush 24, 2) := by decide +kernel
theorem dX7_side_81 : decode cX7_side 81 = .ok (.if_icmp .eq 14, 3) := by decide +kernel
theorem dX7_side_84 : decode cX7_side 84 = .ok (.iload 7, 2) := by decide +kernel
theorem dX7_side_86 : decode cX7_side 86 = .ok (.ifCond .eq 16, 3) := by decide +kernel
theorem dX7_side_89 : decode cX7_side 89 = .ok (.iload_n 3, 1) := by decide +kernel
theorem dX7_side_90 : decode cX7_side 90 = .ok (.bipush 8, 2) := by decide +kernel
theorem dX7_side_92 : decode cX7_side 92 = .ok (.if_icmp .ne 10, 3) := by decide +kernel
theorem dX7_side_95 : decode cX7_side 95 = .ok (.aload_n 0, 1) := by decide +kernel
theorem dX7_side_96 : decode cX7_side 96 = .ok (.invokevirtual 151, 3) := by decide +kernel
theorem dX7_side_99 : decode cX7_side 99 = .ok (.goto 105, 3) := by decide +kernel
theorem dX7_side_102 : decode cX7_side 102 = .ok (.iload 7, 2) := by decide +kernel
theorem dX7_side_104 : decode cX7_side 104 = .ok (.ifCond .eq 39, 3) := by decide +kernel
theorem dX7_side_107 : decode cX7_side 107 = .ok (.aload_n 0, 1) := by decide +kernel
theorem dX7_side_108 : decode cX7_side 108 = .ok (.getfield 32, 3) := by decide +kernel
theorem dX7_side_111 : decode cX7_side 111 = .ok (.iload_n 2, 1) := by decide +kernel
theorem dX7_side_112 : decode cX7_side 112 = .ok (.aload_n 0, 1) := by decide +kernel
theorem dX7_side_113 : decode cX7_side 113 = .ok (.getfield 129, 3) := by decide +kernel
theorem dX7_side_116 : decode cX7_side 116 = .ok (.iastore, 1) := by decide +kernel
theorem dX7_side_117 : decode cX7_side 117 = .ok (.iinc 2 1, 3) := by decide +kernel
theorem dX7_side_120 : decode cX7_side 120 = .ok (.iinc 3 1, 3) := by decide +kernel
theorem dX7_side_123 : decode cX7_side 123 = .ok (.aload_n 0, 1) := by decide +kernel
theorem dX7_side_124 : decode cX7_side 124 = .ok (.dup, 1) := by decide +kernel
theorem dX7_side_125 : decode cX7_side 125 = .ok (.getfield 148, 3) := by decide +kernel
theorem dX7_side_128 : decode cX7_side 128 = .ok (.iconst 1, 1) := by decide +kernel
theorem dX7_side_129 : decode cX7_side 129 = .ok (.iadd, 1) := by decide +kernel
theorem dX7_side_130 : decode cX7_side 130 = .ok (.putfield 148, 3) := by decide +kernel
theorem dX7_side_133 : decode cX7_side 133 = .ok (.iinc 6 1, 3) := by decide +kernel
theorem dX7_side_136 : decode cX7_side 136 = .ok (.aload_n 0, 1) := by decide +kernel
theorem dX7_side_137 : decode cX7_side 137 = .ok (.invokevirtual 154, 3) := by decide +kernel
theorem dX7_side_140 : decode cX7_side 140 = .ok (.goto 64, 3) := by decide +kernel
theorem dX7_side_143 : decode cX7_side 143 = .ok (.aload_n 0, 1) := by decide +kernel
theorem dX7_side_144 : decode cX7_side 144 = .ok (.iload 6, 2) := by decide +kernel
theorem dX7_side_146 : decode cX7_side 146 = .ok (.ifCond .ne 13, 3) := by decide +kernel
theorem dX7_side_149 : decode cX7_side 149 = .ok (.aload_n 0, 1) := by decide +kernel
theorem dX7_side_150 : decode cX7_side 150 = .ok (.getfield 129, 3) := by decide +kernel
theorem dX7_side_153 : decode cX7_side 153 = .ok (.bipush 65, 2) := by decide +kernel
theorem dX7_side_155 : decode cX7_side 155 = .ok (.isub, 1) := by decide +kernel
theorem dX7_side_156 : decode cX7_side 156 = .ok (.goto 5, 3) := by decide +kernel
theorem dX7_side_159 : decode cX7_side 159 = .ok (.bipush (-9), 2) := by decide +kernel
theorem dX7_side_161 : decode cX7_side 161 = .ok (.putfield 139, 3) := by decide +kernel
theorem dX7_side_164 : decode cX7_side 164 = .ok (.aload_n 0, 1) := by decide +kernel
theorem dX7_side_165 : decode cX7_side 165 = .ok (.getfield 29, 3) := by decide +kernel
theorem dX7_side_168 : decode cX7_side 168 = .ok (.iload_n 1, 1) := by decide +kernel
theorem dX7_side_169 : decode cX7_side 169 = .ok (.aload_n 0, 1) := by decide +kernel
theorem dX7_side_170 : decode cX7_side 170 = .ok (.aload_n 0, 1) := by decide +kernel
theorem dX7_side_171 : decode cX7_side 171 = .ok (.getfield 129, 3) := by decide +kernel
theorem dX7_side_174 : decode cX7_side 174 = .ok (.bipush 65, 2) := by decide +kernel
theorem dX7_side_176 : decode cX7_side 176 = .ok (.isub, 1) := by decide +kernel
theorem dX7_side_177 : decode cX7_side 177 = .ok (.invokevirtual 64, 3) := by decide +kernel
theorem dX7_side_180 : decode cX7_side 180 = .ok (.iastore, 1) := by decide +kernel
theorem dX7_side_181 : decode cX7_side 181 = .ok (.iinc 1 1, 3) := by decide +kernel
theorem dX7_side_184 : decode cX7_side 184 = .ok (.aload_n 0, 1) := by decide +kernel
theorem dX7_side_185 : decode cX7_side 185 = .ok (.dup, 1) := by decide +kernel
theorem dX7_side_186 : decode cX7_side 186 = .ok (.getfield 148, 3) := by decide +kernel
theorem dX7_side_189 : decode cX7_side 189 = .ok (.iconst 1, 1) := by decide +kernel
theorem dX7_side_190 : decode cX7_side 190 = .ok (.iadd, 1) := by decide +kernel
theorem dX7_side_191 : decode cX7_side 191 = .ok (.putfield 148, 3) := by decide +kernel
theorem dX7_side_194 : decode cX7_side 194 = .ok (.iinc 6 1, 3) := by decide +kernel
theorem dX7_side_197 : decode cX7_side 197 = .ok (.iconst 0, 1) := by decide +kernel
theorem dX7_side_198 : decode cX7_side 198 = .ok (.istore 4, 2) := by decide +kernel
theorem dX7_side_200 : decode cX7_side 200 = .ok (.aload_n 0, 1) := by decide +kernel
theorem dX7_side_201 : decode cX7_side 201 = .ok (.invokevirtual 154, 3) := by decide +kernel
theorem dX7_side_204 : decode cX7_side 204 = .ok (.goto 215, 3) := by decide +kernel
theorem dX7_side_207 : decode cX7_side 207 = .ok (.aload_n 0, 1) := by decide +kernel
theorem dX7_side_208 : decode cX7_side 208 = .ok (.bipush 38, 2) := by decide +kernel
theorem dX7_side_210 : decode cX7_side 210 = .ok (.invokevirtual 142, 3) := by decide +kernel
theorem dX7_side_213 : decode cX7_side 213 = .ok (.ifCond .ne 12, 3) := by decide +kernel
theorem dX7_side_216 : decode cX7_side 216 = .ok (.aload_n 0, 1) := by decide +kernel
theorem dX7_side_217 : decode cX7_side 217 = .ok (.bipush 124, 2) := by decide +kernel
theorem dX7_side_219 : decode cX7_side 219 = .ok (.invokevirtual 142, 3) := by decide +kernel
theorem dX7_side_222 : decode cX7_side 222 = .ok (.ifCond .eq 111, 3) := by decide +kernel
theorem dX7_side_225 : decode cX7_side 225 = .ok (.iload_n 2, 1) := by decide +kernel
theorem dX7_side_226 : decode cX7_side 226 = .ok (.ifCond .le 78, 3) := by decide +kernel
theorem dX7_side_229 : decode cX7_side 229 = .ok (.aload_n 0, 1) := by decide +kernel
theorem dX7_side_230 : decode cX7_side 230 = .ok (.getfield 32, 3) := by decide +kernel
theorem dX7_side_233 : decode cX7_side 233 = .ok (.iload_n 2, 1) := by decide +kernel
theorem dX7_side_234 : decode cX7_side 234 = .ok (.iconst 1, 1) := by decide +kernel
theorem dX7_side_235 : decode cX7_side 235 = .ok (.isub, 1) := by decide +kernel
theorem dX7_side_236 : decode cX7_side 236 = .ok (.iaload, 1) := by decide +kernel
theorem dX7_side_237 : decode cX7_side 237 = .ok (.bipush 38, 2) := by decide +kernel
theorem dX7_side_239 : decode cX7_side 239 = .ok (.if_icmp .eq 25, 3) := by decide +kernel
theorem dX7_side_242 : decode cX7_side 242 = .ok (.aload_n 0, 1) := by decide +kernel
theorem dX7_side_243 : decode cX7_side 243 = .ok (.getfield 129, 3) := by decide +kernel
theorem dX7_side_246 : decode cX7_side 246 = .ok (.bipush 124, 2) := by decide +kernel
theorem dX7_side_248 : decode cX7_side 248 = .ok (.if_icmp .ne 56, 3) := by decide +kernel
theorem dX7_side_251 : decode cX7_side 251 = .ok (.aload_n 0, 1) := by decide +kernel
theorem dX7_side_252 : decode cX7_side 252 = .ok (.getfield 32, 3) := by decide +kernel
theorem dX7_side_255 : decode cX7_side 255 = .ok (.iload_n 2, 1) := by decide +kernel
theorem dX7_side_256 : decode cX7_side 256 = .ok (.iconst 1, 1) := by decide +kernel
theorem dX7_side_257 : decode cX7_side 257 = .ok (.isub, 1) := by decide +kernel
theorem dX7_side_258 : decode cX7_side 258 = .ok (.iaload, 1) := by decide +kernel
theorem dX7_side_259 : decode cX7_side 259 = .ok (.bipush 124, 2) := by decide +kernel
theorem dX7_side_261 : decode cX7_side 261 = .ok (.if_icmp .ne 43, 3) := by decide +kernel
theorem dX7_side_264 : decode cX7_side 264 = .ok (.iinc 2 (-1), 3) := by decide +kernel
theorem dX7_side_267 : decode cX7_side 267 = .ok (.iinc 1 (-1), 3) := by decide +kernel
theorem dX7_side_270 : decode cX7_side 270 = .ok (.aload_n 0, 1) := by decide +kernel
theorem dX7_side_271 : decode cX7_side 271 = .ok (.getfield 29, 3) := by decide +kernel
theorem dX7_side_274 : decode cX7_side 274 = .ok (.iload_n 1, 1) := by decide +kernel
theorem dX7_side_275 : decode cX7_side 275 = .ok (.iconst 1, 1) := by decide +kernel
theorem dX7_side_276 : decode cX7_side 276 = .ok (.isub, 1) := by decide +kernel
theorem dX7_side_277 : decode cX7_side 277 = .ok (.aload_n 0, 1) := by decide +kernel
theorem dX7_side_278 : decode cX7_side 278 = .ok (.getfield 32, 3) := by decide +kernel
theorem dX7_side_281 : decode cX7_side 281 = .ok (.iload_n 2, 1) := by decide +kernel
theorem dX7_side_282 : decode cX7_side 282 = .ok (.iaload, 1) := by decide +kernel
theorem dX7_side_283 : decode cX7_side 283 = .ok (.aload_n 0, 1) := by decide +kernel
theorem dX7_side_284 : decode cX7_side 284 = .ok (.getfield 29, 3) := by decide +kernel
theorem dX7_side_287 : decode cX7_side 287 = .ok (.iload_n 1, 1) := by decide +kernel
theorem dX7_side_288 : decode cX7_side 288 = .ok (.iconst 1, 1) := by decide +kernel
theorem dX7_side_289 : decode cX7_side 289 = .ok (.isub, 1) := by decide +kernel
theorem dX7_side_290 : decode cX7_side 290 = .ok (.iaload, 1) := by decide +kernel
theorem dX7_side_291 : decode cX7_side 291 = .ok (.aload_n 0, 1) := by decide +kernel
theorem dX7_side_292 : decode cX7_side 292 = .ok (.getfield 29, 3) := by decide +kernel
theorem dX7_side_295 : decode cX7_side 295 = .ok (.iload_n 1, 1) := by decide +kernel
theorem dX7_side_296 : decode cX7_side 296 = .ok (.iaload, 1) := by decide +kernel
theorem dX7_side_297 : decode cX7_side 297 = .ok (.invokestatic 157, 3) := by decide +kernel
theorem dX7_side_300 : decode cX7_side 300 = .ok (.iastore, 1) := by decide +kernel
theorem dX7_side_301 : decode cX7_side 301 = .ok (.goto (-76), 3) := by decide +kernel
theorem dX7_side_304 : decode cX7_side 304 = .ok (.aload_n 0, 1) := by decide +kernel
theorem dX7_side_305 : decode cX7_side 305 = .ok (.getfield 32, 3) := by decide +kernel
theorem dX7_side_308 : decode cX7_side 308 = .ok (.iload_n 2, 1) := by decide +kernel
theorem dX7_side_309 : decode cX7_side 309 = .ok (.aload_n 0, 1) := by decide +kernel
theorem dX7_side_310 : decode cX7_side 310 = .ok (.getfield 129, 3) := by decide +kernel
theorem dX7_side_313 : decode cX7_side 313 = .ok (.iastore, 1) := by decide +kernel
theorem dX7_side_314 : decode cX7_side 314 = .ok (.iinc 2 1, 3) := by decide +kernel
theorem dX7_side_317 : decode cX7_side 317 = .ok (.aload_n 0, 1) := by decide +kernel
theorem dX7_side_318 : decode cX7_side 318 = .ok (.bipush (-9), 2) := by decide +kernel
theorem dX7_side_320 : decode cX7_side 320 = .ok (.putfield 139, 3) := by decide +kernel
theorem dX7_side_323 : decode cX7_side 323 = .ok (.iconst 1, 1) := by decide +kernel
theorem dX7_side_324 : decode cX7_side 324 = .ok (.istore 4, 2) := by decide +kernel
theorem dX7_side_326 : decode cX7_side 326 = .ok (.aload_n 0, 1) := by decide +kernel
theorem dX7_side_327 : decode cX7_side 327 = .ok (.invokevirtual 154, 3) := by decide +kernel
theorem dX7_side_330 : decode cX7_side 330 = .ok (.goto 89, 3) := by decide +kernel
theorem dX7_side_333 : decode cX7_side 333 = .ok (.aload_n 0, 1) := by decide +kernel
theorem dX7_side_334 : decode cX7_side 334 = .ok (.bipush 41, 2) := by decide +kernel
theorem dX7_side_336 : decode cX7_side 336 = .ok (.invokevirtual 142, 3) := by decide +kernel
theorem dX7_side_339 : decode cX7_side 339 = .ok (.ifCond .eq 77, 3) := by decide +kernel
theorem dX7_side_342 : decode cX7_side 342 = .ok (.aload_n 0, 1) := by decide +kernel
theorem dX7_side_343 : decode cX7_side 343 = .ok (.iload_n 2, 1) := by decide +kernel
theorem dX7_side_344 : decode cX7_side 344 = .ok (.invokevirtual 161, 3) := by decide +kernel
theorem dX7_side_347 : decode cX7_side 347 = .ok (.ifCond .eq 69, 3) := by decide +kernel
theorem dX7_side_350 : decode cX7_side 350 = .ok (.aload_n 0, 1) := by decide +kernel
theorem dX7_side_351 : decode cX7_side 351 = .ok (.getfield 32, 3) := by decide +kernel
theorem dX7_side_354 : decode cX7_side 354 = .ok (.iload_n 2, 1) := by decide +kernel
theorem dX7_side_355 : decode cX7_side 355 = .ok (.iconst 1, 1) := by decide +kernel
theorem dX7_side_356 : decode cX7_side 356 = .ok (.isub, 1) := by decide +kernel
theorem dX7_side_357 : decode cX7_side 357 = .ok (.iaload, 1) := by decide +kernel
theorem dX7_side_358 : decode cX7_side 358 = .ok (.bipush 40, 2) := by decide +kernel
theorem dX7_side_360 : decode cX7_side 360 = .ok (.if_icmp .eq 43, 3) := by decide +kernel
theorem dX7_side_363 : decode cX7_side 363 = .ok (.iinc 2 (-1), 3) := by decide +kernel
theorem dX7_side_366 : decode cX7_side 366 = .ok (.iinc 1 (-1), 3) := by decide +kernel
theorem dX7_side_369 : decode cX7_side 369 = .ok (.aload_n 0, 1) := by decide +kernel
theorem dX7_side_370 : decode cX7_side 370 = .ok (.getfield 29, 3) := by decide +kernel
theorem dX7_side_373 : decode cX7_side 373 = .ok (.iload_n 1, 1) := by decide +kernel
theorem dX7_side_374 : decode cX7_side 374 = .ok (.iconst 1, 1) := by decide +kernel
theorem dX7_side_375 : decode cX7_side 375 = .ok (.isub, 1) := by decide +kernel
theorem dX7_side_376 : decode cX7_side 376 = .ok (.aload_n 0, 1) := by decide +kernel
theorem dX7_side_377 : decode cX7_side 377 = .ok (.getfield 32, 3) := by decide +kernel
theorem dX7_side_380 : decode cX7_side 380 = .ok (.iload_n 2, 1) := by decide +kernel
theorem dX7_side_381 : decode cX7_side 381 = .ok (.iaload, 1) := by decide +kernel
theorem dX7_side_382 : decode cX7_side 382 = .ok (.aload_n 0, 1) := by decide +kernel
theorem dX7_side_383 : decode cX7_side 383 = .ok (.getfield 29, 3) := by decide +kernel
theorem dX7_side_386 : decode cX7_side 386 = .ok (.iload_n 1, 1) := by decide +kernel
theorem dX7_side_387 : decode cX7_side 387 = .ok (.iconst 1, 1) := by decide +kernel
theorem dX7_side_388 : decode cX7_side 388 = .ok (.isub, 1) := by decide +kernel
theorem dX7_side_389 : decode cX7_side 389 = .ok (.iaload, 1) := by decide +kernel
theorem dX7_side_390 : decode cX7_side 390 = .ok (.aload_n 0, 1) := by decide +kernel
theorem dX7_side_391 : decode cX7_side 391 = .ok (.getfield 29, 3) := by decide +kernel
theorem dX7_side_394 : decode cX7_side 394 = .ok (.iload_n 1, 1) := by decide +kernel
theorem dX7_side_395 : decode cX7_side 395 = .ok (.iaload, 1) := by decide +kernel
theorem dX7_side_396 : decode cX7_side 396 = .ok (.invokestatic 157, 3) := by decide +kernel
theorem dX7_side_399 : decode cX7_side 399 = .ok (.iastore, 1) := by decide +kernel
theorem dX7_side_400 : decode cX7_side 400 = .ok (.goto (-50), 3) := by decide +kernel
theorem dX7_side_403 : decode cX7_side 403 = .ok (.iinc 2 (-1), 3) := by decide +kernel
theorem dX7_side_406 : decode cX7_side 406 = .ok (.iinc 3 (-1), 3) := by decide +kernel
theorem dX7_side_409 : decode cX7_side 409 = .ok (.aload_n 0, 1) := by decide +kernel
theorem dX7_side_410 : decode cX7_side 410 = .ok (.invokevirtual 154, 3) := by decide +kernel
theorem dX7_side_413 : decode cX7_side 413 = .ok (.goto 6, 3) := by decide +kernel
theorem dX7_side_416 : decode cX7_side 416 = .ok (.iconst 0, 1) := by decide +kernel
theorem dX7_side_417 : decode cX7_side 417 = .ok (.istore 5, 2) := by decide +kernel
theorem dX7_side_419 : decode cX7_side 419 = .ok (.iload 4, 2) := by decide +kernel
theorem dX7_side_421 : decode cX7_side 421 = .ok (.ifCond .ne (-400), 3) := by decide +kernel
theorem dX7_side_424 : decode cX7_side 424 = .ok (.iload_n 2, 1) := by decide +kernel
theorem dX7_side_425 : decode cX7_side 425 = .ok (.ifCond .le (-404), 3) := by decide +kernel
theorem dX7_side_428 : decode cX7_side 428 = .ok (.aload_n 0, 1) := by decide +kernel
theorem dX7_side_429 : decode cX7_side 429 = .ok (.getfield 32, 3) := by decide +kernel
theorem dX7_side_432 : decode cX7_side 432 = .ok (.iload_n 2, 1) := by decide +kernel
theorem dX7_side_433 : decode cX7_side 433 = .ok (.iconst 1, 1) := by decide +kernel
theorem dX7_side_434 : decode cX7_side 434 = .ok (.isub, 1) := by decide +kernel
theorem dX7_side_435 : decode cX7_side 435 = .ok (.iaload, 1) := by decide +kernel
theorem dX7_side_436 : decode cX7_side 436 = .ok (.bipush 33, 2) := by decide +kernel
theorem dX7_side_438 : decode cX7_side 438 = .ok (.if_icmp .ne (-417), 3) := by decide +kernel
theorem dX7_side_441 : decode cX7_side 441 = .ok (.iinc 2 (-1), 3) := by decide +kernel
theorem dX7_side_444 : decode cX7_side 444 = .ok (.iinc 3 (-1), 3) := by decide +kernel
theorem dX7_side_447 : decode cX7_side 447 = .ok (.aload_n 0, 1) := by decide +kernel
theorem dX7_side_448 : decode cX7_side 448 = .ok (.getfield 29, 3) := by decide +kernel
theorem dX7_side_451 : decode cX7_side 451 = .ok (.iload_n 1, 1) := by decide +kernel
theorem dX7_side_452 : decode cX7_side 452 = .ok (.iconst 1, 1) := by decide +kernel
theorem dX7_side_453 : decode cX7_side 453 = .ok (.isub, 1) := by decide +kernel
theorem dX7_side_454 : decode cX7_side 454 = .ok (.aload_n 0, 1) := by decide +kernel
theorem dX7_side_455 : decode cX7_side 455 = .ok (.invokevirtual 164, 3) := by decide +kernel
theorem dX7_side_458 : decode cX7_side 458 = .ok (.aload_n 0, 1) := by decide +kernel
theorem dX7_side_459 : decode cX7_side 459 = .ok (.getfield 29, 3) := by decide +kernel
theorem dX7_side_462 : decode cX7_side 462 = .ok (.iload_n 1, 1) := by decide +kernel
theorem dX7_side_463 : decode cX7_side 463 = .ok (.iconst 1, 1) := by decide +kernel
theorem dX7_side_464 : decode cX7_side 464 = .ok (.isub, 1) := by decide +kernel
theorem dX7_side_465 : decode cX7_side 465 = .ok (.iaload, 1) := by decide +kernel
theorem dX7_side_466 : decode cX7_side 466 = .ok (.iconst (-1), 1) := by decide +kernel
theorem dX7_side_467 : decode cX7_side 467 = .ok (.ixor, 1) := by decide +kernel
theorem dX7_side_468 : decode cX7_side 468 = .ok (.iand, 1) := by decide +kernel
theorem dX7_side_469 : decode cX7_side 469 = .ok (.iastore, 1) := by decide +kernel
theorem dX7_side_470 : decode cX7_side 470 = .ok (.goto (-51), 3) := by decide +kernel
theorem dX7_side_473 : decode cX7_side 473 = .ok (.aload_n 0, 1) := by decide +kernel
theorem dX7_side_474 : decode cX7_side 474 = .ok (.invokevirtual 135, 3) := by decide +kernel
theorem dX7_side_477 : decode cX7_side 477 = .ok (.ifCond .eq 15, 3) := by decide +kernel
theorem dX7_side_480 : decode cX7_side 480 = .ok (.aload_n 0, 1) := by decide +kernel
theorem dX7_side_481 : decode cX7_side 481 = .ok (.iload_n 2, 1) := by decide +kernel
theorem dX7_side_482 : decode cX7_side 482 = .ok (.invokevirtual 161, 3) := by decide +kernel
theorem dX7_side_485 : decode cX7_side 485 = .ok (.ifCond .eq 7, 3) := by decide +kernel
theorem dX7_side_488 : decode cX7_side 488 = .ok (.aload_n 0, 1) := by decide +kernel
theorem dX7_side_489 : decode cX7_side 489 = .ok (.invokevirtual 151, 3) := by decide +kernel
theorem dX7_side_492 : decode cX7_side 492 = .ok (.aload_n 0, 1) := by decide +kernel
theorem dX7_side_493 : decode cX7_side 493 = .ok (.invokevirtual 135, 3) := by decide +kernel
theorem dX7_side_496 : decode cX7_side 496 = .ok (.ifCond .eq 47, 3) := by decide +kernel
theorem dX7_side_499 : decode cX7_side 499 = .ok (.iload_n 2, 1) := by decide +kernel
theorem dX7_side_500 : decode cX7_side 500 = .ok (.ifCond .le 43, 3) := by decide +kernel
theorem dX7_side_503 : decode cX7_side 503 = .ok (.iinc 2 (-1), 3) := by decide +kernel
theorem dX7_side_506 : decode cX7_side 506 = .ok (.iinc 1 (-1), 3) := by decide +kernel
theorem dX7_side_509 : decode cX7_side 509 = .ok (.aload_n 0, 1) := by decide +kernel
theorem dX7_side_510 : decode cX7_side 510 = .ok (.getfield 29, 3) := by decide +kernel
theorem dX7_side_513 : decode cX7_side 513 = .ok (.iload_n 1, 1) := by decide +kernel
theorem dX7_side_514 : decode cX7_side 514 = .ok (.iconst 1, 1) := by decide +kernel
theorem dX7_side_515 : decode cX7_side 515 = .ok (.isub, 1) := by decide +kernel
theorem dX7_side_516 : decode cX7_side 516 = .ok (.aload_n 0, 1) := by decide +kernel
theorem dX7_side_517 : decode cX7_side 517 = .ok (.getfield 32, 3) := by decide +kernel
theorem dX7_side_520 : decode cX7_side 520 = .ok (.iload_n 2, 1) := by decide +kernel
theorem dX7_side_521 : decode cX7_side 521 = .ok (.iaload, 1) := by decide +kernel
theorem dX7_side_522 : decode cX7_side 522 = .ok (.aload_n 0, 1) := by decide +kernel
theorem dX7_side_523 : decode cX7_side 523 = .ok (.getfield 29, 3) := by decide +kernel
theorem dX7_side_526 : decode cX7_side 526 = .ok (.iload_n 1, 1) := by decide +kernel
theorem dX7_side_527 : decode cX7_side 527 = .ok (.iconst 1, 1) := by decide +kernel
theorem dX7_side_528 : decode cX7_side 528 = .ok (.isub, 1) := by decide +kernel
theorem dX7_side_529 : decode cX7_side 529 = .ok (.iaload, 1) := by decide +kernel
theorem dX7_side_530 : decode cX7_side 530 = .ok (.aload_n 0, 1) := by decide +kernel
theorem dX7_side_531 : decode cX7_side 531 = .ok (.getfield 29, 3) := by decide +kernel
theorem dX7_side_534 : decode cX7_side 534 = .ok (.iload_n 1, 1) := by decide +kernel
theorem dX7_side_535 : decode cX7_side 535 = .ok (.iaload, 1) := by decide +kernel
theorem dX7_side_536 : decode cX7_side 536 = .ok (.invokestatic 157, 3) := by decide +kernel
theorem dX7_side_539 : decode cX7_side 539 = .ok (.iastore, 1) := by decide +kernel
theorem dX7_side_540 : decode cX7_side 540 = .ok (.goto (-48), 3) := by decide +kernel
theorem dX7_side_543 : decode cX7_side 543 = .ok (.aload_n 0, 1) := by decide +kernel
theorem dX7_side_544 : decode cX7_side 544 = .ok (.getfield 29, 3) := by decide +kernel
theorem dX7_side_547 : decode cX7_side 547 = .ok (.iconst 0, 1) := by decide +kernel
theorem dX7_side_548 : decode cX7_side 548 = .ok (.iaload, 1) := by decide +kernel
theorem dX7_side_549 : decode cX7_side 549 = .ok (.ireturn, 1) := by decide +kernel
theorem dX7_hasOpen_0 : decode cX7_hasOpen 0 = .ok (.iconst 0, 1) := by decide +kernel
theorem dX7_hasOpen_1 : decode cX7_hasOpen 1 = .ok (.istore_n 2, 1) := by decide +kernel
theorem dX7_hasOpen_2 : decode cX7_hasOpen 2 = .ok (.iconst 0, 1) := by decide +kernel
theorem dX7_hasOpen_3 : decode cX7_hasOpen 3 = .ok (.istore_n 3, 1) := by decide +kernel
theorem dX7_hasOpen_4 : decode cX7_hasOpen 4 = .ok (.iload_n 3, 1) := by decide +kernel
theorem dX7_hasOpen_5 : decode cX7_hasOpen 5 = .ok (.iload_n 1, 1) := by decide +kernel
theorem dX7_hasOpen_6 : decode cX7_hasOpen 6 = .ok (.if_icmp .ge 28, 3) := by decide +kernel
theorem dX7_hasOpen_9 : decode cX7_hasOpen 9 = .ok (.iload_n 2, 1) := by decide +kernel
theorem dX7_hasOpen_10 : decode cX7_hasOpen 10 = .ok (.aload_n 0, 1) := by decide +kernel
theorem dX7_hasOpen_11 : decode cX7_hasOpen 11 = .ok (.getfield 32, 3) := by decide +kernel
theorem dX7_hasOpen_14 : decode cX7_hasOpen 14 = .ok (.iload_n 3, 1) := by decide +kernel
theorem dX7_hasOpen_15 : decode cX7_hasOpen 15 = .ok (.iaload, 1) := by decide +kernel
theorem dX7_hasOpen_16 : decode cX7_hasOpen 16 = .ok (.bipush 40, 2) := by decide +kernel
theorem dX7_hasOpen_18 : decode cX7_hasOpen 18 = .ok (.if_icmp .ne 7, 3) := by decide +kernel
theorem dX7_hasOpen_21 : decode cX7_hasOpen 21 = .ok (.iconst 1, 1) := by decide +kernel
theorem dX7_hasOpen_22 : decode cX7_hasOpen 22 = .ok (.goto 4, 3) := by decide +kernel
theorem dX7_hasOpen_25 : decode cX7_hasOpen 25 = .ok (.iconst 0, 1) := by decide +kernel
theorem dX7_hasOpen_26 : decode cX7_hasOpen 26 = .ok (.ior, 1) := by decide +kernel
theorem dX7_hasOpen_27 : decode cX7_hasOpen 27 = .ok (.istore_n 2, 1) := by decide +kernel
theorem dX7_hasOpen_28 : decode cX7_hasOpen 28 = .ok (.iinc 3 1, 3) := by decide +kernel
theorem dX7_hasOpen_31 : decode cX7_hasOpen 31 = .ok (.goto (-27), 3) := by decide +kernel
theorem dX7_hasOpen_34 : decode cX7_hasOpen 34 = .ok (.iload_n 2, 1) := by decide +kernel
theorem dX7_hasOpen_35 : decode cX7_hasOpen 35 = .ok (.ireturn, 1) := by decide +kernel
theorem dX7_joins_0 : decode cX7_joins 0 = .ok (.iload_n 0, 1) := by decide +kernel
theorem dX7_joins_1 : decode cX7_joins 1 = .ok (.bipush 38, 2) := by decide +kernel
theorem dX7_joins_3 : decode cX7_joins 3 = .ok (.if_icmp .ne 9, 3) := by decide +kernel
theorem dX7_joins_6 : decode cX7_joins 6 = .ok (.iload_n 1, 1) := by decide +kernel
theorem dX7_joins_7 : decode cX7_joins 7 = .ok (.iload_n 2, 1) := by decide +kernel
theorem dX7_joins_8 : decode cX7_joins 8 = .ok (.iand, 1) := by decide +kernel
theorem dX7_joins_9 : decode cX7_joins 9 = .ok (.goto 6, 3) := by decide +kernel
theorem dX7_joins_12 : decode cX7_joins 12 = .ok (.iload_n 1, 1) := by decide +kernel
theorem dX7_joins_13 : decode cX7_joins 13 = .ok (.iload_n 2, 1) := by decide +kernel
theorem dX7_joins_14 : decode cX7_joins 14 = .ok (.ior, 1) := by decide +kernel
theorem dX7_joins_15 : decode cX7_joins 15 = .ok (.ireturn, 1) := by decide +kernel
theorem dX7_read_0 : decode cX7_read 0 = .ok (.aload_n 0, 1) := by decide +kernel
theorem dX7_read_1 : decode cX7_read 1 = .ok (.iconst 0, 1) := by decide +kernel
theorem dX7_read_2 : decode cX7_read 2 = .ok (.putfield 57, 3) := by decide +kernel
theorem dX7_read_5 : decode cX7_read 5 = .ok (.iload_n 1, 1) := by decide +kernel
theorem dX7_read_6 : decode cX7_read 6 = .ok (.invokestatic 90, 3) := by decide +kernel
theorem dX7_read_9 : decode cX7_read 9 = .ok (.ifCond .ne 5, 3) := by decide +kernel
theorem dX7_read_12 : decode cX7_read 12 = .ok (.iconst (-1), 1) := by decide +kernel
theorem dX7_read_13 : decode cX7_read 13 = .ok (.ireturn, 1) := by decide +kernel
theorem dX7_read_14 : decode cX7_read 14 = .ok (.aload_n 0, 1) := by decide +kernel
theorem dX7_read_15 : decode cX7_read 15 = .ok (.iconst (-1), 1) := by decide +kernel
theorem dX7_read_16 : decode cX7_read 16 = .ok (.putfield 132, 3) := by decide +kernel
theorem dX7_read_19 : decode cX7_read 19 = .ok (.aload_n 0, 1) := by decide +kernel
theorem dX7_read_20 : decode cX7_read 20 = .ok (.iconst 0, 1) := by decide +kernel
theorem dX7_read_21 : decode cX7_read 21 = .ok (.putfield 113, 3) := by decide +kernel
theorem dX7_read_24 : decode cX7_read 24 = .ok (.aload_n 0, 1) := by decide +kernel
theorem dX7_read_25 : decode cX7_read 25 = .ok (.iconst 0, 1) := by decide +kernel
theorem dX7_read_26 : decode cX7_read 26 = .ok (.putfield 148, 3) := by decide +kernel
theorem dX7_read_29 : decode cX7_read 29 = .ok (.aload_n 0, 1) := by decide +kernel
theorem dX7_read_30 : decode cX7_read 30 = .ok (.invokevirtual 154, 3) := by decide +kernel
theorem dX7_read_33 : decode cX7_read 33 = .ok (.aload_n 0, 1) := by decide +kernel
theorem dX7_read_34 : decode cX7_read 34 = .ok (.getfield 122, 3) := by decide +kernel
theorem dX7_read_37 : decode cX7_read 37 = .ok (.iconst 1, 1) := by decide +kernel
theorem dX7_read_38 : decode cX7_read 38 = .ok (.if_icmp .ne 16, 3) := by decide +kernel
theorem dX7_read_41 : decode cX7_read 41 = .ok (.aload_n 0, 1) := by decide +kernel
theorem dX7_read_42 : decode cX7_read 42 = .ok (.getfield 129, 3) := by decide +kernel
theorem dX7_read_45 : decode cX7_read 45 = .ok (.bipush 8, 2) := by decide +kernel
theorem dX7_read_47 : decode cX7_read 47 = .ok (.if_icmp .ne 7, 3) := by decide +kernel
theorem dX7_read_50 : decode cX7_read 50 = .ok (.iconst 1, 1) := by decide +kernel
theorem dX7_read_51 : decode cX7_read 51 = .ok (.goto 4, 3) := by decide +kernel
theorem dX7_read_54 : decode cX7_read 54 = .ok (.iconst 0, 1) := by decide +kernel
theorem dX7_read_55 : decode cX7_read 55 = .ok (.istore_n 2, 1) := by decide +kernel
theorem dX7_read_56 : decode cX7_read 56 = .ok (.iload_n 2, 1) := by decide +kernel
theorem dX7_read_57 : decode cX7_read 57 = .ok (.ifCond .eq 7, 3) := by decide +kernel
theorem dX7_read_60 : decode cX7_read 60 = .ok (.aload_n 0, 1) := by decide +kernel
theorem dX7_read_61 : decode cX7_read 61 = .ok (.invokevirtual 154, 3) := by decide +kernel
theorem dX7_read_64 : decode cX7_read 64 = .ok (.aload_n 0, 1) := by decide +kernel
theorem dX7_read_65 : decode cX7_read 65 = .ok (.getfield 122, 3) := by decide +kernel
theorem dX7_read_68 : decode cX7_read 68 = .ok (.iconst 1, 1) := by decide +kernel
theorem dX7_read_69 : decode cX7_read 69 = .ok (.if_icmp .ne 10, 3) := by decide +kernel
theorem dX7_read_72 : decode cX7_read 72 = .ok (.aload_n 0, 1) := by decide +kernel
theorem dX7_read_73 : decode cX7_read 73 = .ok (.getfield 129, 3) := by decide +kernel
theorem dX7_read_76 : decode cX7_read 76 = .ok (.goto 5, 3) := by decide +kernel
theorem dX7_read_79 : decode cX7_read 79 = .ok (.bipush 8, 2) := by decide +kernel
theorem dX7_read_81 : decode cX7_read 81 = .ok (.istore_n 3, 1) := by decide +kernel
theorem dX7_read_82 : decode cX7_read 82 = .ok (.iconst 0, 1) := by decide +kernel
theorem dX7_read_83 : decode cX7_read 83 = .ok (.istore 4, 2) := by decide +kernel
theorem dX7_read_85 : decode cX7_read 85 = .ok (.iload_n 3, 1) := by decide +kernel
theorem dX7_read_86 : decode cX7_read 86 = .ok (.bipush 8, 2) := by decide +kernel
theorem dX7_read_88 : decode cX7_read 88 = .ok (.if_icmp .ne 10, 3) := by decide +kernel
theorem dX7_read_91 : decode cX7_read 91 = .ok (.aload_n 0, 1) := by decide +kernel
theorem dX7_read_92 : decode cX7_read 92 = .ok (.invokevirtual 151, 3) := by decide +kernel
theorem dX7_read_95 : decode cX7_read 95 = .ok (.goto 7, 3) := by decide +kernel
theorem dX7_read_98 : decode cX7_read 98 = .ok (.aload_n 0, 1) := by decide +kernel
theorem dX7_read_99 : decode cX7_read 99 = .ok (.invokevirtual 154, 3) := by decide +kernel
theorem dX7_read_102 : decode cX7_read 102 = .ok (.aload_n 0, 1) := by decide +kernel
theorem dX7_read_103 : decode cX7_read 103 = .ok (.invokevirtual 135, 3) := by decide +kernel
theorem dX7_read_106 : decode cX7_read 106 = .ok (.ifCond .eq 47, 3) := by decide +kernel
theorem dX7_read_109 : decode cX7_read 109 = .ok (.iload_n 3, 1) := by decide +kernel
theorem dX7_read_110 : decode cX7_read 110 = .ok (.iconst 4, 1) := by decide +kernel
theorem dX7_read_111 : decode cX7_read 111 = .ok (.if_icmp .eq 8, 3) := by decide +kernel
theorem dX7_read_114 : decode cX7_read 114 = .ok (.iload_n 3, 1) := by decide +kernel
theorem dX7_read_115 : decode cX7_read 115 = .ok (.iconst 5, 1) := by decide +kernel
theorem dX7_read_116 : decode cX7_read 116 = .ok (.if_icmp .ne 37, 3) := by decide +kernel
theorem dX7_read_119 : decode cX7_read 119 = .ok (.aload_n 0, 1) := by decide +kernel
theorem dX7_read_120 : decode cX7_read 120 = .ok (.getfield 122, 3) := by decide +kernel
theorem dX7_read_123 : decode cX7_read 123 = .ok (.iconst 2, 1) := by decide +kernel
theorem dX7_read_124 : decode cX7_read 124 = .ok (.if_icmp .ne 25, 3) := by decide +kernel
theorem dX7_read_127 : decode cX7_read 127 = .ok (.aload_n 0, 1) := by decide +kernel
theorem dX7_read_128 : decode cX7_read 128 = .ok (.getfield 129, 3) := by decide +kernel
theorem dX7_read_131 : decode cX7_read 131 = .ok (.bipush 7, 2) := by decide +kernel
theorem dX7_read_133 : decode cX7_read 133 = .ok (.if_icmp .ge 16, 3) := by decide +kernel
theorem dX7_read_136 : decode cX7_read 136 = .ok (.aload_n 0, 1) := by decide +kernel
theorem dX7_read_137 : decode cX7_read 137 = .ok (.getfield 129, 3) := by decide +kernel
theorem dX7_read_140 : decode cX7_read 140 = .ok (.istore 4, 2) := by decide +kernel
theorem dX7_read_142 : decode cX7_read 142 = .ok (.aload_n 0, 1) := by decide +kernel
theorem dX7_read_143 : decode cX7_read 143 = .ok (.invokevirtual 154, 3) := by decide +kernel
theorem dX7_read_146 : decode cX7_read 146 = .ok (.goto 7, 3) := by decide +kernel
theorem dX7_read_149 : decode cX7_read 149 = .ok (.aload_n 0, 1) := by decide +kernel
theorem dX7_read_150 : decode cX7_read 150 = .ok (.invokevirtual 151, 3) := by decide +kernel
theorem dX7_read_153 : decode cX7_read 153 = .ok (.aload_n 0, 1) := by decide +kernel
theorem dX7_read_154 : decode cX7_read 154 = .ok (.invokevirtual 167, 3) := by decide +kernel
theorem dX7_read_157 : decode cX7_read 157 = .ok (.istore 5, 2) := by decide +kernel
theorem dX7_read_159 : decode cX7_read 159 = .ok (.aload_n 0, 1) := by decide +kernel
theorem dX7_read_160 : decode cX7_read 160 = .ok (.getfield 139, 3) := by decide +kernel
theorem dX7_read_163 : decode cX7_read 163 = .ok (.istore 6, 2) := by decide +kernel
theorem dX7_read_165 : decode cX7_read 165 = .ok (.aload_n 0, 1) := by decide +kernel
theorem dX7_read_166 : decode cX7_read 166 = .ok (.bipush 58, 2) := by decide +kernel
theorem dX7_read_168 : decode cX7_read 168 = .ok (.invokevirtual 142, 3) := by decide +kernel
theorem dX7_read_171 : decode cX7_read 171 = .ok (.ifCond .eq 10, 3) := by decide +kernel
theorem dX7_read_174 : decode cX7_read 174 = .ok (.aload_n 0, 1) := by decide +kernel
theorem dX7_read_175 : decode cX7_read 175 = .ok (.invokevirtual 154, 3) := by decide +kernel
theorem dX7_read_178 : decode cX7_read 178 = .ok (.goto 7, 3) := by decide +kernel
theorem dX7_read_181 : decode cX7_read 181 = .ok (.aload_n 0, 1) := by decide +kernel
theorem dX7_read_182 : decode cX7_read 182 = .ok (.invokevirtual 151, 3) := by decide +kernel
theorem dX7_read_185 : decode cX7_read 185 = .ok (.aload_n 0, 1) := by decide +kernel
theorem dX7_read_186 : decode cX7_read 186 = .ok (.invokevirtual 135, 3) := by decide +kernel
theorem dX7_read_189 : decode cX7_read 189 = .ok (.ifCond .eq 10, 3) := by decide +kernel
theorem dX7_read_192 : decode cX7_read 192 = .ok (.aload_n 0, 1) := by decide +kernel
theorem dX7_read_193 : decode cX7_read 193 = .ok (.invokevirtual 167, 3) := by decide +kernel
theorem dX7_read_196 : decode cX7_read 196 = .ok (.goto 4, 3) := by decide +kernel
theorem dX7_read_199 : decode cX7_read 199 = .ok (.iconst 0, 1) := by decide +kernel
theorem dX7_read_200 : decode cX7_read 200 = .ok (.istore 7, 2) := by decide +kernel
theorem dX7_read_202 : decode cX7_read 202 = .ok (.aload_n 0, 1) := by decide +kernel
theorem dX7_read_203 : decode cX7_read 203 = .ok (.getfield 139, 3) := by decide +kernel
theorem dX7_read_206 : decode cX7_read 206 = .ok (.istore 8, 2) := by decide +kernel
theorem dX7_read_208 : decode cX7_read 208 = .ok (.aload_n 0, 1) := by decide +kernel
theorem dX7_read_209 : decode cX7_read 209 = .ok (.getfield 122, 3) := by decide +kernel
theorem dX7_read_212 : decode cX7_read 212 = .ok (.ifCond .eq 7, 3) := by decide +kernel
theorem dX7_read_215 : decode cX7_read 215 = .ok (.aload_n 0, 1) := by decide +kernel
theorem dX7_read_216 : decode cX7_read 216 = .ok (.invokevirtual 151, 3) := by decide +kernel
theorem dX7_read_219 : decode cX7_read 219 = .ok (.aload_n 0, 1) := by decide +kernel
theorem dX7_read_220 : decode cX7_read 220 = .ok (.invokevirtual 135, 3) := by decide +kernel
theorem dX7_read_223 : decode cX7_read 223 = .ok (.ifCond .ne 11, 3) := by decide +kernel
theorem dX7_read_226 : decode cX7_read 226 = .ok (.bipush (-10), 2) := by decide +kernel
theorem dX7_read_228 : decode cX7_read 228 = .ok (.aload_n 0, 1) := by decide +kernel
theorem dX7_read_229 : decode cX7_read 229 = .ok (.getfield 132, 3) := by decide +kernel
theorem dX7_read_232 : decode cX7_read 232 = .ok (.isub, 1) := by decide +kernel
theorem dX7_read_233 : decode cX7_read 233 = .ok (.ireturn, 1) := by decide +kernel
theorem dX7_read_234 : decode cX7_read 234 = .ok (.aload_n 0, 1) := by decide +kernel
theorem dX7_read_235 : decode cX7_read 235 = .ok (.iconst 0, 1) := by decide +kernel
theorem dX7_read_236 : decode cX7_read 236 = .ok (.putfield 98, 3) := by decide +kernel
theorem dX7_read_239 : decode cX7_read 239 = .ok (.bipush 6, 2) := by decide +kernel
theorem dX7_read_241 : decode cX7_read 241 = .ok (.iload_n 1, 1) := by decide +kernel
theorem dX7_read_242 : decode cX7_read 242 = .ok (.imul, 1) := by decide +kernel
theorem dX7_read_243 : decode cX7_read 243 = .ok (.istore 9, 2) := by decide +kernel
theorem dX7_read_245 : decode cX7_read 245 = .ok (.aload_n 0, 1) := by decide +kernel
theorem dX7_read_246 : decode cX7_read 246 = .ok (.getfield 26, 3) := by decide +kernel
theorem dX7_read_249 : decode cX7_read 249 = .ok (.iload 9, 2) := by decide +kernel
theorem dX7_read_251 : decode cX7_read 251 = .ok (.iload_n 3, 1) := by decide +kernel
theorem dX7_read_252 : decode cX7_read 252 = .ok (.iastore, 1) := by decide +kernel
theorem dX7_read_253 : decode cX7_read 253 = .ok (.aload_n 0, 1) := by decide +kernel
theorem dX7_read_254 : decode cX7_read 254 = .ok (.getfield 26, 3) := by decide +kernel
theorem dX7_read_257 : decode cX7_read 257 = .ok (.iload 9, 2) := by decide +kernel
theorem dX7_read_259 : decode cX7_read 259 = .ok (.iconst 1, 1) := by decide +kernel
theorem dX7_read_260 : decode cX7_read 260 = .ok (.iadd, 1) := by decide +kernel
theorem dX7_read_261 : decode cX7_read 261 = .ok (.iload 5, 2) := by decide +kernel
theorem dX7_read_263 : decode cX7_read 263 = .ok (.iastore, 1) := by decide +kernel
theorem dX7_read_264 : decode cX7_read 264 = .ok (.aload_n 0, 1) := by decide +kernel
theorem dX7_read_265 : decode cX7_read 265 = .ok (.getfield 26, 3) := by decide +kernel
theorem dX7_read_268 : decode cX7_read 268 = .ok (.iload 9, 2) := by decide +kernel
theorem dX7_read_270 : decode cX7_read 270 = .ok (.iconst 2, 1) := by decide +kernel
theorem dX7_read_271 : decode cX7_read 271 = .ok (.iadd, 1) := by decide +kernel
theorem dX7_read_272 : decode cX7_read 272 = .ok (.iload 7, 2) := by decide +kernel
theorem dX7_read_274 : decode cX7_read 274 = .ok (.iastore, 1) := by decide +kernel
theorem dX7_read_275 : decode cX7_read 275 = .ok (.aload_n 0, 1) := by decide +kernel
theorem dX7_read_276 : decode cX7_read 276 = .ok (.getfield 26, 3) := by decide +kernel
theorem dX7_read_279 : decode cX7_read 279 = .ok (.iload 9, 2) := by decide +kernel
theorem dX7_read_281 : decode cX7_read 281 = .ok (.iconst 3, 1) := by decide +kernel
theorem dX7_read_282 : decode cX7_read 282 = .ok (.iadd, 1) := by decide +kernel
theorem dX7_read_283 : decode cX7_read 283 = .ok (.iload 4, 2) := by decide +kernel
theorem dX7_read_285 : decode cX7_read 285 = .ok (.iastore, 1) := by decide +kernel
theorem dX7_read_286 : decode cX7_read 286 = .ok (.aload_n 0, 1) := by decide +kernel
theorem dX7_read_287 : decode cX7_read 287 = .ok (.getfield 26, 3) := by decide +kernel
theorem dX7_read_290 : decode cX7_read 290 = .ok (.iload 9, 2) := by decide +kernel
theorem dX7_read_292 : decode cX7_read 292 = .ok (.iconst 4, 1) := by decide +kernel
theorem dX7_read_293 : decode cX7_read 293 = .ok (.iadd, 1) := by decide +kernel
theorem dX7_read_294 : decode cX7_read 294 = .ok (.iload_n 2, 1) := by decide +kernel
theorem dX7_read_295 : decode cX7_read 295 = .ok (.ifCond .eq 7, 3) := by decide +kernel
theorem dX7_read_298 : decode cX7_read 298 = .ok (.iconst 1, 1) := by decide +kernel
theorem dX7_read_299 : decode cX7_read 299 = .ok (.goto 4, 3) := by decide +kernel
theorem dX7_read_302 : decode cX7_read 302 = .ok (.iconst 0, 1) := by decide +kernel
theorem dX7_read_303 : decode cX7_read 303 = .ok (.iastore, 1) := by decide +kernel
theorem dX7_read_304 : decode cX7_read 304 = .ok (.iload_n 3, 1) := by decide +kernel
theorem dX7_read_305 : decode cX7_read 305 = .ok (.ifCond .ne 15, 3) := by decide +kernel
theorem dX7_read_308 : decode cX7_read 308 = .ok (.iload_n 2, 1) := by decide +kernel
theorem dX7_read_309 : decode cX7_read 309 = .ok (.ifCond .eq 7, 3) := by decide +kernel
theorem dX7_read_312 : decode cX7_read 312 = .ok (.iconst 3, 1) := by decide +kernel
theorem dX7_read_313 : decode cX7_read 313 = .ok (.goto 33, 3) := by decide +kernel
theorem dX7_read_316 : decode cX7_read 316 = .ok (.iconst 0, 1) := by decide +kernel
theorem dX7_read_317 : decode cX7_read 317 = .ok (.goto 29, 3) := by decide +kernel
theorem dX7_read_320 : decode cX7_read 320 = .ok (.iload_n 3, 1) := by decide +kernel
theorem dX7_read_321 : decode cX7_read 321 = .ok (.iconst 1, 1) := by decide +kernel
theorem dX7_read_322 : decode cX7_read 322 = .ok (.if_icmp .ne 15, 3) := by decide +kernel
theorem dX7_read_325 : decode cX7_read 325 = .ok (.iload_n 2, 1) := by decide +kernel
theorem dX7_read_326 : decode cX7_read 326 = .ok (.ifCond .eq 7, 3) := by decide +kernel
theorem dX7_read_329 : decode cX7_read 329 = .ok (.iconst 2, 1) := by decide +kernel
theorem dX7_read_330 : decode cX7_read 330 = .ok (.goto 16, 3) := by decide +kernel
theorem dX7_read_333 : decode cX7_read 333 = .ok (.iconst 1, 1) := by decide +kernel
theorem dX7_read_334 : decode cX7_read 334 = .ok (.goto 12, 3) := by decide +kernel
theorem dX7_read_337 : decode cX7_read 337 = .ok (.iload_n 2, 1) := by decide +kernel
theorem dX7_read_338 : decode cX7_read 338 = .ok (.ifCond .eq 7, 3) := by decide +kernel
theorem dX7_read_341 : decode cX7_read 341 = .ok (.iconst 1, 1) := by decide +kernel
theorem dX7_read_342 : decode cX7_read 342 = .ok (.goto 4, 3) := by decide +kernel
theorem dX7_read_345 : decode cX7_read 345 = .ok (.iconst 2, 1) := by decide +kernel
theorem dX7_read_346 : decode cX7_read 346 = .ok (.istore 10, 2) := by decide +kernel
theorem dX7_read_348 : decode cX7_read 348 = .ok (.aload_n 0, 1) := by decide +kernel
theorem dX7_read_349 : decode cX7_read 349 = .ok (.getfield 26, 3) := by decide +kernel
theorem dX7_read_352 : decode cX7_read 352 = .ok (.iload 9, 2) := by decide +kernel
theorem dX7_read_354 : decode cX7_read 354 = .ok (.iconst 5, 1) := by decide +kernel
theorem dX7_read_355 : decode cX7_read 355 = .ok (.iadd, 1) := by decide +kernel
theorem dX7_read_356 : decode cX7_read 356 = .ok (.iload_n 3, 1) := by decide +kernel
theorem dX7_read_357 : decode cX7_read 357 = .ok (.iconst 3, 1) := by decide +kernel
theorem dX7_read_358 : decode cX7_read 358 = .ok (.if_icmp .ge 33, 3) := by decide +kernel
theorem dX7_read_361 : decode cX7_read 361 = .ok (.iload 6, 2) := by decide +kernel
theorem dX7_read_363 : decode cX7_read 363 = .ok (.bipush (-9), 2) := by decide +kernel
theorem dX7_read_365 : decode cX7_read 365 = .ok (.if_icmp .eq 26, 3) := by decide +kernel
theorem dX7_read_368 : decode cX7_read 368 = .ok (.iload 8, 2) := by decide +kernel
theorem dX7_read_370 : decode cX7_read 370 = .ok (.bipush (-9), 2) := by decide +kernel
theorem dX7_read_372 : decode cX7_read 372 = .ok (.if_icmp .eq 19, 3) := by decide +kernel
theorem dX7_read_375 : decode cX7_read 375 = .ok (.bipush 16, 2) := by decide +kernel
theorem dX7_read_377 : decode cX7_read 377 = .ok (.iload 10, 2) := by decide +kernel
theorem dX7_read_379 : decode cX7_read 379 = .ok (.imul, 1) := by decide +kernel
theorem dX7_read_380 : decode cX7_read 380 = .ok (.iconst 4, 1) := by decide +kernel
theorem dX7_read_381 : decode cX7_read 381 = .ok (.iload 6, 2) := by decide +kernel
theorem dX7_read_383 : decode cX7_read 383 = .ok (.imul, 1) := by decide +kernel
theorem dX7_read_384 : decode cX7_read 384 = .ok (.iadd, 1) := by decide +kernel
theorem dX7_read_385 : decode cX7_read 385 = .ok (.iload 8, 2) := by decide +kernel
theorem dX7_read_387 : decode cX7_read 387 = .ok (.iadd, 1) := by decide +kernel
theorem dX7_read_388 : decode cX7_read 388 = .ok (.goto 5, 3) := by decide +kernel
theorem dX7_read_391 : decode cX7_read 391 = .ok (.bipush (-9), 2) := by decide +kernel
theorem dX7_read_393 : decode cX7_read 393 = .ok (.iastore, 1) := by decide +kernel
theorem dX7_read_394 : decode cX7_read 394 = .ok (.aload_n 0, 1) := by decide +kernel
theorem dX7_read_395 : decode cX7_read 395 = .ok (.iconst 0, 1) := by decide +kernel
theorem dX7_read_396 : decode cX7_read 396 = .ok (.putfield 68, 3) := by decide +kernel
theorem dX7_read_399 : decode cX7_read 399 = .ok (.iconst 1, 1) := by decide +kernel
theorem dX7_read_400 : decode cX7_read 400 = .ok (.ireturn, 1) := by decide +kernel
theorem dX7_about_0 : decode cX7_about 0 = .ok (.aload_n 0, 1) := by decide +kernel
theorem dX7_about_1 : decode cX7_about 1 = .ok (.iconst 0, 1) := by decide +kernel
theorem dX7_about_2 : decode cX7_about 2 = .ok (.putfield 57, 3) := by decide +kernel
theorem dX7_about_5 : decode cX7_about 5 = .ok (.iload_n 1, 1) := by decide +kernel
theorem dX7_about_6 : decode cX7_about 6 = .ok (.invokestatic 90, 3) := by decide +kernel
theorem dX7_about_9 : decode cX7_about 9 = .ok (.ifCond .eq 26, 3) := by decide +kernel
theorem dX7_about_12 : decode cX7_about 12 = .ok (.iload_n 2, 1) := by decide +kernel
theorem dX7_about_13 : decode cX7_about 13 = .ok (.iconst 0, 1) := by decide +kernel
theorem dX7_about_14 : decode cX7_about 14 = .ok (.iconst 5, 1) := by decide +kernel
theorem dX7_about_15 : decode cX7_about 15 = .ok (.invokestatic 72, 3) := by decide +kernel
theorem dX7_about_18 : decode cX7_about 18 = .ok (.ifCond .eq 17, 3) := by decide +kernel
theorem dX7_about_21 : decode cX7_about 21 = .ok (.aload_n 0, 1) := by decide +kernel
theorem dX7_about_22 : decode cX7_about 22 = .ok (.getfield 26, 3) := by decide +kernel
theorem dX7_about_25 : decode cX7_about 25 = .ok (.bipush 6, 2) := by decide +kernel
theorem dX7_about_27 : decode cX7_about 27 = .ok (.iload_n 1, 1) := by decide +kernel
theorem dX7_about_28 : decode cX7_about 28 = .ok (.imul, 1) := by decide +kernel
theorem dX7_about_29 : decode cX7_about 29 = .ok (.iload_n 2, 1) := by decide +kernel
theorem dX7_about_30 : decode cX7_about 30 = .ok (.iadd, 1) := by decide +kernel
theorem dX7_about_31 : decode cX7_about 31 = .ok (.iaload, 1) := by decide +kernel
theorem dX7_about_32 : decode cX7_about 32 = .ok (.goto 4, 3) := by decide +kernel
theorem dX7_about_35 : decode cX7_about 35 = .ok (.iconst (-1), 1) := by decide +kernel
theorem dX7_about_36 : decode cX7_about 36 = .ok (.ireturn, 1) := by decide +kernel
theorem dX7_isFact_0 : decode cX7_isFact 0 = .ok (.iconst 0, 1) := by decide +kernel
theorem dX7_isFact_1 : decode cX7_isFact 1 = .ok (.istore 4, 2) := by decide +kernel
theorem dX7_isFact_3 : decode cX7_isFact 3 = .ok (.iconst 0, 1) := by decide +kernel
theorem dX7_isFact_4 : decode cX7_isFact 4 = .ok (.istore 5, 2) := by decide +kernel
theorem dX7_isFact_6 : decode cX7_isFact 6 = .ok (.iconst 0, 1) := by decide +kernel
theorem dX7_isFact_7 : decode cX7_isFact 7 = .ok (.istore 6, 2) := by decide +kernel
theorem dX7_isFact_9 : decode cX7_isFact 9 = .ok (.iload 6, 2) := by decide +kernel
theorem dX7_isFact_11 : decode cX7_isFact 11 = .ok (.aload_n 0, 1) := by decide +kernel
theorem dX7_isFact_12 : decode cX7_isFact 12 = .ok (.invokevirtual 60, 3) := by decide +kernel
theorem dX7_isFact_15 : decode cX7_isFact 15 = .ok (.if_icmp .ge 53, 3) := by decide +kernel
theorem dX7_isFact_18 : decode cX7_isFact 18 = .ok (.aload_n 0, 1) := by decide +kernel
theorem dX7_isFact_19 : decode cX7_isFact 19 = .ok (.getfield 35, 3) := by decide +kernel
theorem dX7_isFact_22 : decode cX7_isFact 22 = .ok (.iload 6, 2) := by decide +kernel
theorem dX7_isFact_24 : decode cX7_isFact 24 = .ok (.iaload, 1) := by decide +kernel
theorem dX7_isFact_25 : decode cX7_isFact 25 = .ok (.ifCond .le 37, 3) := by decide +kernel
theorem dX7_isFact_28 : decode cX7_isFact 28 = .ok (.iload 6, 2) := by decide +kernel
theorem dX7_isFact_30 : decode cX7_isFact 30 = .ok (.iload_n 2, 1) := by decide +kernel
theorem dX7_isFact_31 : decode cX7_isFact 31 = .ok (.ishr, 1) := by decide +kernel
theorem dX7_isFact_32 : decode cX7_isFact 32 = .ok (.iconst 1, 1) := by decide +kernel
theorem dX7_isFact_33 : decode cX7_isFact 33 = .ok (.iand, 1) := by decide +kernel
theorem dX7_isFact_34 : decode cX7_isFact 34 = .ok (.iconst 1, 1) := by decide +kernel
theorem dX7_isFact_35 : decode cX7_isFact 35 = .ok (.if_icmp .ne 27, 3) := by decide +kernel
theorem dX7_isFact_38 : decode cX7_isFact 38 = .ok (.iload 4, 2) := by decide +kernel
theorem dX7_isFact_40 : decode cX7_isFact 40 = .ok (.iload 6, 2) := by decide +kernel
theorem dX7_isFact_42 : decode cX7_isFact 42 = .ok (.iload_n 3, 1) := by decide +kernel
theorem dX7_isFact_43 : decode cX7_isFact 43 = .ok (.ishr, 1) := by decide +kernel
theorem dX7_isFact_44 : decode cX7_isFact 44 = .ok (.iconst 1, 1) := by decide +kernel
theorem dX7_isFact_45 : decode cX7_isFact 45 = .ok (.iand, 1) := by decide +kernel
theorem dX7_isFact_46 : decode cX7_isFact 46 = .ok (.iadd, 1) := by decide +kernel
theorem dX7_isFact_47 : decode cX7_isFact 47 = .ok (.istore 4, 2) := by decide +kernel
theorem dX7_isFact_49 : decode cX7_isFact 49 = .ok (.iload 5, 2) := by decide +kernel
theorem dX7_isFact_51 : decode cX7_isFact 51 = .ok (.iconst 1, 1) := by decide +kernel
theorem dX7_isFact_52 : decode cX7_isFact 52 = .ok (.iload 6, 2) := by decide +kernel
theorem dX7_isFact_54 : decode cX7_isFact 54 = .ok (.iload_n 3, 1) := by decide +kernel
theorem dX7_isFact_55 : decode cX7_isFact 55 = .ok (.ishr, 1) := by decide +kernel
theorem dX7_isFact_56 : decode cX7_isFact 56 = .ok (.iconst 1, 1) := by decide +kernel
theorem dX7_isFact_57 : decode cX7_isFact 57 = .ok (.iand, 1) := by decide +kernel
theorem dX7_isFact_58 : decode cX7_isFact 58 = .ok (.isub, 1) := by decide +kernel
theorem dX7_isFact_59 : decode cX7_isFact 59 = .ok (.iadd, 1) := by decide +kernel
theorem dX7_isFact_60 : decode cX7_isFact 60 = .ok (.istore 5, 2) := by decide +kernel
theorem dX7_isFact_62 : decode cX7_isFact 62 = .ok (.iinc 6 1, 3) := by decide +kernel
theorem dX7_isFact_65 : decode cX7_isFact 65 = .ok (.goto (-56), 3) := by decide +kernel
theorem dX7_isFact_68 : decode cX7_isFact 68 = .ok (.iload_n 1, 1) := by decide +kernel
theorem dX7_isFact_69 : decode cX7_isFact 69 = .ok (.ifCond .ne 16, 3) := by decide +kernel
theorem dX7_isFact_72 : decode cX7_isFact 72 = .ok (.iload 5, 2) := by decide +kernel
theorem dX7_isFact_74 : decode cX7_isFact 74 = .ok (.ifCond .ne 7, 3) := by decide +kernel
theorem dX7_isFact_77 : decode cX7_isFact 77 = .ok (.iconst 1, 1) := by decide +kernel
theorem dX7_isFact_78 : decode cX7_isFact 78 = .ok (.goto 53, 3) := by decide +kernel
theorem dX7_isFact_81 : decode cX7_isFact 81 = .ok (.iconst 0, 1) := by decide +kernel
theorem dX7_isFact_82 : decode cX7_isFact 82 = .ok (.goto 49, 3) := by decide +kernel
theorem dX7_isFact_85 : decode cX7_isFact 85 = .ok (.iload_n 1, 1) := by decide +kernel
theorem dX7_isFact_86 : decode cX7_isFact 86 = .ok (.iconst 1, 1) := by decide +kernel
theorem dX7_isFact_87 : decode cX7_isFact 87 = .ok (.if_icmp .ne 16, 3) := by decide +kernel
theorem dX7_isFact_90 : decode cX7_isFact 90 = .ok (.iload 4, 2) := by decide +kernel
theorem dX7_isFact_92 : decode cX7_isFact 92 = .ok (.ifCond .le 7, 3) := by decide +kernel
theorem dX7_isFact_95 : decode cX7_isFact 95 = .ok (.iconst 1, 1) := by decide +kernel
theorem dX7_isFact_96 : decode cX7_isFact 96 = .ok (.goto 35, 3) := by decide +kernel
theorem dX7_isFact_99 : decode cX7_isFact 99 = .ok (.iconst 0, 1) := by decide +kernel
theorem dX7_isFact_100 : decode cX7_isFact 100 = .ok (.goto 31, 3) := by decide +kernel
theorem dX7_isFact_103 : decode cX7_isFact 103 = .ok (.iload_n 1, 1) := by decide +kernel
theorem dX7_isFact_104 : decode cX7_isFact 104 = .ok (.iconst 2, 1) := by decide +kernel
theorem dX7_isFact_105 : decode cX7_isFact 105 = .ok (.if_icmp .ne 16, 3) := by decide +kernel
theorem dX7_isFact_108 : decode cX7_isFact 108 = .ok (.iload 4, 2) := by decide +kernel
theorem dX7_isFact_110 : decode cX7_isFact 110 = .ok (.ifCond .ne 7, 3) := by decide +kernel
theorem dX7_isFact_113 : decode cX7_isFact 113 = .ok (.iconst 1, 1) := by decide +kernel
theorem dX7_isFact_114 : decode cX7_isFact 114 = .ok (.goto 17, 3) := by decide +kernel
theorem dX7_isFact_117 : decode cX7_isFact 117 = .ok (.iconst 0, 1) := by decide +kernel
theorem dX7_isFact_118 : decode cX7_isFact 118 = .ok (.goto 13, 3) := by decide +kernel
theorem dX7_isFact_121 : decode cX7_isFact 121 = .ok (.iload 5, 2) := by decide +kernel
theorem dX7_isFact_123 : decode cX7_isFact 123 = .ok (.ifCond .le 7, 3) := by decide +kernel
theorem dX7_isFact_126 : decode cX7_isFact 126 = .ok (.iconst 1, 1) := by decide +kernel
theorem dX7_isFact_127 : decode cX7_isFact 127 = .ok (.goto 4, 3) := by decide +kernel
theorem dX7_isFact_130 : decode cX7_isFact 130 = .ok (.iconst 0, 1) := by decide +kernel
theorem dX7_isFact_131 : decode cX7_isFact 131 = .ok (.ireturn, 1) := by decide +kernel
theorem dX7_takes_0 : decode cX7_takes 0 = .ok (.iconst 0, 1) := by decide +kernel
theorem dX7_takes_1 : decode cX7_takes 1 = .ok (.istore_n 1, 1) := by decide +kernel
theorem dX7_takes_2 : decode cX7_takes 2 = .ok (.iconst 0, 1) := by decide +kernel
theorem dX7_takes_3 : decode cX7_takes 3 = .ok (.istore_n 2, 1) := by decide +kernel
theorem dX7_takes_4 : decode cX7_takes 4 = .ok (.iload_n 2, 1) := by decide +kernel
theorem dX7_takes_5 : decode cX7_takes 5 = .ok (.bipush 10, 2) := by decide +kernel
theorem dX7_takes_7 : decode cX7_takes 7 = .ok (.if_icmp .ge 31, 3) := by decide +kernel
theorem dX7_takes_10 : decode cX7_takes 10 = .ok (.iload_n 1, 1) := by decide +kernel
theorem dX7_takes_11 : decode cX7_takes 11 = .ok (.aload_n 0, 1) := by decide +kernel
theorem dX7_takes_12 : decode cX7_takes 12 = .ok (.iload_n 2, 1) := by decide +kernel
theorem dX7_takes_13 : decode cX7_takes 13 = .ok (.aload_n 0, 1) := by decide +kernel
theorem dX7_takes_14 : decode cX7_takes 14 = .ok (.getfield 35, 3) := by decide +kernel
theorem dX7_takes_17 : decode cX7_takes 17 = .ok (.invokevirtual 94, 3) := by decide +kernel
theorem dX7_takes_20 : decode cX7_takes 20 = .ok (.ifCond .eq 9, 3) := by decide +kernel
theorem dX7_takes_23 : decode cX7_takes 23 = .ok (.iconst 1, 1) := by decide +kernel
theorem dX7_takes_24 : decode cX7_takes 24 = .ok (.iload_n 2, 1) := by decide +kernel
theorem dX7_takes_25 : decode cX7_takes 25 = .ok (.ishl, 1) := by decide +kernel
theorem dX7_takes_26 : decode cX7_takes 26 = .ok (.goto 4, 3) := by decide +kernel
theorem dX7_takes_29 : decode cX7_takes 29 = .ok (.iconst 0, 1) := by decide +kernel
theorem dX7_takes_30 : decode cX7_takes 30 = .ok (.ior, 1) := by decide +kernel
theorem dX7_takes_31 : decode cX7_takes 31 = .ok (.istore_n 1, 1) := by decide +kernel
theorem dX7_takes_32 : decode cX7_takes 32 = .ok (.iinc 2 1, 3) := by decide +kernel
theorem dX7_takes_35 : decode cX7_takes 35 = .ok (.goto (-31), 3) := by decide +kernel
theorem dX7_takes_38 : decode cX7_takes 38 = .ok (.aload_n 0, 1) := by decide +kernel
theorem dX7_takes_39 : decode cX7_takes 39 = .ok (.getfield 38, 3) := by decide +kernel
theorem dX7_takes_42 : decode cX7_takes 42 = .ok (.iload_n 1, 1) := by decide +kernel
theorem dX7_takes_43 : decode cX7_takes 43 = .ok (.iaload, 1) := by decide +kernel
theorem dX7_takes_44 : decode cX7_takes 44 = .ok (.ifCond .ne 53, 3) := by decide +kernel
theorem dX7_takes_47 : decode cX7_takes 47 = .ok (.aload_n 0, 1) := by decide +kernel
theorem dX7_takes_48 : decode cX7_takes 48 = .ok (.getfield 41, 3) := by decide +kernel
theorem dX7_takes_51 : decode cX7_takes 51 = .ok (.iload_n 1, 1) := by decide +kernel
theorem dX7_takes_52 : decode cX7_takes 52 = .ok (.aload_n 0, 1) := by decide +kernel
theorem dX7_takes_53 : decode cX7_takes 53 = .ok (.getfield 79, 3) := by decide +kernel
theorem dX7_takes_56 : decode cX7_takes 56 = .ok (.iastore, 1) := by decide +kernel
theorem dX7_takes_57 : decode cX7_takes 57 = .ok (.iconst 0, 1) := by decide +kernel
theorem dX7_takes_58 : decode cX7_takes 58 = .ok (.istore_n 2, 1) := by decide +kernel
theorem dX7_takes_59 : decode cX7_takes 59 = .ok (.iload_n 2, 1) := by decide +kernel
theorem dX7_takes_60 : decode cX7_takes 60 = .ok (.bipush 16, 2) := by decide +kernel
theorem dX7_takes_62 : decode cX7_takes 62 = .ok (.if_icmp .ge 26, 3) := by decide +kernel
theorem dX7_takes_65 : decode cX7_takes 65 = .ok (.aload_n 0, 1) := by decide +kernel
theorem dX7_takes_66 : decode cX7_takes 66 = .ok (.getfield 44, 3) := by decide +kernel
theorem dX7_takes_69 : decode cX7_takes 69 = .ok (.bipush 16, 2) := by decide +kernel
theorem dX7_takes_71 : decode cX7_takes 71 = .ok (.iload_n 1, 1) := by decide +kernel
theorem dX7_takes_72 : decode cX7_takes 72 = .ok (.imul, 1) := by decide +kernel
theorem dX7_takes_73 : decode cX7_takes 73 = .ok (.iload_n 2, 1) := by decide +kernel
theorem dX7_takes_74 : decode cX7_takes 74 = .ok (.iadd, 1) := by decide +kernel
theorem dX7_takes_75 : decode cX7_takes 75 = .ok (.aload_n 0, 1) := by decide +kernel
theorem dX7_takes_76 : decode cX7_takes 76 = .ok (.getfield 35, 3) := by decide +kernel
theorem dX7_takes_79 : decode cX7_takes 79 = .ok (.iload_n 2, 1) := by decide +kernel
theorem dX7_takes_80 : decode cX7_takes 80 = .ok (.iaload, 1) := by decide +kernel
theorem dX7_takes_81 : decode cX7_takes 81 = .ok (.iastore, 1) := by decide +kernel
theorem dX7_takes_82 : decode cX7_takes 82 = .ok (.iinc 2 1, 3) := by decide +kernel
theorem dX7_takes_85 : decode cX7_takes 85 = .ok (.goto (-26), 3) := by decide +kernel
theorem dX7_takes_88 : decode cX7_takes 88 = .ok (.aload_n 0, 1) := by decide +kernel
theorem dX7_takes_89 : decode cX7_takes 89 = .ok (.getfield 47, 3) := by decide +kernel
theorem dX7_takes_92 : decode cX7_takes 92 = .ok (.iload_n 1, 1) := by decide +kernel
theorem dX7_takes_93 : decode cX7_takes 93 = .ok (.ldc2_w 170, 3) := by decide +kernel
theorem dX7_takes_96 : decode cX7_takes 96 = .ok (.lastore, 1) := by decide +kernel
theorem dX7_takes_97 : decode cX7_takes 97 = .ok (.aload_n 0, 1) := by decide +kernel
theorem dX7_takes_98 : decode cX7_takes 98 = .ok (.getfield 38, 3) := by decide +kernel
theorem dX7_takes_101 : decode cX7_takes 101 = .ok (.iload_n 1, 1) := by decide +kernel
theorem dX7_takes_102 : decode cX7_takes 102 = .ok (.dup2, 1) := by decide +kernel
theorem dX7_takes_103 : decode cX7_takes 103 = .ok (.iaload, 1) := by decide +kernel
theorem dX7_takes_104 : decode cX7_takes 104 = .ok (.iconst 1, 1) := by decide +kernel
theorem dX7_takes_105 : decode cX7_takes 105 = .ok (.iadd, 1) := by decide +kernel
theorem dX7_takes_106 : decode cX7_takes 106 = .ok (.iastore, 1) := by decide +kernel
theorem dX7_takes_107 : decode cX7_takes 107 = .ok (.aload_n 0, 1) := by decide +kernel
theorem dX7_takes_108 : decode cX7_takes 108 = .ok (.dup, 1) := by decide +kernel
theorem dX7_takes_109 : decode cX7_takes 109 = .ok (.getfield 79, 3) := by decide +kernel
theorem dX7_takes_112 : decode cX7_takes 112 = .ok (.iconst 1, 1) := by decide +kernel
theorem dX7_takes_113 : decode cX7_takes 113 = .ok (.iadd, 1) := by decide +kernel
theorem dX7_takes_114 : decode cX7_takes 114 = .ok (.putfield 79, 3) := by decide +kernel
theorem dX7_takes_117 : decode cX7_takes 117 = .ok (.iconst 0, 1) := by decide +kernel
theorem dX7_takes_118 : decode cX7_takes 118 = .ok (.istore_n 2, 1) := by decide +kernel
theorem dX7_takes_119 : decode cX7_takes 119 = .ok (.iload_n 2, 1) := by decide +kernel
theorem dX7_takes_120 : decode cX7_takes 120 = .ok (.iconst 4, 1) := by decide +kernel
theorem dX7_takes_121 : decode cX7_takes 121 = .ok (.if_icmp .ge 86, 3) := by decide +kernel
theorem dX7_takes_124 : decode cX7_takes 124 = .ok (.iconst 0, 1) := by decide +kernel
theorem dX7_takes_125 : decode cX7_takes 125 = .ok (.istore_n 3, 1) := by decide +kernel
theorem dX7_takes_126 : decode cX7_takes 126 = .ok (.iload_n 3, 1) := by decide +kernel
theorem dX7_takes_127 : decode cX7_takes 127 = .ok (.aload_n 0, 1) := by decide +kernel
theorem dX7_takes_128 : decode cX7_takes 128 = .ok (.getfield 7, 3) := by decide +kernel
theorem dX7_takes_131 : decode cX7_takes 131 = .ok (.if_icmp .ge 70, 3) := by decide +kernel
theorem dX7_takes_134 : decode cX7_takes 134 = .ok (.iconst 0, 1) := by decide +kernel
theorem dX7_takes_135 : decode cX7_takes 135 = .ok (.istore 4, 2) := by decide +kernel
theorem dX7_takes_137 : decode cX7_takes 137 = .ok (.iload 4, 2) := by decide +kernel
theorem dX7_takes_139 : decode cX7_takes 139 = .ok (.aload_n 0, 1) := by decide +kernel
theorem dX7_takes_140 : decode cX7_takes 140 = .ok (.getfield 7, 3) := by decide +kernel
theorem dX7_takes_143 : decode cX7_takes 143 = .ok (.if_icmp .ge 52, 3) := by decide +kernel
theorem dX7_takes_146 : decode cX7_takes 146 = .ok (.aload_n 0, 1) := by decide +kernel
theorem dX7_takes_147 : decode cX7_takes 147 = .ok (.getfield 47, 3) := by decide +kernel
theorem dX7_takes_150 : decode cX7_takes 150 = .ok (.iload_n 1, 1) := by decide +kernel
theorem dX7_takes_151 : decode cX7_takes 151 = .ok (.dup2, 1) := by decide +kernel
theorem dX7_takes_152 : decode cX7_takes 152 = .ok (.laload, 1) := by decide +kernel
theorem dX7_takes_153 : decode cX7_takes 153 = .ok (.aload_n 0, 1) := by decide +kernel
theorem dX7_takes_154 : decode cX7_takes 154 = .ok (.iload_n 2, 1) := by decide +kernel
theorem dX7_takes_155 : decode cX7_takes 155 = .ok (.iload_n 3, 1) := by decide +kernel
theorem dX7_takes_156 : decode cX7_takes 156 = .ok (.iload 4, 2) := by decide +kernel
theorem dX7_takes_158 : decode cX7_takes 158 = .ok (.invokevirtual 172, 3) := by decide +kernel
theorem dX7_takes_161 : decode cX7_takes 161 = .ok (.ifCond .eq 9, 3) := by decide +kernel
theorem dX7_takes_164 : decode cX7_takes 164 = .ok (.ldc2_w 170, 3) := by decide +kernel
theorem dX7_takes_167 : decode cX7_takes 167 = .ok (.goto 20, 3) := by decide +kernel
theorem dX7_takes_170 : decode cX7_takes 170 = .ok (.lconst 1, 1) := by decide +kernel
theorem dX7_takes_171 : decode cX7_takes 171 = .ok (.bipush 16, 2) := by decide +kernel
theorem dX7_takes_173 : decode cX7_takes 173 = .ok (.iload_n 2, 1) := by decide +kernel
theorem dX7_takes_174 : decode cX7_takes 174 = .ok (.imul, 1) := by decide +kernel
theorem dX7_takes_175 : decode cX7_takes 175 = .ok (.iconst 4, 1) := by decide +kernel
theorem dX7_takes_176 : decode cX7_takes 176 = .ok (.iload_n 3, 1) := by decide +kernel
theorem dX7_takes_177 : decode cX7_takes 177 = .ok (.imul, 1) := by decide +kernel
theorem dX7_takes_178 : decode cX7_takes 178 = .ok (.iadd, 1) := by decide +kernel
theorem dX7_takes_179 : decode cX7_takes 179 = .ok (.iload 4, 2) := by decide +kernel
theorem dX7_takes_181 : decode cX7_takes 181 = .ok (.iadd, 1) := by decide +kernel
theorem dX7_takes_182 : decode cX7_takes 182 = .ok (.lshl, 1) := by decide +kernel
theorem dX7_takes_183 : decode cX7_takes 183 = .ok (.ldc2_w 170, 3) := by decide +kernel
theorem dX7_takes_186 : decode cX7_takes 186 = .ok (.lxor, 1) := by decide +kernel
theorem dX7_takes_187 : decode cX7_takes 187 = .ok (.land, 1) := by decide +kernel
theorem dX7_takes_188 : decode cX7_takes 188 = .ok (.lastore, 1) := by decide +kernel
theorem dX7_takes_189 : decode cX7_takes 189 = .ok (.iinc 4 1, 3) := by decide +kernel
theorem dX7_takes_192 : decode cX7_takes 192 = .ok (.goto (-55), 3) := by decide +kernel
theorem dX7_takes_195 : decode cX7_takes 195 = .ok (.iinc 3 1, 3) := by decide +kernel
theorem dX7_takes_198 : decode cX7_takes 198 = .ok (.goto (-72), 3) := by decide +kernel
theorem dX7_takes_201 : decode cX7_takes 201 = .ok (.iinc 2 1, 3) := by decide +kernel
theorem dX7_takes_204 : decode cX7_takes 204 = .ok (.goto (-85), 3) := by decide +kernel
theorem dX7_takes_207 : decode cX7_takes 207 = .ok (.return_, 1) := by decide +kernel
theorem dX7_loads_0 : decode cX7_loads 0 = .ok (.aload_n 0, 1) := by decide +kernel
theorem dX7_loads_1 : decode cX7_loads 1 = .ok (.getfield 68, 3) := by decide +kernel
theorem dX7_loads_4 : decode cX7_loads 4 = .ok (.ifCond .eq 4, 3) := by decide +kernel
theorem dX7_loads_7 : decode cX7_loads 7 = .ok (.return_, 1) := by decide +kernel
theorem dX7_loads_8 : decode cX7_loads 8 = .ok (.aload_n 0, 1) := by decide +kernel
theorem dX7_loads_9 : decode cX7_loads 9 = .ok (.iconst 1, 1) := by decide +kernel
theorem dX7_loads_10 : decode cX7_loads 10 = .ok (.putfield 68, 3) := by decide +kernel
theorem dX7_loads_13 : decode cX7_loads 13 = .ok (.aload_n 0, 1) := by decide +kernel
theorem dX7_loads_14 : decode cX7_loads 14 = .ok (.iconst 0, 1) := by decide +kernel
theorem dX7_loads_15 : decode cX7_loads 15 = .ok (.putfield 79, 3) := by decide +kernel
theorem dX7_loads_18 : decode cX7_loads 18 = .ok (.iconst 0, 1) := by decide +kernel
theorem dX7_loads_19 : decode cX7_loads 19 = .ok (.istore_n 1, 1) := by decide +kernel
theorem dX7_loads_20 : decode cX7_loads 20 = .ok (.iload_n 1, 1) := by decide +kernel
theorem dX7_loads_21 : decode cX7_loads 21 = .ok (.sipush 1024, 3) := by decide +kernel
theorem dX7_loads_24 : decode cX7_loads 24 = .ok (.if_icmp .ge 16, 3) := by decide +kernel
theorem dX7_loads_27 : decode cX7_loads 27 = .ok (.aload_n 0, 1) := by decide +kernel
theorem dX7_loads_28 : decode cX7_loads 28 = .ok (.getfield 38, 3) := by decide +kernel
theorem dX7_loads_31 : decode cX7_loads 31 = .ok (.iload_n 1, 1) := by decide +kernel
theorem dX7_loads_32 : decode cX7_loads 32 = .ok (.iconst 0, 1) := by decide +kernel
theorem dX7_loads_33 : decode cX7_loads 33 = .ok (.iastore, 1) := by decide +kernel
theorem dX7_loads_34 : decode cX7_loads 34 = .ok (.iinc 1 1, 3) := by decide +kernel
theorem dX7_loads_37 : decode cX7_loads 37 = .ok (.goto (-17), 3) := by decide +kernel
theorem dX7_loads_40 : decode cX7_loads 40 = .ok (.aload_n 0, 1) := by decide +kernel
theorem dX7_loads_41 : decode cX7_loads 41 = .ok (.invokevirtual 60, 3) := by decide +kernel
theorem dX7_loads_44 : decode cX7_loads 44 = .ok (.iconst 1, 1) := by decide +kernel
theorem dX7_loads_45 : decode cX7_loads 45 = .ok (.isub, 1) := by decide +kernel
theorem dX7_loads_46 : decode cX7_loads 46 = .ok (.istore_n 1, 1) := by decide +kernel
theorem dX7_loads_47 : decode cX7_loads 47 = .ok (.iconst 0, 1) := by decide +kernel
theorem dX7_loads_48 : decode cX7_loads 48 = .ok (.istore_n 2, 1) := by decide +kernel
theorem dX7_loads_49 : decode cX7_loads 49 = .ok (.iload_n 2, 1) := by decide +kernel
theorem dX7_loads_50 : decode cX7_loads 50 = .ok (.aload_n 0, 1) := by decide +kernel
theorem dX7_loads_51 : decode cX7_loads 51 = .ok (.getfield 13, 3) := by decide +kernel
theorem dX7_loads_54 : decode cX7_loads 54 = .ok (.if_icmp .gt 131, 3) := by decide +kernel
theorem dX7_loads_57 : decode cX7_loads 57 = .ok (.iconst 0, 1) := by decide +kernel
theorem dX7_loads_58 : decode cX7_loads 58 = .ok (.istore_n 3, 1) := by decide +kernel
theorem dX7_loads_59 : decode cX7_loads 59 = .ok (.iload_n 3, 1) := by decide +kernel
theorem dX7_loads_60 : decode cX7_loads 60 = .ok (.bipush 16, 2) := by decide +kernel
theorem dX7_loads_62 : decode cX7_loads 62 = .ok (.if_icmp .ge 24, 3) := by decide +kernel
theorem dX7_loads_65 : decode cX7_loads 65 = .ok (.aload_n 0, 1) := by decide +kernel
theorem dX7_loads_66 : decode cX7_loads 66 = .ok (.getfield 35, 3) := by decide +kernel
theorem dX7_loads_69 : decode cX7_loads 69 = .ok (.iload_n 3, 1) := by decide +kernel
theorem dX7_loads_70 : decode cX7_loads 70 = .ok (.iload_n 3, 1) := by decide +kernel
theorem dX7_loads_71 : decode cX7_loads 71 = .ok (.ifCond .ne 7, 3) := by decide +kernel
theorem dX7_loads_74 : decode cX7_loads 74 = .ok (.iload_n 2, 1) := by decide +kernel
theorem dX7_loads_75 : decode cX7_loads 75 = .ok (.goto 4, 3) := by decide +kernel
theorem dX7_loads_78 : decode cX7_loads 78 = .ok (.iconst 0, 1) := by decide +kernel
theorem dX7_loads_79 : decode cX7_loads 79 = .ok (.iastore, 1) := by decide +kernel
theorem dX7_loads_80 : decode cX7_loads 80 = .ok (.iinc 3 1, 3) := by decide +kernel
theorem dX7_loads_83 : decode cX7_loads 83 = .ok (.goto (-24), 3) := by decide +kernel
theorem dX7_loads_86 : decode cX7_loads 86 = .ok (.iconst 1, 1) := by decide +kernel
theorem dX7_loads_87 : decode cX7_loads 87 = .ok (.istore_n 3, 1) := by decide +kernel
theorem dX7_loads_88 : decode cX7_loads 88 = .ok (.iload_n 3, 1) := by decide +kernel
theorem dX7_loads_89 : decode cX7_loads 89 = .ok (.ifCond .eq 90, 3) := by decide +kernel
theorem dX7_loads_92 : decode cX7_loads 92 = .ok (.aload_n 0, 1) := by decide +kernel
theorem dX7_loads_93 : decode cX7_loads 93 = .ok (.invokevirtual 175, 3) := by decide +kernel
theorem dX7_loads_96 : decode cX7_loads 96 = .ok (.aload_n 0, 1) := by decide +kernel
theorem dX7_loads_97 : decode cX7_loads 97 = .ok (.getfield 35, 3) := by decide +kernel
theorem dX7_loads_100 : decode cX7_loads 100 = .ok (.iload_n 1, 1) := by decide +kernel
theorem dX7_loads_101 : decode cX7_loads 101 = .ok (.iaload, 1) := by decide +kernel
theorem dX7_loads_102 : decode cX7_loads 102 = .ok (.istore 4, 2) := by decide +kernel
theorem dX7_loads_104 : decode cX7_loads 104 = .ok (.aload_n 0, 1) := by decide +kernel
theorem dX7_loads_105 : decode cX7_loads 105 = .ok (.getfield 35, 3) := by decide +kernel
theorem dX7_loads_108 : decode cX7_loads 108 = .ok (.iload_n 1, 1) := by decide +kernel
theorem dX7_loads_109 : decode cX7_loads 109 = .ok (.iconst 0, 1) := by decide +kernel
theorem dX7_loads_110 : decode cX7_loads 110 = .ok (.iastore, 1) := by decide +kernel
theorem dX7_loads_111 : decode cX7_loads 111 = .ok (.iload_n 1, 1) := by decide +kernel
theorem dX7_loads_112 : decode cX7_loads 112 = .ok (.iconst 1, 1) := by decide +kernel
theorem dX7_loads_113 : decode cX7_loads 113 = .ok (.isub, 1) := by decide +kernel
theorem dX7_loads_114 : decode cX7_loads 114 = .ok (.istore 5, 2) := by decide +kernel
theorem dX7_loads_116 : decode cX7_loads 116 = .ok (.iload 5, 2) := by decide +kernel
theorem dX7_loads_118 : decode cX7_loads 118 = .ok (.ifCond .lt 19, 3) := by decide +kernel
theorem dX7_loads_121 : decode cX7_loads 121 = .ok (.aload_n 0, 1) := by decide +kernel
theorem dX7_loads_122 : decode cX7_loads 122 = .ok (.getfield 35, 3) := by decide +kernel
theorem dX7_loads_125 : decode cX7_loads 125 = .ok (.iload 5, 2) := by decide +kernel
theorem dX7_loads_127 : decode cX7_loads 127 = .ok (.iaload, 1) := by decide +kernel
theorem dX7_loads_128 : decode cX7_loads 128 = .ok (.ifCond .ne 9, 3) := by decide +kernel
theorem dX7_loads_131 : decode cX7_loads 131 = .ok (.iinc 5 (-1), 3) := by decide +kernel
theorem dX7_loads_134 : decode cX7_loads 134 = .ok (.goto (-18), 3) := by decide +kernel
theorem dX7_loads_137 : decode cX7_loads 137 = .ok (.iload 5, 2) := by decide +kernel
theorem dX7_loads_139 : decode cX7_loads 139 = .ok (.ifCond .lt 7, 3) := by decide +kernel
theorem dX7_loads_142 : decode cX7_loads 142 = .ok (.iconst 1, 1) := by decide +kernel
theorem dX7_loads_143 : decode cX7_loads 143 = .ok (.goto 4, 3) := by decide +kernel
theorem dX7_loads_146 : decode cX7_loads 146 = .ok (.iconst 0, 1) := by decide +kernel
theorem dX7_loads_147 : decode cX7_loads 147 = .ok (.istore_n 3, 1) := by decide +kernel
theorem dX7_loads_148 : decode cX7_loads 148 = .ok (.iload_n 3, 1) := by decide +kernel
theorem dX7_loads_149 : decode cX7_loads 149 = .ok (.ifCond .eq 27, 3) := by decide +kernel
theorem dX7_loads_152 : decode cX7_loads 152 = .ok (.aload_n 0, 1) := by decide +kernel
theorem dX7_loads_153 : decode cX7_loads 153 = .ok (.getfield 35, 3) := by decide +kernel
theorem dX7_loads_156 : decode cX7_loads 156 = .ok (.iload 5, 2) := by decide +kernel
theorem dX7_loads_158 : decode cX7_loads 158 = .ok (.dup2, 1) := by decide +kernel
theorem dX7_loads_159 : decode cX7_loads 159 = .ok (.iaload, 1) := by decide +kernel
theorem dX7_loads_160 : decode cX7_loads 160 = .ok (.iconst 1, 1) := by decide +kernel
theorem dX7_loads_161 : decode cX7_loads 161 = .ok (.isub, 1) := by decide +kernel
theorem dX7_loads_162 : decode cX7_loads 162 = .ok (.iastore, 1) := by decide +kernel
theorem dX7_loads_163 : decode cX7_loads 163 = .ok (.aload_n 0, 1) := by decide +kernel
theorem dX7_loads_164 : decode cX7_loads 164 = .ok (.getfield 35, 3) := by decide +kernel
theorem dX7_loads_167 : decode cX7_loads 167 = .ok (.iload 5, 2) := by decide +kernel
theorem dX7_loads_169 : decode cX7_loads 169 = .ok (.iconst 1, 1) := by decide +kernel
theorem dX7_loads_170 : decode cX7_loads 170 = .ok (.iadd, 1) := by decide +kernel
theorem dX7_loads_171 : decode cX7_loads 171 = .ok (.iload 4, 2) := by decide +kernel
theorem dX7_loads_173 : decode cX7_loads 173 = .ok (.iconst 1, 1) := by decide +kernel
theorem dX7_loads_174 : decode cX7_loads 174 = .ok (.iadd, 1) := by decide +kernel
theorem dX7_loads_175 : decode cX7_loads 175 = .ok (.iastore, 1) := by decide +kernel
theorem dX7_loads_176 : decode cX7_loads 176 = .ok (.goto (-88), 3) := by decide +kernel
theorem dX7_loads_179 : decode cX7_loads 179 = .ok (.iinc 2 1, 3) := by decide +kernel
theorem dX7_loads_182 : decode cX7_loads 182 = .ok (.goto (-133), 3) := by decide +kernel
theorem dX7_loads_185 : decode cX7_loads 185 = .ok (.return_, 1) := by decide +kernel
theorem dX7_isIn_0 : decode cX7_isIn 0 = .ok (.iload_n 0, 1) := by decide +kernel
theorem dX7_isIn_1 : decode cX7_isIn 1 = .ok (.iload_n 1, 1) := by decide +kernel
theorem dX7_isIn_2 : decode cX7_isIn 2 = .ok (.iconst (-1), 1) := by decide +kernel
theorem dX7_isIn_3 : decode cX7_isIn 3 = .ok (.ixor, 1) := by decide +kernel
theorem dX7_isIn_4 : decode cX7_isIn 4 = .ok (.iand, 1) := by decide +kernel
theorem dX7_isIn_5 : decode cX7_isIn 5 = .ok (.ifCond .ne 7, 3) := by decide +kernel
theorem dX7_isIn_8 : decode cX7_isIn 8 = .ok (.iconst 1, 1) := by decide +kernel
theorem dX7_isIn_9 : decode cX7_isIn 9 = .ok (.goto 4, 3) := by decide +kernel
theorem dX7_isIn_12 : decode cX7_isIn 12 = .ok (.iconst 0, 1) := by decide +kernel
theorem dX7_isIn_13 : decode cX7_isIn 13 = .ok (.ireturn, 1) := by decide +kernel
theorem dX7_canBe_0 : decode cX7_canBe 0 = .ok (.iconst 0, 1) := by decide +kernel
theorem dX7_canBe_1 : decode cX7_canBe 1 = .ok (.istore_n 2, 1) := by decide +kernel
theorem dX7_canBe_2 : decode cX7_canBe 2 = .ok (.iconst 0, 1) := by decide +kernel
theorem dX7_canBe_3 : decode cX7_canBe 3 = .ok (.istore_n 3, 1) := by decide +kernel
theorem dX7_canBe_4 : decode cX7_canBe 4 = .ok (.iload_n 3, 1) := by decide +kernel
theorem dX7_canBe_5 : decode cX7_canBe 5 = .ok (.sipush 1024, 3) := by decide +kernel
theorem dX7_canBe_8 : decode cX7_canBe 8 = .ok (.if_icmp .ge 30, 3) := by decide +kernel
theorem dX7_canBe_11 : decode cX7_canBe 11 = .ok (.iload_n 2, 1) := by decide +kernel
theorem dX7_canBe_12 : decode cX7_canBe 12 = .ok (.iload_n 1, 1) := by decide +kernel
theorem dX7_canBe_13 : decode cX7_canBe 13 = .ok (.iload_n 3, 1) := by decide +kernel
theorem dX7_canBe_14 : decode cX7_canBe 14 = .ok (.invokestatic 178, 3) := by decide +kernel
theorem dX7_canBe_17 : decode cX7_canBe 17 = .ok (.ifCond .eq 12, 3) := by decide +kernel
theorem dX7_canBe_20 : decode cX7_canBe 20 = .ok (.aload_n 0, 1) := by decide +kernel
theorem dX7_canBe_21 : decode cX7_canBe 21 = .ok (.getfield 38, 3) := by decide +kernel
theorem dX7_canBe_24 : decode cX7_canBe 24 = .ok (.iload_n 3, 1) := by decide +kernel
theorem dX7_canBe_25 : decode cX7_canBe 25 = .ok (.iaload, 1) := by decide +kernel
theorem dX7_canBe_26 : decode cX7_canBe 26 = .ok (.goto 4, 3) := by decide +kernel
theorem dX7_canBe_29 : decode cX7_canBe 29 = .ok (.iconst 0, 1) := by decide +kernel
theorem dX7_canBe_30 : decode cX7_canBe 30 = .ok (.iadd, 1) := by decide +kernel
theorem dX7_canBe_31 : decode cX7_canBe 31 = .ok (.istore_n 2, 1) := by decide +kernel
theorem dX7_canBe_32 : decode cX7_canBe 32 = .ok (.iinc 3 1, 3) := by decide +kernel
theorem dX7_canBe_35 : decode cX7_canBe 35 = .ok (.goto (-31), 3) := by decide +kernel
theorem dX7_canBe_38 : decode cX7_canBe 38 = .ok (.iload_n 2, 1) := by decide +kernel
theorem dX7_canBe_39 : decode cX7_canBe 39 = .ok (.ireturn, 1) := by decide +kernel
theorem dX7_can_0 : decode cX7_can 0 = .ok (.aload_n 0, 1) := by decide +kernel
theorem dX7_can_1 : decode cX7_can 1 = .ok (.iconst 0, 1) := by decide +kernel
theorem dX7_can_2 : decode cX7_can 2 = .ok (.putfield 57, 3) := by decide +kernel
theorem dX7_can_5 : decode cX7_can 5 = .ok (.iload_n 1, 1) := by decide +kernel
theorem dX7_can_6 : decode cX7_can 6 = .ok (.invokestatic 182, 3) := by decide +kernel
theorem dX7_can_9 : decode cX7_can 9 = .ok (.ifCond .ne 5, 3) := by decide +kernel
theorem dX7_can_12 : decode cX7_can 12 = .ok (.iconst (-1), 1) := by decide +kernel
theorem dX7_can_13 : decode cX7_can 13 = .ok (.ireturn, 1) := by decide +kernel
theorem dX7_can_14 : decode cX7_can 14 = .ok (.aload_n 0, 1) := by decide +kernel
theorem dX7_can_15 : decode cX7_can 15 = .ok (.invokevirtual 76, 3) := by decide +kernel
theorem dX7_can_18 : decode cX7_can 18 = .ok (.aload_n 0, 1) := by decide +kernel
theorem dX7_can_19 : decode cX7_can 19 = .ok (.iload_n 1, 1) := by decide +kernel
theorem dX7_can_20 : decode cX7_can 20 = .ok (.invokevirtual 185, 3) := by decide +kernel
theorem dX7_can_23 : decode cX7_can 23 = .ok (.ireturn, 1) := by decide +kernel
theorem dX7_firstOf_0 : decode cX7_firstOf 0 = .ok (.bipush (-9), 2) := by decide +kernel
theorem dX7_firstOf_2 : decode cX7_firstOf 2 = .ok (.istore_n 3, 1) := by decide +kernel
theorem dX7_firstOf_3 : decode cX7_firstOf 3 = .ok (.iconst 0, 1) := by decide +kernel
theorem dX7_firstOf_4 : decode cX7_firstOf 4 = .ok (.istore 4, 2) := by decide +kernel
theorem dX7_firstOf_6 : decode cX7_firstOf 6 = .ok (.iload 4, 2) := by decide +kernel
theorem dX7_firstOf_8 : decode cX7_firstOf 8 = .ok (.sipush 1024, 3) := by decide +kernel
theorem dX7_firstOf_11 : decode cX7_firstOf 11 = .ok (.if_icmp .ge 82, 3) := by decide +kernel
theorem dX7_firstOf_14 : decode cX7_firstOf 14 = .ok (.aload_n 0, 1) := by decide +kernel
theorem dX7_firstOf_15 : decode cX7_firstOf 15 = .ok (.getfield 38, 3) := by decide +kernel
theorem dX7_firstOf_18 : decode cX7_firstOf 18 = .ok (.iload 4, 2) := by decide +kernel
theorem dX7_firstOf_20 : decode cX7_firstOf 20 = .ok (.iaload, 1) := by decide +kernel
theorem dX7_firstOf_21 : decode cX7_firstOf 21 = .ok (.ifCond .le 29, 3) := by decide +kernel
theorem dX7_firstOf_24 : decode cX7_firstOf 24 = .ok (.iload_n 1, 1) := by decide +kernel
theorem dX7_firstOf_25 : decode cX7_firstOf 25 = .ok (.iload 4, 2) := by decide +kernel
theorem dX7_firstOf_27 : decode cX7_firstOf 27 = .ok (.invokestatic 178, 3) := by decide +kernel
theorem dX7_firstOf_30 : decode cX7_firstOf 30 = .ok (.ifCond .eq 20, 3) := by decide +kernel
theorem dX7_firstOf_33 : decode cX7_firstOf 33 = .ok (.iload_n 2, 1) := by decide +kernel
theorem dX7_firstOf_34 : decode cX7_firstOf 34 = .ok (.ifCond .lt 12, 3) := by decide +kernel
theorem dX7_firstOf_37 : decode cX7_firstOf 37 = .ok (.iload 4, 2) := by decide +kernel
theorem dX7_firstOf_39 : decode cX7_firstOf 39 = .ok (.iload_n 2, 1) := by decide +kernel
theorem dX7_firstOf_40 : decode cX7_firstOf 40 = .ok (.ishr, 1) := by decide +kernel
theorem dX7_firstOf_41 : decode cX7_firstOf 41 = .ok (.iconst 1, 1) := by decide +kernel
theorem dX7_firstOf_42 : decode cX7_firstOf 42 = .ok (.iand, 1) := by decide +kernel
theorem dX7_firstOf_43 : decode cX7_firstOf 43 = .ok (.ifCond .ne 7, 3) := by decide +kernel
theorem dX7_firstOf_46 : decode cX7_firstOf 46 = .ok (.iconst 1, 1) := by decide +kernel
theorem dX7_firstOf_47 : decode cX7_firstOf 47 = .ok (.goto 4, 3) := by decide +kernel
theorem dX7_firstOf_50 : decode cX7_firstOf 50 = .ok (.iconst 0, 1) := by decide +kernel
theorem dX7_firstOf_51 : decode cX7_firstOf 51 = .ok (.istore 5, 2) := by decide +kernel
theorem dX7_firstOf_53 : decode cX7_firstOf 53 = .ok (.iload 5, 2) := by decide +kernel
theorem dX7_firstOf_55 : decode cX7_firstOf 55 = .ok (.ifCond .eq 30, 3) := by decide +kernel
theorem dX7_firstOf_58 : decode cX7_firstOf 58 = .ok (.iload_n 3, 1) := by decide +kernel
theorem dX7_firstOf_59 : decode cX7_firstOf 59 = .ok (.bipush (-9), 2) := by decide +kernel
theorem dX7_firstOf_61 : decode cX7_firstOf 61 = .ok (.if_icmp .eq 19, 3) := by decide +kernel
theorem dX7_firstOf_64 : decode cX7_firstOf 64 = .ok (.aload_n 0, 1) := by decide +kernel
theorem dX7_firstOf_65 : decode cX7_firstOf 65 = .ok (.getfield 41, 3) := by decide +kernel
theorem dX7_firstOf_68 : decode cX7_firstOf 68 = .ok (.iload 4, 2) := by decide +kernel
theorem dX7_firstOf_70 : decode cX7_firstOf 70 = .ok (.iaload, 1) := by decide +kernel
theorem dX7_firstOf_71 : decode cX7_firstOf 71 = .ok (.aload_n 0, 1) := by decide +kernel
theorem dX7_firstOf_72 : decode cX7_firstOf 72 = .ok (.getfield 41, 3) := by decide +kernel
theorem dX7_firstOf_75 : decode cX7_firstOf 75 = .ok (.iload_n 3, 1) := by decide +kernel
theorem dX7_firstOf_76 : decode cX7_firstOf 76 = .ok (.iaload, 1) := by decide +kernel
theorem dX7_firstOf_77 : decode cX7_firstOf 77 = .ok (.if_icmp .ge 8, 3) := by decide +kernel
theorem dX7_firstOf_80 : decode cX7_firstOf 80 = .ok (.iload 4, 2) := by decide +kernel
theorem dX7_firstOf_82 : decode cX7_firstOf 82 = .ok (.goto 4, 3) := by decide +kernel
theorem dX7_firstOf_85 : decode cX7_firstOf 85 = .ok (.iload_n 3, 1) := by decide +kernel
theorem dX7_firstOf_86 : decode cX7_firstOf 86 = .ok (.istore_n 3, 1) := by decide +kernel
theorem dX7_firstOf_87 : decode cX7_firstOf 87 = .ok (.iinc 4 1, 3) := by decide +kernel
theorem dX7_firstOf_90 : decode cX7_firstOf 90 = .ok (.goto (-84), 3) := by decide +kernel
theorem dX7_firstOf_93 : decode cX7_firstOf 93 = .ok (.iload_n 3, 1) := by decide +kernel
theorem dX7_firstOf_94 : decode cX7_firstOf 94 = .ok (.ireturn, 1) := by decide +kernel
theorem dX7_told_0 : decode cX7_told 0 = .ok (.iload_n 1, 1) := by decide +kernel
theorem dX7_told_1 : decode cX7_told 1 = .ok (.bipush (-9), 2) := by decide +kernel
theorem dX7_told_3 : decode cX7_told 3 = .ok (.if_icmp .ne 6, 3) := by decide +kernel
theorem dX7_told_6 : decode cX7_told 6 = .ok (.bipush (-9), 2) := by decide +kernel
theorem dX7_told_8 : decode cX7_told 8 = .ok (.ireturn, 1) := by decide +kernel
theorem dX7_told_9 : decode cX7_told 9 = .ok (.iconst 0, 1) := by decide +kernel
theorem dX7_told_10 : decode cX7_told 10 = .ok (.istore_n 3, 1) := by decide +kernel
theorem dX7_told_11 : decode cX7_told 11 = .ok (.iconst 0, 1) := by decide +kernel
theorem dX7_told_12 : decode cX7_told 12 = .ok (.istore 4, 2) := by decide +kernel
theorem dX7_told_14 : decode cX7_told 14 = .ok (.iload 4, 2) := by decide +kernel
theorem dX7_told_16 : decode cX7_told 16 = .ok (.bipush 16, 2) := by decide +kernel
theorem dX7_told_18 : decode cX7_told 18 = .ok (.if_icmp .ge 38, 3) := by decide +kernel
theorem dX7_told_21 : decode cX7_told 21 = .ok (.iload_n 3, 1) := by decide +kernel
theorem dX7_told_22 : decode cX7_told 22 = .ok (.iload_n 2, 1) := by decide +kernel
theorem dX7_told_23 : decode cX7_told 23 = .ok (.ifCond .lt 9, 3) := by decide +kernel
theorem dX7_told_26 : decode cX7_told 26 = .ok (.iload 4, 2) := by decide +kernel
theorem dX7_told_28 : decode cX7_told 28 = .ok (.iload_n 2, 1) := by decide +kernel
theorem dX7_told_29 : decode cX7_told 29 = .ok (.if_icmp .ne 18, 3) := by decide +kernel
theorem dX7_told_32 : decode cX7_told 32 = .ok (.aload_n 0, 1) := by decide +kernel
theorem dX7_told_33 : decode cX7_told 33 = .ok (.getfield 44, 3) := by decide +kernel
theorem dX7_told_36 : decode cX7_told 36 = .ok (.bipush 16, 2) := by decide +kernel
theorem dX7_told_38 : decode cX7_told 38 = .ok (.iload_n 1, 1) := by decide +kernel
theorem dX7_told_39 : decode cX7_told 39 = .ok (.imul, 1) := by decide +kernel
theorem dX7_told_40 : decode cX7_told 40 = .ok (.iload 4, 2) := by decide +kernel
theorem dX7_told_42 : decode cX7_told 42 = .ok (.iadd, 1) := by decide +kernel
theorem dX7_told_43 : decode cX7_told 43 = .ok (.iaload, 1) := by decide +kernel
theorem dX7_told_44 : decode cX7_told 44 = .ok (.goto 4, 3) := by decide +kernel
theorem dX7_told_47 : decode cX7_told 47 = .ok (.iconst 0, 1) := by decide +kernel
theorem dX7_told_48 : decode cX7_told 48 = .ok (.iadd, 1) := by decide +kernel
theorem dX7_told_49 : decode cX7_told 49 = .ok (.istore_n 3, 1) := by decide +kernel
theorem dX7_told_50 : decode cX7_told 50 = .ok (.iinc 4 1, 3) := by decide +kernel
theorem dX7_told_53 : decode cX7_told 53 = .ok (.goto (-39), 3) := by decide +kernel
theorem dX7_told_56 : decode cX7_told 56 = .ok (.iload_n 3, 1) := by decide +kernel
theorem dX7_told_57 : decode cX7_told 57 = .ok (.ireturn, 1) := by decide +kernel
theorem dX7_least_0 : decode cX7_least 0 = .ok (.aload_n 0, 1) := by decide +kernel
theorem dX7_least_1 : decode cX7_least 1 = .ok (.iconst 0, 1) := by decide +kernel
theorem dX7_least_2 : decode cX7_least 2 = .ok (.putfield 57, 3) := by decide +kernel
theorem dX7_least_5 : decode cX7_least 5 = .ok (.iload_n 1, 1) := by decide +kernel
theorem dX7_least_6 : decode cX7_least 6 = .ok (.invokestatic 182, 3) := by decide +kernel
theorem dX7_least_9 : decode cX7_least 9 = .ok (.ifCond .eq 17, 3) := by decide +kernel
theorem dX7_least_12 : decode cX7_least 12 = .ok (.iload_n 2, 1) := by decide +kernel
theorem dX7_least_13 : decode cX7_least 13 = .ok (.iconst (-1), 1) := by decide +kernel
theorem dX7_least_14 : decode cX7_least 14 = .ok (.aload_n 0, 1) := by decide +kernel
theorem dX7_least_15 : decode cX7_least 15 = .ok (.invokevirtual 60, 3) := by decide +kernel
theorem dX7_least_18 : decode cX7_least 18 = .ok (.iconst 1, 1) := by decide +kernel
theorem dX7_least_19 : decode cX7_least 19 = .ok (.isub, 1) := by decide +kernel
theorem dX7_least_20 : decode cX7_least 20 = .ok (.invokestatic 72, 3) := by decide +kernel
theorem dX7_least_23 : decode cX7_least 23 = .ok (.ifCond .ne 5, 3) := by decide +kernel
theorem dX7_least_26 : decode cX7_least 26 = .ok (.iconst (-1), 1) := by decide +kernel
theorem dX7_least_27 : decode cX7_least 27 = .ok (.ireturn, 1) := by decide +kernel
theorem dX7_least_28 : decode cX7_least 28 = .ok (.aload_n 0, 1) := by decide +kernel
theorem dX7_least_29 : decode cX7_least 29 = .ok (.invokevirtual 76, 3) := by decide +kernel
theorem dX7_least_32 : decode cX7_least 32 = .ok (.aload_n 0, 1) := by decide +kernel
theorem dX7_least_33 : decode cX7_least 33 = .ok (.aload_n 0, 1) := by decide +kernel
theorem dX7_least_34 : decode cX7_least 34 = .ok (.iload_n 1, 1) := by decide +kernel
theorem dX7_least_35 : decode cX7_least 35 = .ok (.iconst (-1), 1) := by decide +kernel
theorem dX7_least_36 : decode cX7_least 36 = .ok (.invokevirtual 188, 3) := by decide +kernel
theorem dX7_least_39 : decode cX7_least 39 = .ok (.iload_n 2, 1) := by decide +kernel
theorem dX7_least_40 : decode cX7_least 40 = .ok (.invokevirtual 192, 3) := by decide +kernel
theorem dX7_least_43 : decode cX7_least 43 = .ok (.ireturn, 1) := by decide +kernel
theorem dX7_follows_0 : decode cX7_follows 0 = .ok (.aload_n 0, 1) := by decide +kernel
theorem dX7_follows_1 : decode cX7_follows 1 = .ok (.iconst 0, 1) := by decide +kernel
theorem dX7_follows_2 : decode cX7_follows 2 = .ok (.putfield 57, 3) := by decide +kernel
theorem dX7_follows_5 : decode cX7_follows 5 = .ok (.iload_n 1, 1) := by decide +kernel
theorem dX7_follows_6 : decode cX7_follows 6 = .ok (.invokestatic 182, 3) := by decide +kernel
theorem dX7_follows_9 : decode cX7_follows 9 = .ok (.ifCond .eq 10, 3) := by decide +kernel
theorem dX7_follows_12 : decode cX7_follows 12 = .ok (.iload_n 2, 1) := by decide +kernel
theorem dX7_follows_13 : decode cX7_follows 13 = .ok (.invokestatic 90, 3) := by decide +kernel
theorem dX7_follows_16 : decode cX7_follows 16 = .ok (.ifCond .ne 5, 3) := by decide +kernel
theorem dX7_follows_19 : decode cX7_follows 19 = .ok (.iconst (-1), 1) := by decide +kernel
theorem dX7_follows_20 : decode cX7_follows 20 = .ok (.ireturn, 1) := by decide +kernel
theorem dX7_follows_21 : decode cX7_follows 21 = .ok (.aload_n 0, 1) := by decide +kernel
theorem dX7_follows_22 : decode cX7_follows 22 = .ok (.invokevirtual 76, 3) := by decide +kernel
theorem dX7_follows_25 : decode cX7_follows 25 = .ok (.aload_n 0, 1) := by decide +kernel
theorem dX7_follows_26 : decode cX7_follows 26 = .ok (.iload_n 1, 1) := by decide +kernel
theorem dX7_follows_27 : decode cX7_follows 27 = .ok (.iload_n 2, 1) := by decide +kernel
theorem dX7_follows_28 : decode cX7_follows 28 = .ok (.invokevirtual 188, 3) := by decide +kernel
theorem dX7_follows_31 : decode cX7_follows 31 = .ok (.bipush (-9), 2) := by decide +kernel
theorem dX7_follows_33 : decode cX7_follows 33 = .ok (.if_icmp .ne 7, 3) := by decide +kernel
theorem dX7_follows_36 : decode cX7_follows 36 = .ok (.iconst 1, 1) := by decide +kernel
theorem dX7_follows_37 : decode cX7_follows 37 = .ok (.goto 4, 3) := by decide +kernel
theorem dX7_follows_40 : decode cX7_follows 40 = .ok (.iconst 0, 1) := by decide +kernel
theorem dX7_follows_41 : decode cX7_follows 41 = .ok (.ireturn, 1) := by decide +kernel
theorem dX7_against_0 : decode cX7_against 0 = .ok (.aload_n 0, 1) := by decide +kernel
theorem dX7_against_1 : decode cX7_against 1 = .ok (.iconst 0, 1) := by decide +kernel
theorem dX7_against_2 : decode cX7_against 2 = .ok (.putfield 57, 3) := by decide +kernel
theorem dX7_against_5 : decode cX7_against 5 = .ok (.iload_n 1, 1) := by decide +kernel
theorem dX7_against_6 : decode cX7_against 6 = .ok (.invokestatic 182, 3) := by decide +kernel
theorem dX7_against_9 : decode cX7_against 9 = .ok (.ifCond .eq 24, 3) := by decide +kernel
theorem dX7_against_12 : decode cX7_against 12 = .ok (.iload_n 2, 1) := by decide +kernel
theorem dX7_against_13 : decode cX7_against 13 = .ok (.invokestatic 90, 3) := by decide +kernel
theorem dX7_against_16 : decode cX7_against 16 = .ok (.ifCond .eq 17, 3) := by decide +kernel
theorem dX7_against_19 : decode cX7_against 19 = .ok (.iload_n 3, 1) := by decide +kernel
theorem dX7_against_20 : decode cX7_against 20 = .ok (.iconst (-1), 1) := by decide +kernel
theorem dX7_against_21 : decode cX7_against 21 = .ok (.aload_n 0, 1) := by decide +kernel
theorem dX7_against_22 : decode cX7_against 22 = .ok (.invokevirtual 60, 3) := by decide +kernel
theorem dX7_against_25 : decode cX7_against 25 = .ok (.iconst 1, 1) := by decide +kernel
theorem dX7_against_26 : decode cX7_against 26 = .ok (.isub, 1) := by decide +kernel
theorem dX7_against_27 : decode cX7_against 27 = .ok (.invokestatic 72, 3) := by decide +kernel
theorem dX7_against_30 : decode cX7_against 30 = .ok (.ifCond .ne 5, 3) := by decide +kernel
theorem dX7_against_33 : decode cX7_against 33 = .ok (.iconst (-1), 1) := by decide +kernel
theorem dX7_against_34 : decode cX7_against 34 = .ok (.ireturn, 1) := by decide +kernel
theorem dX7_against_35 : decode cX7_against 35 = .ok (.aload_n 0, 1) := by decide +kernel
theorem dX7_against_36 : decode cX7_against 36 = .ok (.invokevirtual 76, 3) := by decide +kernel
theorem dX7_against_39 : decode cX7_against 39 = .ok (.aload_n 0, 1) := by decide +kernel
theorem dX7_against_40 : decode cX7_against 40 = .ok (.aload_n 0, 1) := by decide +kernel
theorem dX7_against_41 : decode cX7_against 41 = .ok (.iload_n 1, 1) := by decide +kernel
theorem dX7_against_42 : decode cX7_against 42 = .ok (.iload_n 2, 1) := by decide +kernel
theorem dX7_against_43 : decode cX7_against 43 = .ok (.invokevirtual 188, 3) := by decide +kernel
theorem dX7_against_46 : decode cX7_against 46 = .ok (.iload_n 3, 1) := by decide +kernel
theorem dX7_against_47 : decode cX7_against 47 = .ok (.invokevirtual 192, 3) := by decide +kernel
theorem dX7_against_50 : decode cX7_against 50 = .ok (.ireturn, 1) := by decide +kernel
theorem dX7_unsaid_0 : decode cX7_unsaid 0 = .ok (.aload_n 0, 1) := by decide +kernel
theorem dX7_unsaid_1 : decode cX7_unsaid 1 = .ok (.iconst 0, 1) := by decide +kernel
theorem dX7_unsaid_2 : decode cX7_unsaid 2 = .ok (.putfield 57, 3) := by decide +kernel
theorem dX7_unsaid_5 : decode cX7_unsaid 5 = .ok (.iload_n 1, 1) := by decide +kernel
theorem dX7_unsaid_6 : decode cX7_unsaid 6 = .ok (.invokestatic 182, 3) := by decide +kernel
theorem dX7_unsaid_9 : decode cX7_unsaid 9 = .ok (.ifCond .ne 5, 3) := by decide +kernel
theorem dX7_unsaid_12 : decode cX7_unsaid 12 = .ok (.iconst (-1), 1) := by decide +kernel
theorem dX7_unsaid_13 : decode cX7_unsaid 13 = .ok (.ireturn, 1) := by decide +kernel
theorem dX7_unsaid_14 : decode cX7_unsaid 14 = .ok (.aload_n 0, 1) := by decide +kernel
theorem dX7_unsaid_15 : decode cX7_unsaid 15 = .ok (.invokevirtual 76, 3) := by decide +kernel
theorem dX7_unsaid_18 : decode cX7_unsaid 18 = .ok (.iconst 0, 1) := by decide +kernel
theorem dX7_unsaid_19 : decode cX7_unsaid 19 = .ok (.istore_n 2, 1) := by decide +kernel
theorem dX7_unsaid_20 : decode cX7_unsaid 20 = .ok (.iconst 0, 1) := by decide +kernel
theorem dX7_unsaid_21 : decode cX7_unsaid 21 = .ok (.istore_n 3, 1) := by decide +kernel
theorem dX7_unsaid_22 : decode cX7_unsaid 22 = .ok (.iload_n 3, 1) := by decide +kernel
theorem dX7_unsaid_23 : decode cX7_unsaid 23 = .ok (.bipush 10, 2) := by decide +kernel
theorem dX7_unsaid_25 : decode cX7_unsaid 25 = .ok (.if_icmp .ge 45, 3) := by decide +kernel
theorem dX7_unsaid_28 : decode cX7_unsaid 28 = .ok (.iload_n 2, 1) := by decide +kernel
theorem dX7_unsaid_29 : decode cX7_unsaid 29 = .ok (.iload_n 1, 1) := by decide +kernel
theorem dX7_unsaid_30 : decode cX7_unsaid 30 = .ok (.iload_n 3, 1) := by decide +kernel
theorem dX7_unsaid_31 : decode cX7_unsaid 31 = .ok (.ishr, 1) := by decide +kernel
theorem dX7_unsaid_32 : decode cX7_unsaid 32 = .ok (.iconst 1, 1) := by decide +kernel
theorem dX7_unsaid_33 : decode cX7_unsaid 33 = .ok (.iand, 1) := by decide +kernel
theorem dX7_unsaid_34 : decode cX7_unsaid 34 = .ok (.iconst 1, 1) := by decide +kernel
theorem dX7_unsaid_35 : decode cX7_unsaid 35 = .ok (.if_icmp .ne 26, 3) := by decide +kernel
theorem dX7_unsaid_38 : decode cX7_unsaid 38 = .ok (.aload_n 0, 1) := by decide +kernel
theorem dX7_unsaid_39 : decode cX7_unsaid 39 = .ok (.iload_n 1, 1) := by decide +kernel
theorem dX7_unsaid_40 : decode cX7_unsaid 40 = .ok (.iconst 1, 1) := by decide +kernel
theorem dX7_unsaid_41 : decode cX7_unsaid 41 = .ok (.iload_n 3, 1) := by decide +kernel
theorem dX7_unsaid_42 : decode cX7_unsaid 42 = .ok (.ishl, 1) := by decide +kernel
theorem dX7_unsaid_43 : decode cX7_unsaid 43 = .ok (.iconst (-1), 1) := by decide +kernel
theorem dX7_unsaid_44 : decode cX7_unsaid 44 = .ok (.ixor, 1) := by decide +kernel
theorem dX7_unsaid_45 : decode cX7_unsaid 45 = .ok (.iand, 1) := by decide +kernel
theorem dX7_unsaid_46 : decode cX7_unsaid 46 = .ok (.iload_n 3, 1) := by decide +kernel
theorem dX7_unsaid_47 : decode cX7_unsaid 47 = .ok (.invokevirtual 188, 3) := by decide +kernel
theorem dX7_unsaid_50 : decode cX7_unsaid 50 = .ok (.bipush (-9), 2) := by decide +kernel
theorem dX7_unsaid_52 : decode cX7_unsaid 52 = .ok (.if_icmp .ne 9, 3) := by decide +kernel
theorem dX7_unsaid_55 : decode cX7_unsaid 55 = .ok (.iconst 1, 1) := by decide +kernel
theorem dX7_unsaid_56 : decode cX7_unsaid 56 = .ok (.iload_n 3, 1) := by decide +kernel
theorem dX7_unsaid_57 : decode cX7_unsaid 57 = .ok (.ishl, 1) := by decide +kernel
theorem dX7_unsaid_58 : decode cX7_unsaid 58 = .ok (.goto 4, 3) := by decide +kernel
theorem dX7_unsaid_61 : decode cX7_unsaid 61 = .ok (.iconst 0, 1) := by decide +kernel
theorem dX7_unsaid_62 : decode cX7_unsaid 62 = .ok (.ior, 1) := by decide +kernel
theorem dX7_unsaid_63 : decode cX7_unsaid 63 = .ok (.istore_n 2, 1) := by decide +kernel
theorem dX7_unsaid_64 : decode cX7_unsaid 64 = .ok (.iinc 3 1, 3) := by decide +kernel
theorem dX7_unsaid_67 : decode cX7_unsaid 67 = .ok (.goto (-45), 3) := by decide +kernel
theorem dX7_unsaid_70 : decode cX7_unsaid 70 = .ok (.iload_n 2, 1) := by decide +kernel
theorem dX7_unsaid_71 : decode cX7_unsaid 71 = .ok (.ireturn, 1) := by decide +kernel
theorem dX7_ones_0 : decode cX7_ones 0 = .ok (.iconst 0, 1) := by decide +kernel
theorem dX7_ones_1 : decode cX7_ones 1 = .ok (.istore_n 1, 1) := by decide +kernel
theorem dX7_ones_2 : decode cX7_ones 2 = .ok (.iconst 0, 1) := by decide +kernel
theorem dX7_ones_3 : decode cX7_ones 3 = .ok (.istore_n 2, 1) := by decide +kernel
theorem dX7_ones_4 : decode cX7_ones 4 = .ok (.iload_n 2, 1) := by decide +kernel
theorem dX7_ones_5 : decode cX7_ones 5 = .ok (.bipush 10, 2) := by decide +kernel
theorem dX7_ones_7 : decode cX7_ones 7 = .ok (.if_icmp .ge 17, 3) := by decide +kernel
theorem dX7_ones_10 : decode cX7_ones 10 = .ok (.iload_n 1, 1) := by decide +kernel
theorem dX7_ones_11 : decode cX7_ones 11 = .ok (.iload_n 0, 1) := by decide +kernel
theorem dX7_ones_12 : decode cX7_ones 12 = .ok (.iload_n 2, 1) := by decide +kernel
theorem dX7_ones_13 : decode cX7_ones 13 = .ok (.ishr, 1) := by decide +kernel
theorem dX7_ones_14 : decode cX7_ones 14 = .ok (.iconst 1, 1) := by decide +kernel
theorem dX7_ones_15 : decode cX7_ones 15 = .ok (.iand, 1) := by decide +kernel
theorem dX7_ones_16 : decode cX7_ones 16 = .ok (.iadd, 1) := by decide +kernel
theorem dX7_ones_17 : decode cX7_ones 17 = .ok (.istore_n 1, 1) := by decide +kernel
theorem dX7_ones_18 : decode cX7_ones 18 = .ok (.iinc 2 1, 3) := by decide +kernel
theorem dX7_ones_21 : decode cX7_ones 21 = .ok (.goto (-17), 3) := by decide +kernel
theorem dX7_ones_24 : decode cX7_ones 24 = .ok (.iload_n 1, 1) := by decide +kernel
theorem dX7_ones_25 : decode cX7_ones 25 = .ok (.ireturn, 1) := by decide +kernel
theorem dX7_clash_0 : decode cX7_clash 0 = .ok (.aload_n 0, 1) := by decide +kernel
theorem dX7_clash_1 : decode cX7_clash 1 = .ok (.iconst 0, 1) := by decide +kernel
theorem dX7_clash_2 : decode cX7_clash 2 = .ok (.putfield 57, 3) := by decide +kernel
theorem dX7_clash_5 : decode cX7_clash 5 = .ok (.iload_n 1, 1) := by decide +kernel
theorem dX7_clash_6 : decode cX7_clash 6 = .ok (.invokestatic 182, 3) := by decide +kernel
theorem dX7_clash_9 : decode cX7_clash 9 = .ok (.ifCond .eq 12, 3) := by decide +kernel
theorem dX7_clash_12 : decode cX7_clash 12 = .ok (.iload_n 2, 1) := by decide +kernel
theorem dX7_clash_13 : decode cX7_clash 13 = .ok (.iconst 0, 1) := by decide +kernel
theorem dX7_clash_14 : decode cX7_clash 14 = .ok (.iconst 1, 1) := by decide +kernel
theorem dX7_clash_15 : decode cX7_clash 15 = .ok (.invokestatic 72, 3) := by decide +kernel
theorem dX7_clash_18 : decode cX7_clash 18 = .ok (.ifCond .ne 5, 3) := by decide +kernel
theorem dX7_clash_21 : decode cX7_clash 21 = .ok (.iconst (-1), 1) := by decide +kernel
theorem dX7_clash_22 : decode cX7_clash 22 = .ok (.ireturn, 1) := by decide +kernel
theorem dX7_clash_23 : decode cX7_clash 23 = .ok (.aload_n 0, 1) := by decide +kernel
theorem dX7_clash_24 : decode cX7_clash 24 = .ok (.invokevirtual 76, 3) := by decide +kernel
theorem dX7_clash_27 : decode cX7_clash 27 = .ok (.aload_n 0, 1) := by decide +kernel
theorem dX7_clash_28 : decode cX7_clash 28 = .ok (.iload_n 1, 1) := by decide +kernel
theorem dX7_clash_29 : decode cX7_clash 29 = .ok (.invokevirtual 185, 3) := by decide +kernel
theorem dX7_clash_32 : decode cX7_clash 32 = .ok (.ifCond .le 6, 3) := by decide +kernel
theorem dX7_clash_35 : decode cX7_clash 35 = .ok (.bipush (-9), 2) := by decide +kernel
theorem dX7_clash_37 : decode cX7_clash 37 = .ok (.ireturn, 1) := by decide +kernel
theorem dX7_clash_38 : decode cX7_clash 38 = .ok (.iload_n 1, 1) := by decide +kernel
theorem dX7_clash_39 : decode cX7_clash 39 = .ok (.istore_n 3, 1) := by decide +kernel
theorem dX7_clash_40 : decode cX7_clash 40 = .ok (.iload_n 1, 1) := by decide +kernel
theorem dX7_clash_41 : decode cX7_clash 41 = .ok (.istore 4, 2) := by decide +kernel
theorem dX7_clash_43 : decode cX7_clash 43 = .ok (.iload 4, 2) := by decide +kernel
theorem dX7_clash_45 : decode cX7_clash 45 = .ok (.ifCond .lt 49, 3) := by decide +kernel
theorem dX7_clash_48 : decode cX7_clash 48 = .ok (.iload 4, 2) := by decide +kernel
theorem dX7_clash_50 : decode cX7_clash 50 = .ok (.iload_n 1, 1) := by decide +kernel
theorem dX7_clash_51 : decode cX7_clash 51 = .ok (.invokestatic 178, 3) := by decide +kernel
theorem dX7_clash_54 : decode cX7_clash 54 = .ok (.ifCond .eq 32, 3) := by decide +kernel
theorem dX7_clash_57 : decode cX7_clash 57 = .ok (.iload 4, 2) := by decide +kernel
theorem dX7_clash_59 : decode cX7_clash 59 = .ok (.invokestatic 195, 3) := by decide +kernel
theorem dX7_clash_62 : decode cX7_clash 62 = .ok (.iload_n 3, 1) := by decide +kernel
theorem dX7_clash_63 : decode cX7_clash 63 = .ok (.invokestatic 195, 3) := by decide +kernel
theorem dX7_clash_66 : decode cX7_clash 66 = .ok (.if_icmp .gt 20, 3) := by decide +kernel
theorem dX7_clash_69 : decode cX7_clash 69 = .ok (.aload_n 0, 1) := by decide +kernel
theorem dX7_clash_70 : decode cX7_clash 70 = .ok (.iload 4, 2) := by decide +kernel
theorem dX7_clash_72 : decode cX7_clash 72 = .ok (.iconst (-1), 1) := by decide +kernel
theorem dX7_clash_73 : decode cX7_clash 73 = .ok (.invokevirtual 188, 3) := by decide +kernel
theorem dX7_clash_76 : decode cX7_clash 76 = .ok (.bipush (-9), 2) := by decide +kernel
theorem dX7_clash_78 : decode cX7_clash 78 = .ok (.if_icmp .ne 8, 3) := by decide +kernel
theorem dX7_clash_81 : decode cX7_clash 81 = .ok (.iload 4, 2) := by decide +kernel
theorem dX7_clash_83 : decode cX7_clash 83 = .ok (.goto 4, 3) := by decide +kernel
theorem dX7_clash_86 : decode cX7_clash 86 = .ok (.iload_n 3, 1) := by decide +kernel
theorem dX7_clash_87 : decode cX7_clash 87 = .ok (.istore_n 3, 1) := by decide +kernel
theorem dX7_clash_88 : decode cX7_clash 88 = .ok (.iinc 4 (-1), 3) := by decide +kernel
theorem dX7_clash_91 : decode cX7_clash 91 = .ok (.goto (-48), 3) := by decide +kernel
theorem dX7_clash_94 : decode cX7_clash 94 = .ok (.iload_n 2, 1) := by decide +kernel
theorem dX7_clash_95 : decode cX7_clash 95 = .ok (.ifCond .ne 10, 3) := by decide +kernel
theorem dX7_clash_98 : decode cX7_clash 98 = .ok (.iload_n 3, 1) := by decide +kernel
theorem dX7_clash_99 : decode cX7_clash 99 = .ok (.invokestatic 195, 3) := by decide +kernel
theorem dX7_clash_102 : decode cX7_clash 102 = .ok (.goto 4, 3) := by decide +kernel
theorem dX7_clash_105 : decode cX7_clash 105 = .ok (.iload_n 3, 1) := by decide +kernel
theorem dX7_clash_106 : decode cX7_clash 106 = .ok (.ireturn, 1) := by decide +kernel
theorem dX7_ask_0 : decode cX7_ask 0 = .ok (.aload_n 0, 1) := by decide +kernel
theorem dX7_ask_1 : decode cX7_ask 1 = .ok (.iconst 0, 1) := by decide +kernel
theorem dX7_ask_2 : decode cX7_ask 2 = .ok (.putfield 57, 3) := by decide +kernel
theorem dX7_ask_5 : decode cX7_ask 5 = .ok (.iload_n 1, 1) := by decide +kernel
theorem dX7_ask_6 : decode cX7_ask 6 = .ok (.invokestatic 182, 3) := by decide +kernel
theorem dX7_ask_9 : decode cX7_ask 9 = .ok (.ifCond .ne 5, 3) := by decide +kernel
theorem dX7_ask_12 : decode cX7_ask 12 = .ok (.iconst (-1), 1) := by decide +kernel
theorem dX7_ask_13 : decode cX7_ask 13 = .ok (.ireturn, 1) := by decide +kernel
theorem dX7_ask_14 : decode cX7_ask 14 = .ok (.aload_n 0, 1) := by decide +kernel
theorem dX7_ask_15 : decode cX7_ask 15 = .ok (.invokevirtual 76, 3) := by decide +kernel
theorem dX7_ask_18 : decode cX7_ask 18 = .ok (.aload_n 0, 1) := by decide +kernel
theorem dX7_ask_19 : decode cX7_ask 19 = .ok (.iload_n 1, 1) := by decide +kernel
theorem dX7_ask_20 : decode cX7_ask 20 = .ok (.invokevirtual 185, 3) := by decide +kernel
theorem dX7_ask_23 : decode cX7_ask 23 = .ok (.istore_n 2, 1) := by decide +kernel
theorem dX7_ask_24 : decode cX7_ask 24 = .ok (.iload_n 2, 1) := by decide +kernel
theorem dX7_ask_25 : decode cX7_ask 25 = .ok (.ifCond .ne 6, 3) := by decide +kernel
theorem dX7_ask_28 : decode cX7_ask 28 = .ok (.bipush (-2), 2) := by decide +kernel
theorem dX7_ask_30 : decode cX7_ask 30 = .ok (.ireturn, 1) := by decide +kernel
theorem dX7_ask_31 : decode cX7_ask 31 = .ok (.bipush (-9), 2) := by decide +kernel
theorem dX7_ask_33 : decode cX7_ask 33 = .ok (.istore_n 3, 1) := by decide +kernel
theorem dX7_ask_34 : decode cX7_ask 34 = .ok (.iconst 0, 1) := by decide +kernel
theorem dX7_ask_35 : decode cX7_ask 35 = .ok (.istore 4, 2) := by decide +kernel
theorem dX7_ask_37 : decode cX7_ask 37 = .ok (.iconst 0, 1) := by decide +kernel
theorem dX7_ask_38 : decode cX7_ask 38 = .ok (.istore 5, 2) := by decide +kernel
theorem dX7_ask_40 : decode cX7_ask 40 = .ok (.iload 5, 2) := by decide +kernel
theorem dX7_ask_42 : decode cX7_ask 42 = .ok (.bipush 10, 2) := by decide +kernel
theorem dX7_ask_44 : decode cX7_ask 44 = .ok (.if_icmp .ge 61, 3) := by decide +kernel
theorem dX7_ask_47 : decode cX7_ask 47 = .ok (.aload_n 0, 1) := by decide +kernel
theorem dX7_ask_48 : decode cX7_ask 48 = .ok (.iload_n 1, 1) := by decide +kernel
theorem dX7_ask_49 : decode cX7_ask 49 = .ok (.iconst 1, 1) := by decide +kernel
theorem dX7_ask_50 : decode cX7_ask 50 = .ok (.iload 5, 2) := by decide +kernel
theorem dX7_ask_52 : decode cX7_ask 52 = .ok (.ishl, 1) := by decide +kernel
theorem dX7_ask_53 : decode cX7_ask 53 = .ok (.ior, 1) := by decide +kernel
theorem dX7_ask_54 : decode cX7_ask 54 = .ok (.invokevirtual 185, 3) := by decide +kernel
theorem dX7_ask_57 : decode cX7_ask 57 = .ok (.istore 6, 2) := by decide +kernel
theorem dX7_ask_59 : decode cX7_ask 59 = .ok (.iload 6, 2) := by decide +kernel
theorem dX7_ask_61 : decode cX7_ask 61 = .ok (.iload_n 2, 1) := by decide +kernel
theorem dX7_ask_62 : decode cX7_ask 62 = .ok (.iload 6, 2) := by decide +kernel
theorem dX7_ask_64 : decode cX7_ask 64 = .ok (.isub, 1) := by decide +kernel
theorem dX7_ask_65 : decode cX7_ask 65 = .ok (.if_icmp .le 8, 3) := by decide +kernel
theorem dX7_ask_68 : decode cX7_ask 68 = .ok (.iload 6, 2) := by decide +kernel
theorem dX7_ask_70 : decode cX7_ask 70 = .ok (.goto 7, 3) := by decide +kernel
theorem dX7_ask_73 : decode cX7_ask 73 = .ok (.iload_n 2, 1) := by decide +kernel
theorem dX7_ask_74 : decode cX7_ask 74 = .ok (.iload 6, 2) := by decide +kernel
theorem dX7_ask_76 : decode cX7_ask 76 = .ok (.isub, 1) := by decide +kernel
theorem dX7_ask_77 : decode cX7_ask 77 = .ok (.istore 7, 2) := by decide +kernel
theorem dX7_ask_79 : decode cX7_ask 79 = .ok (.iload_n 3, 1) := by decide +kernel
theorem dX7_ask_80 : decode cX7_ask 80 = .ok (.bipush (-9), 2) := by decide +kernel
theorem dX7_ask_82 : decode cX7_ask 82 = .ok (.if_icmp .eq 10, 3) := by decide +kernel
theorem dX7_ask_85 : decode cX7_ask 85 = .ok (.iload 7, 2) := by decide +kernel
theorem dX7_ask_87 : decode cX7_ask 87 = .ok (.iload 4, 2) := by decide +kernel
theorem dX7_ask_89 : decode cX7_ask 89 = .ok (.if_icmp .ge 10, 3) := by decide +kernel
theorem dX7_ask_92 : decode cX7_ask 92 = .ok (.iload 5, 2) := by decide +kernel
theorem dX7_ask_94 : decode cX7_ask 94 = .ok (.istore_n 3, 1) := by decide +kernel
theorem dX7_ask_95 : decode cX7_ask 95 = .ok (.iload 7, 2) := by decide +kernel
theorem dX7_ask_97 : decode cX7_ask 97 = .ok (.istore 4, 2) := by decide +kernel
theorem dX7_ask_99 : decode cX7_ask 99 = .ok (.iinc 5 1, 3) := by decide +kernel
theorem dX7_ask_102 : decode cX7_ask 102 = .ok (.goto (-62), 3) := by decide +kernel
theorem dX7_ask_105 : decode cX7_ask 105 = .ok (.iload_n 3, 1) := by decide +kernel
theorem dX7_ask_106 : decode cX7_ask 106 = .ok (.ireturn, 1) := by decide +kernel
theorem dX7_heaps_0 : decode cX7_heaps 0 = .ok (.aload_n 0, 1) := by decide +kernel
theorem dX7_heaps_1 : decode cX7_heaps 1 = .ok (.iconst 0, 1) := by decide +kernel
theorem dX7_heaps_2 : decode cX7_heaps 2 = .ok (.putfield 57, 3) := by decide +kernel
theorem dX7_heaps_5 : decode cX7_heaps 5 = .ok (.iload_n 1, 1) := by decide +kernel
theorem dX7_heaps_6 : decode cX7_heaps 6 = .ok (.invokestatic 182, 3) := by decide +kernel
theorem dX7_heaps_9 : decode cX7_heaps 9 = .ok (.ifCond .ne 5, 3) := by decide +kernel
theorem dX7_heaps_12 : decode cX7_heaps 12 = .ok (.iconst (-1), 1) := by decide +kernel
theorem dX7_heaps_13 : decode cX7_heaps 13 = .ok (.ireturn, 1) := by decide +kernel
theorem dX7_heaps_14 : decode cX7_heaps 14 = .ok (.aload_n 0, 1) := by decide +kernel
theorem dX7_heaps_15 : decode cX7_heaps 15 = .ok (.invokevirtual 76, 3) := by decide +kernel
theorem dX7_heaps_18 : decode cX7_heaps 18 = .ok (.iconst 0, 1) := by decide +kernel
theorem dX7_heaps_19 : decode cX7_heaps 19 = .ok (.istore_n 2, 1) := by decide +kernel
theorem dX7_heaps_20 : decode cX7_heaps 20 = .ok (.iconst 0, 1) := by decide +kernel
theorem dX7_heaps_21 : decode cX7_heaps 21 = .ok (.istore_n 3, 1) := by decide +kernel
theorem dX7_heaps_22 : decode cX7_heaps 22 = .ok (.iload_n 3, 1) := by decide +kernel
theorem dX7_heaps_23 : decode cX7_heaps 23 = .ok (.sipush 1024, 3) := by decide +kernel
theorem dX7_heaps_26 : decode cX7_heaps 26 = .ok (.if_icmp .ge 34, 3) := by decide +kernel
theorem dX7_heaps_29 : decode cX7_heaps 29 = .ok (.iload_n 2, 1) := by decide +kernel
theorem dX7_heaps_30 : decode cX7_heaps 30 = .ok (.aload_n 0, 1) := by decide +kernel
theorem dX7_heaps_31 : decode cX7_heaps 31 = .ok (.getfield 38, 3) := by decide +kernel
theorem dX7_heaps_34 : decode cX7_heaps 34 = .ok (.iload_n 3, 1) := by decide +kernel
theorem dX7_heaps_35 : decode cX7_heaps 35 = .ok (.iaload, 1) := by decide +kernel
theorem dX7_heaps_36 : decode cX7_heaps 36 = .ok (.ifCond .le 15, 3) := by decide +kernel
theorem dX7_heaps_39 : decode cX7_heaps 39 = .ok (.iload_n 1, 1) := by decide +kernel
theorem dX7_heaps_40 : decode cX7_heaps 40 = .ok (.iload_n 3, 1) := by decide +kernel
theorem dX7_heaps_41 : decode cX7_heaps 41 = .ok (.invokestatic 178, 3) := by decide +kernel
theorem dX7_heaps_44 : decode cX7_heaps 44 = .ok (.ifCond .eq 7, 3) := by decide +kernel
theorem dX7_heaps_47 : decode cX7_heaps 47 = .ok (.iconst 1, 1) := by decide +kernel
theorem dX7_heaps_48 : decode cX7_heaps 48 = .ok (.goto 4, 3) := by decide +kernel
theorem dX7_heaps_51 : decode cX7_heaps 51 = .ok (.iconst 0, 1) := by decide +kernel
theorem dX7_heaps_52 : decode cX7_heaps 52 = .ok (.iadd, 1) := by decide +kernel
theorem dX7_heaps_53 : decode cX7_heaps 53 = .ok (.istore_n 2, 1) := by decide +kernel
theorem dX7_heaps_54 : decode cX7_heaps 54 = .ok (.iinc 3 1, 3) := by decide +kernel
theorem dX7_heaps_57 : decode cX7_heaps 57 = .ok (.goto (-35), 3) := by decide +kernel
theorem dX7_heaps_60 : decode cX7_heaps 60 = .ok (.iload_n 2, 1) := by decide +kernel
theorem dX7_heaps_61 : decode cX7_heaps 61 = .ok (.ireturn, 1) := by decide +kernel
theorem dX7_twin_0 : decode cX7_twin 0 = .ok (.aload_n 0, 1) := by decide +kernel
theorem dX7_twin_1 : decode cX7_twin 1 = .ok (.iconst 0, 1) := by decide +kernel
theorem dX7_twin_2 : decode cX7_twin 2 = .ok (.putfield 57, 3) := by decide +kernel
theorem dX7_twin_5 : decode cX7_twin 5 = .ok (.iload_n 1, 1) := by decide +kernel
theorem dX7_twin_6 : decode cX7_twin 6 = .ok (.invokestatic 90, 3) := by decide +kernel
theorem dX7_twin_9 : decode cX7_twin 9 = .ok (.ifCond .ne 5, 3) := by decide +kernel
theorem dX7_twin_12 : decode cX7_twin 12 = .ok (.iconst (-1), 1) := by decide +kernel
theorem dX7_twin_13 : decode cX7_twin 13 = .ok (.ireturn, 1) := by decide +kernel
theorem dX7_twin_14 : decode cX7_twin 14 = .ok (.aload_n 0, 1) := by decide +kernel
theorem dX7_twin_15 : decode cX7_twin 15 = .ok (.invokevirtual 76, 3) := by decide +kernel
theorem dX7_twin_18 : decode cX7_twin 18 = .ok (.iconst 0, 1) := by decide +kernel
theorem dX7_twin_19 : decode cX7_twin 19 = .ok (.istore_n 2, 1) := by decide +kernel
theorem dX7_twin_20 : decode cX7_twin 20 = .ok (.iload_n 2, 1) := by decide +kernel
theorem dX7_twin_21 : decode cX7_twin 21 = .ok (.bipush 10, 2) := by decide +kernel
theorem dX7_twin_23 : decode cX7_twin 23 = .ok (.if_icmp .ge 78, 3) := by decide +kernel
theorem dX7_twin_26 : decode cX7_twin 26 = .ok (.iload_n 2, 1) := by decide +kernel
theorem dX7_twin_27 : decode cX7_twin 27 = .ok (.iload_n 1, 1) := by decide +kernel
theorem dX7_twin_28 : decode cX7_twin 28 = .ok (.if_icmp .eq 7, 3) := by decide +kernel
theorem dX7_twin_31 : decode cX7_twin 31 = .ok (.iconst 1, 1) := by decide +kernel
theorem dX7_twin_32 : decode cX7_twin 32 = .ok (.goto 4, 3) := by decide +kernel
theorem dX7_twin_35 : decode cX7_twin 35 = .ok (.iconst 0, 1) := by decide +kernel
theorem dX7_twin_36 : decode cX7_twin 36 = .ok (.istore_n 3, 1) := by decide +kernel
theorem dX7_twin_37 : decode cX7_twin 37 = .ok (.iconst 0, 1) := by decide +kernel
theorem dX7_twin_38 : decode cX7_twin 38 = .ok (.istore 4, 2) := by decide +kernel
theorem dX7_twin_40 : decode cX7_twin 40 = .ok (.iload 4, 2) := by decide +kernel
theorem dX7_twin_42 : decode cX7_twin 42 = .ok (.sipush 1024, 3) := by decide +kernel
theorem dX7_twin_45 : decode cX7_twin 45 = .ok (.if_icmp .ge 44, 3) := by decide +kernel
theorem dX7_twin_48 : decode cX7_twin 48 = .ok (.iload_n 3, 1) := by decide +kernel
theorem dX7_twin_49 : decode cX7_twin 49 = .ok (.ifCond .eq 40, 3) := by decide +kernel
theorem dX7_twin_52 : decode cX7_twin 52 = .ok (.aload_n 0, 1) := by decide +kernel
theorem dX7_twin_53 : decode cX7_twin 53 = .ok (.getfield 38, 3) := by decide +kernel
theorem dX7_twin_56 : decode cX7_twin 56 = .ok (.iload 4, 2) := by decide +kernel
theorem dX7_twin_58 : decode cX7_twin 58 = .ok (.iaload, 1) := by decide +kernel
theorem dX7_twin_59 : decode cX7_twin 59 = .ok (.ifCond .eq 18, 3) := by decide +kernel
theorem dX7_twin_62 : decode cX7_twin 62 = .ok (.iload 4, 2) := by decide +kernel
theorem dX7_twin_64 : decode cX7_twin 64 = .ok (.iload_n 1, 1) := by decide +kernel
theorem dX7_twin_65 : decode cX7_twin 65 = .ok (.ishr, 1) := by decide +kernel
theorem dX7_twin_66 : decode cX7_twin 66 = .ok (.iconst 1, 1) := by decide +kernel
theorem dX7_twin_67 : decode cX7_twin 67 = .ok (.iand, 1) := by decide +kernel
theorem dX7_twin_68 : decode cX7_twin 68 = .ok (.iload 4, 2) := by decide +kernel
theorem dX7_twin_70 : decode cX7_twin 70 = .ok (.iload_n 2, 1) := by decide +kernel
theorem dX7_twin_71 : decode cX7_twin 71 = .ok (.ishr, 1) := by decide +kernel
theorem dX7_twin_72 : decode cX7_twin 72 = .ok (.iconst 1, 1) := by decide +kernel
theorem dX7_twin_73 : decode cX7_twin 73 = .ok (.iand, 1) := by decide +kernel
theorem dX7_twin_74 : decode cX7_twin 74 = .ok (.if_icmp .ne 7, 3) := by decide +kernel
theorem dX7_twin_77 : decode cX7_twin 77 = .ok (.iconst 1, 1) := by decide +kernel
theorem dX7_twin_78 : decode cX7_twin 78 = .ok (.goto 4, 3) := by decide +kernel
theorem dX7_twin_81 : decode cX7_twin 81 = .ok (.iconst 0, 1) := by decide +kernel
theorem dX7_twin_82 : decode cX7_twin 82 = .ok (.istore_n 3, 1) := by decide +kernel
theorem dX7_twin_83 : decode cX7_twin 83 = .ok (.iinc 4 1, 3) := by decide +kernel
theorem dX7_twin_86 : decode cX7_twin 86 = .ok (.goto (-46), 3) := by decide +kernel
theorem dX7_twin_89 : decode cX7_twin 89 = .ok (.iload_n 3, 1) := by decide +kernel
theorem dX7_twin_90 : decode cX7_twin 90 = .ok (.ifCond .eq 5, 3) := by decide +kernel
theorem dX7_twin_93 : decode cX7_twin 93 = .ok (.iload_n 2, 1) := by decide +kernel
theorem dX7_twin_94 : decode cX7_twin 94 = .ok (.ireturn, 1) := by decide +kernel
theorem dX7_twin_95 : decode cX7_twin 95 = .ok (.iinc 2 1, 3) := by decide +kernel
theorem dX7_twin_98 : decode cX7_twin 98 = .ok (.goto (-78), 3) := by decide +kernel
theorem dX7_twin_101 : decode cX7_twin 101 = .ok (.bipush (-9), 2) := by decide +kernel
theorem dX7_twin_103 : decode cX7_twin 103 = .ok (.ireturn, 1) := by decide +kernel
theorem dX7_moods_0 : decode cX7_moods 0 = .ok (.aload_n 0, 1) := by decide +kernel
theorem dX7_moods_1 : decode cX7_moods 1 = .ok (.iconst 0, 1) := by decide +kernel
theorem dX7_moods_2 : decode cX7_moods 2 = .ok (.putfield 57, 3) := by decide +kernel
theorem dX7_moods_5 : decode cX7_moods 5 = .ok (.iload_n 1, 1) := by decide +kernel
theorem dX7_moods_6 : decode cX7_moods 6 = .ok (.iconst 0, 1) := by decide +kernel
theorem dX7_moods_7 : decode cX7_moods 7 = .ok (.sipush 511, 3) := by decide +kernel
theorem dX7_moods_10 : decode cX7_moods 10 = .ok (.invokestatic 72, 3) := by decide +kernel
theorem dX7_moods_13 : decode cX7_moods 13 = .ok (.ifCond .ne 5, 3) := by decide +kernel
theorem dX7_moods_16 : decode cX7_moods 16 = .ok (.iconst (-1), 1) := by decide +kernel
theorem dX7_moods_17 : decode cX7_moods 17 = .ok (.ireturn, 1) := by decide +kernel
theorem dX7_moods_18 : decode cX7_moods 18 = .ok (.aload_n 0, 1) := by decide +kernel
theorem dX7_moods_19 : decode cX7_moods 19 = .ok (.getfield 16, 3) := by decide +kernel
theorem dX7_moods_22 : decode cX7_moods 22 = .ok (.istore_n 2, 1) := by decide +kernel
theorem dX7_moods_23 : decode cX7_moods 23 = .ok (.aload_n 0, 1) := by decide +kernel
theorem dX7_moods_24 : decode cX7_moods 24 = .ok (.iload_n 1, 1) := by decide +kernel
theorem dX7_moods_25 : decode cX7_moods 25 = .ok (.putfield 16, 3) := by decide +kernel
theorem dX7_moods_28 : decode cX7_moods 28 = .ok (.iload_n 2, 1) := by decide +kernel
theorem dX7_moods_29 : decode cX7_moods 29 = .ok (.ireturn, 1) := by decide +kernel
theorem dX7_isBy_0 : decode cX7_isBy 0 = .ok (.aload_n 0, 1) := by decide +kernel
theorem dX7_isBy_1 : decode cX7_isBy 1 = .ok (.getfield 51, 3) := by decide +kernel
theorem dX7_isBy_4 : decode cX7_isBy 4 = .ok (.iload_n 1, 1) := by decide +kernel
theorem dX7_isBy_5 : decode cX7_isBy 5 = .ok (.iaload, 1) := by decide +kernel
theorem dX7_isBy_6 : decode cX7_isBy 6 = .ok (.bipush (-9), 2) := by decide +kernel
theorem dX7_isBy_8 : decode cX7_isBy 8 = .ok (.if_icmp .eq 17, 3) := by decide +kernel
theorem dX7_isBy_11 : decode cX7_isBy 11 = .ok (.aload_n 0, 1) := by decide +kernel
theorem dX7_isBy_12 : decode cX7_isBy 12 = .ok (.getfield 51, 3) := by decide +kernel
theorem dX7_isBy_15 : decode cX7_isBy 15 = .ok (.iload_n 1, 1) := by decide +kernel
theorem dX7_isBy_16 : decode cX7_isBy 16 = .ok (.iaload, 1) := by decide +kernel
theorem dX7_isBy_17 : decode cX7_isBy 17 = .ok (.iload_n 2, 1) := by decide +kernel
theorem dX7_isBy_18 : decode cX7_isBy 18 = .ok (.if_icmp .ge 7, 3) := by decide +kernel
theorem dX7_isBy_21 : decode cX7_isBy 21 = .ok (.iconst 1, 1) := by decide +kernel
theorem dX7_isBy_22 : decode cX7_isBy 22 = .ok (.goto 4, 3) := by decide +kernel
theorem dX7_isBy_25 : decode cX7_isBy 25 = .ok (.iconst 0, 1) := by decide +kernel
theorem dX7_isBy_26 : decode cX7_isBy 26 = .ok (.ireturn, 1) := by decide +kernel
theorem dX7_isShown_0 : decode cX7_isShown 0 = .ok (.aload_n 0, 1) := by decide +kernel
theorem dX7_isShown_1 : decode cX7_isShown 1 = .ok (.iload_n 1, 1) := by decide +kernel
theorem dX7_isShown_2 : decode cX7_isShown 2 = .ok (.putfield 198, 3) := by decide +kernel
theorem dX7_isShown_5 : decode cX7_isShown 5 = .ok (.aload_n 0, 1) := by decide +kernel
theorem dX7_isShown_6 : decode cX7_isShown 6 = .ok (.bipush (-9), 2) := by decide +kernel
theorem dX7_isShown_8 : decode cX7_isShown 8 = .ok (.putfield 201, 3) := by decide +kernel
theorem dX7_isShown_11 : decode cX7_isShown 11 = .ok (.aload_n 0, 1) := by decide +kernel
theorem dX7_isShown_12 : decode cX7_isShown 12 = .ok (.bipush (-9), 2) := by decide +kernel
theorem dX7_isShown_14 : decode cX7_isShown 14 = .ok (.putfield 204, 3) := by decide +kernel
theorem dX7_isShown_17 : decode cX7_isShown 17 = .ok (.iload_n 1, 1) := by decide +kernel
theorem dX7_isShown_18 : decode cX7_isShown 18 = .ok (.iconst 4, 1) := by decide +kernel
theorem dX7_isShown_19 : decode cX7_isShown 19 = .ok (.if_icmp .ne 20, 3) := by decide +kernel
theorem dX7_isShown_22 : decode cX7_isShown 22 = .ok (.iload_n 2, 1) := by decide +kernel
theorem dX7_isShown_23 : decode cX7_isShown 23 = .ok (.iconst 2, 1) := by decide +kernel
theorem dX7_isShown_24 : decode cX7_isShown 24 = .ok (.if_icmp .ne 15, 3) := by decide +kernel
theorem dX7_isShown_27 : decode cX7_isShown 27 = .ok (.bipush 32, 2) := by decide +kernel
theorem dX7_isShown_29 : decode cX7_isShown 29 = .ok (.iconst 4, 1) := by decide +kernel
theorem dX7_isShown_30 : decode cX7_isShown 30 = .ok (.iload 4, 2) := by decide +kernel
theorem dX7_isShown_32 : decode cX7_isShown 32 = .ok (.imul, 1) := by decide +kernel
theorem dX7_isShown_33 : decode cX7_isShown 33 = .ok (.iadd, 1) := by decide +kernel
theorem dX7_isShown_34 : decode cX7_isShown 34 = .ok (.iload_n 3, 1) := by decide +kernel
theorem dX7_isShown_35 : decode cX7_isShown 35 = .ok (.iadd, 1) := by decide +kernel
theorem dX7_isShown_36 : decode cX7_isShown 36 = .ok (.goto 47, 3) := by decide +kernel
theorem dX7_isShown_39 : decode cX7_isShown 39 = .ok (.iload_n 1, 1) := by decide +kernel
theorem dX7_isShown_40 : decode cX7_isShown 40 = .ok (.iconst 5, 1) := by decide +kernel
theorem dX7_isShown_41 : decode cX7_isShown 41 = .ok (.if_icmp .ne 20, 3) := by decide +kernel
theorem dX7_isShown_44 : decode cX7_isShown 44 = .ok (.iload_n 2, 1) := by decide +kernel
theorem dX7_isShown_45 : decode cX7_isShown 45 = .ok (.iconst 1, 1) := by decide +kernel
theorem dX7_isShown_46 : decode cX7_isShown 46 = .ok (.if_icmp .ne 15, 3) := by decide +kernel
theorem dX7_isShown_49 : decode cX7_isShown 49 = .ok (.bipush 16, 2) := by decide +kernel
theorem dX7_isShown_51 : decode cX7_isShown 51 = .ok (.iconst 4, 1) := by decide +kernel
theorem dX7_isShown_52 : decode cX7_isShown 52 = .ok (.iload 4, 2) := by decide +kernel
theorem dX7_isShown_54 : decode cX7_isShown 54 = .ok (.imul, 1) := by decide +kernel
theorem dX7_isShown_55 : decode cX7_isShown 55 = .ok (.iadd, 1) := by decide +kernel
theorem dX7_isShown_56 : decode cX7_isShown 56 = .ok (.iload_n 3, 1) := by decide +kernel
theorem dX7_isShown_57 : decode cX7_isShown 57 = .ok (.iadd, 1) := by decide +kernel
theorem dX7_isShown_58 : decode cX7_isShown 58 = .ok (.goto 25, 3) := by decide +kernel
theorem dX7_isShown_61 : decode cX7_isShown 61 = .ok (.iload_n 1, 1) := by decide +kernel
theorem dX7_isShown_62 : decode cX7_isShown 62 = .ok (.bipush 8, 2) := by decide +kernel
theorem dX7_isShown_64 : decode cX7_isShown 64 = .ok (.if_icmp .ne 17, 3) := by decide +kernel
theorem dX7_isShown_67 : decode cX7_isShown 67 = .ok (.iload_n 2, 1) := by decide +kernel
theorem dX7_isShown_68 : decode cX7_isShown 68 = .ok (.iconst 1, 1) := by decide +kernel
theorem dX7_isShown_69 : decode cX7_isShown 69 = .ok (.if_icmp .ne 12, 3) := by decide +kernel
theorem dX7_isShown_72 : decode cX7_isShown 72 = .ok (.iconst 4, 1) := by decide +kernel
theorem dX7_isShown_73 : decode cX7_isShown 73 = .ok (.iload_n 3, 1) := by decide +kernel
theorem dX7_isShown_74 : decode cX7_isShown 74 = .ok (.imul, 1) := by decide +kernel
theorem dX7_isShown_75 : decode cX7_isShown 75 = .ok (.iload 4, 2) := by decide +kernel
theorem dX7_isShown_77 : decode cX7_isShown 77 = .ok (.iadd, 1) := by decide +kernel
theorem dX7_isShown_78 : decode cX7_isShown 78 = .ok (.goto 5, 3) := by decide +kernel
theorem dX7_isShown_81 : decode cX7_isShown 81 = .ok (.bipush (-9), 2) := by decide +kernel
theorem dX7_isShown_83 : decode cX7_isShown 83 = .ok (.istore 6, 2) := by decide +kernel
theorem dX7_isShown_85 : decode cX7_isShown 85 = .ok (.iload 6, 2) := by decide +kernel
theorem dX7_isShown_87 : decode cX7_isShown 87 = .ok (.bipush (-9), 2) := by decide +kernel
theorem dX7_isShown_89 : decode cX7_isShown 89 = .ok (.if_icmp .eq 18, 3) := by decide +kernel
theorem dX7_isShown_92 : decode cX7_isShown 92 = .ok (.aload_n 0, 1) := by decide +kernel
theorem dX7_isShown_93 : decode cX7_isShown 93 = .ok (.iload 6, 2) := by decide +kernel
theorem dX7_isShown_95 : decode cX7_isShown 95 = .ok (.putfield 201, 3) := by decide +kernel
theorem dX7_isShown_98 : decode cX7_isShown 98 = .ok (.aload_n 0, 1) := by decide +kernel
theorem dX7_isShown_99 : decode cX7_isShown 99 = .ok (.iload 6, 2) := by decide +kernel
theorem dX7_isShown_101 : decode cX7_isShown 101 = .ok (.iload 5, 2) := by decide +kernel
theorem dX7_isShown_103 : decode cX7_isShown 103 = .ok (.invokevirtual 207, 3) := by decide +kernel
theorem dX7_isShown_106 : decode cX7_isShown 106 = .ok (.ireturn, 1) := by decide +kernel
theorem dX7_isShown_107 : decode cX7_isShown 107 = .ok (.iload_n 1, 1) := by decide +kernel
theorem dX7_isShown_108 : decode cX7_isShown 108 = .ok (.ifCond .ne 7, 3) := by decide +kernel
theorem dX7_isShown_111 : decode cX7_isShown 111 = .ok (.iload_n 2, 1) := by decide +kernel
theorem dX7_isShown_112 : decode cX7_isShown 112 = .ok (.ifCond .eq 44, 3) := by decide +kernel
theorem dX7_isShown_115 : decode cX7_isShown 115 = .ok (.iload_n 1, 1) := by decide +kernel
theorem dX7_isShown_116 : decode cX7_isShown 116 = .ok (.iconst 1, 1) := by decide +kernel
theorem dX7_isShown_117 : decode cX7_isShown 117 = .ok (.if_icmp .ne 8, 3) := by decide +kernel
theorem dX7_isShown_120 : decode cX7_isShown 120 = .ok (.iload_n 2, 1) := by decide +kernel
theorem dX7_isShown_121 : decode cX7_isShown 121 = .ok (.iconst 2, 1) := by decide +kernel
theorem dX7_isShown_122 : decode cX7_isShown 122 = .ok (.if_icmp .eq 34, 3) := by decide +kernel
theorem dX7_isShown_125 : decode cX7_isShown 125 = .ok (.iload_n 1, 1) := by decide +kernel
theorem dX7_isShown_126 : decode cX7_isShown 126 = .ok (.iconst 2, 1) := by decide +kernel
theorem dX7_isShown_127 : decode cX7_isShown 127 = .ok (.if_icmp .ne 8, 3) := by decide +kernel
theorem dX7_isShown_130 : decode cX7_isShown 130 = .ok (.iload_n 2, 1) := by decide +kernel
theorem dX7_isShown_131 : decode cX7_isShown 131 = .ok (.iconst 1, 1) := by decide +kernel
theorem dX7_isShown_132 : decode cX7_isShown 132 = .ok (.if_icmp .eq 24, 3) := by decide +kernel
theorem dX7_isShown_135 : decode cX7_isShown 135 = .ok (.iload_n 1, 1) := by decide +kernel
theorem dX7_isShown_136 : decode cX7_isShown 136 = .ok (.iconst 3, 1) := by decide +kernel
theorem dX7_isShown_137 : decode cX7_isShown 137 = .ok (.if_icmp .ne 8, 3) := by decide +kernel
