theorem dX4_takeNumber_35 : decode cX4_takeNumber 35 = .ok (.getfield 21, 3) := by decide +kernel
theorem dX4_takeNumber_38 : decode cX4_takeNumber 38 = .ok (.invokevirtual 30, 3) := by decide +kernel
theorem dX4_takeNumber_41 : decode cX4_takeNumber 41 = .ok (.iadd, 1) := by decide +kernel
theorem dX4_takeNumber_42 : decode cX4_takeNumber 42 = .ok (.bipush 48, 2) := by decide +kernel
theorem dX4_takeNumber_44 : decode cX4_takeNumber 44 = .ok (.isub, 1) := by decide +kernel
theorem dX4_takeNumber_45 : decode cX4_takeNumber 45 = .ok (.sipush 1000, 3) := by decide +kernel
theorem dX4_takeNumber_48 : decode cX4_takeNumber 48 = .ok (.invokestatic 64, 3) := by decide +kernel
theorem dX4_takeNumber_51 : decode cX4_takeNumber 51 = .ok (.putfield 37, 3) := by decide +kernel
theorem dX4_takeNumber_54 : decode cX4_takeNumber 54 = .ok (.aload_n 0, 1) := by decide +kernel
theorem dX4_takeNumber_55 : decode cX4_takeNumber 55 = .ok (.dup, 1) := by decide +kernel
theorem dX4_takeNumber_56 : decode cX4_takeNumber 56 = .ok (.getfield 21, 3) := by decide +kernel
theorem dX4_takeNumber_59 : decode cX4_takeNumber 59 = .ok (.iconst 1, 1) := by decide +kernel
theorem dX4_takeNumber_60 : decode cX4_takeNumber 60 = .ok (.iadd, 1) := by decide +kernel
theorem dX4_takeNumber_61 : decode cX4_takeNumber 61 = .ok (.putfield 21, 3) := by decide +kernel
theorem dX4_takeNumber_64 : decode cX4_takeNumber 64 = .ok (.goto (-64), 3) := by decide +kernel
theorem dX4_takeNumber_67 : decode cX4_takeNumber 67 = .ok (.aload_n 0, 1) := by decide +kernel
theorem dX4_takeNumber_68 : decode cX4_takeNumber 68 = .ok (.aload_n 0, 1) := by decide +kernel
theorem dX4_takeNumber_69 : decode cX4_takeNumber 69 = .ok (.getfield 34, 3) := by decide +kernel
theorem dX4_takeNumber_72 : decode cX4_takeNumber 72 = .ok (.invokevirtual 30, 3) := by decide +kernel
theorem dX4_takeNumber_75 : decode cX4_takeNumber 75 = .ok (.bipush 48, 2) := by decide +kernel
theorem dX4_takeNumber_77 : decode cX4_takeNumber 77 = .ok (.if_icmp .ne 20, 3) := by decide +kernel
theorem dX4_takeNumber_80 : decode cX4_takeNumber 80 = .ok (.aload_n 0, 1) := by decide +kernel
theorem dX4_takeNumber_81 : decode cX4_takeNumber 81 = .ok (.getfield 21, 3) := by decide +kernel
theorem dX4_takeNumber_84 : decode cX4_takeNumber 84 = .ok (.aload_n 0, 1) := by decide +kernel
theorem dX4_takeNumber_85 : decode cX4_takeNumber 85 = .ok (.getfield 34, 3) := by decide +kernel
theorem dX4_takeNumber_88 : decode cX4_takeNumber 88 = .ok (.isub, 1) := by decide +kernel
theorem dX4_takeNumber_89 : decode cX4_takeNumber 89 = .ok (.iconst 1, 1) := by decide +kernel
theorem dX4_takeNumber_90 : decode cX4_takeNumber 90 = .ok (.if_icmp .le 7, 3) := by decide +kernel
theorem dX4_takeNumber_93 : decode cX4_takeNumber 93 = .ok (.iconst 1, 1) := by decide +kernel
theorem dX4_takeNumber_94 : decode cX4_takeNumber 94 = .ok (.goto 4, 3) := by decide +kernel
theorem dX4_takeNumber_97 : decode cX4_takeNumber 97 = .ok (.iconst 0, 1) := by decide +kernel
theorem dX4_takeNumber_98 : decode cX4_takeNumber 98 = .ok (.istore_n 1, 1) := by decide +kernel
theorem dX4_takeNumber_99 : decode cX4_takeNumber 99 = .ok (.aload_n 0, 1) := by decide +kernel
theorem dX4_takeNumber_100 : decode cX4_takeNumber 100 = .ok (.iload_n 1, 1) := by decide +kernel
theorem dX4_takeNumber_101 : decode cX4_takeNumber 101 = .ok (.ifCond .eq 7, 3) := by decide +kernel
theorem dX4_takeNumber_104 : decode cX4_takeNumber 104 = .ok (.iconst 1, 1) := by decide +kernel
theorem dX4_takeNumber_105 : decode cX4_takeNumber 105 = .ok (.goto 4, 3) := by decide +kernel
theorem dX4_takeNumber_108 : decode cX4_takeNumber 108 = .ok (.iconst 3, 1) := by decide +kernel
theorem dX4_takeNumber_109 : decode cX4_takeNumber 109 = .ok (.putfield 40, 3) := by decide +kernel
theorem dX4_takeNumber_112 : decode cX4_takeNumber 112 = .ok (.return_, 1) := by decide +kernel
theorem dX4_takeSign_0 : decode cX4_takeSign 0 = .ok (.aload_n 0, 1) := by decide +kernel
theorem dX4_takeSign_1 : decode cX4_takeSign 1 = .ok (.dup, 1) := by decide +kernel
theorem dX4_takeSign_2 : decode cX4_takeSign 2 = .ok (.getfield 21, 3) := by decide +kernel
theorem dX4_takeSign_5 : decode cX4_takeSign 5 = .ok (.iconst 1, 1) := by decide +kernel
theorem dX4_takeSign_6 : decode cX4_takeSign 6 = .ok (.iadd, 1) := by decide +kernel
theorem dX4_takeSign_7 : decode cX4_takeSign 7 = .ok (.putfield 21, 3) := by decide +kernel
theorem dX4_takeSign_10 : decode cX4_takeSign 10 = .ok (.iload_n 1, 1) := by decide +kernel
theorem dX4_takeSign_11 : decode cX4_takeSign 11 = .ok (.bipush 65, 2) := by decide +kernel
theorem dX4_takeSign_13 : decode cX4_takeSign 13 = .ok (.if_icmp .lt 25, 3) := by decide +kernel
theorem dX4_takeSign_16 : decode cX4_takeSign 16 = .ok (.iload_n 1, 1) := by decide +kernel
theorem dX4_takeSign_17 : decode cX4_takeSign 17 = .ok (.bipush 69, 2) := by decide +kernel
theorem dX4_takeSign_19 : decode cX4_takeSign 19 = .ok (.if_icmp .ge 19, 3) := by decide +kernel
theorem dX4_takeSign_22 : decode cX4_takeSign 22 = .ok (.aload_n 0, 1) := by decide +kernel
theorem dX4_takeSign_23 : decode cX4_takeSign 23 = .ok (.iconst 4, 1) := by decide +kernel
theorem dX4_takeSign_24 : decode cX4_takeSign 24 = .ok (.putfield 40, 3) := by decide +kernel
theorem dX4_takeSign_27 : decode cX4_takeSign 27 = .ok (.aload_n 0, 1) := by decide +kernel
theorem dX4_takeSign_28 : decode cX4_takeSign 28 = .ok (.iload_n 1, 1) := by decide +kernel
theorem dX4_takeSign_29 : decode cX4_takeSign 29 = .ok (.bipush 65, 2) := by decide +kernel
theorem dX4_takeSign_31 : decode cX4_takeSign 31 = .ok (.isub, 1) := by decide +kernel
theorem dX4_takeSign_32 : decode cX4_takeSign 32 = .ok (.putfield 37, 3) := by decide +kernel
theorem dX4_takeSign_35 : decode cX4_takeSign 35 = .ok (.goto 52, 3) := by decide +kernel
theorem dX4_takeSign_38 : decode cX4_takeSign 38 = .ok (.iload_n 1, 1) := by decide +kernel
theorem dX4_takeSign_39 : decode cX4_takeSign 39 = .ok (.bipush 58, 2) := by decide +kernel
theorem dX4_takeSign_41 : decode cX4_takeSign 41 = .ok (.if_icmp .eq 33, 3) := by decide +kernel
theorem dX4_takeSign_44 : decode cX4_takeSign 44 = .ok (.iload_n 1, 1) := by decide +kernel
theorem dX4_takeSign_45 : decode cX4_takeSign 45 = .ok (.bipush 124, 2) := by decide +kernel
theorem dX4_takeSign_47 : decode cX4_takeSign 47 = .ok (.if_icmp .eq 27, 3) := by decide +kernel
theorem dX4_takeSign_50 : decode cX4_takeSign 50 = .ok (.iload_n 1, 1) := by decide +kernel
theorem dX4_takeSign_51 : decode cX4_takeSign 51 = .ok (.bipush 38, 2) := by decide +kernel
theorem dX4_takeSign_53 : decode cX4_takeSign 53 = .ok (.if_icmp .eq 21, 3) := by decide +kernel
theorem dX4_takeSign_56 : decode cX4_takeSign 56 = .ok (.iload_n 1, 1) := by decide +kernel
theorem dX4_takeSign_57 : decode cX4_takeSign 57 = .ok (.bipush 33, 2) := by decide +kernel
theorem dX4_takeSign_59 : decode cX4_takeSign 59 = .ok (.if_icmp .eq 15, 3) := by decide +kernel
theorem dX4_takeSign_62 : decode cX4_takeSign 62 = .ok (.iload_n 1, 1) := by decide +kernel
theorem dX4_takeSign_63 : decode cX4_takeSign 63 = .ok (.bipush 40, 2) := by decide +kernel
theorem dX4_takeSign_65 : decode cX4_takeSign 65 = .ok (.if_icmp .eq 9, 3) := by decide +kernel
theorem dX4_takeSign_68 : decode cX4_takeSign 68 = .ok (.iload_n 1, 1) := by decide +kernel
theorem dX4_takeSign_69 : decode cX4_takeSign 69 = .ok (.bipush 41, 2) := by decide +kernel
theorem dX4_takeSign_71 : decode cX4_takeSign 71 = .ok (.if_icmp .ne 11, 3) := by decide +kernel
theorem dX4_takeSign_74 : decode cX4_takeSign 74 = .ok (.aload_n 0, 1) := by decide +kernel
theorem dX4_takeSign_75 : decode cX4_takeSign 75 = .ok (.iload_n 1, 1) := by decide +kernel
theorem dX4_takeSign_76 : decode cX4_takeSign 76 = .ok (.putfield 40, 3) := by decide +kernel
theorem dX4_takeSign_79 : decode cX4_takeSign 79 = .ok (.goto 8, 3) := by decide +kernel
theorem dX4_takeSign_82 : decode cX4_takeSign 82 = .ok (.aload_n 0, 1) := by decide +kernel
theorem dX4_takeSign_83 : decode cX4_takeSign 83 = .ok (.iconst 1, 1) := by decide +kernel
theorem dX4_takeSign_84 : decode cX4_takeSign 84 = .ok (.putfield 40, 3) := by decide +kernel
theorem dX4_takeSign_87 : decode cX4_takeSign 87 = .ok (.return_, 1) := by decide +kernel
theorem dX4_byteAt_0 : decode cX4_byteAt 0 = .ok (.iload_n 1, 1) := by decide +kernel
theorem dX4_byteAt_1 : decode cX4_byteAt 1 = .ok (.ifCond .lt 29, 3) := by decide +kernel
theorem dX4_byteAt_4 : decode cX4_byteAt 4 = .ok (.iload_n 1, 1) := by decide +kernel
theorem dX4_byteAt_5 : decode cX4_byteAt 5 = .ok (.aload_n 0, 1) := by decide +kernel
theorem dX4_byteAt_6 : decode cX4_byteAt 6 = .ok (.getfield 15, 3) := by decide +kernel
theorem dX4_byteAt_9 : decode cX4_byteAt 9 = .ok (.if_icmp .ge 21, 3) := by decide +kernel
theorem dX4_byteAt_12 : decode cX4_byteAt 12 = .ok (.iload_n 1, 1) := by decide +kernel
theorem dX4_byteAt_13 : decode cX4_byteAt 13 = .ok (.aload_n 0, 1) := by decide +kernel
theorem dX4_byteAt_14 : decode cX4_byteAt 14 = .ok (.getfield 9, 3) := by decide +kernel
theorem dX4_byteAt_17 : decode cX4_byteAt 17 = .ok (.arraylength, 1) := by decide +kernel
theorem dX4_byteAt_18 : decode cX4_byteAt 18 = .ok (.if_icmp .ge 12, 3) := by decide +kernel
theorem dX4_byteAt_21 : decode cX4_byteAt 21 = .ok (.aload_n 0, 1) := by decide +kernel
theorem dX4_byteAt_22 : decode cX4_byteAt 22 = .ok (.getfield 9, 3) := by decide +kernel
theorem dX4_byteAt_25 : decode cX4_byteAt 25 = .ok (.iload_n 1, 1) := by decide +kernel
theorem dX4_byteAt_26 : decode cX4_byteAt 26 = .ok (.caload, 1) := by decide +kernel
theorem dX4_byteAt_27 : decode cX4_byteAt 27 = .ok (.goto 4, 3) := by decide +kernel
theorem dX4_byteAt_30 : decode cX4_byteAt 30 = .ok (.iconst (-1), 1) := by decide +kernel
theorem dX4_byteAt_31 : decode cX4_byteAt 31 = .ok (.ireturn, 1) := by decide +kernel
theorem dX4_isLetter_0 : decode cX4_isLetter 0 = .ok (.iload_n 0, 1) := by decide +kernel
theorem dX4_isLetter_1 : decode cX4_isLetter 1 = .ok (.bipush 97, 2) := by decide +kernel
theorem dX4_isLetter_3 : decode cX4_isLetter 3 = .ok (.if_icmp .lt 13, 3) := by decide +kernel
theorem dX4_isLetter_6 : decode cX4_isLetter 6 = .ok (.iload_n 0, 1) := by decide +kernel
theorem dX4_isLetter_7 : decode cX4_isLetter 7 = .ok (.bipush 122, 2) := by decide +kernel
theorem dX4_isLetter_9 : decode cX4_isLetter 9 = .ok (.if_icmp .gt 7, 3) := by decide +kernel
theorem dX4_isLetter_12 : decode cX4_isLetter 12 = .ok (.iconst 1, 1) := by decide +kernel
theorem dX4_isLetter_13 : decode cX4_isLetter 13 = .ok (.goto 4, 3) := by decide +kernel
theorem dX4_isLetter_16 : decode cX4_isLetter 16 = .ok (.iconst 0, 1) := by decide +kernel
theorem dX4_isLetter_17 : decode cX4_isLetter 17 = .ok (.ireturn, 1) := by decide +kernel
theorem dX4_isFigure_0 : decode cX4_isFigure 0 = .ok (.iload_n 0, 1) := by decide +kernel
theorem dX4_isFigure_1 : decode cX4_isFigure 1 = .ok (.bipush 48, 2) := by decide +kernel
theorem dX4_isFigure_3 : decode cX4_isFigure 3 = .ok (.if_icmp .lt 13, 3) := by decide +kernel
theorem dX4_isFigure_6 : decode cX4_isFigure 6 = .ok (.iload_n 0, 1) := by decide +kernel
theorem dX4_isFigure_7 : decode cX4_isFigure 7 = .ok (.bipush 57, 2) := by decide +kernel
theorem dX4_isFigure_9 : decode cX4_isFigure 9 = .ok (.if_icmp .gt 7, 3) := by decide +kernel
theorem dX4_isFigure_12 : decode cX4_isFigure 12 = .ok (.iconst 1, 1) := by decide +kernel
theorem dX4_isFigure_13 : decode cX4_isFigure 13 = .ok (.goto 4, 3) := by decide +kernel
theorem dX4_isFigure_16 : decode cX4_isFigure 16 = .ok (.iconst 0, 1) := by decide +kernel
theorem dX4_isFigure_17 : decode cX4_isFigure 17 = .ok (.ireturn, 1) := by decide +kernel
theorem dX5_init_0 : decode cX5_init 0 = .ok (.aload_n 0, 1) := by decide +kernel
theorem dX5_init_1 : decode cX5_init 1 = .ok (.invokespecial 3, 3) := by decide +kernel
theorem dX5_init_4 : decode cX5_init 4 = .ok (.aload_n 0, 1) := by decide +kernel
theorem dX5_init_5 : decode cX5_init 5 = .ok (.bipush 6, 2) := by decide +kernel
theorem dX5_init_7 : decode cX5_init 7 = .ok (.newarray .int, 2) := by decide +kernel
theorem dX5_init_9 : decode cX5_init 9 = .ok (.putfield 9, 3) := by decide +kernel
theorem dX5_init_12 : decode cX5_init 12 = .ok (.aload_n 0, 1) := by decide +kernel
theorem dX5_init_13 : decode cX5_init 13 = .ok (.bipush 16, 2) := by decide +kernel
theorem dX5_init_15 : decode cX5_init 15 = .ok (.newarray .int, 2) := by decide +kernel
theorem dX5_init_17 : decode cX5_init 17 = .ok (.putfield 15, 3) := by decide +kernel
theorem dX5_init_20 : decode cX5_init 20 = .ok (.aload_n 0, 1) := by decide +kernel
theorem dX5_init_21 : decode cX5_init 21 = .ok (.bipush 7, 2) := by decide +kernel
theorem dX5_init_23 : decode cX5_init 23 = .ok (.newarray .int, 2) := by decide +kernel
theorem dX5_init_25 : decode cX5_init 25 = .ok (.putfield 18, 3) := by decide +kernel
theorem dX5_init_28 : decode cX5_init 28 = .ok (.return_, 1) := by decide +kernel
theorem dX5_begin_0 : decode cX5_begin 0 = .ok (.iconst 0, 1) := by decide +kernel
theorem dX5_begin_1 : decode cX5_begin 1 = .ok (.istore 4, 2) := by decide +kernel
theorem dX5_begin_3 : decode cX5_begin 3 = .ok (.iload 4, 2) := by decide +kernel
theorem dX5_begin_5 : decode cX5_begin 5 = .ok (.aload_n 0, 1) := by decide +kernel
theorem dX5_begin_6 : decode cX5_begin 6 = .ok (.getfield 15, 3) := by decide +kernel
theorem dX5_begin_9 : decode cX5_begin 9 = .ok (.arraylength, 1) := by decide +kernel
theorem dX5_begin_10 : decode cX5_begin 10 = .ok (.if_icmp .ge 30, 3) := by decide +kernel
theorem dX5_begin_13 : decode cX5_begin 13 = .ok (.aload_n 0, 1) := by decide +kernel
theorem dX5_begin_14 : decode cX5_begin 14 = .ok (.getfield 15, 3) := by decide +kernel
theorem dX5_begin_17 : decode cX5_begin 17 = .ok (.iload 4, 2) := by decide +kernel
theorem dX5_begin_19 : decode cX5_begin 19 = .ok (.aload_n 3, 1) := by decide +kernel
theorem dX5_begin_20 : decode cX5_begin 20 = .ok (.ifnonnull 7, 3) := by decide +kernel
theorem dX5_begin_23 : decode cX5_begin 23 = .ok (.iconst 0, 1) := by decide +kernel
theorem dX5_begin_24 : decode cX5_begin 24 = .ok (.goto 9, 3) := by decide +kernel
theorem dX5_begin_27 : decode cX5_begin 27 = .ok (.aload_n 3, 1) := by decide +kernel
theorem dX5_begin_28 : decode cX5_begin 28 = .ok (.iload 4, 2) := by decide +kernel
theorem dX5_begin_30 : decode cX5_begin 30 = .ok (.invokevirtual 21, 3) := by decide +kernel
theorem dX5_begin_33 : decode cX5_begin 33 = .ok (.iastore, 1) := by decide +kernel
theorem dX5_begin_34 : decode cX5_begin 34 = .ok (.iinc 4 1, 3) := by decide +kernel
theorem dX5_begin_37 : decode cX5_begin 37 = .ok (.goto (-34), 3) := by decide +kernel
theorem dX5_begin_40 : decode cX5_begin 40 = .ok (.aload_n 0, 1) := by decide +kernel
theorem dX5_begin_41 : decode cX5_begin 41 = .ok (.iload_n 1, 1) := by decide +kernel
theorem dX5_begin_42 : decode cX5_begin 42 = .ok (.aload_n 0, 1) := by decide +kernel
theorem dX5_begin_43 : decode cX5_begin 43 = .ok (.getfield 15, 3) := by decide +kernel
theorem dX5_begin_46 : decode cX5_begin 46 = .ok (.arraylength, 1) := by decide +kernel
theorem dX5_begin_47 : decode cX5_begin 47 = .ok (.invokestatic 27, 3) := by decide +kernel
theorem dX5_begin_50 : decode cX5_begin 50 = .ok (.putfield 33, 3) := by decide +kernel
theorem dX5_begin_53 : decode cX5_begin 53 = .ok (.aload_n 0, 1) := by decide +kernel
theorem dX5_begin_54 : decode cX5_begin 54 = .ok (.iload_n 2, 1) := by decide +kernel
theorem dX5_begin_55 : decode cX5_begin 55 = .ok (.aload_n 0, 1) := by decide +kernel
theorem dX5_begin_56 : decode cX5_begin 56 = .ok (.getfield 9, 3) := by decide +kernel
theorem dX5_begin_59 : decode cX5_begin 59 = .ok (.arraylength, 1) := by decide +kernel
theorem dX5_begin_60 : decode cX5_begin 60 = .ok (.invokestatic 27, 3) := by decide +kernel
theorem dX5_begin_63 : decode cX5_begin 63 = .ok (.putfield 37, 3) := by decide +kernel
theorem dX5_begin_66 : decode cX5_begin 66 = .ok (.aload_n 0, 1) := by decide +kernel
theorem dX5_begin_67 : decode cX5_begin 67 = .ok (.iconst 0, 1) := by decide +kernel
theorem dX5_begin_68 : decode cX5_begin 68 = .ok (.putfield 40, 3) := by decide +kernel
theorem dX5_begin_71 : decode cX5_begin 71 = .ok (.return_, 1) := by decide +kernel
theorem dX5_advance_0 : decode cX5_advance 0 = .ok (.aload_n 0, 1) := by decide +kernel
theorem dX5_advance_1 : decode cX5_advance 1 = .ok (.getfield 40, 3) := by decide +kernel
theorem dX5_advance_4 : decode cX5_advance 4 = .ok (.iconst 1, 1) := by decide +kernel
theorem dX5_advance_5 : decode cX5_advance 5 = .ok (.isub, 1) := by decide +kernel
theorem dX5_advance_6 : decode cX5_advance 6 = .ok (.istore_n 1, 1) := by decide +kernel
theorem dX5_advance_7 : decode cX5_advance 7 = .ok (.iload_n 1, 1) := by decide +kernel
theorem dX5_advance_8 : decode cX5_advance 8 = .ok (.ifCond .lt 33, 3) := by decide +kernel
theorem dX5_advance_11 : decode cX5_advance 11 = .ok (.iload_n 1, 1) := by decide +kernel
theorem dX5_advance_12 : decode cX5_advance 12 = .ok (.aload_n 0, 1) := by decide +kernel
theorem dX5_advance_13 : decode cX5_advance 13 = .ok (.getfield 9, 3) := by decide +kernel
theorem dX5_advance_16 : decode cX5_advance 16 = .ok (.arraylength, 1) := by decide +kernel
theorem dX5_advance_17 : decode cX5_advance 17 = .ok (.if_icmp .ge 24, 3) := by decide +kernel
theorem dX5_advance_20 : decode cX5_advance 20 = .ok (.aload_n 0, 1) := by decide +kernel
theorem dX5_advance_21 : decode cX5_advance 21 = .ok (.getfield 9, 3) := by decide +kernel
theorem dX5_advance_24 : decode cX5_advance 24 = .ok (.iload_n 1, 1) := by decide +kernel
theorem dX5_advance_25 : decode cX5_advance 25 = .ok (.iaload, 1) := by decide +kernel
theorem dX5_advance_26 : decode cX5_advance 26 = .ok (.aload_n 0, 1) := by decide +kernel
theorem dX5_advance_27 : decode cX5_advance 27 = .ok (.getfield 33, 3) := by decide +kernel
theorem dX5_advance_30 : decode cX5_advance 30 = .ok (.iconst 1, 1) := by decide +kernel
theorem dX5_advance_31 : decode cX5_advance 31 = .ok (.isub, 1) := by decide +kernel
theorem dX5_advance_32 : decode cX5_advance 32 = .ok (.if_icmp .lt 9, 3) := by decide +kernel
theorem dX5_advance_35 : decode cX5_advance 35 = .ok (.iinc 1 (-1), 3) := by decide +kernel
theorem dX5_advance_38 : decode cX5_advance 38 = .ok (.goto (-31), 3) := by decide +kernel
theorem dX5_advance_41 : decode cX5_advance 41 = .ok (.iload_n 1, 1) := by decide +kernel
theorem dX5_advance_42 : decode cX5_advance 42 = .ok (.ifCond .lt 27, 3) := by decide +kernel
theorem dX5_advance_45 : decode cX5_advance 45 = .ok (.iload_n 1, 1) := by decide +kernel
theorem dX5_advance_46 : decode cX5_advance 46 = .ok (.aload_n 0, 1) := by decide +kernel
theorem dX5_advance_47 : decode cX5_advance 47 = .ok (.getfield 9, 3) := by decide +kernel
theorem dX5_advance_50 : decode cX5_advance 50 = .ok (.arraylength, 1) := by decide +kernel
theorem dX5_advance_51 : decode cX5_advance 51 = .ok (.if_icmp .ge 18, 3) := by decide +kernel
theorem dX5_advance_54 : decode cX5_advance 54 = .ok (.aload_n 0, 1) := by decide +kernel
theorem dX5_advance_55 : decode cX5_advance 55 = .ok (.iload_n 1, 1) := by decide +kernel
theorem dX5_advance_56 : decode cX5_advance 56 = .ok (.aload_n 0, 1) := by decide +kernel
theorem dX5_advance_57 : decode cX5_advance 57 = .ok (.getfield 9, 3) := by decide +kernel
theorem dX5_advance_60 : decode cX5_advance 60 = .ok (.iload_n 1, 1) := by decide +kernel
theorem dX5_advance_61 : decode cX5_advance 61 = .ok (.iaload, 1) := by decide +kernel
theorem dX5_advance_62 : decode cX5_advance 62 = .ok (.iconst 1, 1) := by decide +kernel
theorem dX5_advance_63 : decode cX5_advance 63 = .ok (.iadd, 1) := by decide +kernel
theorem dX5_advance_64 : decode cX5_advance 64 = .ok (.invokevirtual 43, 3) := by decide +kernel
theorem dX5_advance_67 : decode cX5_advance 67 = .ok (.iconst 1, 1) := by decide +kernel
theorem dX5_advance_68 : decode cX5_advance 68 = .ok (.ireturn, 1) := by decide +kernel
theorem dX5_advance_69 : decode cX5_advance 69 = .ok (.aload_n 0, 1) := by decide +kernel
theorem dX5_advance_70 : decode cX5_advance 70 = .ok (.getfield 40, 3) := by decide +kernel
theorem dX5_advance_73 : decode cX5_advance 73 = .ok (.aload_n 0, 1) := by decide +kernel
theorem dX5_advance_74 : decode cX5_advance 74 = .ok (.getfield 37, 3) := by decide +kernel
theorem dX5_advance_77 : decode cX5_advance 77 = .ok (.if_icmp .lt 5, 3) := by decide +kernel
theorem dX5_advance_80 : decode cX5_advance 80 = .ok (.iconst 0, 1) := by decide +kernel
theorem dX5_advance_81 : decode cX5_advance 81 = .ok (.ireturn, 1) := by decide +kernel
theorem dX5_advance_82 : decode cX5_advance 82 = .ok (.aload_n 0, 1) := by decide +kernel
theorem dX5_advance_83 : decode cX5_advance 83 = .ok (.dup, 1) := by decide +kernel
theorem dX5_advance_84 : decode cX5_advance 84 = .ok (.getfield 40, 3) := by decide +kernel
theorem dX5_advance_87 : decode cX5_advance 87 = .ok (.iconst 1, 1) := by decide +kernel
theorem dX5_advance_88 : decode cX5_advance 88 = .ok (.iadd, 1) := by decide +kernel
theorem dX5_advance_89 : decode cX5_advance 89 = .ok (.putfield 40, 3) := by decide +kernel
theorem dX5_advance_92 : decode cX5_advance 92 = .ok (.aload_n 0, 1) := by decide +kernel
theorem dX5_advance_93 : decode cX5_advance 93 = .ok (.iconst 0, 1) := by decide +kernel
theorem dX5_advance_94 : decode cX5_advance 94 = .ok (.iconst 0, 1) := by decide +kernel
theorem dX5_advance_95 : decode cX5_advance 95 = .ok (.invokevirtual 43, 3) := by decide +kernel
theorem dX5_advance_98 : decode cX5_advance 98 = .ok (.iconst 1, 1) := by decide +kernel
theorem dX5_advance_99 : decode cX5_advance 99 = .ok (.ireturn, 1) := by decide +kernel
theorem dX5_fillFrom_0 : decode cX5_fillFrom 0 = .ok (.iload_n 2, 1) := by decide +kernel
theorem dX5_fillFrom_1 : decode cX5_fillFrom 1 = .ok (.ifCond .lt 21, 3) := by decide +kernel
theorem dX5_fillFrom_4 : decode cX5_fillFrom 4 = .ok (.iload_n 2, 1) := by decide +kernel
theorem dX5_fillFrom_5 : decode cX5_fillFrom 5 = .ok (.aload_n 0, 1) := by decide +kernel
theorem dX5_fillFrom_6 : decode cX5_fillFrom 6 = .ok (.getfield 15, 3) := by decide +kernel
theorem dX5_fillFrom_9 : decode cX5_fillFrom 9 = .ok (.arraylength, 1) := by decide +kernel
theorem dX5_fillFrom_10 : decode cX5_fillFrom 10 = .ok (.if_icmp .ge 12, 3) := by decide +kernel
theorem dX5_fillFrom_13 : decode cX5_fillFrom 13 = .ok (.aload_n 0, 1) := by decide +kernel
theorem dX5_fillFrom_14 : decode cX5_fillFrom 14 = .ok (.getfield 15, 3) := by decide +kernel
theorem dX5_fillFrom_17 : decode cX5_fillFrom 17 = .ok (.iload_n 2, 1) := by decide +kernel
theorem dX5_fillFrom_18 : decode cX5_fillFrom 18 = .ok (.iaload, 1) := by decide +kernel
theorem dX5_fillFrom_19 : decode cX5_fillFrom 19 = .ok (.goto 4, 3) := by decide +kernel
theorem dX5_fillFrom_22 : decode cX5_fillFrom 22 = .ok (.iconst 0, 1) := by decide +kernel
theorem dX5_fillFrom_23 : decode cX5_fillFrom 23 = .ok (.istore_n 3, 1) := by decide +kernel
theorem dX5_fillFrom_24 : decode cX5_fillFrom 24 = .ok (.iload_n 1, 1) := by decide +kernel
theorem dX5_fillFrom_25 : decode cX5_fillFrom 25 = .ok (.istore 4, 2) := by decide +kernel
theorem dX5_fillFrom_27 : decode cX5_fillFrom 27 = .ok (.iload 4, 2) := by decide +kernel
theorem dX5_fillFrom_29 : decode cX5_fillFrom 29 = .ok (.ifCond .lt 66, 3) := by decide +kernel
theorem dX5_fillFrom_32 : decode cX5_fillFrom 32 = .ok (.iload 4, 2) := by decide +kernel
theorem dX5_fillFrom_34 : decode cX5_fillFrom 34 = .ok (.aload_n 0, 1) := by decide +kernel
theorem dX5_fillFrom_35 : decode cX5_fillFrom 35 = .ok (.getfield 40, 3) := by decide +kernel
theorem dX5_fillFrom_38 : decode cX5_fillFrom 38 = .ok (.if_icmp .ge 57, 3) := by decide +kernel
theorem dX5_fillFrom_41 : decode cX5_fillFrom 41 = .ok (.iload 4, 2) := by decide +kernel
theorem dX5_fillFrom_43 : decode cX5_fillFrom 43 = .ok (.aload_n 0, 1) := by decide +kernel
theorem dX5_fillFrom_44 : decode cX5_fillFrom 44 = .ok (.getfield 9, 3) := by decide +kernel
theorem dX5_fillFrom_47 : decode cX5_fillFrom 47 = .ok (.arraylength, 1) := by decide +kernel
theorem dX5_fillFrom_48 : decode cX5_fillFrom 48 = .ok (.if_icmp .ge 47, 3) := by decide +kernel
theorem dX5_fillFrom_51 : decode cX5_fillFrom 51 = .ok (.iload 4, 2) := by decide +kernel
theorem dX5_fillFrom_53 : decode cX5_fillFrom 53 = .ok (.iconst 1, 1) := by decide +kernel
theorem dX5_fillFrom_54 : decode cX5_fillFrom 54 = .ok (.iadd, 1) := by decide +kernel
theorem dX5_fillFrom_55 : decode cX5_fillFrom 55 = .ok (.aload_n 0, 1) := by decide +kernel
theorem dX5_fillFrom_56 : decode cX5_fillFrom 56 = .ok (.getfield 18, 3) := by decide +kernel
theorem dX5_fillFrom_59 : decode cX5_fillFrom 59 = .ok (.arraylength, 1) := by decide +kernel
theorem dX5_fillFrom_60 : decode cX5_fillFrom 60 = .ok (.if_icmp .ge 35, 3) := by decide +kernel
theorem dX5_fillFrom_63 : decode cX5_fillFrom 63 = .ok (.aload_n 0, 1) := by decide +kernel
theorem dX5_fillFrom_64 : decode cX5_fillFrom 64 = .ok (.getfield 9, 3) := by decide +kernel
theorem dX5_fillFrom_67 : decode cX5_fillFrom 67 = .ok (.iload 4, 2) := by decide +kernel
theorem dX5_fillFrom_69 : decode cX5_fillFrom 69 = .ok (.iload_n 2, 1) := by decide +kernel
theorem dX5_fillFrom_70 : decode cX5_fillFrom 70 = .ok (.iastore, 1) := by decide +kernel
theorem dX5_fillFrom_71 : decode cX5_fillFrom 71 = .ok (.aload_n 0, 1) := by decide +kernel
theorem dX5_fillFrom_72 : decode cX5_fillFrom 72 = .ok (.getfield 18, 3) := by decide +kernel
theorem dX5_fillFrom_75 : decode cX5_fillFrom 75 = .ok (.iload 4, 2) := by decide +kernel
theorem dX5_fillFrom_77 : decode cX5_fillFrom 77 = .ok (.iconst 1, 1) := by decide +kernel
theorem dX5_fillFrom_78 : decode cX5_fillFrom 78 = .ok (.iadd, 1) := by decide +kernel
theorem dX5_fillFrom_79 : decode cX5_fillFrom 79 = .ok (.aload_n 0, 1) := by decide +kernel
theorem dX5_fillFrom_80 : decode cX5_fillFrom 80 = .ok (.getfield 18, 3) := by decide +kernel
theorem dX5_fillFrom_83 : decode cX5_fillFrom 83 = .ok (.iload 4, 2) := by decide +kernel
theorem dX5_fillFrom_85 : decode cX5_fillFrom 85 = .ok (.iaload, 1) := by decide +kernel
theorem dX5_fillFrom_86 : decode cX5_fillFrom 86 = .ok (.iload_n 3, 1) := by decide +kernel
theorem dX5_fillFrom_87 : decode cX5_fillFrom 87 = .ok (.iadd, 1) := by decide +kernel
theorem dX5_fillFrom_88 : decode cX5_fillFrom 88 = .ok (.iastore, 1) := by decide +kernel
theorem dX5_fillFrom_89 : decode cX5_fillFrom 89 = .ok (.iinc 4 1, 3) := by decide +kernel
theorem dX5_fillFrom_92 : decode cX5_fillFrom 92 = .ok (.goto (-65), 3) := by decide +kernel
theorem dX5_fillFrom_95 : decode cX5_fillFrom 95 = .ok (.return_, 1) := by decide +kernel
theorem dX5_sum_0 : decode cX5_sum 0 = .ok (.aload_n 0, 1) := by decide +kernel
theorem dX5_sum_1 : decode cX5_sum 1 = .ok (.getfield 40, 3) := by decide +kernel
theorem dX5_sum_4 : decode cX5_sum 4 = .ok (.ifCond .lt 27, 3) := by decide +kernel
theorem dX5_sum_7 : decode cX5_sum 7 = .ok (.aload_n 0, 1) := by decide +kernel
theorem dX5_sum_8 : decode cX5_sum 8 = .ok (.getfield 40, 3) := by decide +kernel
theorem dX5_sum_11 : decode cX5_sum 11 = .ok (.aload_n 0, 1) := by decide +kernel
theorem dX5_sum_12 : decode cX5_sum 12 = .ok (.getfield 18, 3) := by decide +kernel
theorem dX5_sum_15 : decode cX5_sum 15 = .ok (.arraylength, 1) := by decide +kernel
theorem dX5_sum_16 : decode cX5_sum 16 = .ok (.if_icmp .ge 15, 3) := by decide +kernel
theorem dX5_sum_19 : decode cX5_sum 19 = .ok (.aload_n 0, 1) := by decide +kernel
theorem dX5_sum_20 : decode cX5_sum 20 = .ok (.getfield 18, 3) := by decide +kernel
theorem dX5_sum_23 : decode cX5_sum 23 = .ok (.aload_n 0, 1) := by decide +kernel
theorem dX5_sum_24 : decode cX5_sum 24 = .ok (.getfield 40, 3) := by decide +kernel
theorem dX5_sum_27 : decode cX5_sum 27 = .ok (.iaload, 1) := by decide +kernel
theorem dX5_sum_28 : decode cX5_sum 28 = .ok (.goto 4, 3) := by decide +kernel
theorem dX5_sum_31 : decode cX5_sum 31 = .ok (.iconst 0, 1) := by decide +kernel
theorem dX5_sum_32 : decode cX5_sum 32 = .ok (.ireturn, 1) := by decide +kernel
theorem dX5_witnessed_0 : decode cX5_witnessed 0 = .ok (.lconst 0, 1) := by decide +kernel
theorem dX5_witnessed_1 : decode cX5_witnessed 1 = .ok (.lstore_n 2, 1) := by decide +kernel
theorem dX5_witnessed_2 : decode cX5_witnessed 2 = .ok (.iconst 0, 1) := by decide +kernel
theorem dX5_witnessed_3 : decode cX5_witnessed 3 = .ok (.istore 4, 2) := by decide +kernel
theorem dX5_witnessed_5 : decode cX5_witnessed 5 = .ok (.iload 4, 2) := by decide +kernel
theorem dX5_witnessed_7 : decode cX5_witnessed 7 = .ok (.aload_n 0, 1) := by decide +kernel
theorem dX5_witnessed_8 : decode cX5_witnessed 8 = .ok (.getfield 40, 3) := by decide +kernel
theorem dX5_witnessed_11 : decode cX5_witnessed 11 = .ok (.if_icmp .ge 47, 3) := by decide +kernel
theorem dX5_witnessed_14 : decode cX5_witnessed 14 = .ok (.iload 4, 2) := by decide +kernel
theorem dX5_witnessed_16 : decode cX5_witnessed 16 = .ok (.aload_n 0, 1) := by decide +kernel
theorem dX5_witnessed_17 : decode cX5_witnessed 17 = .ok (.getfield 9, 3) := by decide +kernel
theorem dX5_witnessed_20 : decode cX5_witnessed 20 = .ok (.arraylength, 1) := by decide +kernel
theorem dX5_witnessed_21 : decode cX5_witnessed 21 = .ok (.if_icmp .ge 37, 3) := by decide +kernel
theorem dX5_witnessed_24 : decode cX5_witnessed 24 = .ok (.aload_n 0, 1) := by decide +kernel
theorem dX5_witnessed_25 : decode cX5_witnessed 25 = .ok (.getfield 9, 3) := by decide +kernel
theorem dX5_witnessed_28 : decode cX5_witnessed 28 = .ok (.iload 4, 2) := by decide +kernel
theorem dX5_witnessed_30 : decode cX5_witnessed 30 = .ok (.iaload, 1) := by decide +kernel
theorem dX5_witnessed_31 : decode cX5_witnessed 31 = .ok (.istore 5, 2) := by decide +kernel
theorem dX5_witnessed_33 : decode cX5_witnessed 33 = .ok (.iload 5, 2) := by decide +kernel
theorem dX5_witnessed_35 : decode cX5_witnessed 35 = .ok (.ifCond .lt 17, 3) := by decide +kernel
theorem dX5_witnessed_38 : decode cX5_witnessed 38 = .ok (.iload 5, 2) := by decide +kernel
theorem dX5_witnessed_40 : decode cX5_witnessed 40 = .ok (.aload_n 1, 1) := by decide +kernel
theorem dX5_witnessed_41 : decode cX5_witnessed 41 = .ok (.arraylength, 1) := by decide +kernel
theorem dX5_witnessed_42 : decode cX5_witnessed 42 = .ok (.if_icmp .ge 10, 3) := by decide +kernel
theorem dX5_witnessed_45 : decode cX5_witnessed 45 = .ok (.lload_n 2, 1) := by decide +kernel
theorem dX5_witnessed_46 : decode cX5_witnessed 46 = .ok (.aload_n 1, 1) := by decide +kernel
theorem dX5_witnessed_47 : decode cX5_witnessed 47 = .ok (.iload 5, 2) := by decide +kernel
theorem dX5_witnessed_49 : decode cX5_witnessed 49 = .ok (.laload, 1) := by decide +kernel
theorem dX5_witnessed_50 : decode cX5_witnessed 50 = .ok (.lor, 1) := by decide +kernel
theorem dX5_witnessed_51 : decode cX5_witnessed 51 = .ok (.lstore_n 2, 1) := by decide +kernel
theorem dX5_witnessed_52 : decode cX5_witnessed 52 = .ok (.iinc 4 1, 3) := by decide +kernel
theorem dX5_witnessed_55 : decode cX5_witnessed 55 = .ok (.goto (-50), 3) := by decide +kernel
theorem dX5_witnessed_58 : decode cX5_witnessed 58 = .ok (.lload_n 2, 1) := by decide +kernel
theorem dX5_witnessed_59 : decode cX5_witnessed 59 = .ok (.lreturn, 1) := by decide +kernel
theorem dX6_init_0 : decode cX6_init 0 = .ok (.aload_n 0, 1) := by decide +kernel
theorem dX6_init_1 : decode cX6_init 1 = .ok (.invokespecial 3, 3) := by decide +kernel
theorem dX6_init_4 : decode cX6_init 4 = .ok (.aload_n 0, 1) := by decide +kernel
theorem dX6_init_5 : decode cX6_init 5 = .ok (.bipush 10, 2) := by decide +kernel
theorem dX6_init_7 : decode cX6_init 7 = .ok (.anewarray 9, 3) := by decide +kernel
theorem dX6_init_10 : decode cX6_init 10 = .ok (.putfield 11, 3) := by decide +kernel
theorem dX6_init_13 : decode cX6_init 13 = .ok (.aload_n 0, 1) := by decide +kernel
theorem dX6_init_14 : decode cX6_init 14 = .ok (.bipush 16, 2) := by decide +kernel
theorem dX6_init_16 : decode cX6_init 16 = .ok (.newarray .int, 2) := by decide +kernel
theorem dX6_init_18 : decode cX6_init 18 = .ok (.putfield 15, 3) := by decide +kernel
theorem dX6_init_21 : decode cX6_init 21 = .ok (.aload_n 0, 1) := by decide +kernel
theorem dX6_init_22 : decode cX6_init 22 = .ok (.new 19, 3) := by decide +kernel
theorem dX6_init_25 : decode cX6_init 25 = .ok (.dup, 1) := by decide +kernel
theorem dX6_init_26 : decode cX6_init 26 = .ok (.invokespecial 21, 3) := by decide +kernel
theorem dX6_init_29 : decode cX6_init 29 = .ok (.putfield 22, 3) := by decide +kernel
theorem dX6_init_32 : decode cX6_init 32 = .ok (.aload_n 0, 1) := by decide +kernel
theorem dX6_init_33 : decode cX6_init 33 = .ok (.new 26, 3) := by decide +kernel
theorem dX6_init_36 : decode cX6_init 36 = .ok (.dup, 1) := by decide +kernel
theorem dX6_init_37 : decode cX6_init 37 = .ok (.invokespecial 28, 3) := by decide +kernel
theorem dX6_init_40 : decode cX6_init 40 = .ok (.putfield 29, 3) := by decide +kernel
theorem dX6_init_43 : decode cX6_init 43 = .ok (.aload_n 0, 1) := by decide +kernel
theorem dX6_init_44 : decode cX6_init 44 = .ok (.new 33, 3) := by decide +kernel
theorem dX6_init_47 : decode cX6_init 47 = .ok (.dup, 1) := by decide +kernel
theorem dX6_init_48 : decode cX6_init 48 = .ok (.invokespecial 35, 3) := by decide +kernel
theorem dX6_init_51 : decode cX6_init 51 = .ok (.putfield 36, 3) := by decide +kernel
theorem dX6_init_54 : decode cX6_init 54 = .ok (.aload_n 0, 1) := by decide +kernel
theorem dX6_init_55 : decode cX6_init 55 = .ok (.iconst 3, 1) := by decide +kernel
theorem dX6_init_56 : decode cX6_init 56 = .ok (.putfield 40, 3) := by decide +kernel
theorem dX6_init_59 : decode cX6_init 59 = .ok (.aload_n 0, 1) := by decide +kernel
theorem dX6_init_60 : decode cX6_init 60 = .ok (.iconst 4, 1) := by decide +kernel
theorem dX6_init_61 : decode cX6_init 61 = .ok (.putfield 44, 3) := by decide +kernel
theorem dX6_init_64 : decode cX6_init 64 = .ok (.aload_n 0, 1) := by decide +kernel
theorem dX6_init_65 : decode cX6_init 65 = .ok (.sipush 255, 3) := by decide +kernel
theorem dX6_init_68 : decode cX6_init 68 = .ok (.putfield 47, 3) := by decide +kernel
theorem dX6_init_71 : decode cX6_init 71 = .ok (.iconst 0, 1) := by decide +kernel
theorem dX6_init_72 : decode cX6_init 72 = .ok (.istore_n 1, 1) := by decide +kernel
theorem dX6_init_73 : decode cX6_init 73 = .ok (.iload_n 1, 1) := by decide +kernel
theorem dX6_init_74 : decode cX6_init 74 = .ok (.aload_n 0, 1) := by decide +kernel
theorem dX6_init_75 : decode cX6_init 75 = .ok (.getfield 11, 3) := by decide +kernel
theorem dX6_init_78 : decode cX6_init 78 = .ok (.arraylength, 1) := by decide +kernel
theorem dX6_init_79 : decode cX6_init 79 = .ok (.if_icmp .ge 22, 3) := by decide +kernel
theorem dX6_init_82 : decode cX6_init 82 = .ok (.aload_n 0, 1) := by decide +kernel
theorem dX6_init_83 : decode cX6_init 83 = .ok (.getfield 11, 3) := by decide +kernel
theorem dX6_init_86 : decode cX6_init 86 = .ok (.iload_n 1, 1) := by decide +kernel
theorem dX6_init_87 : decode cX6_init 87 = .ok (.new 9, 3) := by decide +kernel
theorem dX6_init_90 : decode cX6_init 90 = .ok (.dup, 1) := by decide +kernel
theorem dX6_init_91 : decode cX6_init 91 = .ok (.invokespecial 50, 3) := by decide +kernel
theorem dX6_init_94 : decode cX6_init 94 = .ok (.aastore, 1) := by decide +kernel
theorem dX6_init_95 : decode cX6_init 95 = .ok (.iinc 1 1, 3) := by decide +kernel
theorem dX6_init_98 : decode cX6_init 98 = .ok (.goto (-25), 3) := by decide +kernel
theorem dX6_init_101 : decode cX6_init 101 = .ok (.aload_n 0, 1) := by decide +kernel
theorem dX6_init_102 : decode cX6_init 102 = .ok (.invokevirtual 51, 3) := by decide +kernel
theorem dX6_init_105 : decode cX6_init 105 = .ok (.return_, 1) := by decide +kernel
theorem dX6_kinds_0 : decode cX6_kinds 0 = .ok (.iload_n 1, 1) := by decide +kernel
theorem dX6_kinds_1 : decode cX6_kinds 1 = .ok (.iconst 1, 1) := by decide +kernel
theorem dX6_kinds_2 : decode cX6_kinds 2 = .ok (.if_icmp .lt 8, 3) := by decide +kernel
theorem dX6_kinds_5 : decode cX6_kinds 5 = .ok (.iload_n 1, 1) := by decide +kernel
theorem dX6_kinds_6 : decode cX6_kinds 6 = .ok (.iconst 4, 1) := by decide +kernel
theorem dX6_kinds_7 : decode cX6_kinds 7 = .ok (.if_icmp .le 5, 3) := by decide +kernel
theorem dX6_kinds_10 : decode cX6_kinds 10 = .ok (.iconst (-1), 1) := by decide +kernel
theorem dX6_kinds_11 : decode cX6_kinds 11 = .ok (.ireturn, 1) := by decide +kernel
theorem dX6_kinds_12 : decode cX6_kinds 12 = .ok (.aload_n 0, 1) := by decide +kernel
theorem dX6_kinds_13 : decode cX6_kinds 13 = .ok (.getfield 40, 3) := by decide +kernel
theorem dX6_kinds_16 : decode cX6_kinds 16 = .ok (.istore_n 2, 1) := by decide +kernel
theorem dX6_kinds_17 : decode cX6_kinds 17 = .ok (.aload_n 0, 1) := by decide +kernel
theorem dX6_kinds_18 : decode cX6_kinds 18 = .ok (.iload_n 1, 1) := by decide +kernel
theorem dX6_kinds_19 : decode cX6_kinds 19 = .ok (.putfield 40, 3) := by decide +kernel
theorem dX6_kinds_22 : decode cX6_kinds 22 = .ok (.aload_n 0, 1) := by decide +kernel
theorem dX6_kinds_23 : decode cX6_kinds 23 = .ok (.invokevirtual 51, 3) := by decide +kernel
theorem dX6_kinds_26 : decode cX6_kinds 26 = .ok (.iload_n 2, 1) := by decide +kernel
theorem dX6_kinds_27 : decode cX6_kinds 27 = .ok (.ireturn, 1) := by decide +kernel
theorem dX6_most_0 : decode cX6_most 0 = .ok (.iload_n 1, 1) := by decide +kernel
theorem dX6_most_1 : decode cX6_most 1 = .ok (.iconst 1, 1) := by decide +kernel
theorem dX6_most_2 : decode cX6_most 2 = .ok (.if_icmp .lt 9, 3) := by decide +kernel
theorem dX6_most_5 : decode cX6_most 5 = .ok (.iload_n 1, 1) := by decide +kernel
theorem dX6_most_6 : decode cX6_most 6 = .ok (.bipush 6, 2) := by decide +kernel
theorem dX6_most_8 : decode cX6_most 8 = .ok (.if_icmp .le 5, 3) := by decide +kernel
theorem dX6_most_11 : decode cX6_most 11 = .ok (.iconst (-1), 1) := by decide +kernel
theorem dX6_most_12 : decode cX6_most 12 = .ok (.ireturn, 1) := by decide +kernel
theorem dX6_most_13 : decode cX6_most 13 = .ok (.aload_n 0, 1) := by decide +kernel
theorem dX6_most_14 : decode cX6_most 14 = .ok (.getfield 44, 3) := by decide +kernel
theorem dX6_most_17 : decode cX6_most 17 = .ok (.istore_n 2, 1) := by decide +kernel
theorem dX6_most_18 : decode cX6_most 18 = .ok (.aload_n 0, 1) := by decide +kernel
theorem dX6_most_19 : decode cX6_most 19 = .ok (.iload_n 1, 1) := by decide +kernel
theorem dX6_most_20 : decode cX6_most 20 = .ok (.putfield 44, 3) := by decide +kernel
theorem dX6_most_23 : decode cX6_most 23 = .ok (.aload_n 0, 1) := by decide +kernel
theorem dX6_most_24 : decode cX6_most 24 = .ok (.getfield 29, 3) := by decide +kernel
theorem dX6_most_27 : decode cX6_most 27 = .ok (.aload_n 0, 1) := by decide +kernel
theorem dX6_most_28 : decode cX6_most 28 = .ok (.invokevirtual 54, 3) := by decide +kernel
theorem dX6_most_31 : decode cX6_most 31 = .ok (.aload_n 0, 1) := by decide +kernel
theorem dX6_most_32 : decode cX6_most 32 = .ok (.getfield 44, 3) := by decide +kernel
theorem dX6_most_35 : decode cX6_most 35 = .ok (.invokevirtual 58, 3) := by decide +kernel
theorem dX6_most_38 : decode cX6_most 38 = .ok (.iload_n 2, 1) := by decide +kernel
theorem dX6_most_39 : decode cX6_most 39 = .ok (.ireturn, 1) := by decide +kernel
theorem dX6_worlds_0 : decode cX6_worlds 0 = .ok (.aload_n 0, 1) := by decide +kernel
theorem dX6_worlds_1 : decode cX6_worlds 1 = .ok (.getfield 29, 3) := by decide +kernel
theorem dX6_worlds_4 : decode cX6_worlds 4 = .ok (.getfield 62, 3) := by decide +kernel
theorem dX6_worlds_7 : decode cX6_worlds 7 = .ok (.ireturn, 1) := by decide +kernel
theorem dX6_put_0 : decode cX6_put 0 = .ok (.aload_n 0, 1) := by decide +kernel
theorem dX6_put_1 : decode cX6_put 1 = .ok (.iload_n 1, 1) := by decide +kernel
theorem dX6_put_2 : decode cX6_put 2 = .ok (.invokevirtual 65, 3) := by decide +kernel
theorem dX6_put_5 : decode cX6_put 5 = .ok (.ifCond .eq 13, 3) := by decide +kernel
theorem dX6_put_8 : decode cX6_put 8 = .ok (.iload_n 2, 1) := by decide +kernel
theorem dX6_put_9 : decode cX6_put 9 = .ok (.ifCond .lt 9, 3) := by decide +kernel
theorem dX6_put_12 : decode cX6_put 12 = .ok (.iload_n 2, 1) := by decide +kernel
theorem dX6_put_13 : decode cX6_put 13 = .ok (.bipush 6, 2) := by decide +kernel
theorem dX6_put_15 : decode cX6_put 15 = .ok (.if_icmp .le 5, 3) := by decide +kernel
theorem dX6_put_18 : decode cX6_put 18 = .ok (.iconst (-1), 1) := by decide +kernel
theorem dX6_put_19 : decode cX6_put 19 = .ok (.ireturn, 1) := by decide +kernel
theorem dX6_put_20 : decode cX6_put 20 = .ok (.aload_n 0, 1) := by decide +kernel
theorem dX6_put_21 : decode cX6_put 21 = .ok (.getfield 15, 3) := by decide +kernel
theorem dX6_put_24 : decode cX6_put 24 = .ok (.iload_n 1, 1) := by decide +kernel
theorem dX6_put_25 : decode cX6_put 25 = .ok (.iaload, 1) := by decide +kernel
theorem dX6_put_26 : decode cX6_put 26 = .ok (.istore_n 3, 1) := by decide +kernel
theorem dX6_put_27 : decode cX6_put 27 = .ok (.aload_n 0, 1) := by decide +kernel
theorem dX6_put_28 : decode cX6_put 28 = .ok (.invokevirtual 69, 3) := by decide +kernel
theorem dX6_put_31 : decode cX6_put 31 = .ok (.iload_n 3, 1) := by decide +kernel
theorem dX6_put_32 : decode cX6_put 32 = .ok (.isub, 1) := by decide +kernel
theorem dX6_put_33 : decode cX6_put 33 = .ok (.iload_n 2, 1) := by decide +kernel
theorem dX6_put_34 : decode cX6_put 34 = .ok (.iadd, 1) := by decide +kernel
theorem dX6_put_35 : decode cX6_put 35 = .ok (.bipush 6, 2) := by decide +kernel
theorem dX6_put_37 : decode cX6_put 37 = .ok (.if_icmp .le 6, 3) := by decide +kernel
theorem dX6_put_40 : decode cX6_put 40 = .ok (.bipush (-3), 2) := by decide +kernel
theorem dX6_put_42 : decode cX6_put 42 = .ok (.ireturn, 1) := by decide +kernel
theorem dX6_put_43 : decode cX6_put 43 = .ok (.aload_n 0, 1) := by decide +kernel
theorem dX6_put_44 : decode cX6_put 44 = .ok (.getfield 15, 3) := by decide +kernel
theorem dX6_put_47 : decode cX6_put 47 = .ok (.iload_n 1, 1) := by decide +kernel
theorem dX6_put_48 : decode cX6_put 48 = .ok (.iload_n 2, 1) := by decide +kernel
theorem dX6_put_49 : decode cX6_put 49 = .ok (.iastore, 1) := by decide +kernel
theorem dX6_put_50 : decode cX6_put 50 = .ok (.iload_n 3, 1) := by decide +kernel
theorem dX6_put_51 : decode cX6_put 51 = .ok (.ireturn, 1) := by decide +kernel
theorem dX6_holds_0 : decode cX6_holds 0 = .ok (.aload_n 0, 1) := by decide +kernel
theorem dX6_holds_1 : decode cX6_holds 1 = .ok (.iload_n 1, 1) := by decide +kernel
theorem dX6_holds_2 : decode cX6_holds 2 = .ok (.invokevirtual 72, 3) := by decide +kernel
theorem dX6_holds_5 : decode cX6_holds 5 = .ok (.astore_n 2, 1) := by decide +kernel
theorem dX6_holds_6 : decode cX6_holds 6 = .ok (.aload_n 2, 1) := by decide +kernel
theorem dX6_holds_7 : decode cX6_holds 7 = .ok (.ifnonnull 5, 3) := by decide +kernel
theorem dX6_holds_10 : decode cX6_holds 10 = .ok (.iconst (-1), 1) := by decide +kernel
theorem dX6_holds_11 : decode cX6_holds 11 = .ok (.ireturn, 1) := by decide +kernel
theorem dX6_holds_12 : decode cX6_holds 12 = .ok (.aload_n 0, 1) := by decide +kernel
theorem dX6_holds_13 : decode cX6_holds 13 = .ok (.aload_n 2, 1) := by decide +kernel
theorem dX6_holds_14 : decode cX6_holds 14 = .ok (.invokevirtual 76, 3) := by decide +kernel
theorem dX6_holds_17 : decode cX6_holds 17 = .ok (.istore_n 3, 1) := by decide +kernel
theorem dX6_holds_18 : decode cX6_holds 18 = .ok (.aload_n 2, 1) := by decide +kernel
theorem dX6_holds_19 : decode cX6_holds 19 = .ok (.iload_n 3, 1) := by decide +kernel
theorem dX6_holds_20 : decode cX6_holds 20 = .ok (.invokevirtual 80, 3) := by decide +kernel
theorem dX6_holds_23 : decode cX6_holds 23 = .ok (.invokestatic 83, 3) := by decide +kernel
theorem dX6_holds_26 : decode cX6_holds 26 = .ok (.ireturn, 1) := by decide +kernel
theorem dX6_size_0 : decode cX6_size 0 = .ok (.aload_n 0, 1) := by decide +kernel
theorem dX6_size_1 : decode cX6_size 1 = .ok (.iload_n 1, 1) := by decide +kernel
theorem dX6_size_2 : decode cX6_size 2 = .ok (.invokevirtual 72, 3) := by decide +kernel
theorem dX6_size_5 : decode cX6_size 5 = .ok (.astore_n 3, 1) := by decide +kernel
theorem dX6_size_6 : decode cX6_size 6 = .ok (.aload_n 3, 1) := by decide +kernel
theorem dX6_size_7 : decode cX6_size 7 = .ok (.ifnull 12, 3) := by decide +kernel
theorem dX6_size_10 : decode cX6_size 10 = .ok (.iload_n 2, 1) := by decide +kernel
theorem dX6_size_11 : decode cX6_size 11 = .ok (.ifCond .lt 8, 3) := by decide +kernel
theorem dX6_size_14 : decode cX6_size 14 = .ok (.iload_n 2, 1) := by decide +kernel
theorem dX6_size_15 : decode cX6_size 15 = .ok (.iconst 2, 1) := by decide +kernel
theorem dX6_size_16 : decode cX6_size 16 = .ok (.if_icmp .le 5, 3) := by decide +kernel
theorem dX6_size_19 : decode cX6_size 19 = .ok (.iconst (-1), 1) := by decide +kernel
theorem dX6_size_20 : decode cX6_size 20 = .ok (.ireturn, 1) := by decide +kernel
theorem dX6_size_21 : decode cX6_size 21 = .ok (.aload_n 0, 1) := by decide +kernel
theorem dX6_size_22 : decode cX6_size 22 = .ok (.aload_n 3, 1) := by decide +kernel
theorem dX6_size_23 : decode cX6_size 23 = .ok (.invokevirtual 76, 3) := by decide +kernel
theorem dX6_size_26 : decode cX6_size 26 = .ok (.iconst 4, 1) := by decide +kernel
theorem dX6_size_27 : decode cX6_size 27 = .ok (.iload_n 2, 1) := by decide +kernel
theorem dX6_size_28 : decode cX6_size 28 = .ok (.imul, 1) := by decide +kernel
theorem dX6_size_29 : decode cX6_size 29 = .ok (.ishr, 1) := by decide +kernel
theorem dX6_size_30 : decode cX6_size 30 = .ok (.bipush 15, 2) := by decide +kernel
theorem dX6_size_32 : decode cX6_size 32 = .ok (.iand, 1) := by decide +kernel
theorem dX6_size_33 : decode cX6_size 33 = .ok (.ireturn, 1) := by decide +kernel
theorem dX6_type_0 : decode cX6_type 0 = .ok (.iload_n 3, 1) := by decide +kernel
theorem dX6_type_1 : decode cX6_type 1 = .ok (.iconst 1, 1) := by decide +kernel
theorem dX6_type_2 : decode cX6_type 2 = .ok (.if_icmp .lt 9, 3) := by decide +kernel
theorem dX6_type_5 : decode cX6_type 5 = .ok (.iload_n 3, 1) := by decide +kernel
theorem dX6_type_6 : decode cX6_type 6 = .ok (.bipush 8, 2) := by decide +kernel
theorem dX6_type_8 : decode cX6_type 8 = .ok (.if_icmp .le 5, 3) := by decide +kernel
theorem dX6_type_11 : decode cX6_type 11 = .ok (.iconst (-1), 1) := by decide +kernel
theorem dX6_type_12 : decode cX6_type 12 = .ok (.ireturn, 1) := by decide +kernel
theorem dX6_type_13 : decode cX6_type 13 = .ok (.aload_n 0, 1) := by decide +kernel
theorem dX6_type_14 : decode cX6_type 14 = .ok (.getfield 22, 3) := by decide +kernel
theorem dX6_type_17 : decode cX6_type 17 = .ok (.getfield 87, 3) := by decide +kernel
theorem dX6_type_20 : decode cX6_type 20 = .ok (.astore 4, 2) := by decide +kernel
theorem dX6_type_22 : decode cX6_type 22 = .ok (.aload 4, 2) := by decide +kernel
theorem dX6_type_24 : decode cX6_type 24 = .ok (.getfield 91, 3) := by decide +kernel
theorem dX6_type_27 : decode cX6_type 27 = .ok (.iload_n 3, 1) := by decide +kernel
theorem dX6_type_28 : decode cX6_type 28 = .ok (.iadd, 1) := by decide +kernel
theorem dX6_type_29 : decode cX6_type 29 = .ok (.bipush 80, 2) := by decide +kernel
theorem dX6_type_31 : decode cX6_type 31 = .ok (.if_icmp .le 6, 3) := by decide +kernel
theorem dX6_type_34 : decode cX6_type 34 = .ok (.bipush (-3), 2) := by decide +kernel
theorem dX6_type_36 : decode cX6_type 36 = .ok (.ireturn, 1) := by decide +kernel
theorem dX6_type_37 : decode cX6_type 37 = .ok (.aload 4, 2) := by decide +kernel
theorem dX6_type_39 : decode cX6_type 39 = .ok (.lload_n 1, 1) := by decide +kernel
theorem dX6_type_40 : decode cX6_type 40 = .ok (.iload_n 3, 1) := by decide +kernel
theorem dX6_type_41 : decode cX6_type 41 = .ok (.invokevirtual 96, 3) := by decide +kernel
theorem dX6_type_44 : decode cX6_type 44 = .ok (.aload 4, 2) := by decide +kernel
theorem dX6_type_46 : decode cX6_type 46 = .ok (.getfield 91, 3) := by decide +kernel
theorem dX6_type_49 : decode cX6_type 49 = .ok (.ireturn, 1) := by decide +kernel
theorem dX6_clear_0 : decode cX6_clear 0 = .ok (.aload_n 0, 1) := by decide +kernel
theorem dX6_clear_1 : decode cX6_clear 1 = .ok (.getfield 22, 3) := by decide +kernel
theorem dX6_clear_4 : decode cX6_clear 4 = .ok (.getfield 87, 3) := by decide +kernel
theorem dX6_clear_7 : decode cX6_clear 7 = .ok (.getfield 91, 3) := by decide +kernel
theorem dX6_clear_10 : decode cX6_clear 10 = .ok (.istore_n 1, 1) := by decide +kernel
theorem dX6_clear_11 : decode cX6_clear 11 = .ok (.aload_n 0, 1) := by decide +kernel
theorem dX6_clear_12 : decode cX6_clear 12 = .ok (.getfield 22, 3) := by decide +kernel
theorem dX6_clear_15 : decode cX6_clear 15 = .ok (.getfield 87, 3) := by decide +kernel
theorem dX6_clear_18 : decode cX6_clear 18 = .ok (.iconst 0, 1) := by decide +kernel
theorem dX6_clear_19 : decode cX6_clear 19 = .ok (.putfield 91, 3) := by decide +kernel
theorem dX6_clear_22 : decode cX6_clear 22 = .ok (.iload_n 1, 1) := by decide +kernel
theorem dX6_clear_23 : decode cX6_clear 23 = .ok (.ireturn, 1) := by decide +kernel
theorem dX6_read_0 : decode cX6_read 0 = .ok (.aload_n 0, 1) := by decide +kernel
theorem dX6_read_1 : decode cX6_read 1 = .ok (.iload_n 1, 1) := by decide +kernel
theorem dX6_read_2 : decode cX6_read 2 = .ok (.invokevirtual 72, 3) := by decide +kernel
theorem dX6_read_5 : decode cX6_read 5 = .ok (.astore_n 2, 1) := by decide +kernel
theorem dX6_read_6 : decode cX6_read 6 = .ok (.aload_n 2, 1) := by decide +kernel
theorem dX6_read_7 : decode cX6_read 7 = .ok (.ifnonnull 5, 3) := by decide +kernel
theorem dX6_read_10 : decode cX6_read 10 = .ok (.iconst (-1), 1) := by decide +kernel
theorem dX6_read_11 : decode cX6_read 11 = .ok (.ireturn, 1) := by decide +kernel
theorem dX6_read_12 : decode cX6_read 12 = .ok (.aload_n 0, 1) := by decide +kernel
theorem dX6_read_13 : decode cX6_read 13 = .ok (.getfield 22, 3) := by decide +kernel
theorem dX6_read_16 : decode cX6_read 16 = .ok (.aload_n 0, 1) := by decide +kernel
theorem dX6_read_17 : decode cX6_read 17 = .ok (.getfield 40, 3) := by decide +kernel
theorem dX6_read_20 : decode cX6_read 20 = .ok (.invokevirtual 100, 3) := by decide +kernel
theorem dX6_read_23 : decode cX6_read 23 = .ok (.istore_n 3, 1) := by decide +kernel
theorem dX6_read_24 : decode cX6_read 24 = .ok (.iload_n 3, 1) := by decide +kernel
theorem dX6_read_25 : decode cX6_read 25 = .ok (.iconst (-1), 1) := by decide +kernel
theorem dX6_read_26 : decode cX6_read 26 = .ok (.if_icmp .eq 8, 3) := by decide +kernel
theorem dX6_read_29 : decode cX6_read 29 = .ok (.bipush (-10), 2) := by decide +kernel
theorem dX6_read_31 : decode cX6_read 31 = .ok (.iload_n 3, 1) := by decide +kernel
theorem dX6_read_32 : decode cX6_read 32 = .ok (.isub, 1) := by decide +kernel
theorem dX6_read_33 : decode cX6_read 33 = .ok (.ireturn, 1) := by decide +kernel
theorem dX6_read_34 : decode cX6_read 34 = .ok (.aload_n 2, 1) := by decide +kernel
theorem dX6_read_35 : decode cX6_read 35 = .ok (.aload_n 0, 1) := by decide +kernel
theorem dX6_read_36 : decode cX6_read 36 = .ok (.getfield 22, 3) := by decide +kernel
theorem dX6_read_39 : decode cX6_read 39 = .ok (.getfield 104, 3) := by decide +kernel
theorem dX6_read_42 : decode cX6_read 42 = .ok (.invokevirtual 108, 3) := by decide +kernel
theorem dX6_read_45 : decode cX6_read 45 = .ok (.aload_n 0, 1) := by decide +kernel
theorem dX6_read_46 : decode cX6_read 46 = .ok (.getfield 29, 3) := by decide +kernel
theorem dX6_read_49 : decode cX6_read 49 = .ok (.dup, 1) := by decide +kernel
theorem dX6_read_50 : decode cX6_read 50 = .ok (.getfield 112, 3) := by decide +kernel
theorem dX6_read_53 : decode cX6_read 53 = .ok (.iconst 1, 1) := by decide +kernel
theorem dX6_read_54 : decode cX6_read 54 = .ok (.iload_n 1, 1) := by decide +kernel
theorem dX6_read_55 : decode cX6_read 55 = .ok (.ishl, 1) := by decide +kernel
theorem dX6_read_56 : decode cX6_read 56 = .ok (.ior, 1) := by decide +kernel
theorem dX6_read_57 : decode cX6_read 57 = .ok (.putfield 112, 3) := by decide +kernel
theorem dX6_read_60 : decode cX6_read 60 = .ok (.aload_n 0, 1) := by decide +kernel
theorem dX6_read_61 : decode cX6_read 61 = .ok (.getfield 22, 3) := by decide +kernel
theorem dX6_read_64 : decode cX6_read 64 = .ok (.getfield 87, 3) := by decide +kernel
theorem dX6_read_67 : decode cX6_read 67 = .ok (.iconst 0, 1) := by decide +kernel
theorem dX6_read_68 : decode cX6_read 68 = .ok (.putfield 91, 3) := by decide +kernel
theorem dX6_read_71 : decode cX6_read 71 = .ok (.iconst 1, 1) := by decide +kernel
theorem dX6_read_72 : decode cX6_read 72 = .ok (.ireturn, 1) := by decide +kernel
theorem dX6_about_0 : decode cX6_about 0 = .ok (.aload_n 0, 1) := by decide +kernel
theorem dX6_about_1 : decode cX6_about 1 = .ok (.iload_n 1, 1) := by decide +kernel
theorem dX6_about_2 : decode cX6_about 2 = .ok (.invokevirtual 72, 3) := by decide +kernel
theorem dX6_about_5 : decode cX6_about 5 = .ok (.astore_n 3, 1) := by decide +kernel
theorem dX6_about_6 : decode cX6_about 6 = .ok (.aload_n 3, 1) := by decide +kernel
theorem dX6_about_7 : decode cX6_about 7 = .ok (.ifnonnull 5, 3) := by decide +kernel
theorem dX6_about_10 : decode cX6_about 10 = .ok (.iconst (-1), 1) := by decide +kernel
theorem dX6_about_11 : decode cX6_about 11 = .ok (.ireturn, 1) := by decide +kernel
theorem dX6_about_12 : decode cX6_about 12 = .ok (.iload_n 2, 1) := by decide +kernel
theorem dX6_about_13 : decode cX6_about 13 = .ok (.tableswitch 72 0 5 #[39, 44, 49, 54, 59, 67], 39) := by decide +kernel
theorem dX6_about_52 : decode cX6_about 52 = .ok (.aload_n 3, 1) := by decide +kernel
theorem dX6_about_53 : decode cX6_about 53 = .ok (.getfield 115, 3) := by decide +kernel
theorem dX6_about_56 : decode cX6_about 56 = .ok (.ireturn, 1) := by decide +kernel
theorem dX6_about_57 : decode cX6_about 57 = .ok (.aload_n 3, 1) := by decide +kernel
theorem dX6_about_58 : decode cX6_about 58 = .ok (.getfield 118, 3) := by decide +kernel
theorem dX6_about_61 : decode cX6_about 61 = .ok (.ireturn, 1) := by decide +kernel
theorem dX6_about_62 : decode cX6_about 62 = .ok (.aload_n 3, 1) := by decide +kernel
theorem dX6_about_63 : decode cX6_about 63 = .ok (.getfield 121, 3) := by decide +kernel
theorem dX6_about_66 : decode cX6_about 66 = .ok (.ireturn, 1) := by decide +kernel
theorem dX6_about_67 : decode cX6_about 67 = .ok (.aload_n 3, 1) := by decide +kernel
theorem dX6_about_68 : decode cX6_about 68 = .ok (.getfield 124, 3) := by decide +kernel
theorem dX6_about_71 : decode cX6_about 71 = .ok (.ireturn, 1) := by decide +kernel
theorem dX6_about_72 : decode cX6_about 72 = .ok (.aload_n 3, 1) := by decide +kernel
theorem dX6_about_73 : decode cX6_about 73 = .ok (.getfield 127, 3) := by decide +kernel
theorem dX6_about_76 : decode cX6_about 76 = .ok (.invokestatic 83, 3) := by decide +kernel
theorem dX6_about_79 : decode cX6_about 79 = .ok (.ireturn, 1) := by decide +kernel
theorem dX6_about_80 : decode cX6_about 80 = .ok (.aload_n 3, 1) := by decide +kernel
theorem dX6_about_81 : decode cX6_about 81 = .ok (.getfield 131, 3) := by decide +kernel
theorem dX6_about_84 : decode cX6_about 84 = .ok (.ireturn, 1) := by decide +kernel
theorem dX6_about_85 : decode cX6_about 85 = .ok (.iconst (-1), 1) := by decide +kernel
theorem dX6_about_86 : decode cX6_about 86 = .ok (.ireturn, 1) := by decide +kernel
theorem dX6_can_0 : decode cX6_can 0 = .ok (.iload_n 1, 1) := by decide +kernel
theorem dX6_can_1 : decode cX6_can 1 = .ok (.invokestatic 134, 3) := by decide +kernel
theorem dX6_can_4 : decode cX6_can 4 = .ok (.ifCond .ne 5, 3) := by decide +kernel
theorem dX6_can_7 : decode cX6_can 7 = .ok (.iconst (-1), 1) := by decide +kernel
theorem dX6_can_8 : decode cX6_can 8 = .ok (.ireturn, 1) := by decide +kernel
theorem dX6_can_9 : decode cX6_can 9 = .ok (.aload_n 0, 1) := by decide +kernel
theorem dX6_can_10 : decode cX6_can 10 = .ok (.invokevirtual 137, 3) := by decide +kernel
theorem dX6_can_13 : decode cX6_can 13 = .ok (.iload_n 1, 1) := by decide +kernel
theorem dX6_can_14 : decode cX6_can 14 = .ok (.invokevirtual 141, 3) := by decide +kernel
theorem dX6_can_17 : decode cX6_can 17 = .ok (.ireturn, 1) := by decide +kernel
theorem dX6_least_0 : decode cX6_least 0 = .ok (.iload_n 1, 1) := by decide +kernel
theorem dX6_least_1 : decode cX6_least 1 = .ok (.invokestatic 134, 3) := by decide +kernel
theorem dX6_least_4 : decode cX6_least 4 = .ok (.ifCond .eq 11, 3) := by decide +kernel
theorem dX6_least_7 : decode cX6_least 7 = .ok (.aload_n 0, 1) := by decide +kernel
theorem dX6_least_8 : decode cX6_least 8 = .ok (.iload_n 2, 1) := by decide +kernel
theorem dX6_least_9 : decode cX6_least 9 = .ok (.invokevirtual 144, 3) := by decide +kernel
theorem dX6_least_12 : decode cX6_least 12 = .ok (.ifCond .ne 5, 3) := by decide +kernel
theorem dX6_least_15 : decode cX6_least 15 = .ok (.iconst (-1), 1) := by decide +kernel
theorem dX6_least_16 : decode cX6_least 16 = .ok (.ireturn, 1) := by decide +kernel
theorem dX6_least_17 : decode cX6_least 17 = .ok (.aload_n 0, 1) := by decide +kernel
theorem dX6_least_18 : decode cX6_least 18 = .ok (.invokevirtual 137, 3) := by decide +kernel
theorem dX6_least_21 : decode cX6_least 21 = .ok (.astore_n 3, 1) := by decide +kernel
theorem dX6_least_22 : decode cX6_least 22 = .ok (.aload_n 3, 1) := by decide +kernel
theorem dX6_least_23 : decode cX6_least 23 = .ok (.aload_n 3, 1) := by decide +kernel
theorem dX6_least_24 : decode cX6_least 24 = .ok (.iload_n 1, 1) := by decide +kernel
theorem dX6_least_25 : decode cX6_least 25 = .ok (.iconst 0, 1) := by decide +kernel
theorem dX6_least_26 : decode cX6_least 26 = .ok (.invokevirtual 147, 3) := by decide +kernel
theorem dX6_least_29 : decode cX6_least 29 = .ok (.iload_n 2, 1) := by decide +kernel
theorem dX6_least_30 : decode cX6_least 30 = .ok (.invokevirtual 151, 3) := by decide +kernel
theorem dX6_least_33 : decode cX6_least 33 = .ok (.ireturn, 1) := by decide +kernel
theorem dX6_follows_0 : decode cX6_follows 0 = .ok (.iload_n 1, 1) := by decide +kernel
theorem dX6_follows_1 : decode cX6_follows 1 = .ok (.invokestatic 134, 3) := by decide +kernel
theorem dX6_follows_4 : decode cX6_follows 4 = .ok (.ifCond .eq 11, 3) := by decide +kernel
theorem dX6_follows_7 : decode cX6_follows 7 = .ok (.aload_n 0, 1) := by decide +kernel
theorem dX6_follows_8 : decode cX6_follows 8 = .ok (.iload_n 2, 1) := by decide +kernel
theorem dX6_follows_9 : decode cX6_follows 9 = .ok (.invokevirtual 72, 3) := by decide +kernel
theorem dX6_follows_12 : decode cX6_follows 12 = .ok (.ifnonnull 5, 3) := by decide +kernel
theorem dX6_follows_15 : decode cX6_follows 15 = .ok (.iconst (-1), 1) := by decide +kernel
theorem dX6_follows_16 : decode cX6_follows 16 = .ok (.ireturn, 1) := by decide +kernel
theorem dX6_follows_17 : decode cX6_follows 17 = .ok (.aload_n 0, 1) := by decide +kernel
theorem dX6_follows_18 : decode cX6_follows 18 = .ok (.invokevirtual 137, 3) := by decide +kernel
theorem dX6_follows_21 : decode cX6_follows 21 = .ok (.iload_n 1, 1) := by decide +kernel
theorem dX6_follows_22 : decode cX6_follows 22 = .ok (.iload_n 2, 1) := by decide +kernel
theorem dX6_follows_23 : decode cX6_follows 23 = .ok (.invokevirtual 154, 3) := by decide +kernel
theorem dX6_follows_26 : decode cX6_follows 26 = .ok (.invokestatic 83, 3) := by decide +kernel
theorem dX6_follows_29 : decode cX6_follows 29 = .ok (.ireturn, 1) := by decide +kernel
theorem dX6_against_0 : decode cX6_against 0 = .ok (.iload_n 1, 1) := by decide +kernel
theorem dX6_against_1 : decode cX6_against 1 = .ok (.invokestatic 134, 3) := by decide +kernel
theorem dX6_against_4 : decode cX6_against 4 = .ok (.ifCond .eq 19, 3) := by decide +kernel
theorem dX6_against_7 : decode cX6_against 7 = .ok (.aload_n 0, 1) := by decide +kernel
theorem dX6_against_8 : decode cX6_against 8 = .ok (.iload_n 2, 1) := by decide +kernel
theorem dX6_against_9 : decode cX6_against 9 = .ok (.invokevirtual 72, 3) := by decide +kernel
theorem dX6_against_12 : decode cX6_against 12 = .ok (.ifnull 11, 3) := by decide +kernel
theorem dX6_against_15 : decode cX6_against 15 = .ok (.aload_n 0, 1) := by decide +kernel
theorem dX6_against_16 : decode cX6_against 16 = .ok (.iload_n 3, 1) := by decide +kernel
theorem dX6_against_17 : decode cX6_against 17 = .ok (.invokevirtual 144, 3) := by decide +kernel
theorem dX6_against_20 : decode cX6_against 20 = .ok (.ifCond .ne 5, 3) := by decide +kernel
theorem dX6_against_23 : decode cX6_against 23 = .ok (.iconst (-1), 1) := by decide +kernel
theorem dX6_against_24 : decode cX6_against 24 = .ok (.ireturn, 1) := by decide +kernel
theorem dX6_against_25 : decode cX6_against 25 = .ok (.aload_n 0, 1) := by decide +kernel
theorem dX6_against_26 : decode cX6_against 26 = .ok (.invokevirtual 137, 3) := by decide +kernel
theorem dX6_against_29 : decode cX6_against 29 = .ok (.astore 4, 2) := by decide +kernel
theorem dX6_against_31 : decode cX6_against 31 = .ok (.aload 4, 2) := by decide +kernel
theorem dX6_against_33 : decode cX6_against 33 = .ok (.aload 4, 2) := by decide +kernel
theorem dX6_against_35 : decode cX6_against 35 = .ok (.iload_n 1, 1) := by decide +kernel
theorem dX6_against_36 : decode cX6_against 36 = .ok (.iconst 1, 1) := by decide +kernel
theorem dX6_against_37 : decode cX6_against 37 = .ok (.iload_n 2, 1) := by decide +kernel
theorem dX6_against_38 : decode cX6_against 38 = .ok (.ishl, 1) := by decide +kernel
theorem dX6_against_39 : decode cX6_against 39 = .ok (.invokevirtual 147, 3) := by decide +kernel
theorem dX6_against_42 : decode cX6_against 42 = .ok (.iload_n 3, 1) := by decide +kernel
theorem dX6_against_43 : decode cX6_against 43 = .ok (.invokevirtual 151, 3) := by decide +kernel
theorem dX6_against_46 : decode cX6_against 46 = .ok (.ireturn, 1) := by decide +kernel
theorem dX6_unsaid_0 : decode cX6_unsaid 0 = .ok (.iload_n 1, 1) := by decide +kernel
theorem dX6_unsaid_1 : decode cX6_unsaid 1 = .ok (.invokestatic 134, 3) := by decide +kernel
theorem dX6_unsaid_4 : decode cX6_unsaid 4 = .ok (.ifCond .ne 5, 3) := by decide +kernel
theorem dX6_unsaid_7 : decode cX6_unsaid 7 = .ok (.iconst (-1), 1) := by decide +kernel
theorem dX6_unsaid_8 : decode cX6_unsaid 8 = .ok (.ireturn, 1) := by decide +kernel
theorem dX6_unsaid_9 : decode cX6_unsaid 9 = .ok (.aload_n 0, 1) := by decide +kernel
theorem dX6_unsaid_10 : decode cX6_unsaid 10 = .ok (.invokevirtual 137, 3) := by decide +kernel
theorem dX6_unsaid_13 : decode cX6_unsaid 13 = .ok (.astore_n 2, 1) := by decide +kernel
theorem dX6_unsaid_14 : decode cX6_unsaid 14 = .ok (.iconst 0, 1) := by decide +kernel
theorem dX6_unsaid_15 : decode cX6_unsaid 15 = .ok (.istore_n 3, 1) := by decide +kernel
theorem dX6_unsaid_16 : decode cX6_unsaid 16 = .ok (.iconst 0, 1) := by decide +kernel
theorem dX6_unsaid_17 : decode cX6_unsaid 17 = .ok (.istore 4, 2) := by decide +kernel
theorem dX6_unsaid_19 : decode cX6_unsaid 19 = .ok (.iload 4, 2) := by decide +kernel
theorem dX6_unsaid_21 : decode cX6_unsaid 21 = .ok (.bipush 10, 2) := by decide +kernel
theorem dX6_unsaid_23 : decode cX6_unsaid 23 = .ok (.if_icmp .ge 42, 3) := by decide +kernel
theorem dX6_unsaid_26 : decode cX6_unsaid 26 = .ok (.iload_n 1, 1) := by decide +kernel
theorem dX6_unsaid_27 : decode cX6_unsaid 27 = .ok (.iload 4, 2) := by decide +kernel
theorem dX6_unsaid_29 : decode cX6_unsaid 29 = .ok (.invokestatic 158, 3) := by decide +kernel
theorem dX6_unsaid_32 : decode cX6_unsaid 32 = .ok (.ifCond .eq 27, 3) := by decide +kernel
theorem dX6_unsaid_35 : decode cX6_unsaid 35 = .ok (.aload_n 2, 1) := by decide +kernel
theorem dX6_unsaid_36 : decode cX6_unsaid 36 = .ok (.iload_n 1, 1) := by decide +kernel
theorem dX6_unsaid_37 : decode cX6_unsaid 37 = .ok (.iconst 1, 1) := by decide +kernel
theorem dX6_unsaid_38 : decode cX6_unsaid 38 = .ok (.iload 4, 2) := by decide +kernel
theorem dX6_unsaid_40 : decode cX6_unsaid 40 = .ok (.ishl, 1) := by decide +kernel
theorem dX6_unsaid_41 : decode cX6_unsaid 41 = .ok (.iconst (-1), 1) := by decide +kernel
theorem dX6_unsaid_42 : decode cX6_unsaid 42 = .ok (.ixor, 1) := by decide +kernel
theorem dX6_unsaid_43 : decode cX6_unsaid 43 = .ok (.iand, 1) := by decide +kernel
theorem dX6_unsaid_44 : decode cX6_unsaid 44 = .ok (.iload 4, 2) := by decide +kernel
theorem dX6_unsaid_46 : decode cX6_unsaid 46 = .ok (.invokevirtual 154, 3) := by decide +kernel
theorem dX6_unsaid_49 : decode cX6_unsaid 49 = .ok (.ifCond .eq 10, 3) := by decide +kernel
theorem dX6_unsaid_52 : decode cX6_unsaid 52 = .ok (.iload_n 3, 1) := by decide +kernel
theorem dX6_unsaid_53 : decode cX6_unsaid 53 = .ok (.iconst 1, 1) := by decide +kernel
theorem dX6_unsaid_54 : decode cX6_unsaid 54 = .ok (.iload 4, 2) := by decide +kernel
theorem dX6_unsaid_56 : decode cX6_unsaid 56 = .ok (.ishl, 1) := by decide +kernel
theorem dX6_unsaid_57 : decode cX6_unsaid 57 = .ok (.ior, 1) := by decide +kernel
theorem dX6_unsaid_58 : decode cX6_unsaid 58 = .ok (.istore_n 3, 1) := by decide +kernel
theorem dX6_unsaid_59 : decode cX6_unsaid 59 = .ok (.iinc 4 1, 3) := by decide +kernel
theorem dX6_unsaid_62 : decode cX6_unsaid 62 = .ok (.goto (-43), 3) := by decide +kernel
theorem dX6_unsaid_65 : decode cX6_unsaid 65 = .ok (.iload_n 3, 1) := by decide +kernel
theorem dX6_unsaid_66 : decode cX6_unsaid 66 = .ok (.ireturn, 1) := by decide +kernel
theorem dX6_clash_0 : decode cX6_clash 0 = .ok (.iload_n 1, 1) := by decide +kernel
theorem dX6_clash_1 : decode cX6_clash 1 = .ok (.invokestatic 134, 3) := by decide +kernel
theorem dX6_clash_4 : decode cX6_clash 4 = .ok (.ifCond .eq 12, 3) := by decide +kernel
theorem dX6_clash_7 : decode cX6_clash 7 = .ok (.iload_n 2, 1) := by decide +kernel
theorem dX6_clash_8 : decode cX6_clash 8 = .ok (.ifCond .lt 8, 3) := by decide +kernel
theorem dX6_clash_11 : decode cX6_clash 11 = .ok (.iload_n 2, 1) := by decide +kernel
theorem dX6_clash_12 : decode cX6_clash 12 = .ok (.iconst 1, 1) := by decide +kernel
theorem dX6_clash_13 : decode cX6_clash 13 = .ok (.if_icmp .le 5, 3) := by decide +kernel
theorem dX6_clash_16 : decode cX6_clash 16 = .ok (.iconst (-1), 1) := by decide +kernel
theorem dX6_clash_17 : decode cX6_clash 17 = .ok (.ireturn, 1) := by decide +kernel
theorem dX6_clash_18 : decode cX6_clash 18 = .ok (.aload_n 0, 1) := by decide +kernel
theorem dX6_clash_19 : decode cX6_clash 19 = .ok (.invokevirtual 137, 3) := by decide +kernel
theorem dX6_clash_22 : decode cX6_clash 22 = .ok (.iload_n 1, 1) := by decide +kernel
theorem dX6_clash_23 : decode cX6_clash 23 = .ok (.invokevirtual 161, 3) := by decide +kernel
theorem dX6_clash_26 : decode cX6_clash 26 = .ok (.istore_n 3, 1) := by decide +kernel
theorem dX6_clash_27 : decode cX6_clash 27 = .ok (.iload_n 3, 1) := by decide +kernel
theorem dX6_clash_28 : decode cX6_clash 28 = .ok (.bipush (-9), 2) := by decide +kernel
theorem dX6_clash_30 : decode cX6_clash 30 = .ok (.if_icmp .ne 6, 3) := by decide +kernel
theorem dX6_clash_33 : decode cX6_clash 33 = .ok (.bipush (-9), 2) := by decide +kernel
theorem dX6_clash_35 : decode cX6_clash 35 = .ok (.ireturn, 1) := by decide +kernel
theorem dX6_clash_36 : decode cX6_clash 36 = .ok (.iload_n 2, 1) := by decide +kernel
theorem dX6_clash_37 : decode cX6_clash 37 = .ok (.ifCond .ne 10, 3) := by decide +kernel
theorem dX6_clash_40 : decode cX6_clash 40 = .ok (.iload_n 3, 1) := by decide +kernel
theorem dX6_clash_41 : decode cX6_clash 41 = .ok (.invokestatic 164, 3) := by decide +kernel
theorem dX6_clash_44 : decode cX6_clash 44 = .ok (.goto 4, 3) := by decide +kernel
theorem dX6_clash_47 : decode cX6_clash 47 = .ok (.iload_n 3, 1) := by decide +kernel
theorem dX6_clash_48 : decode cX6_clash 48 = .ok (.ireturn, 1) := by decide +kernel
theorem dX6_ask_0 : decode cX6_ask 0 = .ok (.iload_n 1, 1) := by decide +kernel
theorem dX6_ask_1 : decode cX6_ask 1 = .ok (.invokestatic 134, 3) := by decide +kernel
theorem dX6_ask_4 : decode cX6_ask 4 = .ok (.ifCond .ne 5, 3) := by decide +kernel
theorem dX6_ask_7 : decode cX6_ask 7 = .ok (.iconst (-1), 1) := by decide +kernel
theorem dX6_ask_8 : decode cX6_ask 8 = .ok (.ireturn, 1) := by decide +kernel
theorem dX6_ask_9 : decode cX6_ask 9 = .ok (.aload_n 0, 1) := by decide +kernel
theorem dX6_ask_10 : decode cX6_ask 10 = .ok (.invokevirtual 137, 3) := by decide +kernel
theorem dX6_ask_13 : decode cX6_ask 13 = .ok (.astore_n 2, 1) := by decide +kernel
theorem dX6_ask_14 : decode cX6_ask 14 = .ok (.aload_n 2, 1) := by decide +kernel
theorem dX6_ask_15 : decode cX6_ask 15 = .ok (.iload_n 1, 1) := by decide +kernel
theorem dX6_ask_16 : decode cX6_ask 16 = .ok (.invokevirtual 141, 3) := by decide +kernel
theorem dX6_ask_19 : decode cX6_ask 19 = .ok (.istore_n 3, 1) := by decide +kernel
theorem dX6_ask_20 : decode cX6_ask 20 = .ok (.iload_n 3, 1) := by decide +kernel
theorem dX6_ask_21 : decode cX6_ask 21 = .ok (.ifCond .ne 6, 3) := by decide +kernel
theorem dX6_ask_24 : decode cX6_ask 24 = .ok (.bipush (-2), 2) := by decide +kernel
theorem dX6_ask_26 : decode cX6_ask 26 = .ok (.ireturn, 1) := by decide +kernel
theorem dX6_ask_27 : decode cX6_ask 27 = .ok (.iconst 0, 1) := by decide +kernel
theorem dX6_ask_28 : decode cX6_ask 28 = .ok (.istore 4, 2) := by decide +kernel
theorem dX6_ask_30 : decode cX6_ask 30 = .ok (.iload_n 3, 1) := by decide +kernel
theorem dX6_ask_31 : decode cX6_ask 31 = .ok (.iconst 1, 1) := by decide +kernel
theorem dX6_ask_32 : decode cX6_ask 32 = .ok (.iadd, 1) := by decide +kernel
theorem dX6_ask_33 : decode cX6_ask 33 = .ok (.istore 5, 2) := by decide +kernel
theorem dX6_ask_35 : decode cX6_ask 35 = .ok (.iconst 0, 1) := by decide +kernel
theorem dX6_ask_36 : decode cX6_ask 36 = .ok (.istore 6, 2) := by decide +kernel
theorem dX6_ask_38 : decode cX6_ask 38 = .ok (.iload 6, 2) := by decide +kernel
theorem dX6_ask_40 : decode cX6_ask 40 = .ok (.bipush 10, 2) := by decide +kernel
theorem dX6_ask_42 : decode cX6_ask 42 = .ok (.if_icmp .ge 47, 3) := by decide +kernel
theorem dX6_ask_45 : decode cX6_ask 45 = .ok (.aload_n 2, 1) := by decide +kernel
theorem dX6_ask_46 : decode cX6_ask 46 = .ok (.iload_n 1, 1) := by decide +kernel
theorem dX6_ask_47 : decode cX6_ask 47 = .ok (.iconst 1, 1) := by decide +kernel
theorem dX6_ask_48 : decode cX6_ask 48 = .ok (.iload 6, 2) := by decide +kernel
theorem dX6_ask_50 : decode cX6_ask 50 = .ok (.ishl, 1) := by decide +kernel
theorem dX6_ask_51 : decode cX6_ask 51 = .ok (.ior, 1) := by decide +kernel
theorem dX6_ask_52 : decode cX6_ask 52 = .ok (.invokevirtual 141, 3) := by decide +kernel
theorem dX6_ask_55 : decode cX6_ask 55 = .ok (.istore 7, 2) := by decide +kernel
theorem dX6_ask_57 : decode cX6_ask 57 = .ok (.iload 7, 2) := by decide +kernel
theorem dX6_ask_59 : decode cX6_ask 59 = .ok (.iload_n 3, 1) := by decide +kernel
theorem dX6_ask_60 : decode cX6_ask 60 = .ok (.iload 7, 2) := by decide +kernel
theorem dX6_ask_62 : decode cX6_ask 62 = .ok (.isub, 1) := by decide +kernel
theorem dX6_ask_63 : decode cX6_ask 63 = .ok (.invokestatic 169, 3) := by decide +kernel
theorem dX6_ask_66 : decode cX6_ask 66 = .ok (.istore 8, 2) := by decide +kernel
theorem dX6_ask_68 : decode cX6_ask 68 = .ok (.iload 8, 2) := by decide +kernel
theorem dX6_ask_70 : decode cX6_ask 70 = .ok (.iload 5, 2) := by decide +kernel
theorem dX6_ask_72 : decode cX6_ask 72 = .ok (.if_icmp .ge 11, 3) := by decide +kernel
theorem dX6_ask_75 : decode cX6_ask 75 = .ok (.iload 8, 2) := by decide +kernel
theorem dX6_ask_77 : decode cX6_ask 77 = .ok (.istore 5, 2) := by decide +kernel
theorem dX6_ask_79 : decode cX6_ask 79 = .ok (.iload 6, 2) := by decide +kernel
theorem dX6_ask_81 : decode cX6_ask 81 = .ok (.istore 4, 2) := by decide +kernel
theorem dX6_ask_83 : decode cX6_ask 83 = .ok (.iinc 6 1, 3) := by decide +kernel
theorem dX6_ask_86 : decode cX6_ask 86 = .ok (.goto (-48), 3) := by decide +kernel
theorem dX6_ask_89 : decode cX6_ask 89 = .ok (.iload 4, 2) := by decide +kernel
theorem dX6_ask_91 : decode cX6_ask 91 = .ok (.ireturn, 1) := by decide +kernel
theorem dX6_heaps_0 : decode cX6_heaps 0 = .ok (.iload_n 1, 1) := by decide +kernel
theorem dX6_heaps_1 : decode cX6_heaps 1 = .ok (.invokestatic 134, 3) := by decide +kernel
theorem dX6_heaps_4 : decode cX6_heaps 4 = .ok (.ifCond .ne 5, 3) := by decide +kernel
theorem dX6_heaps_7 : decode cX6_heaps 7 = .ok (.iconst (-1), 1) := by decide +kernel
theorem dX6_heaps_8 : decode cX6_heaps 8 = .ok (.ireturn, 1) := by decide +kernel
theorem dX6_heaps_9 : decode cX6_heaps 9 = .ok (.aload_n 0, 1) := by decide +kernel
theorem dX6_heaps_10 : decode cX6_heaps 10 = .ok (.invokevirtual 137, 3) := by decide +kernel
theorem dX6_heaps_13 : decode cX6_heaps 13 = .ok (.iload_n 1, 1) := by decide +kernel
theorem dX6_heaps_14 : decode cX6_heaps 14 = .ok (.invokevirtual 174, 3) := by decide +kernel
theorem dX6_heaps_17 : decode cX6_heaps 17 = .ok (.ireturn, 1) := by decide +kernel
theorem dX6_twin_0 : decode cX6_twin 0 = .ok (.aload_n 0, 1) := by decide +kernel
theorem dX6_twin_1 : decode cX6_twin 1 = .ok (.iload_n 1, 1) := by decide +kernel
theorem dX6_twin_2 : decode cX6_twin 2 = .ok (.invokevirtual 72, 3) := by decide +kernel
theorem dX6_twin_5 : decode cX6_twin 5 = .ok (.ifnonnull 5, 3) := by decide +kernel
theorem dX6_twin_8 : decode cX6_twin 8 = .ok (.iconst (-1), 1) := by decide +kernel
theorem dX6_twin_9 : decode cX6_twin 9 = .ok (.ireturn, 1) := by decide +kernel
theorem dX6_twin_10 : decode cX6_twin 10 = .ok (.aload_n 0, 1) := by decide +kernel
theorem dX6_twin_11 : decode cX6_twin 11 = .ok (.invokevirtual 137, 3) := by decide +kernel
theorem dX6_twin_14 : decode cX6_twin 14 = .ok (.astore_n 2, 1) := by decide +kernel
theorem dX6_twin_15 : decode cX6_twin 15 = .ok (.iconst 0, 1) := by decide +kernel
theorem dX6_twin_16 : decode cX6_twin 16 = .ok (.istore_n 3, 1) := by decide +kernel
theorem dX6_twin_17 : decode cX6_twin 17 = .ok (.iload_n 3, 1) := by decide +kernel
theorem dX6_twin_18 : decode cX6_twin 18 = .ok (.bipush 10, 2) := by decide +kernel
theorem dX6_twin_20 : decode cX6_twin 20 = .ok (.if_icmp .ge 38, 3) := by decide +kernel
theorem dX6_twin_23 : decode cX6_twin 23 = .ok (.iload_n 3, 1) := by decide +kernel
theorem dX6_twin_24 : decode cX6_twin 24 = .ok (.iload_n 1, 1) := by decide +kernel
theorem dX6_twin_25 : decode cX6_twin 25 = .ok (.if_icmp .eq 27, 3) := by decide +kernel
theorem dX6_twin_28 : decode cX6_twin 28 = .ok (.aload_n 2, 1) := by decide +kernel
theorem dX6_twin_29 : decode cX6_twin 29 = .ok (.iconst 1, 1) := by decide +kernel
theorem dX6_twin_30 : decode cX6_twin 30 = .ok (.iload_n 1, 1) := by decide +kernel
theorem dX6_twin_31 : decode cX6_twin 31 = .ok (.ishl, 1) := by decide +kernel
theorem dX6_twin_32 : decode cX6_twin 32 = .ok (.iload_n 3, 1) := by decide +kernel
theorem dX6_twin_33 : decode cX6_twin 33 = .ok (.invokevirtual 154, 3) := by decide +kernel
theorem dX6_twin_36 : decode cX6_twin 36 = .ok (.ifCond .eq 16, 3) := by decide +kernel
theorem dX6_twin_39 : decode cX6_twin 39 = .ok (.aload_n 2, 1) := by decide +kernel
theorem dX6_twin_40 : decode cX6_twin 40 = .ok (.iconst 1, 1) := by decide +kernel
theorem dX6_twin_41 : decode cX6_twin 41 = .ok (.iload_n 3, 1) := by decide +kernel
theorem dX6_twin_42 : decode cX6_twin 42 = .ok (.ishl, 1) := by decide +kernel
theorem dX6_twin_43 : decode cX6_twin 43 = .ok (.iload_n 1, 1) := by decide +kernel
theorem dX6_twin_44 : decode cX6_twin 44 = .ok (.invokevirtual 154, 3) := by decide +kernel
theorem dX6_twin_47 : decode cX6_twin 47 = .ok (.ifCond .eq 5, 3) := by decide +kernel
theorem dX6_twin_50 : decode cX6_twin 50 = .ok (.iload_n 3, 1) := by decide +kernel
theorem dX6_twin_51 : decode cX6_twin 51 = .ok (.ireturn, 1) := by decide +kernel
theorem dX6_twin_52 : decode cX6_twin 52 = .ok (.iinc 3 1, 3) := by decide +kernel
theorem dX6_twin_55 : decode cX6_twin 55 = .ok (.goto (-38), 3) := by decide +kernel
theorem dX6_twin_58 : decode cX6_twin 58 = .ok (.bipush (-9), 2) := by decide +kernel
theorem dX6_twin_60 : decode cX6_twin 60 = .ok (.ireturn, 1) := by decide +kernel
theorem dX6_moods_0 : decode cX6_moods 0 = .ok (.iload_n 1, 1) := by decide +kernel
theorem dX6_moods_1 : decode cX6_moods 1 = .ok (.ifCond .lt 10, 3) := by decide +kernel
theorem dX6_moods_4 : decode cX6_moods 4 = .ok (.iload_n 1, 1) := by decide +kernel
theorem dX6_moods_5 : decode cX6_moods 5 = .ok (.sipush 512, 3) := by decide +kernel
theorem dX6_moods_8 : decode cX6_moods 8 = .ok (.if_icmp .lt 5, 3) := by decide +kernel
theorem dX6_moods_11 : decode cX6_moods 11 = .ok (.iconst (-1), 1) := by decide +kernel
theorem dX6_moods_12 : decode cX6_moods 12 = .ok (.ireturn, 1) := by decide +kernel
theorem dX6_moods_13 : decode cX6_moods 13 = .ok (.aload_n 0, 1) := by decide +kernel
theorem dX6_moods_14 : decode cX6_moods 14 = .ok (.getfield 47, 3) := by decide +kernel
theorem dX6_moods_17 : decode cX6_moods 17 = .ok (.istore_n 2, 1) := by decide +kernel
theorem dX6_moods_18 : decode cX6_moods 18 = .ok (.aload_n 0, 1) := by decide +kernel
theorem dX6_moods_19 : decode cX6_moods 19 = .ok (.iload_n 1, 1) := by decide +kernel
theorem dX6_moods_20 : decode cX6_moods 20 = .ok (.putfield 47, 3) := by decide +kernel
theorem dX6_moods_23 : decode cX6_moods 23 = .ok (.iload_n 2, 1) := by decide +kernel
theorem dX6_moods_24 : decode cX6_moods 24 = .ok (.ireturn, 1) := by decide +kernel
theorem dX6_round_0 : decode cX6_round 0 = .ok (.iload_n 1, 1) := by decide +kernel
theorem dX6_round_1 : decode cX6_round 1 = .ok (.invokestatic 134, 3) := by decide +kernel
theorem dX6_round_4 : decode cX6_round 4 = .ok (.ifCond .eq 14, 3) := by decide +kernel
theorem dX6_round_7 : decode cX6_round 7 = .ok (.aload_n 0, 1) := by decide +kernel
theorem dX6_round_8 : decode cX6_round 8 = .ok (.iload_n 2, 1) := by decide +kernel
theorem dX6_round_9 : decode cX6_round 9 = .ok (.iload_n 3, 1) := by decide +kernel
theorem dX6_round_10 : decode cX6_round 10 = .ok (.iload 4, 2) := by decide +kernel
theorem dX6_round_12 : decode cX6_round 12 = .ok (.invokevirtual 177, 3) := by decide +kernel
theorem dX6_round_15 : decode cX6_round 15 = .ok (.ifCond .ne 5, 3) := by decide +kernel
theorem dX6_round_18 : decode cX6_round 18 = .ok (.iconst (-1), 1) := by decide +kernel
theorem dX6_round_19 : decode cX6_round 19 = .ok (.ireturn, 1) := by decide +kernel
theorem dX6_round_20 : decode cX6_round 20 = .ok (.aload_n 0, 1) := by decide +kernel
theorem dX6_round_21 : decode cX6_round 21 = .ok (.iload_n 1, 1) := by decide +kernel
theorem dX6_round_22 : decode cX6_round 22 = .ok (.invokevirtual 181, 3) := by decide +kernel
theorem dX6_round_25 : decode cX6_round 25 = .ok (.aload_n 0, 1) := by decide +kernel
theorem dX6_round_26 : decode cX6_round 26 = .ok (.getfield 36, 3) := by decide +kernel
theorem dX6_round_29 : decode cX6_round 29 = .ok (.iload_n 2, 1) := by decide +kernel
theorem dX6_round_30 : decode cX6_round 30 = .ok (.iload_n 3, 1) := by decide +kernel
theorem dX6_round_31 : decode cX6_round 31 = .ok (.iload 4, 2) := by decide +kernel
theorem dX6_round_33 : decode cX6_round 33 = .ok (.invokestatic 185, 3) := by decide +kernel
theorem dX6_round_36 : decode cX6_round 36 = .ok (.invokevirtual 189, 3) := by decide +kernel
theorem dX6_round_39 : decode cX6_round 39 = .ok (.ireturn, 1) := by decide +kernel
theorem dX6_by_0 : decode cX6_by 0 = .ok (.iload_n 1, 1) := by decide +kernel
theorem dX6_by_1 : decode cX6_by 1 = .ok (.invokestatic 134, 3) := by decide +kernel
theorem dX6_by_4 : decode cX6_by 4 = .ok (.ifCond .eq 25, 3) := by decide +kernel
theorem dX6_by_7 : decode cX6_by 7 = .ok (.aload_n 0, 1) := by decide +kernel
theorem dX6_by_8 : decode cX6_by 8 = .ok (.iload_n 2, 1) := by decide +kernel
theorem dX6_by_9 : decode cX6_by 9 = .ok (.iload_n 3, 1) := by decide +kernel
theorem dX6_by_10 : decode cX6_by 10 = .ok (.iload 4, 2) := by decide +kernel
theorem dX6_by_12 : decode cX6_by 12 = .ok (.invokevirtual 177, 3) := by decide +kernel
theorem dX6_by_15 : decode cX6_by 15 = .ok (.ifCond .eq 14, 3) := by decide +kernel
theorem dX6_by_18 : decode cX6_by 18 = .ok (.iload 5, 2) := by decide +kernel
theorem dX6_by_20 : decode cX6_by 20 = .ok (.ifCond .lt 9, 3) := by decide +kernel
theorem dX6_by_23 : decode cX6_by 23 = .ok (.iload 5, 2) := by decide +kernel
theorem dX6_by_25 : decode cX6_by 25 = .ok (.iconst 2, 1) := by decide +kernel
theorem dX6_by_26 : decode cX6_by 26 = .ok (.if_icmp .le 5, 3) := by decide +kernel
theorem dX6_by_29 : decode cX6_by 29 = .ok (.iconst (-1), 1) := by decide +kernel
theorem dX6_by_30 : decode cX6_by 30 = .ok (.ireturn, 1) := by decide +kernel
theorem dX6_by_31 : decode cX6_by 31 = .ok (.aload_n 0, 1) := by decide +kernel
theorem dX6_by_32 : decode cX6_by 32 = .ok (.iload_n 1, 1) := by decide +kernel
theorem dX6_by_33 : decode cX6_by 33 = .ok (.invokevirtual 181, 3) := by decide +kernel
theorem dX6_by_36 : decode cX6_by 36 = .ok (.aload_n 0, 1) := by decide +kernel
theorem dX6_by_37 : decode cX6_by 37 = .ok (.getfield 36, 3) := by decide +kernel
theorem dX6_by_40 : decode cX6_by 40 = .ok (.iload_n 2, 1) := by decide +kernel
theorem dX6_by_41 : decode cX6_by 41 = .ok (.iload_n 3, 1) := by decide +kernel
theorem dX6_by_42 : decode cX6_by 42 = .ok (.iload 4, 2) := by decide +kernel
theorem dX6_by_44 : decode cX6_by 44 = .ok (.invokestatic 185, 3) := by decide +kernel
theorem dX6_by_47 : decode cX6_by 47 = .ok (.iload 5, 2) := by decide +kernel
theorem dX6_by_49 : decode cX6_by 49 = .ok (.invokevirtual 192, 3) := by decide +kernel
theorem dX6_by_52 : decode cX6_by 52 = .ok (.ireturn, 1) := by decide +kernel
theorem dX6_shown_0 : decode cX6_shown 0 = .ok (.iload_n 1, 1) := by decide +kernel
theorem dX6_shown_1 : decode cX6_shown 1 = .ok (.invokestatic 134, 3) := by decide +kernel
theorem dX6_shown_4 : decode cX6_shown 4 = .ok (.ifCond .eq 12, 3) := by decide +kernel
theorem dX6_shown_7 : decode cX6_shown 7 = .ok (.iload_n 2, 1) := by decide +kernel
theorem dX6_shown_8 : decode cX6_shown 8 = .ok (.ifCond .lt 8, 3) := by decide +kernel
theorem dX6_shown_11 : decode cX6_shown 11 = .ok (.iload_n 2, 1) := by decide +kernel
theorem dX6_shown_12 : decode cX6_shown 12 = .ok (.iconst 3, 1) := by decide +kernel
theorem dX6_shown_13 : decode cX6_shown 13 = .ok (.if_icmp .le 5, 3) := by decide +kernel
theorem dX6_shown_16 : decode cX6_shown 16 = .ok (.iconst (-1), 1) := by decide +kernel
theorem dX6_shown_17 : decode cX6_shown 17 = .ok (.ireturn, 1) := by decide +kernel
theorem dX6_shown_18 : decode cX6_shown 18 = .ok (.aload_n 0, 1) := by decide +kernel
theorem dX6_shown_19 : decode cX6_shown 19 = .ok (.iload_n 1, 1) := by decide +kernel
theorem dX6_shown_20 : decode cX6_shown 20 = .ok (.invokevirtual 181, 3) := by decide +kernel
theorem dX6_shown_23 : decode cX6_shown 23 = .ok (.aload_n 0, 1) := by decide +kernel
theorem dX6_shown_24 : decode cX6_shown 24 = .ok (.getfield 36, 3) := by decide +kernel
theorem dX6_shown_27 : decode cX6_shown 27 = .ok (.invokevirtual 195, 3) := by decide +kernel
theorem dX6_shown_30 : decode cX6_shown 30 = .ok (.lstore_n 3, 1) := by decide +kernel
theorem dX6_shown_31 : decode cX6_shown 31 = .ok (.iload_n 2, 1) := by decide +kernel
theorem dX6_shown_32 : decode cX6_shown 32 = .ok (.tableswitch 49 0 2 #[28, 33, 41], 28) := by decide +kernel
theorem dX6_shown_60 : decode cX6_shown 60 = .ok (.lload_n 3, 1) := by decide +kernel
theorem dX6_shown_61 : decode cX6_shown 61 = .ok (.invokestatic 199, 3) := by decide +kernel
theorem dX6_shown_64 : decode cX6_shown 64 = .ok (.ireturn, 1) := by decide +kernel
theorem dX6_shown_65 : decode cX6_shown 65 = .ok (.aload_n 0, 1) := by decide +kernel
theorem dX6_shown_66 : decode cX6_shown 66 = .ok (.getfield 36, 3) := by decide +kernel
theorem dX6_shown_69 : decode cX6_shown 69 = .ok (.getfield 204, 3) := by decide +kernel
theorem dX6_shown_72 : decode cX6_shown 72 = .ok (.ireturn, 1) := by decide +kernel
theorem dX6_shown_73 : decode cX6_shown 73 = .ok (.lload_n 3, 1) := by decide +kernel
theorem dX6_shown_74 : decode cX6_shown 74 = .ok (.invokestatic 207, 3) := by decide +kernel
theorem dX6_shown_77 : decode cX6_shown 77 = .ok (.invokestatic 83, 3) := by decide +kernel
theorem dX6_shown_80 : decode cX6_shown 80 = .ok (.ireturn, 1) := by decide +kernel
theorem dX6_shown_81 : decode cX6_shown 81 = .ok (.aload_n 0, 1) := by decide +kernel
theorem dX6_shown_82 : decode cX6_shown 82 = .ok (.invokevirtual 137, 3) := by decide +kernel
theorem dX6_shown_85 : decode cX6_shown 85 = .ok (.iload_n 1, 1) := by decide +kernel
theorem dX6_shown_86 : decode cX6_shown 86 = .ok (.invokevirtual 211, 3) := by decide +kernel
theorem dX6_shown_89 : decode cX6_shown 89 = .ok (.aload_n 0, 1) := by decide +kernel
theorem dX6_shown_90 : decode cX6_shown 90 = .ok (.invokevirtual 215, 3) := by decide +kernel
theorem dX6_shown_93 : decode cX6_shown 93 = .ok (.land, 1) := by decide +kernel
theorem dX6_shown_94 : decode cX6_shown 94 = .ok (.lload_n 3, 1) := by decide +kernel
theorem dX6_shown_95 : decode cX6_shown 95 = .ok (.ldc2_w 218, 3) := by decide +kernel
theorem dX6_shown_98 : decode cX6_shown 98 = .ok (.lxor, 1) := by decide +kernel
theorem dX6_shown_99 : decode cX6_shown 99 = .ok (.land, 1) := by decide +kernel
theorem dX6_shown_100 : decode cX6_shown 100 = .ok (.invokestatic 199, 3) := by decide +kernel
theorem dX6_shown_103 : decode cX6_shown 103 = .ok (.ireturn, 1) := by decide +kernel
theorem dX6_count_0 : decode cX6_count 0 = .ok (.iload_n 1, 1) := by decide +kernel
theorem dX6_count_1 : decode cX6_count 1 = .ok (.tableswitch 66 0 4 #[35, 40, 45, 50, 61], 35) := by decide +kernel
theorem dX6_count_36 : decode cX6_count 36 = .ok (.aload_n 0, 1) := by decide +kernel
theorem dX6_count_37 : decode cX6_count 37 = .ok (.getfield 40, 3) := by decide +kernel
theorem dX6_count_40 : decode cX6_count 40 = .ok (.ireturn, 1) := by decide +kernel
theorem dX6_count_41 : decode cX6_count 41 = .ok (.aload_n 0, 1) := by decide +kernel
theorem dX6_count_42 : decode cX6_count 42 = .ok (.getfield 44, 3) := by decide +kernel
theorem dX6_count_45 : decode cX6_count 45 = .ok (.ireturn, 1) := by decide +kernel
theorem dX6_count_46 : decode cX6_count 46 = .ok (.aload_n 0, 1) := by decide +kernel
theorem dX6_count_47 : decode cX6_count 47 = .ok (.invokevirtual 69, 3) := by decide +kernel
theorem dX6_count_50 : decode cX6_count 50 = .ok (.ireturn, 1) := by decide +kernel
theorem dX6_count_51 : decode cX6_count 51 = .ok (.aload_n 0, 1) := by decide +kernel
theorem dX6_count_52 : decode cX6_count 52 = .ok (.getfield 22, 3) := by decide +kernel
theorem dX6_count_55 : decode cX6_count 55 = .ok (.getfield 87, 3) := by decide +kernel
theorem dX6_count_58 : decode cX6_count 58 = .ok (.getfield 91, 3) := by decide +kernel
theorem dX6_count_61 : decode cX6_count 61 = .ok (.ireturn, 1) := by decide +kernel
theorem dX6_count_62 : decode cX6_count 62 = .ok (.aload_n 0, 1) := by decide +kernel
theorem dX6_count_63 : decode cX6_count 63 = .ok (.invokevirtual 220, 3) := by decide +kernel
theorem dX6_count_66 : decode cX6_count 66 = .ok (.ireturn, 1) := by decide +kernel
theorem dX6_count_67 : decode cX6_count 67 = .ok (.iconst (-1), 1) := by decide +kernel
theorem dX6_count_68 : decode cX6_count 68 = .ok (.ireturn, 1) := by decide +kernel
theorem dX6_startOver_0 : decode cX6_startOver 0 = .ok (.iconst 0, 1) := by decide +kernel
theorem dX6_startOver_1 : decode cX6_startOver 1 = .ok (.istore_n 1, 1) := by decide +kernel
theorem dX6_startOver_2 : decode cX6_startOver 2 = .ok (.iload_n 1, 1) := by decide +kernel
theorem dX6_startOver_3 : decode cX6_startOver 3 = .ok (.aload_n 0, 1) := by decide +kernel
theorem dX6_startOver_4 : decode cX6_startOver 4 = .ok (.getfield 11, 3) := by decide +kernel
theorem dX6_startOver_7 : decode cX6_startOver 7 = .ok (.arraylength, 1) := by decide +kernel
theorem dX6_startOver_8 : decode cX6_startOver 8 = .ok (.if_icmp .ge 28, 3) := by decide +kernel
theorem dX6_startOver_11 : decode cX6_startOver 11 = .ok (.aload_n 0, 1) := by decide +kernel
theorem dX6_startOver_12 : decode cX6_startOver 12 = .ok (.getfield 11, 3) := by decide +kernel
theorem dX6_startOver_15 : decode cX6_startOver 15 = .ok (.iload_n 1, 1) := by decide +kernel
theorem dX6_startOver_16 : decode cX6_startOver 16 = .ok (.aaload, 1) := by decide +kernel
theorem dX6_startOver_17 : decode cX6_startOver 17 = .ok (.astore_n 2, 1) := by decide +kernel
theorem dX6_startOver_18 : decode cX6_startOver 18 = .ok (.aload_n 2, 1) := by decide +kernel
theorem dX6_startOver_19 : decode cX6_startOver 19 = .ok (.ifnull 11, 3) := by decide +kernel
theorem dX6_startOver_22 : decode cX6_startOver 22 = .ok (.aload_n 2, 1) := by decide +kernel
theorem dX6_startOver_23 : decode cX6_startOver 23 = .ok (.aload_n 0, 1) := by decide +kernel
theorem dX6_startOver_24 : decode cX6_startOver 24 = .ok (.getfield 40, 3) := by decide +kernel
theorem dX6_startOver_27 : decode cX6_startOver 27 = .ok (.invokevirtual 223, 3) := by decide +kernel
theorem dX6_startOver_30 : decode cX6_startOver 30 = .ok (.iinc 1 1, 3) := by decide +kernel
theorem dX6_startOver_33 : decode cX6_startOver 33 = .ok (.goto (-31), 3) := by decide +kernel
theorem dX6_startOver_36 : decode cX6_startOver 36 = .ok (.iconst 0, 1) := by decide +kernel
theorem dX6_startOver_37 : decode cX6_startOver 37 = .ok (.istore_n 1, 1) := by decide +kernel
theorem dX6_startOver_38 : decode cX6_startOver 38 = .ok (.iload_n 1, 1) := by decide +kernel
theorem dX6_startOver_39 : decode cX6_startOver 39 = .ok (.aload_n 0, 1) := by decide +kernel
theorem dX6_startOver_40 : decode cX6_startOver 40 = .ok (.getfield 15, 3) := by decide +kernel
theorem dX6_startOver_43 : decode cX6_startOver 43 = .ok (.arraylength, 1) := by decide +kernel
theorem dX6_startOver_44 : decode cX6_startOver 44 = .ok (.if_icmp .ge 16, 3) := by decide +kernel
theorem dX6_startOver_47 : decode cX6_startOver 47 = .ok (.aload_n 0, 1) := by decide +kernel
theorem dX6_startOver_48 : decode cX6_startOver 48 = .ok (.getfield 15, 3) := by decide +kernel
theorem dX6_startOver_51 : decode cX6_startOver 51 = .ok (.iload_n 1, 1) := by decide +kernel
theorem dX6_startOver_52 : decode cX6_startOver 52 = .ok (.iconst 0, 1) := by decide +kernel
theorem dX6_startOver_53 : decode cX6_startOver 53 = .ok (.iastore, 1) := by decide +kernel
theorem dX6_startOver_54 : decode cX6_startOver 54 = .ok (.iinc 1 1, 3) := by decide +kernel
theorem dX6_startOver_57 : decode cX6_startOver 57 = .ok (.goto (-19), 3) := by decide +kernel
theorem dX6_startOver_60 : decode cX6_startOver 60 = .ok (.aload_n 0, 1) := by decide +kernel
theorem dX6_startOver_61 : decode cX6_startOver 61 = .ok (.getfield 29, 3) := by decide +kernel
theorem dX6_startOver_64 : decode cX6_startOver 64 = .ok (.aload_n 0, 1) := by decide +kernel
theorem dX6_startOver_65 : decode cX6_startOver 65 = .ok (.invokevirtual 54, 3) := by decide +kernel
theorem dX6_startOver_68 : decode cX6_startOver 68 = .ok (.aload_n 0, 1) := by decide +kernel
theorem dX6_startOver_69 : decode cX6_startOver 69 = .ok (.getfield 44, 3) := by decide +kernel
theorem dX6_startOver_72 : decode cX6_startOver 72 = .ok (.invokevirtual 58, 3) := by decide +kernel
theorem dX6_startOver_75 : decode cX6_startOver 75 = .ok (.return_, 1) := by decide +kernel
theorem dX6_sayingAt_0 : decode cX6_sayingAt 0 = .ok (.iload_n 1, 1) := by decide +kernel
theorem dX6_sayingAt_1 : decode cX6_sayingAt 1 = .ok (.ifCond .lt 21, 3) := by decide +kernel
theorem dX6_sayingAt_4 : decode cX6_sayingAt 4 = .ok (.iload_n 1, 1) := by decide +kernel
theorem dX6_sayingAt_5 : decode cX6_sayingAt 5 = .ok (.aload_n 0, 1) := by decide +kernel
theorem dX6_sayingAt_6 : decode cX6_sayingAt 6 = .ok (.getfield 11, 3) := by decide +kernel
theorem dX6_sayingAt_9 : decode cX6_sayingAt 9 = .ok (.arraylength, 1) := by decide +kernel
theorem dX6_sayingAt_10 : decode cX6_sayingAt 10 = .ok (.if_icmp .ge 12, 3) := by decide +kernel
theorem dX6_sayingAt_13 : decode cX6_sayingAt 13 = .ok (.aload_n 0, 1) := by decide +kernel
theorem dX6_sayingAt_14 : decode cX6_sayingAt 14 = .ok (.getfield 11, 3) := by decide +kernel
theorem dX6_sayingAt_17 : decode cX6_sayingAt 17 = .ok (.iload_n 1, 1) := by decide +kernel
theorem dX6_sayingAt_18 : decode cX6_sayingAt 18 = .ok (.aaload, 1) := by decide +kernel
theorem dX6_sayingAt_19 : decode cX6_sayingAt 19 = .ok (.goto 4, 3) := by decide +kernel
theorem dX6_sayingAt_22 : decode cX6_sayingAt 22 = .ok (.aconst_null, 1) := by decide +kernel
theorem dX6_sayingAt_23 : decode cX6_sayingAt 23 = .ok (.areturn, 1) := by decide +kernel
theorem dX6_sortCount_0 : decode cX6_sortCount 0 = .ok (.iconst 1, 1) := by decide +kernel
theorem dX6_sortCount_1 : decode cX6_sortCount 1 = .ok (.aload_n 0, 1) := by decide +kernel
theorem dX6_sortCount_2 : decode cX6_sortCount 2 = .ok (.getfield 40, 3) := by decide +kernel
theorem dX6_sortCount_5 : decode cX6_sortCount 5 = .ok (.ishl, 1) := by decide +kernel
theorem dX6_sortCount_6 : decode cX6_sortCount 6 = .ok (.ireturn, 1) := by decide +kernel
theorem dX6_isSort_0 : decode cX6_isSort 0 = .ok (.iload_n 1, 1) := by decide +kernel
theorem dX6_isSort_1 : decode cX6_isSort 1 = .ok (.ifCond .lt 24, 3) := by decide +kernel
theorem dX6_isSort_4 : decode cX6_isSort 4 = .ok (.iload_n 1, 1) := by decide +kernel
theorem dX6_isSort_5 : decode cX6_isSort 5 = .ok (.aload_n 0, 1) := by decide +kernel
theorem dX6_isSort_6 : decode cX6_isSort 6 = .ok (.invokevirtual 54, 3) := by decide +kernel
theorem dX6_isSort_9 : decode cX6_isSort 9 = .ok (.if_icmp .ge 16, 3) := by decide +kernel
theorem dX6_isSort_12 : decode cX6_isSort 12 = .ok (.iload_n 1, 1) := by decide +kernel
theorem dX6_isSort_13 : decode cX6_isSort 13 = .ok (.aload_n 0, 1) := by decide +kernel
theorem dX6_isSort_14 : decode cX6_isSort 14 = .ok (.getfield 15, 3) := by decide +kernel
theorem dX6_isSort_17 : decode cX6_isSort 17 = .ok (.arraylength, 1) := by decide +kernel
theorem dX6_isSort_18 : decode cX6_isSort 18 = .ok (.if_icmp .ge 7, 3) := by decide +kernel
theorem dX6_isSort_21 : decode cX6_isSort 21 = .ok (.iconst 1, 1) := by decide +kernel
theorem dX6_isSort_22 : decode cX6_isSort 22 = .ok (.goto 4, 3) := by decide +kernel
theorem dX6_isSort_25 : decode cX6_isSort 25 = .ok (.iconst 0, 1) := by decide +kernel
theorem dX6_isSort_26 : decode cX6_isSort 26 = .ok (.ireturn, 1) := by decide +kernel
theorem dX6_isSortOrEvery_0 : decode cX6_isSortOrEvery 0 = .ok (.iload_n 1, 1) := by decide +kernel
theorem dX6_isSortOrEvery_1 : decode cX6_isSortOrEvery 1 = .ok (.iconst (-1), 1) := by decide +kernel
theorem dX6_isSortOrEvery_2 : decode cX6_isSortOrEvery 2 = .ok (.if_icmp .eq 11, 3) := by decide +kernel
theorem dX6_isSortOrEvery_5 : decode cX6_isSortOrEvery 5 = .ok (.aload_n 0, 1) := by decide +kernel
theorem dX6_isSortOrEvery_6 : decode cX6_isSortOrEvery 6 = .ok (.iload_n 1, 1) := by decide +kernel
theorem dX6_isSortOrEvery_7 : decode cX6_isSortOrEvery 7 = .ok (.invokevirtual 65, 3) := by decide +kernel
theorem dX6_isSortOrEvery_10 : decode cX6_isSortOrEvery 10 = .ok (.ifCond .eq 7, 3) := by decide +kernel
theorem dX6_isSortOrEvery_13 : decode cX6_isSortOrEvery 13 = .ok (.iconst 1, 1) := by decide +kernel
theorem dX6_isSortOrEvery_14 : decode cX6_isSortOrEvery 14 = .ok (.goto 4, 3) := by decide +kernel
theorem dX6_isSortOrEvery_17 : decode cX6_isSortOrEvery 17 = .ok (.iconst 0, 1) := by decide +kernel
theorem dX6_isSortOrEvery_18 : decode cX6_isSortOrEvery 18 = .ok (.ireturn, 1) := by decide +kernel
theorem dX6_isFact_0 : decode cX6_isFact 0 = .ok (.iload_n 1, 1) := by decide +kernel
theorem dX6_isFact_1 : decode cX6_isFact 1 = .ok (.ifCond .lt 36, 3) := by decide +kernel
theorem dX6_isFact_4 : decode cX6_isFact 4 = .ok (.iload_n 1, 1) := by decide +kernel
theorem dX6_isFact_5 : decode cX6_isFact 5 = .ok (.iconst 3, 1) := by decide +kernel
theorem dX6_isFact_6 : decode cX6_isFact 6 = .ok (.if_icmp .gt 31, 3) := by decide +kernel
theorem dX6_isFact_9 : decode cX6_isFact 9 = .ok (.iload_n 2, 1) := by decide +kernel
theorem dX6_isFact_10 : decode cX6_isFact 10 = .ok (.ifCond .lt 27, 3) := by decide +kernel
theorem dX6_isFact_13 : decode cX6_isFact 13 = .ok (.iload_n 2, 1) := by decide +kernel
theorem dX6_isFact_14 : decode cX6_isFact 14 = .ok (.aload_n 0, 1) := by decide +kernel
theorem dX6_isFact_15 : decode cX6_isFact 15 = .ok (.getfield 40, 3) := by decide +kernel
theorem dX6_isFact_18 : decode cX6_isFact 18 = .ok (.if_icmp .ge 19, 3) := by decide +kernel
theorem dX6_isFact_21 : decode cX6_isFact 21 = .ok (.iload_n 3, 1) := by decide +kernel
theorem dX6_isFact_22 : decode cX6_isFact 22 = .ok (.ifCond .lt 15, 3) := by decide +kernel
theorem dX6_isFact_25 : decode cX6_isFact 25 = .ok (.iload_n 3, 1) := by decide +kernel
theorem dX6_isFact_26 : decode cX6_isFact 26 = .ok (.aload_n 0, 1) := by decide +kernel
theorem dX6_isFact_27 : decode cX6_isFact 27 = .ok (.getfield 40, 3) := by decide +kernel
theorem dX6_isFact_30 : decode cX6_isFact 30 = .ok (.if_icmp .ge 7, 3) := by decide +kernel
theorem dX6_isFact_33 : decode cX6_isFact 33 = .ok (.iconst 1, 1) := by decide +kernel
theorem dX6_isFact_34 : decode cX6_isFact 34 = .ok (.goto 4, 3) := by decide +kernel
theorem dX6_isFact_37 : decode cX6_isFact 37 = .ok (.iconst 0, 1) := by decide +kernel
theorem dX6_isFact_38 : decode cX6_isFact 38 = .ok (.ireturn, 1) := by decide +kernel
theorem dX6_thingsAtHand_0 : decode cX6_thingsAtHand 0 = .ok (.iconst 0, 1) := by decide +kernel
theorem dX6_thingsAtHand_1 : decode cX6_thingsAtHand 1 = .ok (.istore_n 1, 1) := by decide +kernel
theorem dX6_thingsAtHand_2 : decode cX6_thingsAtHand 2 = .ok (.iconst 0, 1) := by decide +kernel
theorem dX6_thingsAtHand_3 : decode cX6_thingsAtHand 3 = .ok (.istore_n 2, 1) := by decide +kernel
theorem dX6_thingsAtHand_4 : decode cX6_thingsAtHand 4 = .ok (.iload_n 2, 1) := by decide +kernel
theorem dX6_thingsAtHand_5 : decode cX6_thingsAtHand 5 = .ok (.aload_n 0, 1) := by decide +kernel
theorem dX6_thingsAtHand_6 : decode cX6_thingsAtHand 6 = .ok (.getfield 15, 3) := by decide +kernel
theorem dX6_thingsAtHand_9 : decode cX6_thingsAtHand 9 = .ok (.arraylength, 1) := by decide +kernel
theorem dX6_thingsAtHand_10 : decode cX6_thingsAtHand 10 = .ok (.if_icmp .ge 18, 3) := by decide +kernel
theorem dX6_thingsAtHand_13 : decode cX6_thingsAtHand 13 = .ok (.iload_n 1, 1) := by decide +kernel
theorem dX6_thingsAtHand_14 : decode cX6_thingsAtHand 14 = .ok (.aload_n 0, 1) := by decide +kernel
theorem dX6_thingsAtHand_15 : decode cX6_thingsAtHand 15 = .ok (.getfield 15, 3) := by decide +kernel
theorem dX6_thingsAtHand_18 : decode cX6_thingsAtHand 18 = .ok (.iload_n 2, 1) := by decide +kernel
theorem dX6_thingsAtHand_19 : decode cX6_thingsAtHand 19 = .ok (.iaload, 1) := by decide +kernel
theorem dX6_thingsAtHand_20 : decode cX6_thingsAtHand 20 = .ok (.iadd, 1) := by decide +kernel
theorem dX6_thingsAtHand_21 : decode cX6_thingsAtHand 21 = .ok (.istore_n 1, 1) := by decide +kernel
theorem dX6_thingsAtHand_22 : decode cX6_thingsAtHand 22 = .ok (.iinc 2 1, 3) := by decide +kernel
theorem dX6_thingsAtHand_25 : decode cX6_thingsAtHand 25 = .ok (.goto (-21), 3) := by decide +kernel
theorem dX6_thingsAtHand_28 : decode cX6_thingsAtHand 28 = .ok (.iload_n 1, 1) := by decide +kernel
theorem dX6_thingsAtHand_29 : decode cX6_thingsAtHand 29 = .ok (.ireturn, 1) := by decide +kernel
theorem dX6_sumAtHand_0 : decode cX6_sumAtHand 0 = .ok (.iconst 0, 1) := by decide +kernel
theorem dX6_sumAtHand_1 : decode cX6_sumAtHand 1 = .ok (.istore_n 2, 1) := by decide +kernel
theorem dX6_sumAtHand_2 : decode cX6_sumAtHand 2 = .ok (.iconst 0, 1) := by decide +kernel
theorem dX6_sumAtHand_3 : decode cX6_sumAtHand 3 = .ok (.istore_n 3, 1) := by decide +kernel
theorem dX6_sumAtHand_4 : decode cX6_sumAtHand 4 = .ok (.iload_n 3, 1) := by decide +kernel
theorem dX6_sumAtHand_5 : decode cX6_sumAtHand 5 = .ok (.aload_n 0, 1) := by decide +kernel
theorem dX6_sumAtHand_6 : decode cX6_sumAtHand 6 = .ok (.getfield 15, 3) := by decide +kernel
theorem dX6_sumAtHand_9 : decode cX6_sumAtHand 9 = .ok (.arraylength, 1) := by decide +kernel
theorem dX6_sumAtHand_10 : decode cX6_sumAtHand 10 = .ok (.if_icmp .ge 24, 3) := by decide +kernel
theorem dX6_sumAtHand_13 : decode cX6_sumAtHand 13 = .ok (.iload_n 2, 1) := by decide +kernel
theorem dX6_sumAtHand_14 : decode cX6_sumAtHand 14 = .ok (.aload_n 0, 1) := by decide +kernel
theorem dX6_sumAtHand_15 : decode cX6_sumAtHand 15 = .ok (.getfield 15, 3) := by decide +kernel
theorem dX6_sumAtHand_18 : decode cX6_sumAtHand 18 = .ok (.iload_n 3, 1) := by decide +kernel
theorem dX6_sumAtHand_19 : decode cX6_sumAtHand 19 = .ok (.iaload, 1) := by decide +kernel
theorem dX6_sumAtHand_20 : decode cX6_sumAtHand 20 = .ok (.aload_n 1, 1) := by decide +kernel
theorem dX6_sumAtHand_21 : decode cX6_sumAtHand 21 = .ok (.iload_n 3, 1) := by decide +kernel
theorem dX6_sumAtHand_22 : decode cX6_sumAtHand 22 = .ok (.invokevirtual 226, 3) := by decide +kernel
theorem dX6_sumAtHand_25 : decode cX6_sumAtHand 25 = .ok (.imul, 1) := by decide +kernel
theorem dX6_sumAtHand_26 : decode cX6_sumAtHand 26 = .ok (.iadd, 1) := by decide +kernel
theorem dX6_sumAtHand_27 : decode cX6_sumAtHand 27 = .ok (.istore_n 2, 1) := by decide +kernel
theorem dX6_sumAtHand_28 : decode cX6_sumAtHand 28 = .ok (.iinc 3 1, 3) := by decide +kernel
theorem dX6_sumAtHand_31 : decode cX6_sumAtHand 31 = .ok (.goto (-27), 3) := by decide +kernel
theorem dX6_sumAtHand_34 : decode cX6_sumAtHand 34 = .ok (.iload_n 2, 1) := by decide +kernel
theorem dX6_sumAtHand_35 : decode cX6_sumAtHand 35 = .ok (.ireturn, 1) := by decide +kernel
theorem dX6_freshHeaps_0 : decode cX6_freshHeaps 0 = .ok (.aload_n 0, 1) := by decide +kernel
theorem dX6_freshHeaps_1 : decode cX6_freshHeaps 1 = .ok (.getfield 29, 3) := by decide +kernel
theorem dX6_freshHeaps_4 : decode cX6_freshHeaps 4 = .ok (.aload_n 0, 1) := by decide +kernel
theorem dX6_freshHeaps_5 : decode cX6_freshHeaps 5 = .ok (.getfield 11, 3) := by decide +kernel
theorem dX6_freshHeaps_8 : decode cX6_freshHeaps 8 = .ok (.invokevirtual 229, 3) := by decide +kernel
theorem dX6_freshHeaps_11 : decode cX6_freshHeaps 11 = .ok (.aload_n 0, 1) := by decide +kernel
theorem dX6_freshHeaps_12 : decode cX6_freshHeaps 12 = .ok (.getfield 29, 3) := by decide +kernel
theorem dX6_freshHeaps_15 : decode cX6_freshHeaps 15 = .ok (.areturn, 1) := by decide +kernel
theorem dX6_work_0 : decode cX6_work 0 = .ok (.lconst 0, 1) := by decide +kernel
theorem dX6_work_1 : decode cX6_work 1 = .ok (.lstore_n 2, 1) := by decide +kernel
theorem dX6_work_2 : decode cX6_work 2 = .ok (.iconst 0, 1) := by decide +kernel
theorem dX6_work_3 : decode cX6_work 3 = .ok (.istore 4, 2) := by decide +kernel
theorem dX6_work_5 : decode cX6_work 5 = .ok (.iload 4, 2) := by decide +kernel
theorem dX6_work_7 : decode cX6_work 7 = .ok (.aload_n 0, 1) := by decide +kernel
theorem dX6_work_8 : decode cX6_work 8 = .ok (.getfield 11, 3) := by decide +kernel
theorem dX6_work_11 : decode cX6_work 11 = .ok (.arraylength, 1) := by decide +kernel
theorem dX6_work_12 : decode cX6_work 12 = .ok (.if_icmp .ge 52, 3) := by decide +kernel
theorem dX6_work_15 : decode cX6_work 15 = .ok (.aload_n 0, 1) := by decide +kernel
theorem dX6_work_16 : decode cX6_work 16 = .ok (.getfield 11, 3) := by decide +kernel
theorem dX6_work_19 : decode cX6_work 19 = .ok (.iload 4, 2) := by decide +kernel
theorem dX6_work_21 : decode cX6_work 21 = .ok (.aaload, 1) := by decide +kernel
theorem dX6_work_22 : decode cX6_work 22 = .ok (.astore 5, 2) := by decide +kernel
theorem dX6_work_24 : decode cX6_work 24 = .ok (.iload_n 1, 1) := by decide +kernel
theorem dX6_work_25 : decode cX6_work 25 = .ok (.iload 4, 2) := by decide +kernel
theorem dX6_work_27 : decode cX6_work 27 = .ok (.invokestatic 158, 3) := by decide +kernel
theorem dX6_work_30 : decode cX6_work 30 = .ok (.ifCond .eq 28, 3) := by decide +kernel
theorem dX6_work_33 : decode cX6_work 33 = .ok (.aload 5, 2) := by decide +kernel
theorem dX6_work_35 : decode cX6_work 35 = .ok (.ifnull 23, 3) := by decide +kernel
theorem dX6_work_38 : decode cX6_work 38 = .ok (.aload 5, 2) := by decide +kernel
theorem dX6_work_40 : decode cX6_work 40 = .ok (.getfield 131, 3) := by decide +kernel
theorem dX6_work_43 : decode cX6_work 43 = .ok (.bipush (-9), 2) := by decide +kernel
theorem dX6_work_45 : decode cX6_work 45 = .ok (.if_icmp .eq 13, 3) := by decide +kernel
theorem dX6_work_48 : decode cX6_work 48 = .ok (.lload_n 2, 1) := by decide +kernel
theorem dX6_work_49 : decode cX6_work 49 = .ok (.lconst 1, 1) := by decide +kernel
theorem dX6_work_50 : decode cX6_work 50 = .ok (.aload 5, 2) := by decide +kernel
theorem dX6_work_52 : decode cX6_work 52 = .ok (.getfield 131, 3) := by decide +kernel
theorem dX6_work_55 : decode cX6_work 55 = .ok (.lshl, 1) := by decide +kernel
theorem dX6_work_56 : decode cX6_work 56 = .ok (.lor, 1) := by decide +kernel
theorem dX6_work_57 : decode cX6_work 57 = .ok (.lstore_n 2, 1) := by decide +kernel
theorem dX6_work_58 : decode cX6_work 58 = .ok (.iinc 4 1, 3) := by decide +kernel
theorem dX6_work_61 : decode cX6_work 61 = .ok (.goto (-56), 3) := by decide +kernel
theorem dX6_work_64 : decode cX6_work 64 = .ok (.aload_n 0, 1) := by decide +kernel
theorem dX6_work_65 : decode cX6_work 65 = .ok (.getfield 36, 3) := by decide +kernel
theorem dX6_work_68 : decode cX6_work 68 = .ok (.lload_n 2, 1) := by decide +kernel
theorem dX6_work_69 : decode cX6_work 69 = .ok (.aload_n 0, 1) := by decide +kernel
theorem dX6_work_70 : decode cX6_work 70 = .ok (.getfield 47, 3) := by decide +kernel
theorem dX6_work_73 : decode cX6_work 73 = .ok (.aload_n 0, 1) := by decide +kernel
theorem dX6_work_74 : decode cX6_work 74 = .ok (.getfield 40, 3) := by decide +kernel
theorem dX6_work_77 : decode cX6_work 77 = .ok (.invokevirtual 233, 3) := by decide +kernel
theorem dX6_work_80 : decode cX6_work 80 = .ok (.return_, 1) := by decide +kernel
theorem dX6_plainSayings_0 : decode cX6_plainSayings 0 = .ok (.iconst 0, 1) := by decide +kernel
theorem dX6_plainSayings_1 : decode cX6_plainSayings 1 = .ok (.istore_n 1, 1) := by decide +kernel
theorem dX6_plainSayings_2 : decode cX6_plainSayings 2 = .ok (.iconst 0, 1) := by decide +kernel
theorem dX6_plainSayings_3 : decode cX6_plainSayings 3 = .ok (.istore_n 2, 1) := by decide +kernel
theorem dX6_plainSayings_4 : decode cX6_plainSayings 4 = .ok (.iload_n 2, 1) := by decide +kernel
theorem dX6_plainSayings_5 : decode cX6_plainSayings 5 = .ok (.aload_n 0, 1) := by decide +kernel
theorem dX6_plainSayings_6 : decode cX6_plainSayings 6 = .ok (.getfield 11, 3) := by decide +kernel
theorem dX6_plainSayings_9 : decode cX6_plainSayings 9 = .ok (.arraylength, 1) := by decide +kernel
theorem dX6_plainSayings_10 : decode cX6_plainSayings 10 = .ok (.if_icmp .ge 35, 3) := by decide +kernel
theorem dX6_plainSayings_13 : decode cX6_plainSayings 13 = .ok (.aload_n 0, 1) := by decide +kernel
theorem dX6_plainSayings_14 : decode cX6_plainSayings 14 = .ok (.getfield 11, 3) := by decide +kernel
theorem dX6_plainSayings_17 : decode cX6_plainSayings 17 = .ok (.iload_n 2, 1) := by decide +kernel
theorem dX6_plainSayings_18 : decode cX6_plainSayings 18 = .ok (.aaload, 1) := by decide +kernel
theorem dX6_plainSayings_19 : decode cX6_plainSayings 19 = .ok (.astore_n 3, 1) := by decide +kernel
theorem dX6_plainSayings_20 : decode cX6_plainSayings 20 = .ok (.aload_n 3, 1) := by decide +kernel
theorem dX6_plainSayings_21 : decode cX6_plainSayings 21 = .ok (.ifnull 18, 3) := by decide +kernel
theorem dX6_plainSayings_24 : decode cX6_plainSayings 24 = .ok (.aload_n 3, 1) := by decide +kernel
theorem dX6_plainSayings_25 : decode cX6_plainSayings 25 = .ok (.getfield 131, 3) := by decide +kernel
theorem dX6_plainSayings_28 : decode cX6_plainSayings 28 = .ok (.bipush (-9), 2) := by decide +kernel
theorem dX6_plainSayings_30 : decode cX6_plainSayings 30 = .ok (.if_icmp .eq 9, 3) := by decide +kernel
theorem dX6_plainSayings_33 : decode cX6_plainSayings 33 = .ok (.iload_n 1, 1) := by decide +kernel
theorem dX6_plainSayings_34 : decode cX6_plainSayings 34 = .ok (.iconst 1, 1) := by decide +kernel
theorem dX6_plainSayings_35 : decode cX6_plainSayings 35 = .ok (.iload_n 2, 1) := by decide +kernel
theorem dX6_plainSayings_36 : decode cX6_plainSayings 36 = .ok (.ishl, 1) := by decide +kernel
theorem dX6_plainSayings_37 : decode cX6_plainSayings 37 = .ok (.ior, 1) := by decide +kernel
theorem dX6_plainSayings_38 : decode cX6_plainSayings 38 = .ok (.istore_n 1, 1) := by decide +kernel
theorem dX6_plainSayings_39 : decode cX6_plainSayings 39 = .ok (.iinc 2 1, 3) := by decide +kernel
theorem dX6_plainSayings_42 : decode cX6_plainSayings 42 = .ok (.goto (-38), 3) := by decide +kernel
theorem dX6_plainSayings_45 : decode cX6_plainSayings 45 = .ok (.iload_n 1, 1) := by decide +kernel
theorem dX6_plainSayings_46 : decode cX6_plainSayings 46 = .ok (.ireturn, 1) := by decide +kernel
theorem dX6_everyFact_0 : decode cX6_everyFact 0 = .ok (.lconst 0, 1) := by decide +kernel
theorem dX6_everyFact_1 : decode cX6_everyFact 1 = .ok (.lstore_n 1, 1) := by decide +kernel
theorem dX6_everyFact_2 : decode cX6_everyFact 2 = .ok (.iconst 0, 1) := by decide +kernel
theorem dX6_everyFact_3 : decode cX6_everyFact 3 = .ok (.istore_n 3, 1) := by decide +kernel
theorem dX6_everyFact_4 : decode cX6_everyFact 4 = .ok (.iload_n 3, 1) := by decide +kernel
theorem dX6_everyFact_5 : decode cX6_everyFact 5 = .ok (.iconst 3, 1) := by decide +kernel
theorem dX6_everyFact_6 : decode cX6_everyFact 6 = .ok (.if_icmp .gt 58, 3) := by decide +kernel
theorem dX6_everyFact_9 : decode cX6_everyFact 9 = .ok (.iconst 0, 1) := by decide +kernel
theorem dX6_everyFact_10 : decode cX6_everyFact 10 = .ok (.istore 4, 2) := by decide +kernel
theorem dX6_everyFact_12 : decode cX6_everyFact 12 = .ok (.iload 4, 2) := by decide +kernel
theorem dX6_everyFact_14 : decode cX6_everyFact 14 = .ok (.aload_n 0, 1) := by decide +kernel
theorem dX6_everyFact_15 : decode cX6_everyFact 15 = .ok (.getfield 40, 3) := by decide +kernel
theorem dX6_everyFact_18 : decode cX6_everyFact 18 = .ok (.if_icmp .ge 40, 3) := by decide +kernel
theorem dX6_everyFact_21 : decode cX6_everyFact 21 = .ok (.iconst 0, 1) := by decide +kernel
theorem dX6_everyFact_22 : decode cX6_everyFact 22 = .ok (.istore 5, 2) := by decide +kernel
theorem dX6_everyFact_24 : decode cX6_everyFact 24 = .ok (.iload 5, 2) := by decide +kernel
theorem dX6_everyFact_26 : decode cX6_everyFact 26 = .ok (.aload_n 0, 1) := by decide +kernel
theorem dX6_everyFact_27 : decode cX6_everyFact 27 = .ok (.getfield 40, 3) := by decide +kernel
theorem dX6_everyFact_30 : decode cX6_everyFact 30 = .ok (.if_icmp .ge 22, 3) := by decide +kernel
theorem dX6_everyFact_33 : decode cX6_everyFact 33 = .ok (.lload_n 1, 1) := by decide +kernel
theorem dX6_everyFact_34 : decode cX6_everyFact 34 = .ok (.lconst 1, 1) := by decide +kernel
theorem dX6_everyFact_35 : decode cX6_everyFact 35 = .ok (.iload_n 3, 1) := by decide +kernel
theorem dX6_everyFact_36 : decode cX6_everyFact 36 = .ok (.iload 4, 2) := by decide +kernel
theorem dX6_everyFact_38 : decode cX6_everyFact 38 = .ok (.iload 5, 2) := by decide +kernel
theorem dX6_everyFact_40 : decode cX6_everyFact 40 = .ok (.invokestatic 185, 3) := by decide +kernel
theorem dX6_everyFact_43 : decode cX6_everyFact 43 = .ok (.lshl, 1) := by decide +kernel
theorem dX6_everyFact_44 : decode cX6_everyFact 44 = .ok (.lor, 1) := by decide +kernel
theorem dX6_everyFact_45 : decode cX6_everyFact 45 = .ok (.lstore_n 1, 1) := by decide +kernel
theorem dX6_everyFact_46 : decode cX6_everyFact 46 = .ok (.iinc 5 1, 3) := by decide +kernel
theorem dX6_everyFact_49 : decode cX6_everyFact 49 = .ok (.goto (-25), 3) := by decide +kernel
theorem dX6_everyFact_52 : decode cX6_everyFact 52 = .ok (.iinc 4 1, 3) := by decide +kernel
theorem dX6_everyFact_55 : decode cX6_everyFact 55 = .ok (.goto (-43), 3) := by decide +kernel
theorem dX6_everyFact_58 : decode cX6_everyFact 58 = .ok (.iinc 3 1, 3) := by decide +kernel
theorem dX6_everyFact_61 : decode cX6_everyFact 61 = .ok (.goto (-57), 3) := by decide +kernel
theorem dX6_everyFact_64 : decode cX6_everyFact 64 = .ok (.lload_n 1, 1) := by decide +kernel
theorem dX6_everyFact_65 : decode cX6_everyFact 65 = .ok (.lreturn, 1) := by decide +kernel
theorem dX6_isSet_0 : decode cX6_isSet 0 = .ok (.iload_n 0, 1) := by decide +kernel
theorem dX6_isSet_1 : decode cX6_isSet 1 = .ok (.ifCond .lt 14, 3) := by decide +kernel
theorem dX6_isSet_4 : decode cX6_isSet 4 = .ok (.iload_n 0, 1) := by decide +kernel
theorem dX6_isSet_5 : decode cX6_isSet 5 = .ok (.sipush 1024, 3) := by decide +kernel
theorem dX6_isSet_8 : decode cX6_isSet 8 = .ok (.if_icmp .ge 7, 3) := by decide +kernel
theorem dX6_isSet_11 : decode cX6_isSet 11 = .ok (.iconst 1, 1) := by decide +kernel
theorem dX6_isSet_12 : decode cX6_isSet 12 = .ok (.goto 4, 3) := by decide +kernel
theorem dX6_isSet_15 : decode cX6_isSet 15 = .ok (.iconst 0, 1) := by decide +kernel
theorem dX6_isSet_16 : decode cX6_isSet 16 = .ok (.ireturn, 1) := by decide +kernel
theorem dX6_has_0 : decode cX6_has 0 = .ok (.iload_n 0, 1) := by decide +kernel
theorem dX6_has_1 : decode cX6_has 1 = .ok (.iload_n 1, 1) := by decide +kernel
theorem dX6_has_2 : decode cX6_has 2 = .ok (.ishr, 1) := by decide +kernel
theorem dX6_has_3 : decode cX6_has 3 = .ok (.iconst 1, 1) := by decide +kernel
theorem dX6_has_4 : decode cX6_has 4 = .ok (.iand, 1) := by decide +kernel
theorem dX6_has_5 : decode cX6_has 5 = .ok (.ifCond .eq 7, 3) := by decide +kernel
theorem dX6_has_8 : decode cX6_has 8 = .ok (.iconst 1, 1) := by decide +kernel
theorem dX6_has_9 : decode cX6_has 9 = .ok (.goto 4, 3) := by decide +kernel
theorem dX6_has_12 : decode cX6_has 12 = .ok (.iconst 0, 1) := by decide +kernel
theorem dX6_has_13 : decode cX6_has 13 = .ok (.ireturn, 1) := by decide +kernel
theorem dX6_bit_0 : decode cX6_bit 0 = .ok (.iload_n 0, 1) := by decide +kernel
theorem dX6_bit_1 : decode cX6_bit 1 = .ok (.ifCond .eq 7, 3) := by decide +kernel
theorem dX6_bit_4 : decode cX6_bit 4 = .ok (.iconst 1, 1) := by decide +kernel
theorem dX6_bit_5 : decode cX6_bit 5 = .ok (.goto 4, 3) := by decide +kernel
theorem dX6_bit_8 : decode cX6_bit 8 = .ok (.iconst 0, 1) := by decide +kernel
theorem dX6_bit_9 : decode cX6_bit 9 = .ok (.ireturn, 1) := by decide +kernel
theorem dX6_factNumber_0 : decode cX6_factNumber 0 = .ok (.bipush 16, 2) := by decide +kernel
theorem dX6_factNumber_2 : decode cX6_factNumber 2 = .ok (.iload_n 0, 1) := by decide +kernel
theorem dX6_factNumber_3 : decode cX6_factNumber 3 = .ok (.imul, 1) := by decide +kernel
theorem dX6_factNumber_4 : decode cX6_factNumber 4 = .ok (.iconst 4, 1) := by decide +kernel
theorem dX6_factNumber_5 : decode cX6_factNumber 5 = .ok (.iload_n 1, 1) := by decide +kernel
theorem dX6_factNumber_6 : decode cX6_factNumber 6 = .ok (.imul, 1) := by decide +kernel
theorem dX6_factNumber_7 : decode cX6_factNumber 7 = .ok (.iadd, 1) := by decide +kernel
theorem dX6_factNumber_8 : decode cX6_factNumber 8 = .ok (.iload_n 2, 1) := by decide +kernel
theorem dX6_factNumber_9 : decode cX6_factNumber 9 = .ok (.iadd, 1) := by decide +kernel
theorem dX6_factNumber_10 : decode cX6_factNumber 10 = .ok (.ireturn, 1) := by decide +kernel
theorem dX6_isQuarrel_0 : decode cX6_isQuarrel 0 = .ok (.lload_n 0, 1) := by decide +kernel
theorem dX6_isQuarrel_1 : decode cX6_isQuarrel 1 = .ok (.ldc2_w 236, 3) := by decide +kernel
theorem dX6_isQuarrel_4 : decode cX6_isQuarrel 4 = .ok (.land, 1) := by decide +kernel
theorem dX6_isQuarrel_5 : decode cX6_isQuarrel 5 = .ok (.lstore_n 2, 1) := by decide +kernel
theorem dX6_isQuarrel_6 : decode cX6_isQuarrel 6 = .ok (.lload_n 0, 1) := by decide +kernel
theorem dX6_isQuarrel_7 : decode cX6_isQuarrel 7 = .ok (.bipush 16, 2) := by decide +kernel
theorem dX6_isQuarrel_9 : decode cX6_isQuarrel 9 = .ok (.lushr, 1) := by decide +kernel
theorem dX6_isQuarrel_10 : decode cX6_isQuarrel 10 = .ok (.ldc2_w 236, 3) := by decide +kernel
theorem dX6_isQuarrel_13 : decode cX6_isQuarrel 13 = .ok (.land, 1) := by decide +kernel
theorem dX6_isQuarrel_14 : decode cX6_isQuarrel 14 = .ok (.lstore 4, 2) := by decide +kernel
theorem dX6_isQuarrel_16 : decode cX6_isQuarrel 16 = .ok (.lload_n 0, 1) := by decide +kernel
theorem dX6_isQuarrel_17 : decode cX6_isQuarrel 17 = .ok (.bipush 32, 2) := by decide +kernel
theorem dX6_isQuarrel_19 : decode cX6_isQuarrel 19 = .ok (.lushr, 1) := by decide +kernel
theorem dX6_isQuarrel_20 : decode cX6_isQuarrel 20 = .ok (.ldc2_w 236, 3) := by decide +kernel
theorem dX6_isQuarrel_23 : decode cX6_isQuarrel 23 = .ok (.land, 1) := by decide +kernel
theorem dX6_isQuarrel_24 : decode cX6_isQuarrel 24 = .ok (.lstore 6, 2) := by decide +kernel
theorem dX6_isQuarrel_26 : decode cX6_isQuarrel 26 = .ok (.lload_n 0, 1) := by decide +kernel
theorem dX6_isQuarrel_27 : decode cX6_isQuarrel 27 = .ok (.bipush 48, 2) := by decide +kernel
theorem dX6_isQuarrel_29 : decode cX6_isQuarrel 29 = .ok (.lushr, 1) := by decide +kernel
theorem dX6_isQuarrel_30 : decode cX6_isQuarrel 30 = .ok (.lstore 8, 2) := by decide +kernel
theorem dX6_isQuarrel_32 : decode cX6_isQuarrel 32 = .ok (.lload_n 2, 1) := by decide +kernel
theorem dX6_isQuarrel_33 : decode cX6_isQuarrel 33 = .ok (.lload 8, 2) := by decide +kernel
theorem dX6_isQuarrel_35 : decode cX6_isQuarrel 35 = .ok (.land, 1) := by decide +kernel
theorem dX6_isQuarrel_36 : decode cX6_isQuarrel 36 = .ok (.lconst 0, 1) := by decide +kernel
theorem dX6_isQuarrel_37 : decode cX6_isQuarrel 37 = .ok (.lcmp, 1) := by decide +kernel
theorem dX6_isQuarrel_38 : decode cX6_isQuarrel 38 = .ok (.ifCond .ne 13, 3) := by decide +kernel
theorem dX6_isQuarrel_41 : decode cX6_isQuarrel 41 = .ok (.lload 4, 2) := by decide +kernel
theorem dX6_isQuarrel_43 : decode cX6_isQuarrel 43 = .ok (.lload 6, 2) := by decide +kernel
theorem dX6_isQuarrel_45 : decode cX6_isQuarrel 45 = .ok (.land, 1) := by decide +kernel
theorem dX6_isQuarrel_46 : decode cX6_isQuarrel 46 = .ok (.lconst 0, 1) := by decide +kernel
theorem dX6_isQuarrel_47 : decode cX6_isQuarrel 47 = .ok (.lcmp, 1) := by decide +kernel
theorem dX6_isQuarrel_48 : decode cX6_isQuarrel 48 = .ok (.ifCond .eq 7, 3) := by decide +kernel
theorem dX6_isQuarrel_51 : decode cX6_isQuarrel 51 = .ok (.iconst 1, 1) := by decide +kernel
theorem dX6_isQuarrel_52 : decode cX6_isQuarrel 52 = .ok (.goto 4, 3) := by decide +kernel
theorem dX6_isQuarrel_55 : decode cX6_isQuarrel 55 = .ok (.iconst 0, 1) := by decide +kernel
theorem dX6_isQuarrel_56 : decode cX6_isQuarrel 56 = .ok (.ireturn, 1) := by decide +kernel
theorem dX6_sortsOfKind_0 : decode cX6_sortsOfKind 0 = .ok (.iconst 0, 1) := by decide +kernel
theorem dX6_sortsOfKind_1 : decode cX6_sortsOfKind 1 = .ok (.istore_n 2, 1) := by decide +kernel
theorem dX6_sortsOfKind_2 : decode cX6_sortsOfKind 2 = .ok (.iconst 0, 1) := by decide +kernel
theorem dX6_sortsOfKind_3 : decode cX6_sortsOfKind 3 = .ok (.istore_n 3, 1) := by decide +kernel
theorem dX6_sortsOfKind_4 : decode cX6_sortsOfKind 4 = .ok (.iload_n 3, 1) := by decide +kernel
theorem dX6_sortsOfKind_5 : decode cX6_sortsOfKind 5 = .ok (.bipush 16, 2) := by decide +kernel
theorem dX6_sortsOfKind_7 : decode cX6_sortsOfKind 7 = .ok (.if_icmp .ge 23, 3) := by decide +kernel
theorem dX6_sortsOfKind_10 : decode cX6_sortsOfKind 10 = .ok (.iload_n 3, 1) := by decide +kernel
theorem dX6_sortsOfKind_11 : decode cX6_sortsOfKind 11 = .ok (.iload_n 0, 1) := by decide +kernel
theorem dX6_sortsOfKind_12 : decode cX6_sortsOfKind 12 = .ok (.invokestatic 158, 3) := by decide +kernel
theorem dX6_sortsOfKind_15 : decode cX6_sortsOfKind 15 = .ok (.ifCond .eq 9, 3) := by decide +kernel
theorem dX6_sortsOfKind_18 : decode cX6_sortsOfKind 18 = .ok (.iload_n 2, 1) := by decide +kernel
theorem dX6_sortsOfKind_19 : decode cX6_sortsOfKind 19 = .ok (.iconst 1, 1) := by decide +kernel
theorem dX6_sortsOfKind_20 : decode cX6_sortsOfKind 20 = .ok (.iload_n 3, 1) := by decide +kernel
theorem dX6_sortsOfKind_21 : decode cX6_sortsOfKind 21 = .ok (.ishl, 1) := by decide +kernel
theorem dX6_sortsOfKind_22 : decode cX6_sortsOfKind 22 = .ok (.ior, 1) := by decide +kernel
theorem dX6_sortsOfKind_23 : decode cX6_sortsOfKind 23 = .ok (.istore_n 2, 1) := by decide +kernel
theorem dX6_sortsOfKind_24 : decode cX6_sortsOfKind 24 = .ok (.iinc 3 1, 3) := by decide +kernel
theorem dX6_sortsOfKind_27 : decode cX6_sortsOfKind 27 = .ok (.goto (-23), 3) := by decide +kernel
theorem dX6_sortsOfKind_30 : decode cX6_sortsOfKind 30 = .ok (.iload_n 2, 1) := by decide +kernel
theorem dX6_sortsOfKind_31 : decode cX6_sortsOfKind 31 = .ok (.iload_n 1, 1) := by decide +kernel
theorem dX6_sortsOfKind_32 : decode cX6_sortsOfKind 32 = .ok (.invokestatic 238, 3) := by decide +kernel
theorem dX6_sortsOfKind_35 : decode cX6_sortsOfKind 35 = .ok (.iand, 1) := by decide +kernel
theorem dX6_sortsOfKind_36 : decode cX6_sortsOfKind 36 = .ok (.ireturn, 1) := by decide +kernel
theorem dX6_everySort_0 : decode cX6_everySort 0 = .ok (.iconst 1, 1) := by decide +kernel
theorem dX6_everySort_1 : decode cX6_everySort 1 = .ok (.iconst 1, 1) := by decide +kernel
theorem dX6_everySort_2 : decode cX6_everySort 2 = .ok (.iload_n 0, 1) := by decide +kernel
theorem dX6_everySort_3 : decode cX6_everySort 3 = .ok (.ishl, 1) := by decide +kernel
theorem dX6_everySort_4 : decode cX6_everySort 4 = .ok (.ishl, 1) := by decide +kernel
theorem dX6_everySort_5 : decode cX6_everySort 5 = .ok (.iconst 1, 1) := by decide +kernel
theorem dX6_everySort_6 : decode cX6_everySort 6 = .ok (.isub, 1) := by decide +kernel
theorem dX6_everySort_7 : decode cX6_everySort 7 = .ok (.ireturn, 1) := by decide +kernel
theorem dX7_init_0 : decode cX7_init 0 = .ok (.aload_n 0, 1) := by decide +kernel
theorem dX7_init_1 : decode cX7_init 1 = .ok (.invokespecial 1, 3) := by decide +kernel
theorem dX7_init_4 : decode cX7_init 4 = .ok (.aload_n 0, 1) := by decide +kernel
theorem dX7_init_5 : decode cX7_init 5 = .ok (.iconst 3, 1) := by decide +kernel
theorem dX7_init_6 : decode cX7_init 6 = .ok (.putfield 7, 3) := by decide +kernel
theorem dX7_init_9 : decode cX7_init 9 = .ok (.aload_n 0, 1) := by decide +kernel
theorem dX7_init_10 : decode cX7_init 10 = .ok (.iconst 4, 1) := by decide +kernel
theorem dX7_init_11 : decode cX7_init 11 = .ok (.putfield 13, 3) := by decide +kernel
theorem dX7_init_14 : decode cX7_init 14 = .ok (.aload_n 0, 1) := by decide +kernel
theorem dX7_init_15 : decode cX7_init 15 = .ok (.sipush 255, 3) := by decide +kernel
theorem dX7_init_18 : decode cX7_init 18 = .ok (.putfield 16, 3) := by decide +kernel
theorem dX7_init_21 : decode cX7_init 21 = .ok (.aload_n 0, 1) := by decide +kernel
theorem dX7_init_22 : decode cX7_init 22 = .ok (.bipush 16, 2) := by decide +kernel
theorem dX7_init_24 : decode cX7_init 24 = .ok (.newarray .int, 2) := by decide +kernel
theorem dX7_init_26 : decode cX7_init 26 = .ok (.putfield 19, 3) := by decide +kernel
theorem dX7_init_29 : decode cX7_init 29 = .ok (.aload_n 0, 1) := by decide +kernel
theorem dX7_init_30 : decode cX7_init 30 = .ok (.bipush 80, 2) := by decide +kernel
theorem dX7_init_32 : decode cX7_init 32 = .ok (.newarray .int, 2) := by decide +kernel
theorem dX7_init_34 : decode cX7_init 34 = .ok (.putfield 23, 3) := by decide +kernel
theorem dX7_init_37 : decode cX7_init 37 = .ok (.aload_n 0, 1) := by decide +kernel
theorem dX7_init_38 : decode cX7_init 38 = .ok (.bipush 60, 2) := by decide +kernel
theorem dX7_init_40 : decode cX7_init 40 = .ok (.newarray .int, 2) := by decide +kernel
theorem dX7_init_42 : decode cX7_init 42 = .ok (.putfield 26, 3) := by decide +kernel
theorem dX7_init_45 : decode cX7_init 45 = .ok (.aload_n 0, 1) := by decide +kernel
theorem dX7_init_46 : decode cX7_init 46 = .ok (.bipush 60, 2) := by decide +kernel
theorem dX7_init_48 : decode cX7_init 48 = .ok (.newarray .int, 2) := by decide +kernel
theorem dX7_init_50 : decode cX7_init 50 = .ok (.putfield 29, 3) := by decide +kernel
theorem dX7_init_53 : decode cX7_init 53 = .ok (.aload_n 0, 1) := by decide +kernel
theorem dX7_init_54 : decode cX7_init 54 = .ok (.bipush 60, 2) := by decide +kernel
theorem dX7_init_56 : decode cX7_init 56 = .ok (.newarray .int, 2) := by decide +kernel
theorem dX7_init_58 : decode cX7_init 58 = .ok (.putfield 32, 3) := by decide +kernel
theorem dX7_init_61 : decode cX7_init 61 = .ok (.aload_n 0, 1) := by decide +kernel
theorem dX7_init_62 : decode cX7_init 62 = .ok (.bipush 16, 2) := by decide +kernel
theorem dX7_init_64 : decode cX7_init 64 = .ok (.newarray .int, 2) := by decide +kernel
theorem dX7_init_66 : decode cX7_init 66 = .ok (.putfield 35, 3) := by decide +kernel
theorem dX7_init_69 : decode cX7_init 69 = .ok (.aload_n 0, 1) := by decide +kernel
theorem dX7_init_70 : decode cX7_init 70 = .ok (.sipush 1024, 3) := by decide +kernel
theorem dX7_init_73 : decode cX7_init 73 = .ok (.newarray .int, 2) := by decide +kernel
theorem dX7_init_75 : decode cX7_init 75 = .ok (.putfield 38, 3) := by decide +kernel
theorem dX7_init_78 : decode cX7_init 78 = .ok (.aload_n 0, 1) := by decide +kernel
theorem dX7_init_79 : decode cX7_init 79 = .ok (.sipush 1024, 3) := by decide +kernel
theorem dX7_init_82 : decode cX7_init 82 = .ok (.newarray .int, 2) := by decide +kernel
theorem dX7_init_84 : decode cX7_init 84 = .ok (.putfield 41, 3) := by decide +kernel
theorem dX7_init_87 : decode cX7_init 87 = .ok (.aload_n 0, 1) := by decide +kernel
theorem dX7_init_88 : decode cX7_init 88 = .ok (.sipush 16384, 3) := by decide +kernel
theorem dX7_init_91 : decode cX7_init 91 = .ok (.newarray .int, 2) := by decide +kernel
theorem dX7_init_93 : decode cX7_init 93 = .ok (.putfield 44, 3) := by decide +kernel
theorem dX7_init_96 : decode cX7_init 96 = .ok (.aload_n 0, 1) := by decide +kernel
theorem dX7_init_97 : decode cX7_init 97 = .ok (.sipush 1024, 3) := by decide +kernel
theorem dX7_init_100 : decode cX7_init 100 = .ok (.newarray .long, 2) := by decide +kernel
theorem dX7_init_102 : decode cX7_init 102 = .ok (.putfield 47, 3) := by decide +kernel
theorem dX7_init_105 : decode cX7_init 105 = .ok (.aload_n 0, 1) := by decide +kernel
theorem dX7_init_106 : decode cX7_init 106 = .ok (.bipush 64, 2) := by decide +kernel
theorem dX7_init_108 : decode cX7_init 108 = .ok (.newarray .int, 2) := by decide +kernel
theorem dX7_init_110 : decode cX7_init 110 = .ok (.putfield 51, 3) := by decide +kernel
theorem dX7_init_113 : decode cX7_init 113 = .ok (.aload_n 0, 1) := by decide +kernel
theorem dX7_init_114 : decode cX7_init 114 = .ok (.invokevirtual 54, 3) := by decide +kernel
theorem dX7_init_117 : decode cX7_init 117 = .ok (.return_, 1) := by decide +kernel
theorem dX7_in_0 : decode cX7_in 0 = .ok (.iload_n 0, 1) := by decide +kernel
theorem dX7_in_1 : decode cX7_in 1 = .ok (.iload_n 1, 1) := by decide +kernel
theorem dX7_in_2 : decode cX7_in 2 = .ok (.if_icmp .lt 12, 3) := by decide +kernel
theorem dX7_in_5 : decode cX7_in 5 = .ok (.iload_n 0, 1) := by decide +kernel
theorem dX7_in_6 : decode cX7_in 6 = .ok (.iload_n 2, 1) := by decide +kernel
theorem dX7_in_7 : decode cX7_in 7 = .ok (.if_icmp .gt 7, 3) := by decide +kernel
theorem dX7_in_10 : decode cX7_in 10 = .ok (.iconst 1, 1) := by decide +kernel
theorem dX7_in_11 : decode cX7_in 11 = .ok (.goto 4, 3) := by decide +kernel
theorem dX7_in_14 : decode cX7_in 14 = .ok (.iconst 0, 1) := by decide +kernel
theorem dX7_in_15 : decode cX7_in 15 = .ok (.ireturn, 1) := by decide +kernel
theorem dX7_sorts_0 : decode cX7_sorts 0 = .ok (.iconst 1, 1) := by decide +kernel
theorem dX7_sorts_1 : decode cX7_sorts 1 = .ok (.aload_n 0, 1) := by decide +kernel
theorem dX7_sorts_2 : decode cX7_sorts 2 = .ok (.getfield 7, 3) := by decide +kernel
theorem dX7_sorts_5 : decode cX7_sorts 5 = .ok (.ishl, 1) := by decide +kernel
theorem dX7_sorts_6 : decode cX7_sorts 6 = .ok (.ireturn, 1) := by decide +kernel
theorem dX7_of_0 : decode cX7_of 0 = .ok (.iconst 0, 1) := by decide +kernel
theorem dX7_of_1 : decode cX7_of 1 = .ok (.istore_n 2, 1) := by decide +kernel
theorem dX7_of_2 : decode cX7_of 2 = .ok (.iconst 0, 1) := by decide +kernel
theorem dX7_of_3 : decode cX7_of 3 = .ok (.istore_n 3, 1) := by decide +kernel
theorem dX7_of_4 : decode cX7_of 4 = .ok (.iload_n 3, 1) := by decide +kernel
theorem dX7_of_5 : decode cX7_of 5 = .ok (.aload_n 0, 1) := by decide +kernel
theorem dX7_of_6 : decode cX7_of 6 = .ok (.invokevirtual 60, 3) := by decide +kernel
theorem dX7_of_9 : decode cX7_of 9 = .ok (.if_icmp .ge 19, 3) := by decide +kernel
theorem dX7_of_12 : decode cX7_of 12 = .ok (.iload_n 2, 1) := by decide +kernel
theorem dX7_of_13 : decode cX7_of 13 = .ok (.iload_n 3, 1) := by decide +kernel
theorem dX7_of_14 : decode cX7_of 14 = .ok (.iload_n 1, 1) := by decide +kernel
theorem dX7_of_15 : decode cX7_of 15 = .ok (.ishr, 1) := by decide +kernel
theorem dX7_of_16 : decode cX7_of 16 = .ok (.iconst 1, 1) := by decide +kernel
theorem dX7_of_17 : decode cX7_of 17 = .ok (.iand, 1) := by decide +kernel
theorem dX7_of_18 : decode cX7_of 18 = .ok (.iload_n 3, 1) := by decide +kernel
theorem dX7_of_19 : decode cX7_of 19 = .ok (.ishl, 1) := by decide +kernel
theorem dX7_of_20 : decode cX7_of 20 = .ok (.ior, 1) := by decide +kernel
theorem dX7_of_21 : decode cX7_of 21 = .ok (.istore_n 2, 1) := by decide +kernel
theorem dX7_of_22 : decode cX7_of 22 = .ok (.iinc 3 1, 3) := by decide +kernel
theorem dX7_of_25 : decode cX7_of 25 = .ok (.goto (-21), 3) := by decide +kernel
theorem dX7_of_28 : decode cX7_of 28 = .ok (.iload_n 2, 1) := by decide +kernel
theorem dX7_of_29 : decode cX7_of 29 = .ok (.ireturn, 1) := by decide +kernel
theorem dX7_begins_0 : decode cX7_begins 0 = .ok (.iconst 0, 1) := by decide +kernel
theorem dX7_begins_1 : decode cX7_begins 1 = .ok (.istore_n 1, 1) := by decide +kernel
theorem dX7_begins_2 : decode cX7_begins 2 = .ok (.iload_n 1, 1) := by decide +kernel
theorem dX7_begins_3 : decode cX7_begins 3 = .ok (.bipush 10, 2) := by decide +kernel
theorem dX7_begins_5 : decode cX7_begins 5 = .ok (.if_icmp .ge 87, 3) := by decide +kernel
theorem dX7_begins_8 : decode cX7_begins 8 = .ok (.aload_n 0, 1) := by decide +kernel
theorem dX7_begins_9 : decode cX7_begins 9 = .ok (.getfield 26, 3) := by decide +kernel
theorem dX7_begins_12 : decode cX7_begins 12 = .ok (.bipush 6, 2) := by decide +kernel
theorem dX7_begins_14 : decode cX7_begins 14 = .ok (.iload_n 1, 1) := by decide +kernel
theorem dX7_begins_15 : decode cX7_begins 15 = .ok (.imul, 1) := by decide +kernel
theorem dX7_begins_16 : decode cX7_begins 16 = .ok (.iconst 0, 1) := by decide +kernel
theorem dX7_begins_17 : decode cX7_begins 17 = .ok (.iastore, 1) := by decide +kernel
theorem dX7_begins_18 : decode cX7_begins 18 = .ok (.aload_n 0, 1) := by decide +kernel
theorem dX7_begins_19 : decode cX7_begins 19 = .ok (.getfield 26, 3) := by decide +kernel
theorem dX7_begins_22 : decode cX7_begins 22 = .ok (.bipush 6, 2) := by decide +kernel
theorem dX7_begins_24 : decode cX7_begins 24 = .ok (.iload_n 1, 1) := by decide +kernel
theorem dX7_begins_25 : decode cX7_begins 25 = .ok (.imul, 1) := by decide +kernel
theorem dX7_begins_26 : decode cX7_begins 26 = .ok (.iconst 1, 1) := by decide +kernel
theorem dX7_begins_27 : decode cX7_begins 27 = .ok (.iadd, 1) := by decide +kernel
theorem dX7_begins_28 : decode cX7_begins 28 = .ok (.aload_n 0, 1) := by decide +kernel
theorem dX7_begins_29 : decode cX7_begins 29 = .ok (.iconst 0, 1) := by decide +kernel
theorem dX7_begins_30 : decode cX7_begins 30 = .ok (.invokevirtual 64, 3) := by decide +kernel
theorem dX7_begins_33 : decode cX7_begins 33 = .ok (.iastore, 1) := by decide +kernel
theorem dX7_begins_34 : decode cX7_begins 34 = .ok (.aload_n 0, 1) := by decide +kernel
theorem dX7_begins_35 : decode cX7_begins 35 = .ok (.getfield 26, 3) := by decide +kernel
theorem dX7_begins_38 : decode cX7_begins 38 = .ok (.bipush 6, 2) := by decide +kernel
theorem dX7_begins_40 : decode cX7_begins 40 = .ok (.iload_n 1, 1) := by decide +kernel
theorem dX7_begins_41 : decode cX7_begins 41 = .ok (.imul, 1) := by decide +kernel
theorem dX7_begins_42 : decode cX7_begins 42 = .ok (.iconst 2, 1) := by decide +kernel
theorem dX7_begins_43 : decode cX7_begins 43 = .ok (.iadd, 1) := by decide +kernel
theorem dX7_begins_44 : decode cX7_begins 44 = .ok (.aload_n 0, 1) := by decide +kernel
theorem dX7_begins_45 : decode cX7_begins 45 = .ok (.iconst 0, 1) := by decide +kernel
theorem dX7_begins_46 : decode cX7_begins 46 = .ok (.invokevirtual 64, 3) := by decide +kernel
theorem dX7_begins_49 : decode cX7_begins 49 = .ok (.iastore, 1) := by decide +kernel
theorem dX7_begins_50 : decode cX7_begins 50 = .ok (.aload_n 0, 1) := by decide +kernel
theorem dX7_begins_51 : decode cX7_begins 51 = .ok (.getfield 26, 3) := by decide +kernel
theorem dX7_begins_54 : decode cX7_begins 54 = .ok (.bipush 6, 2) := by decide +kernel
theorem dX7_begins_56 : decode cX7_begins 56 = .ok (.iload_n 1, 1) := by decide +kernel
theorem dX7_begins_57 : decode cX7_begins 57 = .ok (.imul, 1) := by decide +kernel
theorem dX7_begins_58 : decode cX7_begins 58 = .ok (.iconst 3, 1) := by decide +kernel
theorem dX7_begins_59 : decode cX7_begins 59 = .ok (.iadd, 1) := by decide +kernel
theorem dX7_begins_60 : decode cX7_begins 60 = .ok (.iconst 0, 1) := by decide +kernel
theorem dX7_begins_61 : decode cX7_begins 61 = .ok (.iastore, 1) := by decide +kernel
theorem dX7_begins_62 : decode cX7_begins 62 = .ok (.aload_n 0, 1) := by decide +kernel
theorem dX7_begins_63 : decode cX7_begins 63 = .ok (.getfield 26, 3) := by decide +kernel
theorem dX7_begins_66 : decode cX7_begins 66 = .ok (.bipush 6, 2) := by decide +kernel
theorem dX7_begins_68 : decode cX7_begins 68 = .ok (.iload_n 1, 1) := by decide +kernel
theorem dX7_begins_69 : decode cX7_begins 69 = .ok (.imul, 1) := by decide +kernel
theorem dX7_begins_70 : decode cX7_begins 70 = .ok (.iconst 4, 1) := by decide +kernel
theorem dX7_begins_71 : decode cX7_begins 71 = .ok (.iadd, 1) := by decide +kernel
theorem dX7_begins_72 : decode cX7_begins 72 = .ok (.iconst 0, 1) := by decide +kernel
theorem dX7_begins_73 : decode cX7_begins 73 = .ok (.iastore, 1) := by decide +kernel
theorem dX7_begins_74 : decode cX7_begins 74 = .ok (.aload_n 0, 1) := by decide +kernel
theorem dX7_begins_75 : decode cX7_begins 75 = .ok (.getfield 26, 3) := by decide +kernel
theorem dX7_begins_78 : decode cX7_begins 78 = .ok (.bipush 6, 2) := by decide +kernel
theorem dX7_begins_80 : decode cX7_begins 80 = .ok (.iload_n 1, 1) := by decide +kernel
theorem dX7_begins_81 : decode cX7_begins 81 = .ok (.imul, 1) := by decide +kernel
theorem dX7_begins_82 : decode cX7_begins 82 = .ok (.iconst 5, 1) := by decide +kernel
theorem dX7_begins_83 : decode cX7_begins 83 = .ok (.iadd, 1) := by decide +kernel
theorem dX7_begins_84 : decode cX7_begins 84 = .ok (.iconst 0, 1) := by decide +kernel
theorem dX7_begins_85 : decode cX7_begins 85 = .ok (.iastore, 1) := by decide +kernel
theorem dX7_begins_86 : decode cX7_begins 86 = .ok (.iinc 1 1, 3) := by decide +kernel
theorem dX7_begins_89 : decode cX7_begins 89 = .ok (.goto (-87), 3) := by decide +kernel
theorem dX7_begins_92 : decode cX7_begins 92 = .ok (.iconst 0, 1) := by decide +kernel
theorem dX7_begins_93 : decode cX7_begins 93 = .ok (.istore_n 1, 1) := by decide +kernel
theorem dX7_begins_94 : decode cX7_begins 94 = .ok (.iload_n 1, 1) := by decide +kernel
theorem dX7_begins_95 : decode cX7_begins 95 = .ok (.bipush 16, 2) := by decide +kernel
theorem dX7_begins_97 : decode cX7_begins 97 = .ok (.if_icmp .ge 16, 3) := by decide +kernel
theorem dX7_begins_100 : decode cX7_begins 100 = .ok (.aload_n 0, 1) := by decide +kernel
theorem dX7_begins_101 : decode cX7_begins 101 = .ok (.getfield 19, 3) := by decide +kernel
theorem dX7_begins_104 : decode cX7_begins 104 = .ok (.iload_n 1, 1) := by decide +kernel
theorem dX7_begins_105 : decode cX7_begins 105 = .ok (.iconst 0, 1) := by decide +kernel
theorem dX7_begins_106 : decode cX7_begins 106 = .ok (.iastore, 1) := by decide +kernel
theorem dX7_begins_107 : decode cX7_begins 107 = .ok (.iinc 1 1, 3) := by decide +kernel
theorem dX7_begins_110 : decode cX7_begins 110 = .ok (.goto (-16), 3) := by decide +kernel
theorem dX7_begins_113 : decode cX7_begins 113 = .ok (.aload_n 0, 1) := by decide +kernel
theorem dX7_begins_114 : decode cX7_begins 114 = .ok (.iconst 0, 1) := by decide +kernel
theorem dX7_begins_115 : decode cX7_begins 115 = .ok (.putfield 68, 3) := by decide +kernel
theorem dX7_begins_118 : decode cX7_begins 118 = .ok (.return_, 1) := by decide +kernel
theorem dX7_isSaying_0 : decode cX7_isSaying 0 = .ok (.iload_n 0, 1) := by decide +kernel
theorem dX7_isSaying_1 : decode cX7_isSaying 1 = .ok (.iconst 0, 1) := by decide +kernel
theorem dX7_isSaying_2 : decode cX7_isSaying 2 = .ok (.bipush 9, 2) := by decide +kernel
theorem dX7_isSaying_4 : decode cX7_isSaying 4 = .ok (.invokestatic 72, 3) := by decide +kernel
theorem dX7_isSaying_7 : decode cX7_isSaying 7 = .ok (.ireturn, 1) := by decide +kernel
theorem dX7_isSet_0 : decode cX7_isSet 0 = .ok (.iload_n 0, 1) := by decide +kernel
theorem dX7_isSet_1 : decode cX7_isSet 1 = .ok (.iconst 0, 1) := by decide +kernel
theorem dX7_isSet_2 : decode cX7_isSet 2 = .ok (.sipush 1023, 3) := by decide +kernel
theorem dX7_isSet_5 : decode cX7_isSet 5 = .ok (.invokestatic 72, 3) := by decide +kernel
theorem dX7_isSet_8 : decode cX7_isSet 8 = .ok (.ireturn, 1) := by decide +kernel
theorem dX7_kinds_0 : decode cX7_kinds 0 = .ok (.aload_n 0, 1) := by decide +kernel
theorem dX7_kinds_1 : decode cX7_kinds 1 = .ok (.iconst 0, 1) := by decide +kernel
theorem dX7_kinds_2 : decode cX7_kinds 2 = .ok (.putfield 57, 3) := by decide +kernel
theorem dX7_kinds_5 : decode cX7_kinds 5 = .ok (.iload_n 1, 1) := by decide +kernel
theorem dX7_kinds_6 : decode cX7_kinds 6 = .ok (.iconst 1, 1) := by decide +kernel
theorem dX7_kinds_7 : decode cX7_kinds 7 = .ok (.iconst 4, 1) := by decide +kernel
theorem dX7_kinds_8 : decode cX7_kinds 8 = .ok (.invokestatic 72, 3) := by decide +kernel
theorem dX7_kinds_11 : decode cX7_kinds 11 = .ok (.ifCond .ne 5, 3) := by decide +kernel
theorem dX7_kinds_14 : decode cX7_kinds 14 = .ok (.iconst (-1), 1) := by decide +kernel
theorem dX7_kinds_15 : decode cX7_kinds 15 = .ok (.ireturn, 1) := by decide +kernel
theorem dX7_kinds_16 : decode cX7_kinds 16 = .ok (.aload_n 0, 1) := by decide +kernel
theorem dX7_kinds_17 : decode cX7_kinds 17 = .ok (.getfield 7, 3) := by decide +kernel
theorem dX7_kinds_20 : decode cX7_kinds 20 = .ok (.istore_n 2, 1) := by decide +kernel
theorem dX7_kinds_21 : decode cX7_kinds 21 = .ok (.aload_n 0, 1) := by decide +kernel
theorem dX7_kinds_22 : decode cX7_kinds 22 = .ok (.iload_n 1, 1) := by decide +kernel
theorem dX7_kinds_23 : decode cX7_kinds 23 = .ok (.putfield 7, 3) := by decide +kernel
theorem dX7_kinds_26 : decode cX7_kinds 26 = .ok (.aload_n 0, 1) := by decide +kernel
theorem dX7_kinds_27 : decode cX7_kinds 27 = .ok (.invokevirtual 54, 3) := by decide +kernel
theorem dX7_kinds_30 : decode cX7_kinds 30 = .ok (.iload_n 2, 1) := by decide +kernel
theorem dX7_kinds_31 : decode cX7_kinds 31 = .ok (.ireturn, 1) := by decide +kernel
theorem dX7_most_0 : decode cX7_most 0 = .ok (.aload_n 0, 1) := by decide +kernel
theorem dX7_most_1 : decode cX7_most 1 = .ok (.iconst 0, 1) := by decide +kernel
theorem dX7_most_2 : decode cX7_most 2 = .ok (.putfield 57, 3) := by decide +kernel
theorem dX7_most_5 : decode cX7_most 5 = .ok (.iload_n 1, 1) := by decide +kernel
theorem dX7_most_6 : decode cX7_most 6 = .ok (.iconst 1, 1) := by decide +kernel
theorem dX7_most_7 : decode cX7_most 7 = .ok (.bipush 6, 2) := by decide +kernel
theorem dX7_most_9 : decode cX7_most 9 = .ok (.invokestatic 72, 3) := by decide +kernel
theorem dX7_most_12 : decode cX7_most 12 = .ok (.ifCond .ne 5, 3) := by decide +kernel
theorem dX7_most_15 : decode cX7_most 15 = .ok (.iconst (-1), 1) := by decide +kernel
theorem dX7_most_16 : decode cX7_most 16 = .ok (.ireturn, 1) := by decide +kernel
theorem dX7_most_17 : decode cX7_most 17 = .ok (.aload_n 0, 1) := by decide +kernel
theorem dX7_most_18 : decode cX7_most 18 = .ok (.getfield 13, 3) := by decide +kernel
theorem dX7_most_21 : decode cX7_most 21 = .ok (.istore_n 2, 1) := by decide +kernel
theorem dX7_most_22 : decode cX7_most 22 = .ok (.aload_n 0, 1) := by decide +kernel
theorem dX7_most_23 : decode cX7_most 23 = .ok (.iload_n 1, 1) := by decide +kernel
theorem dX7_most_24 : decode cX7_most 24 = .ok (.putfield 13, 3) := by decide +kernel
theorem dX7_most_27 : decode cX7_most 27 = .ok (.aload_n 0, 1) := by decide +kernel
theorem dX7_most_28 : decode cX7_most 28 = .ok (.iconst 0, 1) := by decide +kernel
theorem dX7_most_29 : decode cX7_most 29 = .ok (.putfield 68, 3) := by decide +kernel
theorem dX7_most_32 : decode cX7_most 32 = .ok (.iload_n 2, 1) := by decide +kernel
theorem dX7_most_33 : decode cX7_most 33 = .ok (.ireturn, 1) := by decide +kernel
theorem dX7_worlds_0 : decode cX7_worlds 0 = .ok (.aload_n 0, 1) := by decide +kernel
theorem dX7_worlds_1 : decode cX7_worlds 1 = .ok (.iconst 0, 1) := by decide +kernel
theorem dX7_worlds_2 : decode cX7_worlds 2 = .ok (.putfield 57, 3) := by decide +kernel
theorem dX7_worlds_5 : decode cX7_worlds 5 = .ok (.aload_n 0, 1) := by decide +kernel
theorem dX7_worlds_6 : decode cX7_worlds 6 = .ok (.invokevirtual 76, 3) := by decide +kernel
theorem dX7_worlds_9 : decode cX7_worlds 9 = .ok (.aload_n 0, 1) := by decide +kernel
theorem dX7_worlds_10 : decode cX7_worlds 10 = .ok (.getfield 79, 3) := by decide +kernel
theorem dX7_worlds_13 : decode cX7_worlds 13 = .ok (.ireturn, 1) := by decide +kernel
theorem dX7_all_0 : decode cX7_all 0 = .ok (.iconst 0, 1) := by decide +kernel
theorem dX7_all_1 : decode cX7_all 1 = .ok (.istore_n 2, 1) := by decide +kernel
theorem dX7_all_2 : decode cX7_all 2 = .ok (.iconst 0, 1) := by decide +kernel
theorem dX7_all_3 : decode cX7_all 3 = .ok (.istore_n 3, 1) := by decide +kernel
theorem dX7_all_4 : decode cX7_all 4 = .ok (.iload_n 3, 1) := by decide +kernel
theorem dX7_all_5 : decode cX7_all 5 = .ok (.aload_n 0, 1) := by decide +kernel
theorem dX7_all_6 : decode cX7_all 6 = .ok (.invokevirtual 60, 3) := by decide +kernel
theorem dX7_all_9 : decode cX7_all 9 = .ok (.if_icmp .ge 15, 3) := by decide +kernel
theorem dX7_all_12 : decode cX7_all 12 = .ok (.iload_n 2, 1) := by decide +kernel
theorem dX7_all_13 : decode cX7_all 13 = .ok (.aload_n 1, 1) := by decide +kernel
theorem dX7_all_14 : decode cX7_all 14 = .ok (.iload_n 3, 1) := by decide +kernel
theorem dX7_all_15 : decode cX7_all 15 = .ok (.iaload, 1) := by decide +kernel
theorem dX7_all_16 : decode cX7_all 16 = .ok (.iadd, 1) := by decide +kernel
theorem dX7_all_17 : decode cX7_all 17 = .ok (.istore_n 2, 1) := by decide +kernel
theorem dX7_all_18 : decode cX7_all 18 = .ok (.iinc 3 1, 3) := by decide +kernel
theorem dX7_all_21 : decode cX7_all 21 = .ok (.goto (-17), 3) := by decide +kernel
theorem dX7_all_24 : decode cX7_all 24 = .ok (.iload_n 2, 1) := by decide +kernel
theorem dX7_all_25 : decode cX7_all 25 = .ok (.ireturn, 1) := by decide +kernel
theorem dX7_put_0 : decode cX7_put 0 = .ok (.aload_n 0, 1) := by decide +kernel
theorem dX7_put_1 : decode cX7_put 1 = .ok (.iconst 0, 1) := by decide +kernel
theorem dX7_put_2 : decode cX7_put 2 = .ok (.putfield 57, 3) := by decide +kernel
theorem dX7_put_5 : decode cX7_put 5 = .ok (.iload_n 1, 1) := by decide +kernel
theorem dX7_put_6 : decode cX7_put 6 = .ok (.iconst 0, 1) := by decide +kernel
theorem dX7_put_7 : decode cX7_put 7 = .ok (.aload_n 0, 1) := by decide +kernel
theorem dX7_put_8 : decode cX7_put 8 = .ok (.invokevirtual 60, 3) := by decide +kernel
theorem dX7_put_11 : decode cX7_put 11 = .ok (.iconst 1, 1) := by decide +kernel
theorem dX7_put_12 : decode cX7_put 12 = .ok (.isub, 1) := by decide +kernel
theorem dX7_put_13 : decode cX7_put 13 = .ok (.invokestatic 72, 3) := by decide +kernel
theorem dX7_put_16 : decode cX7_put 16 = .ok (.ifCond .eq 13, 3) := by decide +kernel
theorem dX7_put_19 : decode cX7_put 19 = .ok (.iload_n 2, 1) := by decide +kernel
theorem dX7_put_20 : decode cX7_put 20 = .ok (.iconst 0, 1) := by decide +kernel
theorem dX7_put_21 : decode cX7_put 21 = .ok (.bipush 6, 2) := by decide +kernel
theorem dX7_put_23 : decode cX7_put 23 = .ok (.invokestatic 72, 3) := by decide +kernel
theorem dX7_put_26 : decode cX7_put 26 = .ok (.ifCond .ne 5, 3) := by decide +kernel
theorem dX7_put_29 : decode cX7_put 29 = .ok (.iconst (-1), 1) := by decide +kernel
theorem dX7_put_30 : decode cX7_put 30 = .ok (.ireturn, 1) := by decide +kernel
theorem dX7_put_31 : decode cX7_put 31 = .ok (.aload_n 0, 1) := by decide +kernel
theorem dX7_put_32 : decode cX7_put 32 = .ok (.getfield 19, 3) := by decide +kernel
theorem dX7_put_35 : decode cX7_put 35 = .ok (.iload_n 1, 1) := by decide +kernel
theorem dX7_put_36 : decode cX7_put 36 = .ok (.iaload, 1) := by decide +kernel
theorem dX7_put_37 : decode cX7_put 37 = .ok (.istore_n 3, 1) := by decide +kernel
theorem dX7_put_38 : decode cX7_put 38 = .ok (.aload_n 0, 1) := by decide +kernel
theorem dX7_put_39 : decode cX7_put 39 = .ok (.aload_n 0, 1) := by decide +kernel
theorem dX7_put_40 : decode cX7_put 40 = .ok (.getfield 19, 3) := by decide +kernel
theorem dX7_put_43 : decode cX7_put 43 = .ok (.invokevirtual 82, 3) := by decide +kernel
theorem dX7_put_46 : decode cX7_put 46 = .ok (.iload_n 3, 1) := by decide +kernel
theorem dX7_put_47 : decode cX7_put 47 = .ok (.isub, 1) := by decide +kernel
theorem dX7_put_48 : decode cX7_put 48 = .ok (.iload_n 2, 1) := by decide +kernel
theorem dX7_put_49 : decode cX7_put 49 = .ok (.iadd, 1) := by decide +kernel
theorem dX7_put_50 : decode cX7_put 50 = .ok (.bipush 6, 2) := by decide +kernel
theorem dX7_put_52 : decode cX7_put 52 = .ok (.if_icmp .le 6, 3) := by decide +kernel
theorem dX7_put_55 : decode cX7_put 55 = .ok (.bipush (-3), 2) := by decide +kernel
theorem dX7_put_57 : decode cX7_put 57 = .ok (.ireturn, 1) := by decide +kernel
theorem dX7_put_58 : decode cX7_put 58 = .ok (.aload_n 0, 1) := by decide +kernel
theorem dX7_put_59 : decode cX7_put 59 = .ok (.getfield 19, 3) := by decide +kernel
theorem dX7_put_62 : decode cX7_put 62 = .ok (.iload_n 1, 1) := by decide +kernel
theorem dX7_put_63 : decode cX7_put 63 = .ok (.iload_n 2, 1) := by decide +kernel
theorem dX7_put_64 : decode cX7_put 64 = .ok (.iastore, 1) := by decide +kernel
theorem dX7_put_65 : decode cX7_put 65 = .ok (.iload_n 3, 1) := by decide +kernel
theorem dX7_put_66 : decode cX7_put 66 = .ok (.ireturn, 1) := by decide +kernel
theorem dX7_sizeOf_0 : decode cX7_sizeOf 0 = .ok (.iconst 0, 1) := by decide +kernel
theorem dX7_sizeOf_1 : decode cX7_sizeOf 1 = .ok (.istore_n 3, 1) := by decide +kernel
theorem dX7_sizeOf_2 : decode cX7_sizeOf 2 = .ok (.iconst 0, 1) := by decide +kernel
theorem dX7_sizeOf_3 : decode cX7_sizeOf 3 = .ok (.istore 4, 2) := by decide +kernel
theorem dX7_sizeOf_5 : decode cX7_sizeOf 5 = .ok (.iload 4, 2) := by decide +kernel
theorem dX7_sizeOf_7 : decode cX7_sizeOf 7 = .ok (.aload_n 0, 1) := by decide +kernel
theorem dX7_sizeOf_8 : decode cX7_sizeOf 8 = .ok (.invokevirtual 60, 3) := by decide +kernel
theorem dX7_sizeOf_11 : decode cX7_sizeOf 11 = .ok (.if_icmp .ge 30, 3) := by decide +kernel
theorem dX7_sizeOf_14 : decode cX7_sizeOf 14 = .ok (.iload_n 3, 1) := by decide +kernel
theorem dX7_sizeOf_15 : decode cX7_sizeOf 15 = .ok (.iload_n 1, 1) := by decide +kernel
theorem dX7_sizeOf_16 : decode cX7_sizeOf 16 = .ok (.iload 4, 2) := by decide +kernel
theorem dX7_sizeOf_18 : decode cX7_sizeOf 18 = .ok (.ishr, 1) := by decide +kernel
theorem dX7_sizeOf_19 : decode cX7_sizeOf 19 = .ok (.iconst 1, 1) := by decide +kernel
theorem dX7_sizeOf_20 : decode cX7_sizeOf 20 = .ok (.iand, 1) := by decide +kernel
theorem dX7_sizeOf_21 : decode cX7_sizeOf 21 = .ok (.iconst 1, 1) := by decide +kernel
theorem dX7_sizeOf_22 : decode cX7_sizeOf 22 = .ok (.if_icmp .ne 10, 3) := by decide +kernel
theorem dX7_sizeOf_25 : decode cX7_sizeOf 25 = .ok (.aload_n 2, 1) := by decide +kernel
theorem dX7_sizeOf_26 : decode cX7_sizeOf 26 = .ok (.iload 4, 2) := by decide +kernel
theorem dX7_sizeOf_28 : decode cX7_sizeOf 28 = .ok (.iaload, 1) := by decide +kernel
theorem dX7_sizeOf_29 : decode cX7_sizeOf 29 = .ok (.goto 4, 3) := by decide +kernel
theorem dX7_sizeOf_32 : decode cX7_sizeOf 32 = .ok (.iconst 0, 1) := by decide +kernel
theorem dX7_sizeOf_33 : decode cX7_sizeOf 33 = .ok (.iadd, 1) := by decide +kernel
theorem dX7_sizeOf_34 : decode cX7_sizeOf 34 = .ok (.istore_n 3, 1) := by decide +kernel
theorem dX7_sizeOf_35 : decode cX7_sizeOf 35 = .ok (.iinc 4 1, 3) := by decide +kernel
theorem dX7_sizeOf_38 : decode cX7_sizeOf 38 = .ok (.goto (-33), 3) := by decide +kernel
theorem dX7_sizeOf_41 : decode cX7_sizeOf 41 = .ok (.iload_n 3, 1) := by decide +kernel
theorem dX7_sizeOf_42 : decode cX7_sizeOf 42 = .ok (.ireturn, 1) := by decide +kernel
theorem dX7_isSo_0 : decode cX7_isSo 0 = .ok (.aload_n 0, 1) := by decide +kernel
theorem dX7_isSo_1 : decode cX7_isSo 1 = .ok (.getfield 26, 3) := by decide +kernel
theorem dX7_isSo_4 : decode cX7_isSo 4 = .ok (.bipush 6, 2) := by decide +kernel
theorem dX7_isSo_6 : decode cX7_isSo 6 = .ok (.iload_n 1, 1) := by decide +kernel
theorem dX7_isSo_7 : decode cX7_isSo 7 = .ok (.imul, 1) := by decide +kernel
theorem dX7_isSo_8 : decode cX7_isSo 8 = .ok (.iconst 1, 1) := by decide +kernel
theorem dX7_isSo_9 : decode cX7_isSo 9 = .ok (.iadd, 1) := by decide +kernel
theorem dX7_isSo_10 : decode cX7_isSo 10 = .ok (.iaload, 1) := by decide +kernel
theorem dX7_isSo_11 : decode cX7_isSo 11 = .ok (.istore_n 3, 1) := by decide +kernel
theorem dX7_isSo_12 : decode cX7_isSo 12 = .ok (.aload_n 0, 1) := by decide +kernel
theorem dX7_isSo_13 : decode cX7_isSo 13 = .ok (.getfield 26, 3) := by decide +kernel
theorem dX7_isSo_16 : decode cX7_isSo 16 = .ok (.bipush 6, 2) := by decide +kernel
theorem dX7_isSo_18 : decode cX7_isSo 18 = .ok (.iload_n 1, 1) := by decide +kernel
theorem dX7_isSo_19 : decode cX7_isSo 19 = .ok (.imul, 1) := by decide +kernel
theorem dX7_isSo_20 : decode cX7_isSo 20 = .ok (.iconst 2, 1) := by decide +kernel
theorem dX7_isSo_21 : decode cX7_isSo 21 = .ok (.iadd, 1) := by decide +kernel
theorem dX7_isSo_22 : decode cX7_isSo 22 = .ok (.iaload, 1) := by decide +kernel
theorem dX7_isSo_23 : decode cX7_isSo 23 = .ok (.istore 4, 2) := by decide +kernel
theorem dX7_isSo_25 : decode cX7_isSo 25 = .ok (.aload_n 0, 1) := by decide +kernel
theorem dX7_isSo_26 : decode cX7_isSo 26 = .ok (.iload_n 3, 1) := by decide +kernel
theorem dX7_isSo_27 : decode cX7_isSo 27 = .ok (.iload 4, 2) := by decide +kernel
theorem dX7_isSo_29 : decode cX7_isSo 29 = .ok (.iand, 1) := by decide +kernel
theorem dX7_isSo_30 : decode cX7_isSo 30 = .ok (.aload_n 2, 1) := by decide +kernel
theorem dX7_isSo_31 : decode cX7_isSo 31 = .ok (.invokevirtual 86, 3) := by decide +kernel
theorem dX7_isSo_34 : decode cX7_isSo 34 = .ok (.istore 5, 2) := by decide +kernel
theorem dX7_isSo_36 : decode cX7_isSo 36 = .ok (.aload_n 0, 1) := by decide +kernel
theorem dX7_isSo_37 : decode cX7_isSo 37 = .ok (.iload_n 3, 1) := by decide +kernel
theorem dX7_isSo_38 : decode cX7_isSo 38 = .ok (.aload_n 2, 1) := by decide +kernel
theorem dX7_isSo_39 : decode cX7_isSo 39 = .ok (.invokevirtual 86, 3) := by decide +kernel
theorem dX7_isSo_42 : decode cX7_isSo 42 = .ok (.istore 6, 2) := by decide +kernel
theorem dX7_isSo_44 : decode cX7_isSo 44 = .ok (.aload_n 0, 1) := by decide +kernel
theorem dX7_isSo_45 : decode cX7_isSo 45 = .ok (.getfield 26, 3) := by decide +kernel
theorem dX7_isSo_48 : decode cX7_isSo 48 = .ok (.bipush 6, 2) := by decide +kernel
theorem dX7_isSo_50 : decode cX7_isSo 50 = .ok (.iload_n 1, 1) := by decide +kernel
theorem dX7_isSo_51 : decode cX7_isSo 51 = .ok (.imul, 1) := by decide +kernel
theorem dX7_isSo_52 : decode cX7_isSo 52 = .ok (.iconst 3, 1) := by decide +kernel
theorem dX7_isSo_53 : decode cX7_isSo 53 = .ok (.iadd, 1) := by decide +kernel
theorem dX7_isSo_54 : decode cX7_isSo 54 = .ok (.iaload, 1) := by decide +kernel
theorem dX7_isSo_55 : decode cX7_isSo 55 = .ok (.istore 7, 2) := by decide +kernel
theorem dX7_isSo_57 : decode cX7_isSo 57 = .ok (.aload_n 0, 1) := by decide +kernel
theorem dX7_isSo_58 : decode cX7_isSo 58 = .ok (.getfield 26, 3) := by decide +kernel
theorem dX7_isSo_61 : decode cX7_isSo 61 = .ok (.bipush 6, 2) := by decide +kernel
theorem dX7_isSo_63 : decode cX7_isSo 63 = .ok (.iload_n 1, 1) := by decide +kernel
theorem dX7_isSo_64 : decode cX7_isSo 64 = .ok (.imul, 1) := by decide +kernel
theorem dX7_isSo_65 : decode cX7_isSo 65 = .ok (.iaload, 1) := by decide +kernel
theorem dX7_isSo_66 : decode cX7_isSo 66 = .ok (.tableswitch 164 0 6 #[42, 59, 74, 89, 108, 125, 142], 42) := by decide +kernel
theorem dX7_isSo_108 : decode cX7_isSo 108 = .ok (.iload 5, 2) := by decide +kernel
theorem dX7_isSo_110 : decode cX7_isSo 110 = .ok (.iload 6, 2) := by decide +kernel
theorem dX7_isSo_112 : decode cX7_isSo 112 = .ok (.if_icmp .ne 7, 3) := by decide +kernel
theorem dX7_isSo_115 : decode cX7_isSo 115 = .ok (.iconst 1, 1) := by decide +kernel
theorem dX7_isSo_116 : decode cX7_isSo 116 = .ok (.goto 4, 3) := by decide +kernel
theorem dX7_isSo_119 : decode cX7_isSo 119 = .ok (.iconst 0, 1) := by decide +kernel
theorem dX7_isSo_120 : decode cX7_isSo 120 = .ok (.istore 8, 2) := by decide +kernel
theorem dX7_isSo_122 : decode cX7_isSo 122 = .ok (.goto 127, 3) := by decide +kernel
theorem dX7_isSo_125 : decode cX7_isSo 125 = .ok (.iload 5, 2) := by decide +kernel
theorem dX7_isSo_127 : decode cX7_isSo 127 = .ok (.ifCond .le 7, 3) := by decide +kernel
theorem dX7_isSo_130 : decode cX7_isSo 130 = .ok (.iconst 1, 1) := by decide +kernel
theorem dX7_isSo_131 : decode cX7_isSo 131 = .ok (.goto 4, 3) := by decide +kernel
theorem dX7_isSo_134 : decode cX7_isSo 134 = .ok (.iconst 0, 1) := by decide +kernel
theorem dX7_isSo_135 : decode cX7_isSo 135 = .ok (.istore 8, 2) := by decide +kernel
theorem dX7_isSo_137 : decode cX7_isSo 137 = .ok (.goto 112, 3) := by decide +kernel
theorem dX7_isSo_140 : decode cX7_isSo 140 = .ok (.iload 5, 2) := by decide +kernel
theorem dX7_isSo_142 : decode cX7_isSo 142 = .ok (.ifCond .ne 7, 3) := by decide +kernel
theorem dX7_isSo_145 : decode cX7_isSo 145 = .ok (.iconst 1, 1) := by decide +kernel
theorem dX7_isSo_146 : decode cX7_isSo 146 = .ok (.goto 4, 3) := by decide +kernel
theorem dX7_isSo_149 : decode cX7_isSo 149 = .ok (.iconst 0, 1) := by decide +kernel
theorem dX7_isSo_150 : decode cX7_isSo 150 = .ok (.istore 8, 2) := by decide +kernel
theorem dX7_isSo_152 : decode cX7_isSo 152 = .ok (.goto 97, 3) := by decide +kernel
theorem dX7_isSo_155 : decode cX7_isSo 155 = .ok (.iconst 2, 1) := by decide +kernel
theorem dX7_isSo_156 : decode cX7_isSo 156 = .ok (.iload 5, 2) := by decide +kernel
theorem dX7_isSo_158 : decode cX7_isSo 158 = .ok (.imul, 1) := by decide +kernel
theorem dX7_isSo_159 : decode cX7_isSo 159 = .ok (.iload 6, 2) := by decide +kernel
theorem dX7_isSo_161 : decode cX7_isSo 161 = .ok (.if_icmp .le 7, 3) := by decide +kernel
theorem dX7_isSo_164 : decode cX7_isSo 164 = .ok (.iconst 1, 1) := by decide +kernel
theorem dX7_isSo_165 : decode cX7_isSo 165 = .ok (.goto 4, 3) := by decide +kernel
theorem dX7_isSo_168 : decode cX7_isSo 168 = .ok (.iconst 0, 1) := by decide +kernel
theorem dX7_isSo_169 : decode cX7_isSo 169 = .ok (.istore 8, 2) := by decide +kernel
theorem dX7_isSo_171 : decode cX7_isSo 171 = .ok (.goto 78, 3) := by decide +kernel
theorem dX7_isSo_174 : decode cX7_isSo 174 = .ok (.iload 5, 2) := by decide +kernel
theorem dX7_isSo_176 : decode cX7_isSo 176 = .ok (.iload 7, 2) := by decide +kernel
theorem dX7_isSo_178 : decode cX7_isSo 178 = .ok (.if_icmp .lt 7, 3) := by decide +kernel
theorem dX7_isSo_181 : decode cX7_isSo 181 = .ok (.iconst 1, 1) := by decide +kernel
theorem dX7_isSo_182 : decode cX7_isSo 182 = .ok (.goto 4, 3) := by decide +kernel
theorem dX7_isSo_185 : decode cX7_isSo 185 = .ok (.iconst 0, 1) := by decide +kernel
theorem dX7_isSo_186 : decode cX7_isSo 186 = .ok (.istore 8, 2) := by decide +kernel
theorem dX7_isSo_188 : decode cX7_isSo 188 = .ok (.goto 61, 3) := by decide +kernel
theorem dX7_isSo_191 : decode cX7_isSo 191 = .ok (.iload 5, 2) := by decide +kernel
theorem dX7_isSo_193 : decode cX7_isSo 193 = .ok (.iload 7, 2) := by decide +kernel
theorem dX7_isSo_195 : decode cX7_isSo 195 = .ok (.if_icmp .ne 7, 3) := by decide +kernel
theorem dX7_isSo_198 : decode cX7_isSo 198 = .ok (.iconst 1, 1) := by decide +kernel
theorem dX7_isSo_199 : decode cX7_isSo 199 = .ok (.goto 4, 3) := by decide +kernel
theorem dX7_isSo_202 : decode cX7_isSo 202 = .ok (.iconst 0, 1) := by decide +kernel
theorem dX7_isSo_203 : decode cX7_isSo 203 = .ok (.istore 8, 2) := by decide +kernel
theorem dX7_isSo_205 : decode cX7_isSo 205 = .ok (.goto 44, 3) := by decide +kernel
theorem dX7_isSo_208 : decode cX7_isSo 208 = .ok (.iload 6, 2) := by decide +kernel
theorem dX7_isSo_210 : decode cX7_isSo 210 = .ok (.aload_n 0, 1) := by decide +kernel
theorem dX7_isSo_211 : decode cX7_isSo 211 = .ok (.iload 4, 2) := by decide +kernel
theorem dX7_isSo_213 : decode cX7_isSo 213 = .ok (.aload_n 2, 1) := by decide +kernel
theorem dX7_isSo_214 : decode cX7_isSo 214 = .ok (.invokevirtual 86, 3) := by decide +kernel
theorem dX7_isSo_217 : decode cX7_isSo 217 = .ok (.if_icmp .le 7, 3) := by decide +kernel
theorem dX7_isSo_220 : decode cX7_isSo 220 = .ok (.iconst 1, 1) := by decide +kernel
theorem dX7_isSo_221 : decode cX7_isSo 221 = .ok (.goto 4, 3) := by decide +kernel
theorem dX7_isSo_224 : decode cX7_isSo 224 = .ok (.iconst 0, 1) := by decide +kernel
theorem dX7_isSo_225 : decode cX7_isSo 225 = .ok (.istore 8, 2) := by decide +kernel
theorem dX7_isSo_227 : decode cX7_isSo 227 = .ok (.goto 22, 3) := by decide +kernel
theorem dX7_isSo_230 : decode cX7_isSo 230 = .ok (.iload 6, 2) := by decide +kernel
theorem dX7_isSo_232 : decode cX7_isSo 232 = .ok (.aload_n 0, 1) := by decide +kernel
theorem dX7_isSo_233 : decode cX7_isSo 233 = .ok (.iload 4, 2) := by decide +kernel
theorem dX7_isSo_235 : decode cX7_isSo 235 = .ok (.aload_n 2, 1) := by decide +kernel
theorem dX7_isSo_236 : decode cX7_isSo 236 = .ok (.invokevirtual 86, 3) := by decide +kernel
theorem dX7_isSo_239 : decode cX7_isSo 239 = .ok (.if_icmp .ne 7, 3) := by decide +kernel
theorem dX7_isSo_242 : decode cX7_isSo 242 = .ok (.iconst 1, 1) := by decide +kernel
theorem dX7_isSo_243 : decode cX7_isSo 243 = .ok (.goto 4, 3) := by decide +kernel
theorem dX7_isSo_246 : decode cX7_isSo 246 = .ok (.iconst 0, 1) := by decide +kernel
theorem dX7_isSo_247 : decode cX7_isSo 247 = .ok (.istore 8, 2) := by decide +kernel
theorem dX7_isSo_249 : decode cX7_isSo 249 = .ok (.iload 8, 2) := by decide +kernel
theorem dX7_isSo_251 : decode cX7_isSo 251 = .ok (.aload_n 0, 1) := by decide +kernel
theorem dX7_isSo_252 : decode cX7_isSo 252 = .ok (.getfield 26, 3) := by decide +kernel
theorem dX7_isSo_255 : decode cX7_isSo 255 = .ok (.bipush 6, 2) := by decide +kernel
theorem dX7_isSo_257 : decode cX7_isSo 257 = .ok (.iload_n 1, 1) := by decide +kernel
theorem dX7_isSo_258 : decode cX7_isSo 258 = .ok (.imul, 1) := by decide +kernel
theorem dX7_isSo_259 : decode cX7_isSo 259 = .ok (.iconst 4, 1) := by decide +kernel
theorem dX7_isSo_260 : decode cX7_isSo 260 = .ok (.iadd, 1) := by decide +kernel
theorem dX7_isSo_261 : decode cX7_isSo 261 = .ok (.iaload, 1) := by decide +kernel
theorem dX7_isSo_262 : decode cX7_isSo 262 = .ok (.iconst 1, 1) := by decide +kernel
theorem dX7_isSo_263 : decode cX7_isSo 263 = .ok (.if_icmp .ne 7, 3) := by decide +kernel
theorem dX7_isSo_266 : decode cX7_isSo 266 = .ok (.iconst 1, 1) := by decide +kernel
theorem dX7_isSo_267 : decode cX7_isSo 267 = .ok (.goto 4, 3) := by decide +kernel
theorem dX7_isSo_270 : decode cX7_isSo 270 = .ok (.iconst 0, 1) := by decide +kernel
theorem dX7_isSo_271 : decode cX7_isSo 271 = .ok (.if_icmp .eq 7, 3) := by decide +kernel
theorem dX7_isSo_274 : decode cX7_isSo 274 = .ok (.iconst 1, 1) := by decide +kernel
theorem dX7_isSo_275 : decode cX7_isSo 275 = .ok (.goto 4, 3) := by decide +kernel
theorem dX7_isSo_278 : decode cX7_isSo 278 = .ok (.iconst 0, 1) := by decide +kernel
theorem dX7_isSo_279 : decode cX7_isSo 279 = .ok (.ireturn, 1) := by decide +kernel
theorem dX7_holds_0 : decode cX7_holds 0 = .ok (.aload_n 0, 1) := by decide +kernel
theorem dX7_holds_1 : decode cX7_holds 1 = .ok (.iconst 0, 1) := by decide +kernel
theorem dX7_holds_2 : decode cX7_holds 2 = .ok (.putfield 57, 3) := by decide +kernel
theorem dX7_holds_5 : decode cX7_holds 5 = .ok (.iload_n 1, 1) := by decide +kernel
theorem dX7_holds_6 : decode cX7_holds 6 = .ok (.invokestatic 90, 3) := by decide +kernel
theorem dX7_holds_9 : decode cX7_holds 9 = .ok (.ifCond .ne 7, 3) := by decide +kernel
theorem dX7_holds_12 : decode cX7_holds 12 = .ok (.iconst (-1), 1) := by decide +kernel
theorem dX7_holds_13 : decode cX7_holds 13 = .ok (.goto 20, 3) := by decide +kernel
theorem dX7_holds_16 : decode cX7_holds 16 = .ok (.aload_n 0, 1) := by decide +kernel
theorem dX7_holds_17 : decode cX7_holds 17 = .ok (.iload_n 1, 1) := by decide +kernel
theorem dX7_holds_18 : decode cX7_holds 18 = .ok (.aload_n 0, 1) := by decide +kernel
theorem dX7_holds_19 : decode cX7_holds 19 = .ok (.getfield 19, 3) := by decide +kernel
theorem dX7_holds_22 : decode cX7_holds 22 = .ok (.invokevirtual 94, 3) := by decide +kernel
theorem dX7_holds_25 : decode cX7_holds 25 = .ok (.ifCond .eq 7, 3) := by decide +kernel
theorem dX7_holds_28 : decode cX7_holds 28 = .ok (.iconst 1, 1) := by decide +kernel
theorem dX7_holds_29 : decode cX7_holds 29 = .ok (.goto 4, 3) := by decide +kernel
theorem dX7_holds_32 : decode cX7_holds 32 = .ok (.iconst 0, 1) := by decide +kernel
theorem dX7_holds_33 : decode cX7_holds 33 = .ok (.ireturn, 1) := by decide +kernel
theorem dX7_size_0 : decode cX7_size 0 = .ok (.aload_n 0, 1) := by decide +kernel
theorem dX7_size_1 : decode cX7_size 1 = .ok (.iconst 0, 1) := by decide +kernel
theorem dX7_size_2 : decode cX7_size 2 = .ok (.putfield 57, 3) := by decide +kernel
theorem dX7_size_5 : decode cX7_size 5 = .ok (.iload_n 1, 1) := by decide +kernel
theorem dX7_size_6 : decode cX7_size 6 = .ok (.invokestatic 90, 3) := by decide +kernel
theorem dX7_size_9 : decode cX7_size 9 = .ok (.ifCond .eq 12, 3) := by decide +kernel
theorem dX7_size_12 : decode cX7_size 12 = .ok (.iload_n 2, 1) := by decide +kernel
theorem dX7_size_13 : decode cX7_size 13 = .ok (.iconst 0, 1) := by decide +kernel
theorem dX7_size_14 : decode cX7_size 14 = .ok (.iconst 2, 1) := by decide +kernel
theorem dX7_size_15 : decode cX7_size 15 = .ok (.invokestatic 72, 3) := by decide +kernel
theorem dX7_size_18 : decode cX7_size 18 = .ok (.ifCond .ne 5, 3) := by decide +kernel
theorem dX7_size_21 : decode cX7_size 21 = .ok (.iconst (-1), 1) := by decide +kernel
theorem dX7_size_22 : decode cX7_size 22 = .ok (.ireturn, 1) := by decide +kernel
theorem dX7_size_23 : decode cX7_size 23 = .ok (.aload_n 0, 1) := by decide +kernel
theorem dX7_size_24 : decode cX7_size 24 = .ok (.getfield 26, 3) := by decide +kernel
theorem dX7_size_27 : decode cX7_size 27 = .ok (.bipush 6, 2) := by decide +kernel
theorem dX7_size_29 : decode cX7_size 29 = .ok (.iload_n 1, 1) := by decide +kernel
theorem dX7_size_30 : decode cX7_size 30 = .ok (.imul, 1) := by decide +kernel
theorem dX7_size_31 : decode cX7_size 31 = .ok (.iconst 1, 1) := by decide +kernel
theorem dX7_size_32 : decode cX7_size 32 = .ok (.iadd, 1) := by decide +kernel
theorem dX7_size_33 : decode cX7_size 33 = .ok (.iaload, 1) := by decide +kernel
theorem dX7_size_34 : decode cX7_size 34 = .ok (.istore_n 3, 1) := by decide +kernel
theorem dX7_size_35 : decode cX7_size 35 = .ok (.aload_n 0, 1) := by decide +kernel
theorem dX7_size_36 : decode cX7_size 36 = .ok (.getfield 26, 3) := by decide +kernel
theorem dX7_size_39 : decode cX7_size 39 = .ok (.bipush 6, 2) := by decide +kernel
theorem dX7_size_41 : decode cX7_size 41 = .ok (.iload_n 1, 1) := by decide +kernel
theorem dX7_size_42 : decode cX7_size 42 = .ok (.imul, 1) := by decide +kernel
theorem dX7_size_43 : decode cX7_size 43 = .ok (.iconst 2, 1) := by decide +kernel
theorem dX7_size_44 : decode cX7_size 44 = .ok (.iadd, 1) := by decide +kernel
theorem dX7_size_45 : decode cX7_size 45 = .ok (.iaload, 1) := by decide +kernel
theorem dX7_size_46 : decode cX7_size 46 = .ok (.istore 4, 2) := by decide +kernel
theorem dX7_size_48 : decode cX7_size 48 = .ok (.aload_n 0, 1) := by decide +kernel
theorem dX7_size_49 : decode cX7_size 49 = .ok (.iload_n 2, 1) := by decide +kernel
theorem dX7_size_50 : decode cX7_size 50 = .ok (.ifCond .ne 7, 3) := by decide +kernel
theorem dX7_size_53 : decode cX7_size 53 = .ok (.iload_n 3, 1) := by decide +kernel
theorem dX7_size_54 : decode cX7_size 54 = .ok (.goto 17, 3) := by decide +kernel
theorem dX7_size_57 : decode cX7_size 57 = .ok (.iload_n 2, 1) := by decide +kernel
theorem dX7_size_58 : decode cX7_size 58 = .ok (.iconst 1, 1) := by decide +kernel
theorem dX7_size_59 : decode cX7_size 59 = .ok (.if_icmp .ne 8, 3) := by decide +kernel
theorem dX7_size_62 : decode cX7_size 62 = .ok (.iload 4, 2) := by decide +kernel
theorem dX7_size_64 : decode cX7_size 64 = .ok (.goto 7, 3) := by decide +kernel
theorem dX7_size_67 : decode cX7_size 67 = .ok (.iload_n 3, 1) := by decide +kernel
theorem dX7_size_68 : decode cX7_size 68 = .ok (.iload 4, 2) := by decide +kernel
theorem dX7_size_70 : decode cX7_size 70 = .ok (.iand, 1) := by decide +kernel
theorem dX7_size_71 : decode cX7_size 71 = .ok (.aload_n 0, 1) := by decide +kernel
theorem dX7_size_72 : decode cX7_size 72 = .ok (.getfield 19, 3) := by decide +kernel
theorem dX7_size_75 : decode cX7_size 75 = .ok (.invokevirtual 86, 3) := by decide +kernel
theorem dX7_size_78 : decode cX7_size 78 = .ok (.ireturn, 1) := by decide +kernel
theorem dX7_type_0 : decode cX7_type 0 = .ok (.aload_n 0, 1) := by decide +kernel
theorem dX7_type_1 : decode cX7_type 1 = .ok (.iconst 0, 1) := by decide +kernel
theorem dX7_type_2 : decode cX7_type 2 = .ok (.putfield 57, 3) := by decide +kernel
theorem dX7_type_5 : decode cX7_type 5 = .ok (.iload_n 3, 1) := by decide +kernel
theorem dX7_type_6 : decode cX7_type 6 = .ok (.iconst 1, 1) := by decide +kernel
theorem dX7_type_7 : decode cX7_type 7 = .ok (.bipush 8, 2) := by decide +kernel
theorem dX7_type_9 : decode cX7_type 9 = .ok (.invokestatic 72, 3) := by decide +kernel
theorem dX7_type_12 : decode cX7_type 12 = .ok (.ifCond .ne 5, 3) := by decide +kernel
theorem dX7_type_15 : decode cX7_type 15 = .ok (.iconst (-1), 1) := by decide +kernel
theorem dX7_type_16 : decode cX7_type 16 = .ok (.ireturn, 1) := by decide +kernel
theorem dX7_type_17 : decode cX7_type 17 = .ok (.aload_n 0, 1) := by decide +kernel
theorem dX7_type_18 : decode cX7_type 18 = .ok (.getfield 98, 3) := by decide +kernel
theorem dX7_type_21 : decode cX7_type 21 = .ok (.iload_n 3, 1) := by decide +kernel
theorem dX7_type_22 : decode cX7_type 22 = .ok (.iadd, 1) := by decide +kernel
theorem dX7_type_23 : decode cX7_type 23 = .ok (.bipush 80, 2) := by decide +kernel
theorem dX7_type_25 : decode cX7_type 25 = .ok (.if_icmp .le 6, 3) := by decide +kernel
