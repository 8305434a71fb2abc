theorem dX0_init_0 : decode cX0_init 0 = .ok (.aload_n 0, 1) := by decide +kernel
theorem dX0_init_1 : decode cX0_init 1 = .ok (.invokespecial 3, 3) := by decide +kernel
theorem dX0_init_4 : decode cX0_init 4 = .ok (.aload_n 0, 1) := by decide +kernel
theorem dX0_init_5 : decode cX0_init 5 = .ok (.new 9, 3) := by decide +kernel
theorem dX0_init_8 : decode cX0_init 8 = .ok (.dup, 1) := by decide +kernel
theorem dX0_init_9 : decode cX0_init 9 = .ok (.invokespecial 11, 3) := by decide +kernel
theorem dX0_init_12 : decode cX0_init 12 = .ok (.putfield 12, 3) := by decide +kernel
theorem dX0_init_15 : decode cX0_init 15 = .ok (.aload_n 0, 1) := by decide +kernel
theorem dX0_init_16 : decode cX0_init 16 = .ok (.sipush 1024, 3) := by decide +kernel
theorem dX0_init_19 : decode cX0_init 19 = .ok (.newarray .int, 2) := by decide +kernel
theorem dX0_init_21 : decode cX0_init 21 = .ok (.putfield 18, 3) := by decide +kernel
theorem dX0_init_24 : decode cX0_init 24 = .ok (.aload_n 0, 1) := by decide +kernel
theorem dX0_init_25 : decode cX0_init 25 = .ok (.sipush 1024, 3) := by decide +kernel
theorem dX0_init_28 : decode cX0_init 28 = .ok (.newarray .int, 2) := by decide +kernel
theorem dX0_init_30 : decode cX0_init 30 = .ok (.putfield 22, 3) := by decide +kernel
theorem dX0_init_33 : decode cX0_init 33 = .ok (.aload_n 0, 1) := by decide +kernel
theorem dX0_init_34 : decode cX0_init 34 = .ok (.sipush 1024, 3) := by decide +kernel
theorem dX0_init_37 : decode cX0_init 37 = .ok (.newarray .int, 2) := by decide +kernel
theorem dX0_init_39 : decode cX0_init 39 = .ok (.putfield 25, 3) := by decide +kernel
theorem dX0_init_42 : decode cX0_init 42 = .ok (.aload_n 0, 1) := by decide +kernel
theorem dX0_init_43 : decode cX0_init 43 = .ok (.bipush 16, 2) := by decide +kernel
theorem dX0_init_45 : decode cX0_init 45 = .ok (.newarray .long, 2) := by decide +kernel
theorem dX0_init_47 : decode cX0_init 47 = .ok (.putfield 28, 3) := by decide +kernel
theorem dX0_init_50 : decode cX0_init 50 = .ok (.aload_n 0, 1) := by decide +kernel
theorem dX0_init_51 : decode cX0_init 51 = .ok (.iconst 0, 1) := by decide +kernel
theorem dX0_init_52 : decode cX0_init 52 = .ok (.newarray .char, 2) := by decide +kernel
theorem dX0_init_54 : decode cX0_init 54 = .ok (.putfield 32, 3) := by decide +kernel
theorem dX0_init_57 : decode cX0_init 57 = .ok (.iconst 0, 1) := by decide +kernel
theorem dX0_init_58 : decode cX0_init 58 = .ok (.istore_n 1, 1) := by decide +kernel
theorem dX0_init_59 : decode cX0_init 59 = .ok (.iload_n 1, 1) := by decide +kernel
theorem dX0_init_60 : decode cX0_init 60 = .ok (.aload_n 0, 1) := by decide +kernel
theorem dX0_init_61 : decode cX0_init 61 = .ok (.getfield 28, 3) := by decide +kernel
theorem dX0_init_64 : decode cX0_init 64 = .ok (.arraylength, 1) := by decide +kernel
theorem dX0_init_65 : decode cX0_init 65 = .ok (.if_icmp .ge 19, 3) := by decide +kernel
theorem dX0_init_68 : decode cX0_init 68 = .ok (.aload_n 0, 1) := by decide +kernel
theorem dX0_init_69 : decode cX0_init 69 = .ok (.getfield 28, 3) := by decide +kernel
theorem dX0_init_72 : decode cX0_init 72 = .ok (.iload_n 1, 1) := by decide +kernel
theorem dX0_init_73 : decode cX0_init 73 = .ok (.iload_n 1, 1) := by decide +kernel
theorem dX0_init_74 : decode cX0_init 74 = .ok (.invokestatic 36, 3) := by decide +kernel
theorem dX0_init_77 : decode cX0_init 77 = .ok (.lastore, 1) := by decide +kernel
theorem dX0_init_78 : decode cX0_init 78 = .ok (.iinc 1 1, 3) := by decide +kernel
theorem dX0_init_81 : decode cX0_init 81 = .ok (.goto (-22), 3) := by decide +kernel
theorem dX0_init_84 : decode cX0_init 84 = .ok (.return_, 1) := by decide +kernel
theorem dX0_witnessOf_0 : decode cX0_witnessOf 0 = .ok (.lconst 0, 1) := by decide +kernel
theorem dX0_witnessOf_1 : decode cX0_witnessOf 1 = .ok (.lstore_n 1, 1) := by decide +kernel
theorem dX0_witnessOf_2 : decode cX0_witnessOf 2 = .ok (.iconst 0, 1) := by decide +kernel
theorem dX0_witnessOf_3 : decode cX0_witnessOf 3 = .ok (.istore_n 3, 1) := by decide +kernel
theorem dX0_witnessOf_4 : decode cX0_witnessOf 4 = .ok (.iload_n 3, 1) := by decide +kernel
theorem dX0_witnessOf_5 : decode cX0_witnessOf 5 = .ok (.iconst 4, 1) := by decide +kernel
theorem dX0_witnessOf_6 : decode cX0_witnessOf 6 = .ok (.if_icmp .ge 57, 3) := by decide +kernel
theorem dX0_witnessOf_9 : decode cX0_witnessOf 9 = .ok (.iconst 0, 1) := by decide +kernel
theorem dX0_witnessOf_10 : decode cX0_witnessOf 10 = .ok (.istore 4, 2) := by decide +kernel
theorem dX0_witnessOf_12 : decode cX0_witnessOf 12 = .ok (.iload 4, 2) := by decide +kernel
theorem dX0_witnessOf_14 : decode cX0_witnessOf 14 = .ok (.iconst 4, 1) := by decide +kernel
theorem dX0_witnessOf_15 : decode cX0_witnessOf 15 = .ok (.if_icmp .ge 42, 3) := by decide +kernel
theorem dX0_witnessOf_18 : decode cX0_witnessOf 18 = .ok (.iload_n 0, 1) := by decide +kernel
theorem dX0_witnessOf_19 : decode cX0_witnessOf 19 = .ok (.iload_n 3, 1) := by decide +kernel
theorem dX0_witnessOf_20 : decode cX0_witnessOf 20 = .ok (.invokestatic 40, 3) := by decide +kernel
theorem dX0_witnessOf_23 : decode cX0_witnessOf 23 = .ok (.ifCond .eq 34, 3) := by decide +kernel
theorem dX0_witnessOf_26 : decode cX0_witnessOf 26 = .ok (.lload_n 1, 1) := by decide +kernel
theorem dX0_witnessOf_27 : decode cX0_witnessOf 27 = .ok (.lconst 1, 1) := by decide +kernel
theorem dX0_witnessOf_28 : decode cX0_witnessOf 28 = .ok (.iload_n 0, 1) := by decide +kernel
theorem dX0_witnessOf_29 : decode cX0_witnessOf 29 = .ok (.iload 4, 2) := by decide +kernel
theorem dX0_witnessOf_31 : decode cX0_witnessOf 31 = .ok (.invokestatic 40, 3) := by decide +kernel
theorem dX0_witnessOf_34 : decode cX0_witnessOf 34 = .ok (.ifCond .eq 7, 3) := by decide +kernel
theorem dX0_witnessOf_37 : decode cX0_witnessOf 37 = .ok (.iconst 1, 1) := by decide +kernel
theorem dX0_witnessOf_38 : decode cX0_witnessOf 38 = .ok (.goto 4, 3) := by decide +kernel
theorem dX0_witnessOf_41 : decode cX0_witnessOf 41 = .ok (.iconst 3, 1) := by decide +kernel
theorem dX0_witnessOf_42 : decode cX0_witnessOf 42 = .ok (.iload_n 3, 1) := by decide +kernel
theorem dX0_witnessOf_43 : decode cX0_witnessOf 43 = .ok (.iload 4, 2) := by decide +kernel
theorem dX0_witnessOf_45 : decode cX0_witnessOf 45 = .ok (.invokestatic 44, 3) := by decide +kernel
theorem dX0_witnessOf_48 : decode cX0_witnessOf 48 = .ok (.lshl, 1) := by decide +kernel
theorem dX0_witnessOf_49 : decode cX0_witnessOf 49 = .ok (.lor, 1) := by decide +kernel
theorem dX0_witnessOf_50 : decode cX0_witnessOf 50 = .ok (.lstore_n 1, 1) := by decide +kernel
theorem dX0_witnessOf_51 : decode cX0_witnessOf 51 = .ok (.iinc 4 1, 3) := by decide +kernel
theorem dX0_witnessOf_54 : decode cX0_witnessOf 54 = .ok (.goto (-42), 3) := by decide +kernel
theorem dX0_witnessOf_57 : decode cX0_witnessOf 57 = .ok (.iinc 3 1, 3) := by decide +kernel
theorem dX0_witnessOf_60 : decode cX0_witnessOf 60 = .ok (.goto (-56), 3) := by decide +kernel
theorem dX0_witnessOf_63 : decode cX0_witnessOf 63 = .ok (.lload_n 1, 1) := by decide +kernel
theorem dX0_witnessOf_64 : decode cX0_witnessOf 64 = .ok (.lreturn, 1) := by decide +kernel
theorem dX0_shape_0 : decode cX0_shape 0 = .ok (.aload_n 0, 1) := by decide +kernel
theorem dX0_shape_1 : decode cX0_shape 1 = .ok (.iload_n 1, 1) := by decide +kernel
theorem dX0_shape_2 : decode cX0_shape 2 = .ok (.putfield 48, 3) := by decide +kernel
theorem dX0_shape_5 : decode cX0_shape 5 = .ok (.aload_n 0, 1) := by decide +kernel
theorem dX0_shape_6 : decode cX0_shape 6 = .ok (.iload_n 2, 1) := by decide +kernel
theorem dX0_shape_7 : decode cX0_shape 7 = .ok (.putfield 52, 3) := by decide +kernel
theorem dX0_shape_10 : decode cX0_shape 10 = .ok (.aload_n 0, 1) := by decide +kernel
theorem dX0_shape_11 : decode cX0_shape 11 = .ok (.aload_n 0, 1) := by decide +kernel
theorem dX0_shape_12 : decode cX0_shape 12 = .ok (.getfield 48, 3) := by decide +kernel
theorem dX0_shape_15 : decode cX0_shape 15 = .ok (.aload_n 0, 1) := by decide +kernel
theorem dX0_shape_16 : decode cX0_shape 16 = .ok (.getfield 52, 3) := by decide +kernel
theorem dX0_shape_19 : decode cX0_shape 19 = .ok (.iadd, 1) := by decide +kernel
theorem dX0_shape_20 : decode cX0_shape 20 = .ok (.aload_n 0, 1) := by decide +kernel
theorem dX0_shape_21 : decode cX0_shape 21 = .ok (.getfield 52, 3) := by decide +kernel
theorem dX0_shape_24 : decode cX0_shape 24 = .ok (.invokestatic 55, 3) := by decide +kernel
theorem dX0_shape_27 : decode cX0_shape 27 = .ok (.putfield 59, 3) := by decide +kernel
theorem dX0_shape_30 : decode cX0_shape 30 = .ok (.aload_n 0, 1) := by decide +kernel
theorem dX0_shape_31 : decode cX0_shape 31 = .ok (.sipush 1023, 3) := by decide +kernel
theorem dX0_shape_34 : decode cX0_shape 34 = .ok (.putfield 62, 3) := by decide +kernel
theorem dX0_shape_37 : decode cX0_shape 37 = .ok (.return_, 1) := by decide +kernel
theorem dX0_refresh_0 : decode cX0_refresh 0 = .ok (.aload_n 0, 1) := by decide +kernel
theorem dX0_refresh_1 : decode cX0_refresh 1 = .ok (.getfield 62, 3) := by decide +kernel
theorem dX0_refresh_4 : decode cX0_refresh 4 = .ok (.ifCond .ne 4, 3) := by decide +kernel
theorem dX0_refresh_7 : decode cX0_refresh 7 = .ok (.return_, 1) := by decide +kernel
theorem dX0_refresh_8 : decode cX0_refresh 8 = .ok (.aload_n 0, 1) := by decide +kernel
theorem dX0_refresh_9 : decode cX0_refresh 9 = .ok (.getfield 59, 3) := by decide +kernel
theorem dX0_refresh_12 : decode cX0_refresh 12 = .ok (.aload_n 0, 1) := by decide +kernel
theorem dX0_refresh_13 : decode cX0_refresh 13 = .ok (.getfield 32, 3) := by decide +kernel
theorem dX0_refresh_16 : decode cX0_refresh 16 = .ok (.arraylength, 1) := by decide +kernel
theorem dX0_refresh_17 : decode cX0_refresh 17 = .ok (.if_icmp .le 13, 3) := by decide +kernel
theorem dX0_refresh_20 : decode cX0_refresh 20 = .ok (.aload_n 0, 1) := by decide +kernel
theorem dX0_refresh_21 : decode cX0_refresh 21 = .ok (.aload_n 0, 1) := by decide +kernel
theorem dX0_refresh_22 : decode cX0_refresh 22 = .ok (.getfield 59, 3) := by decide +kernel
theorem dX0_refresh_25 : decode cX0_refresh 25 = .ok (.newarray .char, 2) := by decide +kernel
theorem dX0_refresh_27 : decode cX0_refresh 27 = .ok (.putfield 32, 3) := by decide +kernel
theorem dX0_refresh_30 : decode cX0_refresh 30 = .ok (.iconst 0, 1) := by decide +kernel
theorem dX0_refresh_31 : decode cX0_refresh 31 = .ok (.istore_n 2, 1) := by decide +kernel
theorem dX0_refresh_32 : decode cX0_refresh 32 = .ok (.iload_n 2, 1) := by decide +kernel
theorem dX0_refresh_33 : decode cX0_refresh 33 = .ok (.aload_n 1, 1) := by decide +kernel
theorem dX0_refresh_34 : decode cX0_refresh 34 = .ok (.arraylength, 1) := by decide +kernel
theorem dX0_refresh_35 : decode cX0_refresh 35 = .ok (.if_icmp .ge 66, 3) := by decide +kernel
theorem dX0_refresh_38 : decode cX0_refresh 38 = .ok (.iload_n 2, 1) := by decide +kernel
theorem dX0_refresh_39 : decode cX0_refresh 39 = .ok (.bipush 10, 2) := by decide +kernel
theorem dX0_refresh_41 : decode cX0_refresh 41 = .ok (.if_icmp .ge 60, 3) := by decide +kernel
theorem dX0_refresh_44 : decode cX0_refresh 44 = .ok (.aload_n 1, 1) := by decide +kernel
theorem dX0_refresh_45 : decode cX0_refresh 45 = .ok (.iload_n 2, 1) := by decide +kernel
theorem dX0_refresh_46 : decode cX0_refresh 46 = .ok (.aaload, 1) := by decide +kernel
theorem dX0_refresh_47 : decode cX0_refresh 47 = .ok (.astore_n 3, 1) := by decide +kernel
theorem dX0_refresh_48 : decode cX0_refresh 48 = .ok (.aload_n 0, 1) := by decide +kernel
theorem dX0_refresh_49 : decode cX0_refresh 49 = .ok (.getfield 62, 3) := by decide +kernel
theorem dX0_refresh_52 : decode cX0_refresh 52 = .ok (.iload_n 2, 1) := by decide +kernel
theorem dX0_refresh_53 : decode cX0_refresh 53 = .ok (.invokestatic 40, 3) := by decide +kernel
theorem dX0_refresh_56 : decode cX0_refresh 56 = .ok (.ifCond .eq 39, 3) := by decide +kernel
theorem dX0_refresh_59 : decode cX0_refresh 59 = .ok (.aload_n 3, 1) := by decide +kernel
theorem dX0_refresh_60 : decode cX0_refresh 60 = .ok (.ifnull 35, 3) := by decide +kernel
theorem dX0_refresh_63 : decode cX0_refresh 63 = .ok (.aload_n 0, 1) := by decide +kernel
theorem dX0_refresh_64 : decode cX0_refresh 64 = .ok (.getfield 62, 3) := by decide +kernel
theorem dX0_refresh_67 : decode cX0_refresh 67 = .ok (.aload_n 1, 1) := by decide +kernel
theorem dX0_refresh_68 : decode cX0_refresh 68 = .ok (.aload_n 3, 1) := by decide +kernel
theorem dX0_refresh_69 : decode cX0_refresh 69 = .ok (.invokestatic 65, 3) := by decide +kernel
theorem dX0_refresh_72 : decode cX0_refresh 72 = .ok (.iand, 1) := by decide +kernel
theorem dX0_refresh_73 : decode cX0_refresh 73 = .ok (.istore 4, 2) := by decide +kernel
theorem dX0_refresh_75 : decode cX0_refresh 75 = .ok (.aload_n 0, 1) := by decide +kernel
theorem dX0_refresh_76 : decode cX0_refresh 76 = .ok (.aload_n 3, 1) := by decide +kernel
theorem dX0_refresh_77 : decode cX0_refresh 77 = .ok (.iload 4, 2) := by decide +kernel
theorem dX0_refresh_79 : decode cX0_refresh 79 = .ok (.invokevirtual 69, 3) := by decide +kernel
theorem dX0_refresh_82 : decode cX0_refresh 82 = .ok (.aload_n 0, 1) := by decide +kernel
theorem dX0_refresh_83 : decode cX0_refresh 83 = .ok (.dup, 1) := by decide +kernel
theorem dX0_refresh_84 : decode cX0_refresh 84 = .ok (.getfield 62, 3) := by decide +kernel
theorem dX0_refresh_87 : decode cX0_refresh 87 = .ok (.iload 4, 2) := by decide +kernel
theorem dX0_refresh_89 : decode cX0_refresh 89 = .ok (.iconst (-1), 1) := by decide +kernel
theorem dX0_refresh_90 : decode cX0_refresh 90 = .ok (.ixor, 1) := by decide +kernel
theorem dX0_refresh_91 : decode cX0_refresh 91 = .ok (.iand, 1) := by decide +kernel
theorem dX0_refresh_92 : decode cX0_refresh 92 = .ok (.putfield 62, 3) := by decide +kernel
theorem dX0_refresh_95 : decode cX0_refresh 95 = .ok (.iinc 2 1, 3) := by decide +kernel
theorem dX0_refresh_98 : decode cX0_refresh 98 = .ok (.goto (-66), 3) := by decide +kernel
theorem dX0_refresh_101 : decode cX0_refresh 101 = .ok (.aload_n 0, 1) := by decide +kernel
theorem dX0_refresh_102 : decode cX0_refresh 102 = .ok (.iconst 0, 1) := by decide +kernel
theorem dX0_refresh_103 : decode cX0_refresh 103 = .ok (.putfield 62, 3) := by decide +kernel
theorem dX0_refresh_106 : decode cX0_refresh 106 = .ok (.aload_n 0, 1) := by decide +kernel
theorem dX0_refresh_107 : decode cX0_refresh 107 = .ok (.invokevirtual 73, 3) := by decide +kernel
theorem dX0_refresh_110 : decode cX0_refresh 110 = .ok (.aload_n 0, 1) := by decide +kernel
theorem dX0_refresh_111 : decode cX0_refresh 111 = .ok (.invokevirtual 76, 3) := by decide +kernel
theorem dX0_refresh_114 : decode cX0_refresh 114 = .ok (.return_, 1) := by decide +kernel
theorem dX0_likes_0 : decode cX0_likes 0 = .ok (.iconst 0, 1) := by decide +kernel
theorem dX0_likes_1 : decode cX0_likes 1 = .ok (.istore_n 2, 1) := by decide +kernel
theorem dX0_likes_2 : decode cX0_likes 2 = .ok (.iconst 0, 1) := by decide +kernel
theorem dX0_likes_3 : decode cX0_likes 3 = .ok (.istore_n 3, 1) := by decide +kernel
theorem dX0_likes_4 : decode cX0_likes 4 = .ok (.iload_n 3, 1) := by decide +kernel
theorem dX0_likes_5 : decode cX0_likes 5 = .ok (.aload_n 0, 1) := by decide +kernel
theorem dX0_likes_6 : decode cX0_likes 6 = .ok (.arraylength, 1) := by decide +kernel
theorem dX0_likes_7 : decode cX0_likes 7 = .ok (.if_icmp .ge 40, 3) := by decide +kernel
theorem dX0_likes_10 : decode cX0_likes 10 = .ok (.iload_n 3, 1) := by decide +kernel
theorem dX0_likes_11 : decode cX0_likes 11 = .ok (.bipush 10, 2) := by decide +kernel
theorem dX0_likes_13 : decode cX0_likes 13 = .ok (.if_icmp .ge 34, 3) := by decide +kernel
theorem dX0_likes_16 : decode cX0_likes 16 = .ok (.aload_n 0, 1) := by decide +kernel
theorem dX0_likes_17 : decode cX0_likes 17 = .ok (.iload_n 3, 1) := by decide +kernel
theorem dX0_likes_18 : decode cX0_likes 18 = .ok (.aaload, 1) := by decide +kernel
theorem dX0_likes_19 : decode cX0_likes 19 = .ok (.astore 4, 2) := by decide +kernel
theorem dX0_likes_21 : decode cX0_likes 21 = .ok (.aload 4, 2) := by decide +kernel
theorem dX0_likes_23 : decode cX0_likes 23 = .ok (.ifnull 18, 3) := by decide +kernel
theorem dX0_likes_26 : decode cX0_likes 26 = .ok (.aload_n 1, 1) := by decide +kernel
theorem dX0_likes_27 : decode cX0_likes 27 = .ok (.aload 4, 2) := by decide +kernel
theorem dX0_likes_29 : decode cX0_likes 29 = .ok (.invokevirtual 79, 3) := by decide +kernel
theorem dX0_likes_32 : decode cX0_likes 32 = .ok (.ifCond .eq 9, 3) := by decide +kernel
theorem dX0_likes_35 : decode cX0_likes 35 = .ok (.iload_n 2, 1) := by decide +kernel
theorem dX0_likes_36 : decode cX0_likes 36 = .ok (.iconst 1, 1) := by decide +kernel
theorem dX0_likes_37 : decode cX0_likes 37 = .ok (.iload_n 3, 1) := by decide +kernel
theorem dX0_likes_38 : decode cX0_likes 38 = .ok (.ishl, 1) := by decide +kernel
theorem dX0_likes_39 : decode cX0_likes 39 = .ok (.ior, 1) := by decide +kernel
theorem dX0_likes_40 : decode cX0_likes 40 = .ok (.istore_n 2, 1) := by decide +kernel
theorem dX0_likes_41 : decode cX0_likes 41 = .ok (.iinc 3 1, 3) := by decide +kernel
theorem dX0_likes_44 : decode cX0_likes 44 = .ok (.goto (-40), 3) := by decide +kernel
theorem dX0_likes_47 : decode cX0_likes 47 = .ok (.iload_n 2, 1) := by decide +kernel
theorem dX0_likes_48 : decode cX0_likes 48 = .ok (.ireturn, 1) := by decide +kernel
theorem dX0_mark_0 : decode cX0_mark 0 = .ok (.aload_n 0, 1) := by decide +kernel
theorem dX0_mark_1 : decode cX0_mark 1 = .ok (.getfield 12, 3) := by decide +kernel
theorem dX0_mark_4 : decode cX0_mark 4 = .ok (.aload_n 0, 1) := by decide +kernel
theorem dX0_mark_5 : decode cX0_mark 5 = .ok (.getfield 48, 3) := by decide +kernel
theorem dX0_mark_8 : decode cX0_mark 8 = .ok (.aload_n 0, 1) := by decide +kernel
theorem dX0_mark_9 : decode cX0_mark 9 = .ok (.getfield 52, 3) := by decide +kernel
theorem dX0_mark_12 : decode cX0_mark 12 = .ok (.aload_n 1, 1) := by decide +kernel
theorem dX0_mark_13 : decode cX0_mark 13 = .ok (.invokevirtual 85, 3) := by decide +kernel
theorem dX0_mark_16 : decode cX0_mark 16 = .ok (.iconst 1, 1) := by decide +kernel
theorem dX0_mark_17 : decode cX0_mark 17 = .ok (.istore_n 3, 1) := by decide +kernel
theorem dX0_mark_18 : decode cX0_mark 18 = .ok (.iconst 0, 1) := by decide +kernel
theorem dX0_mark_19 : decode cX0_mark 19 = .ok (.istore 4, 2) := by decide +kernel
theorem dX0_mark_21 : decode cX0_mark 21 = .ok (.iload 4, 2) := by decide +kernel
theorem dX0_mark_23 : decode cX0_mark 23 = .ok (.aload_n 0, 1) := by decide +kernel
theorem dX0_mark_24 : decode cX0_mark 24 = .ok (.getfield 59, 3) := by decide +kernel
theorem dX0_mark_27 : decode cX0_mark 27 = .ok (.if_icmp .ge 75, 3) := by decide +kernel
theorem dX0_mark_30 : decode cX0_mark 30 = .ok (.iload 4, 2) := by decide +kernel
theorem dX0_mark_32 : decode cX0_mark 32 = .ok (.aload_n 0, 1) := by decide +kernel
theorem dX0_mark_33 : decode cX0_mark 33 = .ok (.getfield 32, 3) := by decide +kernel
theorem dX0_mark_36 : decode cX0_mark 36 = .ok (.arraylength, 1) := by decide +kernel
theorem dX0_mark_37 : decode cX0_mark 37 = .ok (.if_icmp .ge 65, 3) := by decide +kernel
theorem dX0_mark_40 : decode cX0_mark 40 = .ok (.iload_n 3, 1) := by decide +kernel
theorem dX0_mark_41 : decode cX0_mark 41 = .ok (.ifCond .eq 61, 3) := by decide +kernel
theorem dX0_mark_44 : decode cX0_mark 44 = .ok (.aload_n 0, 1) := by decide +kernel
theorem dX0_mark_45 : decode cX0_mark 45 = .ok (.getfield 32, 3) := by decide +kernel
theorem dX0_mark_48 : decode cX0_mark 48 = .ok (.iload 4, 2) := by decide +kernel
theorem dX0_mark_50 : decode cX0_mark 50 = .ok (.caload, 1) := by decide +kernel
theorem dX0_mark_51 : decode cX0_mark 51 = .ok (.iload_n 2, 1) := by decide +kernel
theorem dX0_mark_52 : decode cX0_mark 52 = .ok (.iconst (-1), 1) := by decide +kernel
theorem dX0_mark_53 : decode cX0_mark 53 = .ok (.ixor, 1) := by decide +kernel
theorem dX0_mark_54 : decode cX0_mark 54 = .ok (.iand, 1) := by decide +kernel
theorem dX0_mark_55 : decode cX0_mark 55 = .ok (.istore 5, 2) := by decide +kernel
theorem dX0_mark_57 : decode cX0_mark 57 = .ok (.aload_n 0, 1) := by decide +kernel
theorem dX0_mark_58 : decode cX0_mark 58 = .ok (.getfield 32, 3) := by decide +kernel
theorem dX0_mark_61 : decode cX0_mark 61 = .ok (.iload 4, 2) := by decide +kernel
theorem dX0_mark_63 : decode cX0_mark 63 = .ok (.aload_n 1, 1) := by decide +kernel
theorem dX0_mark_64 : decode cX0_mark 64 = .ok (.aload_n 0, 1) := by decide +kernel
theorem dX0_mark_65 : decode cX0_mark 65 = .ok (.getfield 12, 3) := by decide +kernel
theorem dX0_mark_68 : decode cX0_mark 68 = .ok (.invokevirtual 89, 3) := by decide +kernel
theorem dX0_mark_71 : decode cX0_mark 71 = .ok (.invokevirtual 93, 3) := by decide +kernel
theorem dX0_mark_74 : decode cX0_mark 74 = .ok (.ifCond .eq 10, 3) := by decide +kernel
theorem dX0_mark_77 : decode cX0_mark 77 = .ok (.iload 5, 2) := by decide +kernel
theorem dX0_mark_79 : decode cX0_mark 79 = .ok (.iload_n 2, 1) := by decide +kernel
theorem dX0_mark_80 : decode cX0_mark 80 = .ok (.ior, 1) := by decide +kernel
theorem dX0_mark_81 : decode cX0_mark 81 = .ok (.goto 5, 3) := by decide +kernel
theorem dX0_mark_84 : decode cX0_mark 84 = .ok (.iload 5, 2) := by decide +kernel
theorem dX0_mark_86 : decode cX0_mark 86 = .ok (.i2c, 1) := by decide +kernel
theorem dX0_mark_87 : decode cX0_mark 87 = .ok (.castore, 1) := by decide +kernel
theorem dX0_mark_88 : decode cX0_mark 88 = .ok (.aload_n 0, 1) := by decide +kernel
theorem dX0_mark_89 : decode cX0_mark 89 = .ok (.getfield 12, 3) := by decide +kernel
theorem dX0_mark_92 : decode cX0_mark 92 = .ok (.invokevirtual 97, 3) := by decide +kernel
theorem dX0_mark_95 : decode cX0_mark 95 = .ok (.istore_n 3, 1) := by decide +kernel
theorem dX0_mark_96 : decode cX0_mark 96 = .ok (.iinc 4 1, 3) := by decide +kernel
theorem dX0_mark_99 : decode cX0_mark 99 = .ok (.goto (-78), 3) := by decide +kernel
theorem dX0_mark_102 : decode cX0_mark 102 = .ok (.return_, 1) := by decide +kernel
theorem dX0_fillHeaps_0 : decode cX0_fillHeaps 0 = .ok (.iconst 0, 1) := by decide +kernel
theorem dX0_fillHeaps_1 : decode cX0_fillHeaps 1 = .ok (.istore_n 1, 1) := by decide +kernel
theorem dX0_fillHeaps_2 : decode cX0_fillHeaps 2 = .ok (.iload_n 1, 1) := by decide +kernel
theorem dX0_fillHeaps_3 : decode cX0_fillHeaps 3 = .ok (.aload_n 0, 1) := by decide +kernel
theorem dX0_fillHeaps_4 : decode cX0_fillHeaps 4 = .ok (.getfield 18, 3) := by decide +kernel
theorem dX0_fillHeaps_7 : decode cX0_fillHeaps 7 = .ok (.arraylength, 1) := by decide +kernel
theorem dX0_fillHeaps_8 : decode cX0_fillHeaps 8 = .ok (.if_icmp .ge 16, 3) := by decide +kernel
theorem dX0_fillHeaps_11 : decode cX0_fillHeaps 11 = .ok (.aload_n 0, 1) := by decide +kernel
theorem dX0_fillHeaps_12 : decode cX0_fillHeaps 12 = .ok (.getfield 18, 3) := by decide +kernel
theorem dX0_fillHeaps_15 : decode cX0_fillHeaps 15 = .ok (.iload_n 1, 1) := by decide +kernel
theorem dX0_fillHeaps_16 : decode cX0_fillHeaps 16 = .ok (.iconst 0, 1) := by decide +kernel
theorem dX0_fillHeaps_17 : decode cX0_fillHeaps 17 = .ok (.iastore, 1) := by decide +kernel
theorem dX0_fillHeaps_18 : decode cX0_fillHeaps 18 = .ok (.iinc 1 1, 3) := by decide +kernel
theorem dX0_fillHeaps_21 : decode cX0_fillHeaps 21 = .ok (.goto (-19), 3) := by decide +kernel
theorem dX0_fillHeaps_24 : decode cX0_fillHeaps 24 = .ok (.iconst 0, 1) := by decide +kernel
theorem dX0_fillHeaps_25 : decode cX0_fillHeaps 25 = .ok (.istore_n 1, 1) := by decide +kernel
theorem dX0_fillHeaps_26 : decode cX0_fillHeaps 26 = .ok (.iload_n 1, 1) := by decide +kernel
theorem dX0_fillHeaps_27 : decode cX0_fillHeaps 27 = .ok (.aload_n 0, 1) := by decide +kernel
theorem dX0_fillHeaps_28 : decode cX0_fillHeaps 28 = .ok (.getfield 59, 3) := by decide +kernel
theorem dX0_fillHeaps_31 : decode cX0_fillHeaps 31 = .ok (.if_icmp .ge 69, 3) := by decide +kernel
theorem dX0_fillHeaps_34 : decode cX0_fillHeaps 34 = .ok (.iload_n 1, 1) := by decide +kernel
theorem dX0_fillHeaps_35 : decode cX0_fillHeaps 35 = .ok (.aload_n 0, 1) := by decide +kernel
theorem dX0_fillHeaps_36 : decode cX0_fillHeaps 36 = .ok (.getfield 32, 3) := by decide +kernel
theorem dX0_fillHeaps_39 : decode cX0_fillHeaps 39 = .ok (.arraylength, 1) := by decide +kernel
theorem dX0_fillHeaps_40 : decode cX0_fillHeaps 40 = .ok (.if_icmp .ge 60, 3) := by decide +kernel
theorem dX0_fillHeaps_43 : decode cX0_fillHeaps 43 = .ok (.aload_n 0, 1) := by decide +kernel
theorem dX0_fillHeaps_44 : decode cX0_fillHeaps 44 = .ok (.getfield 32, 3) := by decide +kernel
theorem dX0_fillHeaps_47 : decode cX0_fillHeaps 47 = .ok (.iload_n 1, 1) := by decide +kernel
theorem dX0_fillHeaps_48 : decode cX0_fillHeaps 48 = .ok (.caload, 1) := by decide +kernel
theorem dX0_fillHeaps_49 : decode cX0_fillHeaps 49 = .ok (.istore_n 2, 1) := by decide +kernel
theorem dX0_fillHeaps_50 : decode cX0_fillHeaps 50 = .ok (.iload_n 2, 1) := by decide +kernel
theorem dX0_fillHeaps_51 : decode cX0_fillHeaps 51 = .ok (.aload_n 0, 1) := by decide +kernel
theorem dX0_fillHeaps_52 : decode cX0_fillHeaps 52 = .ok (.getfield 18, 3) := by decide +kernel
theorem dX0_fillHeaps_55 : decode cX0_fillHeaps 55 = .ok (.arraylength, 1) := by decide +kernel
theorem dX0_fillHeaps_56 : decode cX0_fillHeaps 56 = .ok (.if_icmp .ge 38, 3) := by decide +kernel
theorem dX0_fillHeaps_59 : decode cX0_fillHeaps 59 = .ok (.iload_n 2, 1) := by decide +kernel
theorem dX0_fillHeaps_60 : decode cX0_fillHeaps 60 = .ok (.aload_n 0, 1) := by decide +kernel
theorem dX0_fillHeaps_61 : decode cX0_fillHeaps 61 = .ok (.getfield 22, 3) := by decide +kernel
theorem dX0_fillHeaps_64 : decode cX0_fillHeaps 64 = .ok (.arraylength, 1) := by decide +kernel
theorem dX0_fillHeaps_65 : decode cX0_fillHeaps 65 = .ok (.if_icmp .ge 29, 3) := by decide +kernel
theorem dX0_fillHeaps_68 : decode cX0_fillHeaps 68 = .ok (.aload_n 0, 1) := by decide +kernel
theorem dX0_fillHeaps_69 : decode cX0_fillHeaps 69 = .ok (.getfield 18, 3) := by decide +kernel
theorem dX0_fillHeaps_72 : decode cX0_fillHeaps 72 = .ok (.iload_n 2, 1) := by decide +kernel
theorem dX0_fillHeaps_73 : decode cX0_fillHeaps 73 = .ok (.iaload, 1) := by decide +kernel
theorem dX0_fillHeaps_74 : decode cX0_fillHeaps 74 = .ok (.ifCond .ne 10, 3) := by decide +kernel
theorem dX0_fillHeaps_77 : decode cX0_fillHeaps 77 = .ok (.aload_n 0, 1) := by decide +kernel
theorem dX0_fillHeaps_78 : decode cX0_fillHeaps 78 = .ok (.getfield 22, 3) := by decide +kernel
theorem dX0_fillHeaps_81 : decode cX0_fillHeaps 81 = .ok (.iload_n 2, 1) := by decide +kernel
theorem dX0_fillHeaps_82 : decode cX0_fillHeaps 82 = .ok (.iload_n 1, 1) := by decide +kernel
theorem dX0_fillHeaps_83 : decode cX0_fillHeaps 83 = .ok (.iastore, 1) := by decide +kernel
theorem dX0_fillHeaps_84 : decode cX0_fillHeaps 84 = .ok (.aload_n 0, 1) := by decide +kernel
theorem dX0_fillHeaps_85 : decode cX0_fillHeaps 85 = .ok (.getfield 18, 3) := by decide +kernel
theorem dX0_fillHeaps_88 : decode cX0_fillHeaps 88 = .ok (.iload_n 2, 1) := by decide +kernel
theorem dX0_fillHeaps_89 : decode cX0_fillHeaps 89 = .ok (.dup2, 1) := by decide +kernel
theorem dX0_fillHeaps_90 : decode cX0_fillHeaps 90 = .ok (.iaload, 1) := by decide +kernel
theorem dX0_fillHeaps_91 : decode cX0_fillHeaps 91 = .ok (.iconst 1, 1) := by decide +kernel
theorem dX0_fillHeaps_92 : decode cX0_fillHeaps 92 = .ok (.iadd, 1) := by decide +kernel
theorem dX0_fillHeaps_93 : decode cX0_fillHeaps 93 = .ok (.iastore, 1) := by decide +kernel
theorem dX0_fillHeaps_94 : decode cX0_fillHeaps 94 = .ok (.iinc 1 1, 3) := by decide +kernel
theorem dX0_fillHeaps_97 : decode cX0_fillHeaps 97 = .ok (.goto (-71), 3) := by decide +kernel
theorem dX0_fillHeaps_100 : decode cX0_fillHeaps 100 = .ok (.return_, 1) := by decide +kernel
theorem dX0_addTogether_0 : decode cX0_addTogether 0 = .ok (.iconst 0, 1) := by decide +kernel
theorem dX0_addTogether_1 : decode cX0_addTogether 1 = .ok (.istore_n 1, 1) := by decide +kernel
theorem dX0_addTogether_2 : decode cX0_addTogether 2 = .ok (.iload_n 1, 1) := by decide +kernel
theorem dX0_addTogether_3 : decode cX0_addTogether 3 = .ok (.aload_n 0, 1) := by decide +kernel
theorem dX0_addTogether_4 : decode cX0_addTogether 4 = .ok (.getfield 25, 3) := by decide +kernel
theorem dX0_addTogether_7 : decode cX0_addTogether 7 = .ok (.arraylength, 1) := by decide +kernel
theorem dX0_addTogether_8 : decode cX0_addTogether 8 = .ok (.if_icmp .ge 30, 3) := by decide +kernel
theorem dX0_addTogether_11 : decode cX0_addTogether 11 = .ok (.iload_n 1, 1) := by decide +kernel
theorem dX0_addTogether_12 : decode cX0_addTogether 12 = .ok (.aload_n 0, 1) := by decide +kernel
theorem dX0_addTogether_13 : decode cX0_addTogether 13 = .ok (.getfield 18, 3) := by decide +kernel
theorem dX0_addTogether_16 : decode cX0_addTogether 16 = .ok (.arraylength, 1) := by decide +kernel
theorem dX0_addTogether_17 : decode cX0_addTogether 17 = .ok (.if_icmp .ge 21, 3) := by decide +kernel
theorem dX0_addTogether_20 : decode cX0_addTogether 20 = .ok (.aload_n 0, 1) := by decide +kernel
theorem dX0_addTogether_21 : decode cX0_addTogether 21 = .ok (.getfield 25, 3) := by decide +kernel
theorem dX0_addTogether_24 : decode cX0_addTogether 24 = .ok (.iload_n 1, 1) := by decide +kernel
theorem dX0_addTogether_25 : decode cX0_addTogether 25 = .ok (.aload_n 0, 1) := by decide +kernel
theorem dX0_addTogether_26 : decode cX0_addTogether 26 = .ok (.getfield 18, 3) := by decide +kernel
theorem dX0_addTogether_29 : decode cX0_addTogether 29 = .ok (.iload_n 1, 1) := by decide +kernel
theorem dX0_addTogether_30 : decode cX0_addTogether 30 = .ok (.iaload, 1) := by decide +kernel
theorem dX0_addTogether_31 : decode cX0_addTogether 31 = .ok (.iastore, 1) := by decide +kernel
theorem dX0_addTogether_32 : decode cX0_addTogether 32 = .ok (.iinc 1 1, 3) := by decide +kernel
theorem dX0_addTogether_35 : decode cX0_addTogether 35 = .ok (.goto (-33), 3) := by decide +kernel
theorem dX0_addTogether_38 : decode cX0_addTogether 38 = .ok (.iconst 1, 1) := by decide +kernel
theorem dX0_addTogether_39 : decode cX0_addTogether 39 = .ok (.istore_n 1, 1) := by decide +kernel
theorem dX0_addTogether_40 : decode cX0_addTogether 40 = .ok (.iload_n 1, 1) := by decide +kernel
theorem dX0_addTogether_41 : decode cX0_addTogether 41 = .ok (.sipush 1024, 3) := by decide +kernel
theorem dX0_addTogether_44 : decode cX0_addTogether 44 = .ok (.if_icmp .ge 60, 3) := by decide +kernel
theorem dX0_addTogether_47 : decode cX0_addTogether 47 = .ok (.iconst 0, 1) := by decide +kernel
theorem dX0_addTogether_48 : decode cX0_addTogether 48 = .ok (.istore_n 2, 1) := by decide +kernel
theorem dX0_addTogether_49 : decode cX0_addTogether 49 = .ok (.iload_n 2, 1) := by decide +kernel
theorem dX0_addTogether_50 : decode cX0_addTogether 50 = .ok (.aload_n 0, 1) := by decide +kernel
theorem dX0_addTogether_51 : decode cX0_addTogether 51 = .ok (.getfield 25, 3) := by decide +kernel
theorem dX0_addTogether_54 : decode cX0_addTogether 54 = .ok (.arraylength, 1) := by decide +kernel
theorem dX0_addTogether_55 : decode cX0_addTogether 55 = .ok (.if_icmp .ge 42, 3) := by decide +kernel
theorem dX0_addTogether_58 : decode cX0_addTogether 58 = .ok (.iload_n 2, 1) := by decide +kernel
theorem dX0_addTogether_59 : decode cX0_addTogether 59 = .ok (.iload_n 1, 1) := by decide +kernel
theorem dX0_addTogether_60 : decode cX0_addTogether 60 = .ok (.ior, 1) := by decide +kernel
theorem dX0_addTogether_61 : decode cX0_addTogether 61 = .ok (.istore_n 3, 1) := by decide +kernel
theorem dX0_addTogether_62 : decode cX0_addTogether 62 = .ok (.iload_n 3, 1) := by decide +kernel
theorem dX0_addTogether_63 : decode cX0_addTogether 63 = .ok (.iload_n 2, 1) := by decide +kernel
theorem dX0_addTogether_64 : decode cX0_addTogether 64 = .ok (.if_icmp .eq 27, 3) := by decide +kernel
theorem dX0_addTogether_67 : decode cX0_addTogether 67 = .ok (.iload_n 3, 1) := by decide +kernel
theorem dX0_addTogether_68 : decode cX0_addTogether 68 = .ok (.aload_n 0, 1) := by decide +kernel
theorem dX0_addTogether_69 : decode cX0_addTogether 69 = .ok (.getfield 25, 3) := by decide +kernel
theorem dX0_addTogether_72 : decode cX0_addTogether 72 = .ok (.arraylength, 1) := by decide +kernel
theorem dX0_addTogether_73 : decode cX0_addTogether 73 = .ok (.if_icmp .ge 18, 3) := by decide +kernel
theorem dX0_addTogether_76 : decode cX0_addTogether 76 = .ok (.aload_n 0, 1) := by decide +kernel
theorem dX0_addTogether_77 : decode cX0_addTogether 77 = .ok (.getfield 25, 3) := by decide +kernel
theorem dX0_addTogether_80 : decode cX0_addTogether 80 = .ok (.iload_n 2, 1) := by decide +kernel
theorem dX0_addTogether_81 : decode cX0_addTogether 81 = .ok (.dup2, 1) := by decide +kernel
theorem dX0_addTogether_82 : decode cX0_addTogether 82 = .ok (.iaload, 1) := by decide +kernel
theorem dX0_addTogether_83 : decode cX0_addTogether 83 = .ok (.aload_n 0, 1) := by decide +kernel
theorem dX0_addTogether_84 : decode cX0_addTogether 84 = .ok (.getfield 25, 3) := by decide +kernel
theorem dX0_addTogether_87 : decode cX0_addTogether 87 = .ok (.iload_n 3, 1) := by decide +kernel
theorem dX0_addTogether_88 : decode cX0_addTogether 88 = .ok (.iaload, 1) := by decide +kernel
theorem dX0_addTogether_89 : decode cX0_addTogether 89 = .ok (.iadd, 1) := by decide +kernel
theorem dX0_addTogether_90 : decode cX0_addTogether 90 = .ok (.iastore, 1) := by decide +kernel
theorem dX0_addTogether_91 : decode cX0_addTogether 91 = .ok (.iinc 2 1, 3) := by decide +kernel
theorem dX0_addTogether_94 : decode cX0_addTogether 94 = .ok (.goto (-45), 3) := by decide +kernel
theorem dX0_addTogether_97 : decode cX0_addTogether 97 = .ok (.iload_n 1, 1) := by decide +kernel
theorem dX0_addTogether_98 : decode cX0_addTogether 98 = .ok (.iconst 1, 1) := by decide +kernel
theorem dX0_addTogether_99 : decode cX0_addTogether 99 = .ok (.ishl, 1) := by decide +kernel
theorem dX0_addTogether_100 : decode cX0_addTogether 100 = .ok (.istore_n 1, 1) := by decide +kernel
theorem dX0_addTogether_101 : decode cX0_addTogether 101 = .ok (.goto (-61), 3) := by decide +kernel
theorem dX0_addTogether_104 : decode cX0_addTogether 104 = .ok (.return_, 1) := by decide +kernel
theorem dX0_worldsOf_0 : decode cX0_worldsOf 0 = .ok (.iload_n 1, 1) := by decide +kernel
theorem dX0_worldsOf_1 : decode cX0_worldsOf 1 = .ok (.ifCond .lt 21, 3) := by decide +kernel
theorem dX0_worldsOf_4 : decode cX0_worldsOf 4 = .ok (.iload_n 1, 1) := by decide +kernel
theorem dX0_worldsOf_5 : decode cX0_worldsOf 5 = .ok (.aload_n 0, 1) := by decide +kernel
theorem dX0_worldsOf_6 : decode cX0_worldsOf 6 = .ok (.getfield 25, 3) := by decide +kernel
theorem dX0_worldsOf_9 : decode cX0_worldsOf 9 = .ok (.arraylength, 1) := by decide +kernel
theorem dX0_worldsOf_10 : decode cX0_worldsOf 10 = .ok (.if_icmp .ge 12, 3) := by decide +kernel
theorem dX0_worldsOf_13 : decode cX0_worldsOf 13 = .ok (.aload_n 0, 1) := by decide +kernel
theorem dX0_worldsOf_14 : decode cX0_worldsOf 14 = .ok (.getfield 25, 3) := by decide +kernel
theorem dX0_worldsOf_17 : decode cX0_worldsOf 17 = .ok (.iload_n 1, 1) := by decide +kernel
theorem dX0_worldsOf_18 : decode cX0_worldsOf 18 = .ok (.iaload, 1) := by decide +kernel
theorem dX0_worldsOf_19 : decode cX0_worldsOf 19 = .ok (.goto 4, 3) := by decide +kernel
theorem dX0_worldsOf_22 : decode cX0_worldsOf 22 = .ok (.iconst 0, 1) := by decide +kernel
theorem dX0_worldsOf_23 : decode cX0_worldsOf 23 = .ok (.ireturn, 1) := by decide +kernel
theorem dX0_isFollowing_0 : decode cX0_isFollowing 0 = .ok (.aload_n 0, 1) := by decide +kernel
theorem dX0_isFollowing_1 : decode cX0_isFollowing 1 = .ok (.iload_n 1, 1) := by decide +kernel
theorem dX0_isFollowing_2 : decode cX0_isFollowing 2 = .ok (.invokevirtual 101, 3) := by decide +kernel
theorem dX0_isFollowing_5 : decode cX0_isFollowing 5 = .ok (.aload_n 0, 1) := by decide +kernel
theorem dX0_isFollowing_6 : decode cX0_isFollowing 6 = .ok (.iload_n 1, 1) := by decide +kernel
theorem dX0_isFollowing_7 : decode cX0_isFollowing 7 = .ok (.iconst 1, 1) := by decide +kernel
theorem dX0_isFollowing_8 : decode cX0_isFollowing 8 = .ok (.iload_n 2, 1) := by decide +kernel
theorem dX0_isFollowing_9 : decode cX0_isFollowing 9 = .ok (.ishl, 1) := by decide +kernel
theorem dX0_isFollowing_10 : decode cX0_isFollowing 10 = .ok (.ior, 1) := by decide +kernel
theorem dX0_isFollowing_11 : decode cX0_isFollowing 11 = .ok (.invokevirtual 101, 3) := by decide +kernel
theorem dX0_isFollowing_14 : decode cX0_isFollowing 14 = .ok (.if_icmp .ne 7, 3) := by decide +kernel
theorem dX0_isFollowing_17 : decode cX0_isFollowing 17 = .ok (.iconst 1, 1) := by decide +kernel
theorem dX0_isFollowing_18 : decode cX0_isFollowing 18 = .ok (.goto 4, 3) := by decide +kernel
theorem dX0_isFollowing_21 : decode cX0_isFollowing 21 = .ok (.iconst 0, 1) := by decide +kernel
theorem dX0_isFollowing_22 : decode cX0_isFollowing 22 = .ok (.ireturn, 1) := by decide +kernel
theorem dX0_firstWorld_0 : decode cX0_firstWorld 0 = .ok (.bipush (-9), 2) := by decide +kernel
theorem dX0_firstWorld_2 : decode cX0_firstWorld 2 = .ok (.istore_n 3, 1) := by decide +kernel
theorem dX0_firstWorld_3 : decode cX0_firstWorld 3 = .ok (.iconst 0, 1) := by decide +kernel
theorem dX0_firstWorld_4 : decode cX0_firstWorld 4 = .ok (.istore 4, 2) := by decide +kernel
theorem dX0_firstWorld_6 : decode cX0_firstWorld 6 = .ok (.iload 4, 2) := by decide +kernel
theorem dX0_firstWorld_8 : decode cX0_firstWorld 8 = .ok (.aload_n 0, 1) := by decide +kernel
theorem dX0_firstWorld_9 : decode cX0_firstWorld 9 = .ok (.getfield 18, 3) := by decide +kernel
theorem dX0_firstWorld_12 : decode cX0_firstWorld 12 = .ok (.arraylength, 1) := by decide +kernel
theorem dX0_firstWorld_13 : decode cX0_firstWorld 13 = .ok (.if_icmp .ge 81, 3) := by decide +kernel
theorem dX0_firstWorld_16 : decode cX0_firstWorld 16 = .ok (.iload 4, 2) := by decide +kernel
theorem dX0_firstWorld_18 : decode cX0_firstWorld 18 = .ok (.aload_n 0, 1) := by decide +kernel
theorem dX0_firstWorld_19 : decode cX0_firstWorld 19 = .ok (.getfield 22, 3) := by decide +kernel
theorem dX0_firstWorld_22 : decode cX0_firstWorld 22 = .ok (.arraylength, 1) := by decide +kernel
theorem dX0_firstWorld_23 : decode cX0_firstWorld 23 = .ok (.if_icmp .ge 71, 3) := by decide +kernel
theorem dX0_firstWorld_26 : decode cX0_firstWorld 26 = .ok (.aload_n 0, 1) := by decide +kernel
theorem dX0_firstWorld_27 : decode cX0_firstWorld 27 = .ok (.getfield 18, 3) := by decide +kernel
theorem dX0_firstWorld_30 : decode cX0_firstWorld 30 = .ok (.iload 4, 2) := by decide +kernel
theorem dX0_firstWorld_32 : decode cX0_firstWorld 32 = .ok (.iaload, 1) := by decide +kernel
theorem dX0_firstWorld_33 : decode cX0_firstWorld 33 = .ok (.ifCond .le 22, 3) := by decide +kernel
theorem dX0_firstWorld_36 : decode cX0_firstWorld 36 = .ok (.iload 4, 2) := by decide +kernel
theorem dX0_firstWorld_38 : decode cX0_firstWorld 38 = .ok (.iload_n 1, 1) := by decide +kernel
theorem dX0_firstWorld_39 : decode cX0_firstWorld 39 = .ok (.iand, 1) := by decide +kernel
theorem dX0_firstWorld_40 : decode cX0_firstWorld 40 = .ok (.iload_n 1, 1) := by decide +kernel
theorem dX0_firstWorld_41 : decode cX0_firstWorld 41 = .ok (.if_icmp .ne 14, 3) := by decide +kernel
theorem dX0_firstWorld_44 : decode cX0_firstWorld 44 = .ok (.iload 4, 2) := by decide +kernel
theorem dX0_firstWorld_46 : decode cX0_firstWorld 46 = .ok (.iload_n 2, 1) := by decide +kernel
theorem dX0_firstWorld_47 : decode cX0_firstWorld 47 = .ok (.iand, 1) := by decide +kernel
theorem dX0_firstWorld_48 : decode cX0_firstWorld 48 = .ok (.ifCond .ne 7, 3) := by decide +kernel
theorem dX0_firstWorld_51 : decode cX0_firstWorld 51 = .ok (.iconst 1, 1) := by decide +kernel
theorem dX0_firstWorld_52 : decode cX0_firstWorld 52 = .ok (.goto 4, 3) := by decide +kernel
theorem dX0_firstWorld_55 : decode cX0_firstWorld 55 = .ok (.iconst 0, 1) := by decide +kernel
theorem dX0_firstWorld_56 : decode cX0_firstWorld 56 = .ok (.istore 5, 2) := by decide +kernel
theorem dX0_firstWorld_58 : decode cX0_firstWorld 58 = .ok (.iload 5, 2) := by decide +kernel
theorem dX0_firstWorld_60 : decode cX0_firstWorld 60 = .ok (.ifCond .eq 28, 3) := by decide +kernel
theorem dX0_firstWorld_63 : decode cX0_firstWorld 63 = .ok (.iload_n 3, 1) := by decide +kernel
theorem dX0_firstWorld_64 : decode cX0_firstWorld 64 = .ok (.bipush (-9), 2) := by decide +kernel
theorem dX0_firstWorld_66 : decode cX0_firstWorld 66 = .ok (.if_icmp .eq 14, 3) := by decide +kernel
theorem dX0_firstWorld_69 : decode cX0_firstWorld 69 = .ok (.aload_n 0, 1) := by decide +kernel
theorem dX0_firstWorld_70 : decode cX0_firstWorld 70 = .ok (.getfield 22, 3) := by decide +kernel
theorem dX0_firstWorld_73 : decode cX0_firstWorld 73 = .ok (.iload 4, 2) := by decide +kernel
theorem dX0_firstWorld_75 : decode cX0_firstWorld 75 = .ok (.iaload, 1) := by decide +kernel
theorem dX0_firstWorld_76 : decode cX0_firstWorld 76 = .ok (.iload_n 3, 1) := by decide +kernel
theorem dX0_firstWorld_77 : decode cX0_firstWorld 77 = .ok (.if_icmp .ge 11, 3) := by decide +kernel
theorem dX0_firstWorld_80 : decode cX0_firstWorld 80 = .ok (.aload_n 0, 1) := by decide +kernel
theorem dX0_firstWorld_81 : decode cX0_firstWorld 81 = .ok (.getfield 22, 3) := by decide +kernel
theorem dX0_firstWorld_84 : decode cX0_firstWorld 84 = .ok (.iload 4, 2) := by decide +kernel
theorem dX0_firstWorld_86 : decode cX0_firstWorld 86 = .ok (.iaload, 1) := by decide +kernel
theorem dX0_firstWorld_87 : decode cX0_firstWorld 87 = .ok (.istore_n 3, 1) := by decide +kernel
theorem dX0_firstWorld_88 : decode cX0_firstWorld 88 = .ok (.iinc 4 1, 3) := by decide +kernel
theorem dX0_firstWorld_91 : decode cX0_firstWorld 91 = .ok (.goto (-85), 3) := by decide +kernel
theorem dX0_firstWorld_94 : decode cX0_firstWorld 94 = .ok (.iload_n 3, 1) := by decide +kernel
theorem dX0_firstWorld_95 : decode cX0_firstWorld 95 = .ok (.ireturn, 1) := by decide +kernel
theorem dX0_heapsOf_0 : decode cX0_heapsOf 0 = .ok (.iconst 0, 1) := by decide +kernel
theorem dX0_heapsOf_1 : decode cX0_heapsOf 1 = .ok (.istore_n 2, 1) := by decide +kernel
theorem dX0_heapsOf_2 : decode cX0_heapsOf 2 = .ok (.iconst 0, 1) := by decide +kernel
theorem dX0_heapsOf_3 : decode cX0_heapsOf 3 = .ok (.istore_n 3, 1) := by decide +kernel
theorem dX0_heapsOf_4 : decode cX0_heapsOf 4 = .ok (.iload_n 3, 1) := by decide +kernel
theorem dX0_heapsOf_5 : decode cX0_heapsOf 5 = .ok (.aload_n 0, 1) := by decide +kernel
theorem dX0_heapsOf_6 : decode cX0_heapsOf 6 = .ok (.getfield 18, 3) := by decide +kernel
theorem dX0_heapsOf_9 : decode cX0_heapsOf 9 = .ok (.arraylength, 1) := by decide +kernel
theorem dX0_heapsOf_10 : decode cX0_heapsOf 10 = .ok (.if_icmp .ge 28, 3) := by decide +kernel
theorem dX0_heapsOf_13 : decode cX0_heapsOf 13 = .ok (.aload_n 0, 1) := by decide +kernel
theorem dX0_heapsOf_14 : decode cX0_heapsOf 14 = .ok (.getfield 18, 3) := by decide +kernel
theorem dX0_heapsOf_17 : decode cX0_heapsOf 17 = .ok (.iload_n 3, 1) := by decide +kernel
theorem dX0_heapsOf_18 : decode cX0_heapsOf 18 = .ok (.iaload, 1) := by decide +kernel
theorem dX0_heapsOf_19 : decode cX0_heapsOf 19 = .ok (.ifCond .le 13, 3) := by decide +kernel
theorem dX0_heapsOf_22 : decode cX0_heapsOf 22 = .ok (.iload_n 3, 1) := by decide +kernel
theorem dX0_heapsOf_23 : decode cX0_heapsOf 23 = .ok (.iload_n 1, 1) := by decide +kernel
theorem dX0_heapsOf_24 : decode cX0_heapsOf 24 = .ok (.iand, 1) := by decide +kernel
theorem dX0_heapsOf_25 : decode cX0_heapsOf 25 = .ok (.iload_n 1, 1) := by decide +kernel
theorem dX0_heapsOf_26 : decode cX0_heapsOf 26 = .ok (.if_icmp .ne 6, 3) := by decide +kernel
theorem dX0_heapsOf_29 : decode cX0_heapsOf 29 = .ok (.iinc 2 1, 3) := by decide +kernel
theorem dX0_heapsOf_32 : decode cX0_heapsOf 32 = .ok (.iinc 3 1, 3) := by decide +kernel
theorem dX0_heapsOf_35 : decode cX0_heapsOf 35 = .ok (.goto (-31), 3) := by decide +kernel
theorem dX0_heapsOf_38 : decode cX0_heapsOf 38 = .ok (.iload_n 2, 1) := by decide +kernel
theorem dX0_heapsOf_39 : decode cX0_heapsOf 39 = .ok (.ireturn, 1) := by decide +kernel
theorem dX0_fewestClashing_0 : decode cX0_fewestClashing 0 = .ok (.bipush (-9), 2) := by decide +kernel
theorem dX0_fewestClashing_2 : decode cX0_fewestClashing 2 = .ok (.istore_n 2, 1) := by decide +kernel
theorem dX0_fewestClashing_3 : decode cX0_fewestClashing 3 = .ok (.iconst 0, 1) := by decide +kernel
theorem dX0_fewestClashing_4 : decode cX0_fewestClashing 4 = .ok (.istore_n 3, 1) := by decide +kernel
theorem dX0_fewestClashing_5 : decode cX0_fewestClashing 5 = .ok (.iload_n 3, 1) := by decide +kernel
theorem dX0_fewestClashing_6 : decode cX0_fewestClashing 6 = .ok (.aload_n 0, 1) := by decide +kernel
theorem dX0_fewestClashing_7 : decode cX0_fewestClashing 7 = .ok (.getfield 25, 3) := by decide +kernel
theorem dX0_fewestClashing_10 : decode cX0_fewestClashing 10 = .ok (.arraylength, 1) := by decide +kernel
theorem dX0_fewestClashing_11 : decode cX0_fewestClashing 11 = .ok (.if_icmp .ge 56, 3) := by decide +kernel
theorem dX0_fewestClashing_14 : decode cX0_fewestClashing 14 = .ok (.iload_n 3, 1) := by decide +kernel
theorem dX0_fewestClashing_15 : decode cX0_fewestClashing 15 = .ok (.iload_n 1, 1) := by decide +kernel
theorem dX0_fewestClashing_16 : decode cX0_fewestClashing 16 = .ok (.iand, 1) := by decide +kernel
theorem dX0_fewestClashing_17 : decode cX0_fewestClashing 17 = .ok (.iload_n 3, 1) := by decide +kernel
theorem dX0_fewestClashing_18 : decode cX0_fewestClashing 18 = .ok (.if_icmp .ne 16, 3) := by decide +kernel
theorem dX0_fewestClashing_21 : decode cX0_fewestClashing 21 = .ok (.aload_n 0, 1) := by decide +kernel
theorem dX0_fewestClashing_22 : decode cX0_fewestClashing 22 = .ok (.getfield 25, 3) := by decide +kernel
theorem dX0_fewestClashing_25 : decode cX0_fewestClashing 25 = .ok (.iload_n 3, 1) := by decide +kernel
theorem dX0_fewestClashing_26 : decode cX0_fewestClashing 26 = .ok (.iaload, 1) := by decide +kernel
theorem dX0_fewestClashing_27 : decode cX0_fewestClashing 27 = .ok (.ifCond .ne 7, 3) := by decide +kernel
theorem dX0_fewestClashing_30 : decode cX0_fewestClashing 30 = .ok (.iconst 1, 1) := by decide +kernel
theorem dX0_fewestClashing_31 : decode cX0_fewestClashing 31 = .ok (.goto 4, 3) := by decide +kernel
theorem dX0_fewestClashing_34 : decode cX0_fewestClashing 34 = .ok (.iconst 0, 1) := by decide +kernel
theorem dX0_fewestClashing_35 : decode cX0_fewestClashing 35 = .ok (.istore 4, 2) := by decide +kernel
theorem dX0_fewestClashing_37 : decode cX0_fewestClashing 37 = .ok (.iload 4, 2) := by decide +kernel
theorem dX0_fewestClashing_39 : decode cX0_fewestClashing 39 = .ok (.ifCond .eq 22, 3) := by decide +kernel
theorem dX0_fewestClashing_42 : decode cX0_fewestClashing 42 = .ok (.iload_n 2, 1) := by decide +kernel
theorem dX0_fewestClashing_43 : decode cX0_fewestClashing 43 = .ok (.bipush (-9), 2) := by decide +kernel
theorem dX0_fewestClashing_45 : decode cX0_fewestClashing 45 = .ok (.if_icmp .eq 14, 3) := by decide +kernel
theorem dX0_fewestClashing_48 : decode cX0_fewestClashing 48 = .ok (.iload_n 3, 1) := by decide +kernel
theorem dX0_fewestClashing_49 : decode cX0_fewestClashing 49 = .ok (.invokestatic 105, 3) := by decide +kernel
theorem dX0_fewestClashing_52 : decode cX0_fewestClashing 52 = .ok (.iload_n 2, 1) := by decide +kernel
theorem dX0_fewestClashing_53 : decode cX0_fewestClashing 53 = .ok (.invokestatic 105, 3) := by decide +kernel
theorem dX0_fewestClashing_56 : decode cX0_fewestClashing 56 = .ok (.if_icmp .ge 5, 3) := by decide +kernel
theorem dX0_fewestClashing_59 : decode cX0_fewestClashing 59 = .ok (.iload_n 3, 1) := by decide +kernel
theorem dX0_fewestClashing_60 : decode cX0_fewestClashing 60 = .ok (.istore_n 2, 1) := by decide +kernel
theorem dX0_fewestClashing_61 : decode cX0_fewestClashing 61 = .ok (.iinc 3 1, 3) := by decide +kernel
theorem dX0_fewestClashing_64 : decode cX0_fewestClashing 64 = .ok (.goto (-59), 3) := by decide +kernel
theorem dX0_fewestClashing_67 : decode cX0_fewestClashing 67 = .ok (.iload_n 2, 1) := by decide +kernel
theorem dX0_fewestClashing_68 : decode cX0_fewestClashing 68 = .ok (.ireturn, 1) := by decide +kernel
theorem dX0_thingsIn_0 : decode cX0_thingsIn 0 = .ok (.iload_n 1, 1) := by decide +kernel
theorem dX0_thingsIn_1 : decode cX0_thingsIn 1 = .ok (.ifCond .ge 6, 3) := by decide +kernel
theorem dX0_thingsIn_4 : decode cX0_thingsIn 4 = .ok (.bipush (-9), 2) := by decide +kernel
theorem dX0_thingsIn_6 : decode cX0_thingsIn 6 = .ok (.ireturn, 1) := by decide +kernel
theorem dX0_thingsIn_7 : decode cX0_thingsIn 7 = .ok (.iload_n 1, 1) := by decide +kernel
theorem dX0_thingsIn_8 : decode cX0_thingsIn 8 = .ok (.istore_n 3, 1) := by decide +kernel
theorem dX0_thingsIn_9 : decode cX0_thingsIn 9 = .ok (.iconst 0, 1) := by decide +kernel
theorem dX0_thingsIn_10 : decode cX0_thingsIn 10 = .ok (.istore 4, 2) := by decide +kernel
theorem dX0_thingsIn_12 : decode cX0_thingsIn 12 = .ok (.iload 4, 2) := by decide +kernel
theorem dX0_thingsIn_14 : decode cX0_thingsIn 14 = .ok (.aload_n 0, 1) := by decide +kernel
theorem dX0_thingsIn_15 : decode cX0_thingsIn 15 = .ok (.getfield 52, 3) := by decide +kernel
theorem dX0_thingsIn_18 : decode cX0_thingsIn 18 = .ok (.if_icmp .ge 34, 3) := by decide +kernel
theorem dX0_thingsIn_21 : decode cX0_thingsIn 21 = .ok (.iload_n 3, 1) := by decide +kernel
theorem dX0_thingsIn_22 : decode cX0_thingsIn 22 = .ok (.aload_n 0, 1) := by decide +kernel
theorem dX0_thingsIn_23 : decode cX0_thingsIn 23 = .ok (.getfield 48, 3) := by decide +kernel
theorem dX0_thingsIn_26 : decode cX0_thingsIn 26 = .ok (.iload 4, 2) := by decide +kernel
theorem dX0_thingsIn_28 : decode cX0_thingsIn 28 = .ok (.invokestatic 110, 3) := by decide +kernel
theorem dX0_thingsIn_31 : decode cX0_thingsIn 31 = .ok (.if_icmp .lt 21, 3) := by decide +kernel
theorem dX0_thingsIn_34 : decode cX0_thingsIn 34 = .ok (.iload_n 3, 1) := by decide +kernel
theorem dX0_thingsIn_35 : decode cX0_thingsIn 35 = .ok (.aload_n 0, 1) := by decide +kernel
theorem dX0_thingsIn_36 : decode cX0_thingsIn 36 = .ok (.getfield 48, 3) := by decide +kernel
theorem dX0_thingsIn_39 : decode cX0_thingsIn 39 = .ok (.iload 4, 2) := by decide +kernel
theorem dX0_thingsIn_41 : decode cX0_thingsIn 41 = .ok (.invokestatic 110, 3) := by decide +kernel
theorem dX0_thingsIn_44 : decode cX0_thingsIn 44 = .ok (.isub, 1) := by decide +kernel
theorem dX0_thingsIn_45 : decode cX0_thingsIn 45 = .ok (.istore_n 3, 1) := by decide +kernel
theorem dX0_thingsIn_46 : decode cX0_thingsIn 46 = .ok (.iinc 4 1, 3) := by decide +kernel
theorem dX0_thingsIn_49 : decode cX0_thingsIn 49 = .ok (.goto (-37), 3) := by decide +kernel
theorem dX0_thingsIn_52 : decode cX0_thingsIn 52 = .ok (.iload_n 2, 1) := by decide +kernel
theorem dX0_thingsIn_53 : decode cX0_thingsIn 53 = .ok (.ifCond .ge 6, 3) := by decide +kernel
theorem dX0_thingsIn_56 : decode cX0_thingsIn 56 = .ok (.iload 4, 2) := by decide +kernel
theorem dX0_thingsIn_58 : decode cX0_thingsIn 58 = .ok (.ireturn, 1) := by decide +kernel
theorem dX0_thingsIn_59 : decode cX0_thingsIn 59 = .ok (.iconst 0, 1) := by decide +kernel
theorem dX0_thingsIn_60 : decode cX0_thingsIn 60 = .ok (.istore 5, 2) := by decide +kernel
theorem dX0_thingsIn_62 : decode cX0_thingsIn 62 = .ok (.iconst 0, 1) := by decide +kernel
theorem dX0_thingsIn_63 : decode cX0_thingsIn 63 = .ok (.istore 6, 2) := by decide +kernel
theorem dX0_thingsIn_65 : decode cX0_thingsIn 65 = .ok (.iload 6, 2) := by decide +kernel
theorem dX0_thingsIn_67 : decode cX0_thingsIn 67 = .ok (.iload_n 2, 1) := by decide +kernel
theorem dX0_thingsIn_68 : decode cX0_thingsIn 68 = .ok (.if_icmp .gt 81, 3) := by decide +kernel
theorem dX0_thingsIn_71 : decode cX0_thingsIn 71 = .ok (.iload 6, 2) := by decide +kernel
theorem dX0_thingsIn_73 : decode cX0_thingsIn 73 = .ok (.aload_n 0, 1) := by decide +kernel
theorem dX0_thingsIn_74 : decode cX0_thingsIn 74 = .ok (.getfield 48, 3) := by decide +kernel
theorem dX0_thingsIn_77 : decode cX0_thingsIn 77 = .ok (.if_icmp .ge 72, 3) := by decide +kernel
theorem dX0_thingsIn_80 : decode cX0_thingsIn 80 = .ok (.iload 4, 2) := by decide +kernel
theorem dX0_thingsIn_82 : decode cX0_thingsIn 82 = .ok (.istore 5, 2) := by decide +kernel
theorem dX0_thingsIn_84 : decode cX0_thingsIn 84 = .ok (.iload 5, 2) := by decide +kernel
theorem dX0_thingsIn_86 : decode cX0_thingsIn 86 = .ok (.ifCond .le 50, 3) := by decide +kernel
theorem dX0_thingsIn_89 : decode cX0_thingsIn 89 = .ok (.iload_n 3, 1) := by decide +kernel
theorem dX0_thingsIn_90 : decode cX0_thingsIn 90 = .ok (.aload_n 0, 1) := by decide +kernel
theorem dX0_thingsIn_91 : decode cX0_thingsIn 91 = .ok (.getfield 48, 3) := by decide +kernel
theorem dX0_thingsIn_94 : decode cX0_thingsIn 94 = .ok (.iload 6, 2) := by decide +kernel
theorem dX0_thingsIn_96 : decode cX0_thingsIn 96 = .ok (.isub, 1) := by decide +kernel
theorem dX0_thingsIn_97 : decode cX0_thingsIn 97 = .ok (.iconst 1, 1) := by decide +kernel
theorem dX0_thingsIn_98 : decode cX0_thingsIn 98 = .ok (.isub, 1) := by decide +kernel
theorem dX0_thingsIn_99 : decode cX0_thingsIn 99 = .ok (.iload 4, 2) := by decide +kernel
theorem dX0_thingsIn_101 : decode cX0_thingsIn 101 = .ok (.iload 5, 2) := by decide +kernel
theorem dX0_thingsIn_103 : decode cX0_thingsIn 103 = .ok (.isub, 1) := by decide +kernel
theorem dX0_thingsIn_104 : decode cX0_thingsIn 104 = .ok (.invokestatic 110, 3) := by decide +kernel
theorem dX0_thingsIn_107 : decode cX0_thingsIn 107 = .ok (.if_icmp .lt 29, 3) := by decide +kernel
theorem dX0_thingsIn_110 : decode cX0_thingsIn 110 = .ok (.iload_n 3, 1) := by decide +kernel
theorem dX0_thingsIn_111 : decode cX0_thingsIn 111 = .ok (.aload_n 0, 1) := by decide +kernel
theorem dX0_thingsIn_112 : decode cX0_thingsIn 112 = .ok (.getfield 48, 3) := by decide +kernel
theorem dX0_thingsIn_115 : decode cX0_thingsIn 115 = .ok (.iload 6, 2) := by decide +kernel
theorem dX0_thingsIn_117 : decode cX0_thingsIn 117 = .ok (.isub, 1) := by decide +kernel
theorem dX0_thingsIn_118 : decode cX0_thingsIn 118 = .ok (.iconst 1, 1) := by decide +kernel
theorem dX0_thingsIn_119 : decode cX0_thingsIn 119 = .ok (.isub, 1) := by decide +kernel
theorem dX0_thingsIn_120 : decode cX0_thingsIn 120 = .ok (.iload 4, 2) := by decide +kernel
theorem dX0_thingsIn_122 : decode cX0_thingsIn 122 = .ok (.iload 5, 2) := by decide +kernel
theorem dX0_thingsIn_124 : decode cX0_thingsIn 124 = .ok (.isub, 1) := by decide +kernel
theorem dX0_thingsIn_125 : decode cX0_thingsIn 125 = .ok (.invokestatic 110, 3) := by decide +kernel
theorem dX0_thingsIn_128 : decode cX0_thingsIn 128 = .ok (.isub, 1) := by decide +kernel
theorem dX0_thingsIn_129 : decode cX0_thingsIn 129 = .ok (.istore_n 3, 1) := by decide +kernel
theorem dX0_thingsIn_130 : decode cX0_thingsIn 130 = .ok (.iinc 5 (-1), 3) := by decide +kernel
theorem dX0_thingsIn_133 : decode cX0_thingsIn 133 = .ok (.goto (-49), 3) := by decide +kernel
theorem dX0_thingsIn_136 : decode cX0_thingsIn 136 = .ok (.iload 4, 2) := by decide +kernel
theorem dX0_thingsIn_138 : decode cX0_thingsIn 138 = .ok (.iload 5, 2) := by decide +kernel
theorem dX0_thingsIn_140 : decode cX0_thingsIn 140 = .ok (.isub, 1) := by decide +kernel
theorem dX0_thingsIn_141 : decode cX0_thingsIn 141 = .ok (.istore 4, 2) := by decide +kernel
theorem dX0_thingsIn_143 : decode cX0_thingsIn 143 = .ok (.iinc 6 1, 3) := by decide +kernel
theorem dX0_thingsIn_146 : decode cX0_thingsIn 146 = .ok (.goto (-81), 3) := by decide +kernel
theorem dX0_thingsIn_149 : decode cX0_thingsIn 149 = .ok (.iload 5, 2) := by decide +kernel
theorem dX0_thingsIn_151 : decode cX0_thingsIn 151 = .ok (.ireturn, 1) := by decide +kernel
theorem dX0_rowsOf_0 : decode cX0_rowsOf 0 = .ok (.iload_n 0, 1) := by decide +kernel
theorem dX0_rowsOf_1 : decode cX0_rowsOf 1 = .ok (.iload_n 1, 1) := by decide +kernel
theorem dX0_rowsOf_2 : decode cX0_rowsOf 2 = .ok (.iadd, 1) := by decide +kernel
theorem dX0_rowsOf_3 : decode cX0_rowsOf 3 = .ok (.iconst 1, 1) := by decide +kernel
theorem dX0_rowsOf_4 : decode cX0_rowsOf 4 = .ok (.isub, 1) := by decide +kernel
theorem dX0_rowsOf_5 : decode cX0_rowsOf 5 = .ok (.iload_n 1, 1) := by decide +kernel
theorem dX0_rowsOf_6 : decode cX0_rowsOf 6 = .ok (.invokestatic 55, 3) := by decide +kernel
theorem dX0_rowsOf_9 : decode cX0_rowsOf 9 = .ok (.ireturn, 1) := by decide +kernel
theorem dX0_choose_0 : decode cX0_choose 0 = .ok (.iconst 1, 1) := by decide +kernel
theorem dX0_choose_1 : decode cX0_choose 1 = .ok (.istore_n 2, 1) := by decide +kernel
theorem dX0_choose_2 : decode cX0_choose 2 = .ok (.iconst 1, 1) := by decide +kernel
theorem dX0_choose_3 : decode cX0_choose 3 = .ok (.istore_n 3, 1) := by decide +kernel
theorem dX0_choose_4 : decode cX0_choose 4 = .ok (.iload_n 3, 1) := by decide +kernel
theorem dX0_choose_5 : decode cX0_choose 5 = .ok (.iload_n 1, 1) := by decide +kernel
theorem dX0_choose_6 : decode cX0_choose 6 = .ok (.if_icmp .gt 19, 3) := by decide +kernel
theorem dX0_choose_9 : decode cX0_choose 9 = .ok (.iload_n 2, 1) := by decide +kernel
theorem dX0_choose_10 : decode cX0_choose 10 = .ok (.iload_n 0, 1) := by decide +kernel
theorem dX0_choose_11 : decode cX0_choose 11 = .ok (.iload_n 1, 1) := by decide +kernel
theorem dX0_choose_12 : decode cX0_choose 12 = .ok (.isub, 1) := by decide +kernel
theorem dX0_choose_13 : decode cX0_choose 13 = .ok (.iload_n 3, 1) := by decide +kernel
theorem dX0_choose_14 : decode cX0_choose 14 = .ok (.iadd, 1) := by decide +kernel
theorem dX0_choose_15 : decode cX0_choose 15 = .ok (.imul, 1) := by decide +kernel
theorem dX0_choose_16 : decode cX0_choose 16 = .ok (.iload_n 3, 1) := by decide +kernel
theorem dX0_choose_17 : decode cX0_choose 17 = .ok (.idiv, 1) := by decide +kernel
theorem dX0_choose_18 : decode cX0_choose 18 = .ok (.istore_n 2, 1) := by decide +kernel
theorem dX0_choose_19 : decode cX0_choose 19 = .ok (.iinc 3 1, 3) := by decide +kernel
theorem dX0_choose_22 : decode cX0_choose 22 = .ok (.goto (-18), 3) := by decide +kernel
theorem dX0_choose_25 : decode cX0_choose 25 = .ok (.iload_n 2, 1) := by decide +kernel
theorem dX0_choose_26 : decode cX0_choose 26 = .ok (.ireturn, 1) := by decide +kernel
theorem dX0_factsOf_0 : decode cX0_factsOf 0 = .ok (.ldc2_w 113, 3) := by decide +kernel
theorem dX0_factsOf_3 : decode cX0_factsOf 3 = .ok (.lstore_n 2, 1) := by decide +kernel
theorem dX0_factsOf_4 : decode cX0_factsOf 4 = .ok (.lconst 0, 1) := by decide +kernel
theorem dX0_factsOf_5 : decode cX0_factsOf 5 = .ok (.lstore 4, 2) := by decide +kernel
theorem dX0_factsOf_7 : decode cX0_factsOf 7 = .ok (.aload_n 0, 1) := by decide +kernel
theorem dX0_factsOf_8 : decode cX0_factsOf 8 = .ok (.getfield 12, 3) := by decide +kernel
theorem dX0_factsOf_11 : decode cX0_factsOf 11 = .ok (.aload_n 0, 1) := by decide +kernel
theorem dX0_factsOf_12 : decode cX0_factsOf 12 = .ok (.getfield 48, 3) := by decide +kernel
theorem dX0_factsOf_15 : decode cX0_factsOf 15 = .ok (.aload_n 0, 1) := by decide +kernel
theorem dX0_factsOf_16 : decode cX0_factsOf 16 = .ok (.getfield 52, 3) := by decide +kernel
theorem dX0_factsOf_19 : decode cX0_factsOf 19 = .ok (.aconst_null, 1) := by decide +kernel
theorem dX0_factsOf_20 : decode cX0_factsOf 20 = .ok (.invokevirtual 85, 3) := by decide +kernel
theorem dX0_factsOf_23 : decode cX0_factsOf 23 = .ok (.iconst 1, 1) := by decide +kernel
theorem dX0_factsOf_24 : decode cX0_factsOf 24 = .ok (.istore 6, 2) := by decide +kernel
theorem dX0_factsOf_26 : decode cX0_factsOf 26 = .ok (.iconst 0, 1) := by decide +kernel
theorem dX0_factsOf_27 : decode cX0_factsOf 27 = .ok (.istore 7, 2) := by decide +kernel
theorem dX0_factsOf_29 : decode cX0_factsOf 29 = .ok (.iload 7, 2) := by decide +kernel
theorem dX0_factsOf_31 : decode cX0_factsOf 31 = .ok (.aload_n 0, 1) := by decide +kernel
theorem dX0_factsOf_32 : decode cX0_factsOf 32 = .ok (.getfield 59, 3) := by decide +kernel
theorem dX0_factsOf_35 : decode cX0_factsOf 35 = .ok (.if_icmp .ge 71, 3) := by decide +kernel
theorem dX0_factsOf_38 : decode cX0_factsOf 38 = .ok (.iload 7, 2) := by decide +kernel
theorem dX0_factsOf_40 : decode cX0_factsOf 40 = .ok (.aload_n 0, 1) := by decide +kernel
theorem dX0_factsOf_41 : decode cX0_factsOf 41 = .ok (.getfield 32, 3) := by decide +kernel
theorem dX0_factsOf_44 : decode cX0_factsOf 44 = .ok (.arraylength, 1) := by decide +kernel
theorem dX0_factsOf_45 : decode cX0_factsOf 45 = .ok (.if_icmp .ge 61, 3) := by decide +kernel
theorem dX0_factsOf_48 : decode cX0_factsOf 48 = .ok (.iload 6, 2) := by decide +kernel
theorem dX0_factsOf_50 : decode cX0_factsOf 50 = .ok (.ifCond .eq 56, 3) := by decide +kernel
theorem dX0_factsOf_53 : decode cX0_factsOf 53 = .ok (.aload_n 0, 1) := by decide +kernel
theorem dX0_factsOf_54 : decode cX0_factsOf 54 = .ok (.getfield 32, 3) := by decide +kernel
theorem dX0_factsOf_57 : decode cX0_factsOf 57 = .ok (.iload 7, 2) := by decide +kernel
theorem dX0_factsOf_59 : decode cX0_factsOf 59 = .ok (.caload, 1) := by decide +kernel
theorem dX0_factsOf_60 : decode cX0_factsOf 60 = .ok (.iload_n 1, 1) := by decide +kernel
theorem dX0_factsOf_61 : decode cX0_factsOf 61 = .ok (.iand, 1) := by decide +kernel
theorem dX0_factsOf_62 : decode cX0_factsOf 62 = .ok (.iload_n 1, 1) := by decide +kernel
theorem dX0_factsOf_63 : decode cX0_factsOf 63 = .ok (.if_icmp .ne 28, 3) := by decide +kernel
theorem dX0_factsOf_66 : decode cX0_factsOf 66 = .ok (.aload_n 0, 1) := by decide +kernel
theorem dX0_factsOf_67 : decode cX0_factsOf 67 = .ok (.getfield 12, 3) := by decide +kernel
theorem dX0_factsOf_70 : decode cX0_factsOf 70 = .ok (.aload_n 0, 1) := by decide +kernel
theorem dX0_factsOf_71 : decode cX0_factsOf 71 = .ok (.getfield 28, 3) := by decide +kernel
theorem dX0_factsOf_74 : decode cX0_factsOf 74 = .ok (.invokevirtual 115, 3) := by decide +kernel
theorem dX0_factsOf_77 : decode cX0_factsOf 77 = .ok (.lstore 8, 2) := by decide +kernel
theorem dX0_factsOf_79 : decode cX0_factsOf 79 = .ok (.lload_n 2, 1) := by decide +kernel
theorem dX0_factsOf_80 : decode cX0_factsOf 80 = .ok (.lload 8, 2) := by decide +kernel
theorem dX0_factsOf_82 : decode cX0_factsOf 82 = .ok (.land, 1) := by decide +kernel
theorem dX0_factsOf_83 : decode cX0_factsOf 83 = .ok (.lstore_n 2, 1) := by decide +kernel
theorem dX0_factsOf_84 : decode cX0_factsOf 84 = .ok (.lload 4, 2) := by decide +kernel
theorem dX0_factsOf_86 : decode cX0_factsOf 86 = .ok (.lload 8, 2) := by decide +kernel
theorem dX0_factsOf_88 : decode cX0_factsOf 88 = .ok (.lor, 1) := by decide +kernel
theorem dX0_factsOf_89 : decode cX0_factsOf 89 = .ok (.lstore 4, 2) := by decide +kernel
theorem dX0_factsOf_91 : decode cX0_factsOf 91 = .ok (.aload_n 0, 1) := by decide +kernel
theorem dX0_factsOf_92 : decode cX0_factsOf 92 = .ok (.getfield 12, 3) := by decide +kernel
theorem dX0_factsOf_95 : decode cX0_factsOf 95 = .ok (.invokevirtual 97, 3) := by decide +kernel
theorem dX0_factsOf_98 : decode cX0_factsOf 98 = .ok (.istore 6, 2) := by decide +kernel
theorem dX0_factsOf_100 : decode cX0_factsOf 100 = .ok (.iinc 7 1, 3) := by decide +kernel
theorem dX0_factsOf_103 : decode cX0_factsOf 103 = .ok (.goto (-74), 3) := by decide +kernel
theorem dX0_factsOf_106 : decode cX0_factsOf 106 = .ok (.lload 4, 2) := by decide +kernel
theorem dX0_factsOf_108 : decode cX0_factsOf 108 = .ok (.ldc2_w 113, 3) := by decide +kernel
theorem dX0_factsOf_111 : decode cX0_factsOf 111 = .ok (.lxor, 1) := by decide +kernel
theorem dX0_factsOf_112 : decode cX0_factsOf 112 = .ok (.ldc2_w 119, 3) := by decide +kernel
theorem dX0_factsOf_115 : decode cX0_factsOf 115 = .ok (.land, 1) := by decide +kernel
theorem dX0_factsOf_116 : decode cX0_factsOf 116 = .ok (.bipush 16, 2) := by decide +kernel
theorem dX0_factsOf_118 : decode cX0_factsOf 118 = .ok (.lshl, 1) := by decide +kernel
theorem dX0_factsOf_119 : decode cX0_factsOf 119 = .ok (.lstore 7, 2) := by decide +kernel
theorem dX0_factsOf_121 : decode cX0_factsOf 121 = .ok (.lload 4, 2) := by decide +kernel
theorem dX0_factsOf_123 : decode cX0_factsOf 123 = .ok (.ldc2_w 113, 3) := by decide +kernel
theorem dX0_factsOf_126 : decode cX0_factsOf 126 = .ok (.lxor, 1) := by decide +kernel
theorem dX0_factsOf_127 : decode cX0_factsOf 127 = .ok (.ldc2_w 121, 3) := by decide +kernel
theorem dX0_factsOf_130 : decode cX0_factsOf 130 = .ok (.land, 1) := by decide +kernel
theorem dX0_factsOf_131 : decode cX0_factsOf 131 = .ok (.bipush 48, 2) := by decide +kernel
theorem dX0_factsOf_133 : decode cX0_factsOf 133 = .ok (.lushr, 1) := by decide +kernel
theorem dX0_factsOf_134 : decode cX0_factsOf 134 = .ok (.lstore 9, 2) := by decide +kernel
theorem dX0_factsOf_136 : decode cX0_factsOf 136 = .ok (.lload_n 2, 1) := by decide +kernel
theorem dX0_factsOf_137 : decode cX0_factsOf 137 = .ok (.ldc2_w 123, 3) := by decide +kernel
theorem dX0_factsOf_140 : decode cX0_factsOf 140 = .ok (.land, 1) := by decide +kernel
theorem dX0_factsOf_141 : decode cX0_factsOf 141 = .ok (.lload 7, 2) := by decide +kernel
theorem dX0_factsOf_143 : decode cX0_factsOf 143 = .ok (.lor, 1) := by decide +kernel
theorem dX0_factsOf_144 : decode cX0_factsOf 144 = .ok (.lload 9, 2) := by decide +kernel
theorem dX0_factsOf_146 : decode cX0_factsOf 146 = .ok (.lor, 1) := by decide +kernel
theorem dX0_factsOf_147 : decode cX0_factsOf 147 = .ok (.lreturn, 1) := by decide +kernel
theorem dX1_init_0 : decode cX1_init 0 = .ok (.aload_n 0, 1) := by decide +kernel
theorem dX1_init_1 : decode cX1_init 1 = .ok (.invokespecial 3, 3) := by decide +kernel
theorem dX1_init_4 : decode cX1_init 4 = .ok (.aload_n 0, 1) := by decide +kernel
theorem dX1_init_5 : decode cX1_init 5 = .ok (.bipush 64, 2) := by decide +kernel
theorem dX1_init_7 : decode cX1_init 7 = .ok (.newarray .int, 2) := by decide +kernel
theorem dX1_init_9 : decode cX1_init 9 = .ok (.putfield 9, 3) := by decide +kernel
theorem dX1_init_12 : decode cX1_init 12 = .ok (.return_, 1) := by decide +kernel
theorem dX1_work_0 : decode cX1_work 0 = .ok (.aload_n 0, 1) := by decide +kernel
theorem dX1_work_1 : decode cX1_work 1 = .ok (.lload_n 1, 1) := by decide +kernel
theorem dX1_work_2 : decode cX1_work 2 = .ok (.putfield 15, 3) := by decide +kernel
theorem dX1_work_5 : decode cX1_work 5 = .ok (.aload_n 0, 1) := by decide +kernel
theorem dX1_work_6 : decode cX1_work 6 = .ok (.iload_n 3, 1) := by decide +kernel
theorem dX1_work_7 : decode cX1_work 7 = .ok (.putfield 19, 3) := by decide +kernel
theorem dX1_work_10 : decode cX1_work 10 = .ok (.aload_n 0, 1) := by decide +kernel
theorem dX1_work_11 : decode cX1_work 11 = .ok (.iload 4, 2) := by decide +kernel
theorem dX1_work_13 : decode cX1_work 13 = .ok (.putfield 23, 3) := by decide +kernel
theorem dX1_work_16 : decode cX1_work 16 = .ok (.aload_n 0, 1) := by decide +kernel
theorem dX1_work_17 : decode cX1_work 17 = .ok (.iconst 0, 1) := by decide +kernel
theorem dX1_work_18 : decode cX1_work 18 = .ok (.putfield 26, 3) := by decide +kernel
theorem dX1_work_21 : decode cX1_work 21 = .ok (.iconst 0, 1) := by decide +kernel
theorem dX1_work_22 : decode cX1_work 22 = .ok (.istore 5, 2) := by decide +kernel
theorem dX1_work_24 : decode cX1_work 24 = .ok (.iload 5, 2) := by decide +kernel
theorem dX1_work_26 : decode cX1_work 26 = .ok (.aload_n 0, 1) := by decide +kernel
theorem dX1_work_27 : decode cX1_work 27 = .ok (.getfield 9, 3) := by decide +kernel
theorem dX1_work_30 : decode cX1_work 30 = .ok (.arraylength, 1) := by decide +kernel
theorem dX1_work_31 : decode cX1_work 31 = .ok (.if_icmp .ge 64, 3) := by decide +kernel
theorem dX1_work_34 : decode cX1_work 34 = .ok (.aload_n 0, 1) := by decide +kernel
theorem dX1_work_35 : decode cX1_work 35 = .ok (.getfield 19, 3) := by decide +kernel
theorem dX1_work_38 : decode cX1_work 38 = .ok (.bipush 7, 2) := by decide +kernel
theorem dX1_work_40 : decode cX1_work 40 = .ok (.invokestatic 29, 3) := by decide +kernel
theorem dX1_work_43 : decode cX1_work 43 = .ok (.ifCond .eq 16, 3) := by decide +kernel
theorem dX1_work_46 : decode cX1_work 46 = .ok (.aload_n 0, 1) := by decide +kernel
theorem dX1_work_47 : decode cX1_work 47 = .ok (.iload 5, 2) := by decide +kernel
theorem dX1_work_49 : decode cX1_work 49 = .ok (.invokevirtual 33, 3) := by decide +kernel
theorem dX1_work_52 : decode cX1_work 52 = .ok (.ifCond .eq 7, 3) := by decide +kernel
theorem dX1_work_55 : decode cX1_work 55 = .ok (.iconst 1, 1) := by decide +kernel
theorem dX1_work_56 : decode cX1_work 56 = .ok (.goto 4, 3) := by decide +kernel
theorem dX1_work_59 : decode cX1_work 59 = .ok (.iconst 0, 1) := by decide +kernel
theorem dX1_work_60 : decode cX1_work 60 = .ok (.istore 6, 2) := by decide +kernel
theorem dX1_work_62 : decode cX1_work 62 = .ok (.aload_n 0, 1) := by decide +kernel
theorem dX1_work_63 : decode cX1_work 63 = .ok (.getfield 9, 3) := by decide +kernel
theorem dX1_work_66 : decode cX1_work 66 = .ok (.iload 5, 2) := by decide +kernel
theorem dX1_work_68 : decode cX1_work 68 = .ok (.iload 6, 2) := by decide +kernel
theorem dX1_work_70 : decode cX1_work 70 = .ok (.ifCond .ne 12, 3) := by decide +kernel
theorem dX1_work_73 : decode cX1_work 73 = .ok (.aload_n 0, 1) := by decide +kernel
theorem dX1_work_74 : decode cX1_work 74 = .ok (.iload 5, 2) := by decide +kernel
theorem dX1_work_76 : decode cX1_work 76 = .ok (.invokevirtual 37, 3) := by decide +kernel
theorem dX1_work_79 : decode cX1_work 79 = .ok (.ifCond .eq 7, 3) := by decide +kernel
theorem dX1_work_82 : decode cX1_work 82 = .ok (.iconst 0, 1) := by decide +kernel
theorem dX1_work_83 : decode cX1_work 83 = .ok (.goto 5, 3) := by decide +kernel
theorem dX1_work_86 : decode cX1_work 86 = .ok (.bipush (-9), 2) := by decide +kernel
theorem dX1_work_88 : decode cX1_work 88 = .ok (.iastore, 1) := by decide +kernel
theorem dX1_work_89 : decode cX1_work 89 = .ok (.iinc 5 1, 3) := by decide +kernel
theorem dX1_work_92 : decode cX1_work 92 = .ok (.goto (-68), 3) := by decide +kernel
theorem dX1_work_95 : decode cX1_work 95 = .ok (.iconst 1, 1) := by decide +kernel
theorem dX1_work_96 : decode cX1_work 96 = .ok (.istore 5, 2) := by decide +kernel
theorem dX1_work_98 : decode cX1_work 98 = .ok (.iconst 1, 1) := by decide +kernel
theorem dX1_work_99 : decode cX1_work 99 = .ok (.istore 6, 2) := by decide +kernel
theorem dX1_work_101 : decode cX1_work 101 = .ok (.iload 6, 2) := by decide +kernel
theorem dX1_work_103 : decode cX1_work 103 = .ok (.bipush 64, 2) := by decide +kernel
theorem dX1_work_105 : decode cX1_work 105 = .ok (.if_icmp .gt 43, 3) := by decide +kernel
theorem dX1_work_108 : decode cX1_work 108 = .ok (.iload 5, 2) := by decide +kernel
theorem dX1_work_110 : decode cX1_work 110 = .ok (.ifCond .eq 38, 3) := by decide +kernel
theorem dX1_work_113 : decode cX1_work 113 = .ok (.aload_n 0, 1) := by decide +kernel
theorem dX1_work_114 : decode cX1_work 114 = .ok (.aload_n 0, 1) := by decide +kernel
theorem dX1_work_115 : decode cX1_work 115 = .ok (.iload 6, 2) := by decide +kernel
theorem dX1_work_117 : decode cX1_work 117 = .ok (.invokevirtual 40, 3) := by decide +kernel
theorem dX1_work_120 : decode cX1_work 120 = .ok (.putfield 44, 3) := by decide +kernel
theorem dX1_work_123 : decode cX1_work 123 = .ok (.aload_n 0, 1) := by decide +kernel
theorem dX1_work_124 : decode cX1_work 124 = .ok (.iload 6, 2) := by decide +kernel
theorem dX1_work_126 : decode cX1_work 126 = .ok (.invokevirtual 47, 3) := by decide +kernel
theorem dX1_work_129 : decode cX1_work 129 = .ok (.istore 5, 2) := by decide +kernel
theorem dX1_work_131 : decode cX1_work 131 = .ok (.iload 5, 2) := by decide +kernel
theorem dX1_work_133 : decode cX1_work 133 = .ok (.ifCond .eq 9, 3) := by decide +kernel
theorem dX1_work_136 : decode cX1_work 136 = .ok (.aload_n 0, 1) := by decide +kernel
theorem dX1_work_137 : decode cX1_work 137 = .ok (.iload 6, 2) := by decide +kernel
theorem dX1_work_139 : decode cX1_work 139 = .ok (.putfield 26, 3) := by decide +kernel
theorem dX1_work_142 : decode cX1_work 142 = .ok (.iinc 6 1, 3) := by decide +kernel
theorem dX1_work_145 : decode cX1_work 145 = .ok (.goto (-44), 3) := by decide +kernel
theorem dX1_work_148 : decode cX1_work 148 = .ok (.return_, 1) := by decide +kernel
theorem dX1_isAnyComing_0 : decode cX1_isAnyComing 0 = .ok (.iconst 0, 1) := by decide +kernel
theorem dX1_isAnyComing_1 : decode cX1_isAnyComing 1 = .ok (.istore_n 2, 1) := by decide +kernel
theorem dX1_isAnyComing_2 : decode cX1_isAnyComing 2 = .ok (.iconst 0, 1) := by decide +kernel
theorem dX1_isAnyComing_3 : decode cX1_isAnyComing 3 = .ok (.istore_n 3, 1) := by decide +kernel
theorem dX1_isAnyComing_4 : decode cX1_isAnyComing 4 = .ok (.iload_n 3, 1) := by decide +kernel
theorem dX1_isAnyComing_5 : decode cX1_isAnyComing 5 = .ok (.aload_n 0, 1) := by decide +kernel
theorem dX1_isAnyComing_6 : decode cX1_isAnyComing 6 = .ok (.getfield 9, 3) := by decide +kernel
theorem dX1_isAnyComing_9 : decode cX1_isAnyComing 9 = .ok (.arraylength, 1) := by decide +kernel
theorem dX1_isAnyComing_10 : decode cX1_isAnyComing 10 = .ok (.if_icmp .ge 47, 3) := by decide +kernel
theorem dX1_isAnyComing_13 : decode cX1_isAnyComing 13 = .ok (.aload_n 0, 1) := by decide +kernel
theorem dX1_isAnyComing_14 : decode cX1_isAnyComing 14 = .ok (.iload_n 3, 1) := by decide +kernel
theorem dX1_isAnyComing_15 : decode cX1_isAnyComing 15 = .ok (.invokevirtual 50, 3) := by decide +kernel
theorem dX1_isAnyComing_18 : decode cX1_isAnyComing 18 = .ok (.ifCond .eq 33, 3) := by decide +kernel
theorem dX1_isAnyComing_21 : decode cX1_isAnyComing 21 = .ok (.aload_n 0, 1) := by decide +kernel
theorem dX1_isAnyComing_22 : decode cX1_isAnyComing 22 = .ok (.getfield 9, 3) := by decide +kernel
theorem dX1_isAnyComing_25 : decode cX1_isAnyComing 25 = .ok (.iload_n 3, 1) := by decide +kernel
theorem dX1_isAnyComing_26 : decode cX1_isAnyComing 26 = .ok (.iaload, 1) := by decide +kernel
theorem dX1_isAnyComing_27 : decode cX1_isAnyComing 27 = .ok (.bipush (-9), 2) := by decide +kernel
theorem dX1_isAnyComing_29 : decode cX1_isAnyComing 29 = .ok (.if_icmp .ne 22, 3) := by decide +kernel
theorem dX1_isAnyComing_32 : decode cX1_isAnyComing 32 = .ok (.aload_n 0, 1) := by decide +kernel
theorem dX1_isAnyComing_33 : decode cX1_isAnyComing 33 = .ok (.iload_n 3, 1) := by decide +kernel
theorem dX1_isAnyComing_34 : decode cX1_isAnyComing 34 = .ok (.invokevirtual 53, 3) := by decide +kernel
theorem dX1_isAnyComing_37 : decode cX1_isAnyComing 37 = .ok (.bipush (-9), 2) := by decide +kernel
theorem dX1_isAnyComing_39 : decode cX1_isAnyComing 39 = .ok (.if_icmp .eq 12, 3) := by decide +kernel
theorem dX1_isAnyComing_42 : decode cX1_isAnyComing 42 = .ok (.aload_n 0, 1) := by decide +kernel
theorem dX1_isAnyComing_43 : decode cX1_isAnyComing 43 = .ok (.getfield 9, 3) := by decide +kernel
theorem dX1_isAnyComing_46 : decode cX1_isAnyComing 46 = .ok (.iload_n 3, 1) := by decide +kernel
theorem dX1_isAnyComing_47 : decode cX1_isAnyComing 47 = .ok (.iload_n 1, 1) := by decide +kernel
theorem dX1_isAnyComing_48 : decode cX1_isAnyComing 48 = .ok (.iastore, 1) := by decide +kernel
theorem dX1_isAnyComing_49 : decode cX1_isAnyComing 49 = .ok (.iconst 1, 1) := by decide +kernel
theorem dX1_isAnyComing_50 : decode cX1_isAnyComing 50 = .ok (.istore_n 2, 1) := by decide +kernel
theorem dX1_isAnyComing_51 : decode cX1_isAnyComing 51 = .ok (.iinc 3 1, 3) := by decide +kernel
theorem dX1_isAnyComing_54 : decode cX1_isAnyComing 54 = .ok (.goto (-50), 3) := by decide +kernel
theorem dX1_isAnyComing_57 : decode cX1_isAnyComing 57 = .ok (.iload_n 2, 1) := by decide +kernel
theorem dX1_isAnyComing_58 : decode cX1_isAnyComing 58 = .ok (.ireturn, 1) := by decide +kernel
theorem dX1_isTold_0 : decode cX1_isTold 0 = .ok (.aload_n 0, 1) := by decide +kernel
theorem dX1_isTold_1 : decode cX1_isTold 1 = .ok (.getfield 15, 3) := by decide +kernel
theorem dX1_isTold_4 : decode cX1_isTold 4 = .ok (.iload_n 1, 1) := by decide +kernel
theorem dX1_isTold_5 : decode cX1_isTold 5 = .ok (.lushr, 1) := by decide +kernel
theorem dX1_isTold_6 : decode cX1_isTold 6 = .ok (.lconst 1, 1) := by decide +kernel
theorem dX1_isTold_7 : decode cX1_isTold 7 = .ok (.land, 1) := by decide +kernel
theorem dX1_isTold_8 : decode cX1_isTold 8 = .ok (.lconst 0, 1) := by decide +kernel
theorem dX1_isTold_9 : decode cX1_isTold 9 = .ok (.lcmp, 1) := by decide +kernel
theorem dX1_isTold_10 : decode cX1_isTold 10 = .ok (.ifCond .eq 7, 3) := by decide +kernel
theorem dX1_isTold_13 : decode cX1_isTold 13 = .ok (.iconst 1, 1) := by decide +kernel
theorem dX1_isTold_14 : decode cX1_isTold 14 = .ok (.goto 4, 3) := by decide +kernel
theorem dX1_isTold_17 : decode cX1_isTold 17 = .ok (.iconst 0, 1) := by decide +kernel
theorem dX1_isTold_18 : decode cX1_isTold 18 = .ok (.ireturn, 1) := by decide +kernel
theorem dX1_isOfKinds_0 : decode cX1_isOfKinds 0 = .ok (.iload_n 1, 1) := by decide +kernel
theorem dX1_isOfKinds_1 : decode cX1_isOfKinds 1 = .ok (.iconst 2, 1) := by decide +kernel
theorem dX1_isOfKinds_2 : decode cX1_isOfKinds 2 = .ok (.ishr, 1) := by decide +kernel
theorem dX1_isOfKinds_3 : decode cX1_isOfKinds 3 = .ok (.iconst 3, 1) := by decide +kernel
theorem dX1_isOfKinds_4 : decode cX1_isOfKinds 4 = .ok (.iand, 1) := by decide +kernel
theorem dX1_isOfKinds_5 : decode cX1_isOfKinds 5 = .ok (.aload_n 0, 1) := by decide +kernel
theorem dX1_isOfKinds_6 : decode cX1_isOfKinds 6 = .ok (.getfield 23, 3) := by decide +kernel
theorem dX1_isOfKinds_9 : decode cX1_isOfKinds 9 = .ok (.if_icmp .ge 17, 3) := by decide +kernel
theorem dX1_isOfKinds_12 : decode cX1_isOfKinds 12 = .ok (.iload_n 1, 1) := by decide +kernel
theorem dX1_isOfKinds_13 : decode cX1_isOfKinds 13 = .ok (.iconst 3, 1) := by decide +kernel
theorem dX1_isOfKinds_14 : decode cX1_isOfKinds 14 = .ok (.iand, 1) := by decide +kernel
theorem dX1_isOfKinds_15 : decode cX1_isOfKinds 15 = .ok (.aload_n 0, 1) := by decide +kernel
theorem dX1_isOfKinds_16 : decode cX1_isOfKinds 16 = .ok (.getfield 23, 3) := by decide +kernel
theorem dX1_isOfKinds_19 : decode cX1_isOfKinds 19 = .ok (.if_icmp .ge 7, 3) := by decide +kernel
theorem dX1_isOfKinds_22 : decode cX1_isOfKinds 22 = .ok (.iconst 1, 1) := by decide +kernel
theorem dX1_isOfKinds_23 : decode cX1_isOfKinds 23 = .ok (.goto 4, 3) := by decide +kernel
theorem dX1_isOfKinds_26 : decode cX1_isOfKinds 26 = .ok (.iconst 0, 1) := by decide +kernel
theorem dX1_isOfKinds_27 : decode cX1_isOfKinds 27 = .ok (.ireturn, 1) := by decide +kernel
theorem dX1_isSame_0 : decode cX1_isSame 0 = .ok (.iload_n 1, 1) := by decide +kernel
theorem dX1_isSame_1 : decode cX1_isSame 1 = .ok (.iconst 4, 1) := by decide +kernel
theorem dX1_isSame_2 : decode cX1_isSame 2 = .ok (.ishr, 1) := by decide +kernel
theorem dX1_isSame_3 : decode cX1_isSame 3 = .ok (.ifCond .ne 26, 3) := by decide +kernel
theorem dX1_isSame_6 : decode cX1_isSame 6 = .ok (.aload_n 0, 1) := by decide +kernel
theorem dX1_isSame_7 : decode cX1_isSame 7 = .ok (.iload_n 1, 1) := by decide +kernel
theorem dX1_isSame_8 : decode cX1_isSame 8 = .ok (.invokevirtual 50, 3) := by decide +kernel
theorem dX1_isSame_11 : decode cX1_isSame 11 = .ok (.ifCond .eq 18, 3) := by decide +kernel
theorem dX1_isSame_14 : decode cX1_isSame 14 = .ok (.iload_n 1, 1) := by decide +kernel
theorem dX1_isSame_15 : decode cX1_isSame 15 = .ok (.iconst 2, 1) := by decide +kernel
theorem dX1_isSame_16 : decode cX1_isSame 16 = .ok (.ishr, 1) := by decide +kernel
theorem dX1_isSame_17 : decode cX1_isSame 17 = .ok (.iconst 3, 1) := by decide +kernel
theorem dX1_isSame_18 : decode cX1_isSame 18 = .ok (.iand, 1) := by decide +kernel
theorem dX1_isSame_19 : decode cX1_isSame 19 = .ok (.iload_n 1, 1) := by decide +kernel
theorem dX1_isSame_20 : decode cX1_isSame 20 = .ok (.iconst 3, 1) := by decide +kernel
theorem dX1_isSame_21 : decode cX1_isSame 21 = .ok (.iand, 1) := by decide +kernel
theorem dX1_isSame_22 : decode cX1_isSame 22 = .ok (.if_icmp .ne 7, 3) := by decide +kernel
theorem dX1_isSame_25 : decode cX1_isSame 25 = .ok (.iconst 1, 1) := by decide +kernel
theorem dX1_isSame_26 : decode cX1_isSame 26 = .ok (.goto 4, 3) := by decide +kernel
theorem dX1_isSame_29 : decode cX1_isSame 29 = .ok (.iconst 0, 1) := by decide +kernel
theorem dX1_isSame_30 : decode cX1_isSame 30 = .ok (.ireturn, 1) := by decide +kernel
theorem dX1_roundAt_0 : decode cX1_roundAt 0 = .ok (.iload_n 1, 1) := by decide +kernel
theorem dX1_roundAt_1 : decode cX1_roundAt 1 = .ok (.ifCond .lt 21, 3) := by decide +kernel
theorem dX1_roundAt_4 : decode cX1_roundAt 4 = .ok (.iload_n 1, 1) := by decide +kernel
theorem dX1_roundAt_5 : decode cX1_roundAt 5 = .ok (.aload_n 0, 1) := by decide +kernel
theorem dX1_roundAt_6 : decode cX1_roundAt 6 = .ok (.getfield 9, 3) := by decide +kernel
theorem dX1_roundAt_9 : decode cX1_roundAt 9 = .ok (.arraylength, 1) := by decide +kernel
theorem dX1_roundAt_10 : decode cX1_roundAt 10 = .ok (.if_icmp .ge 12, 3) := by decide +kernel
theorem dX1_roundAt_13 : decode cX1_roundAt 13 = .ok (.aload_n 0, 1) := by decide +kernel
theorem dX1_roundAt_14 : decode cX1_roundAt 14 = .ok (.getfield 9, 3) := by decide +kernel
theorem dX1_roundAt_17 : decode cX1_roundAt 17 = .ok (.iload_n 1, 1) := by decide +kernel
theorem dX1_roundAt_18 : decode cX1_roundAt 18 = .ok (.iaload, 1) := by decide +kernel
theorem dX1_roundAt_19 : decode cX1_roundAt 19 = .ok (.goto 5, 3) := by decide +kernel
theorem dX1_roundAt_22 : decode cX1_roundAt 22 = .ok (.bipush (-9), 2) := by decide +kernel
theorem dX1_roundAt_24 : decode cX1_roundAt 24 = .ok (.ireturn, 1) := by decide +kernel
theorem dX1_facts_0 : decode cX1_facts 0 = .ok (.aload_n 0, 1) := by decide +kernel
theorem dX1_facts_1 : decode cX1_facts 1 = .ok (.bipush 65, 2) := by decide +kernel
theorem dX1_facts_3 : decode cX1_facts 3 = .ok (.invokevirtual 40, 3) := by decide +kernel
theorem dX1_facts_6 : decode cX1_facts 6 = .ok (.lreturn, 1) := by decide +kernel
theorem dX1_factsAhead_0 : decode cX1_factsAhead 0 = .ok (.lconst 0, 1) := by decide +kernel
theorem dX1_factsAhead_1 : decode cX1_factsAhead 1 = .ok (.lstore_n 2, 1) := by decide +kernel
theorem dX1_factsAhead_2 : decode cX1_factsAhead 2 = .ok (.iconst 0, 1) := by decide +kernel
theorem dX1_factsAhead_3 : decode cX1_factsAhead 3 = .ok (.istore 4, 2) := by decide +kernel
theorem dX1_factsAhead_5 : decode cX1_factsAhead 5 = .ok (.iload 4, 2) := by decide +kernel
theorem dX1_factsAhead_7 : decode cX1_factsAhead 7 = .ok (.aload_n 0, 1) := by decide +kernel
theorem dX1_factsAhead_8 : decode cX1_factsAhead 8 = .ok (.getfield 9, 3) := by decide +kernel
theorem dX1_factsAhead_11 : decode cX1_factsAhead 11 = .ok (.arraylength, 1) := by decide +kernel
theorem dX1_factsAhead_12 : decode cX1_factsAhead 12 = .ok (.if_icmp .ge 39, 3) := by decide +kernel
theorem dX1_factsAhead_15 : decode cX1_factsAhead 15 = .ok (.aload_n 0, 1) := by decide +kernel
theorem dX1_factsAhead_16 : decode cX1_factsAhead 16 = .ok (.getfield 9, 3) := by decide +kernel
theorem dX1_factsAhead_19 : decode cX1_factsAhead 19 = .ok (.iload 4, 2) := by decide +kernel
theorem dX1_factsAhead_21 : decode cX1_factsAhead 21 = .ok (.iaload, 1) := by decide +kernel
theorem dX1_factsAhead_22 : decode cX1_factsAhead 22 = .ok (.bipush (-9), 2) := by decide +kernel
theorem dX1_factsAhead_24 : decode cX1_factsAhead 24 = .ok (.if_icmp .eq 21, 3) := by decide +kernel
theorem dX1_factsAhead_27 : decode cX1_factsAhead 27 = .ok (.aload_n 0, 1) := by decide +kernel
theorem dX1_factsAhead_28 : decode cX1_factsAhead 28 = .ok (.getfield 9, 3) := by decide +kernel
theorem dX1_factsAhead_31 : decode cX1_factsAhead 31 = .ok (.iload 4, 2) := by decide +kernel
theorem dX1_factsAhead_33 : decode cX1_factsAhead 33 = .ok (.iaload, 1) := by decide +kernel
theorem dX1_factsAhead_34 : decode cX1_factsAhead 34 = .ok (.iload_n 1, 1) := by decide +kernel
theorem dX1_factsAhead_35 : decode cX1_factsAhead 35 = .ok (.if_icmp .ge 10, 3) := by decide +kernel
theorem dX1_factsAhead_38 : decode cX1_factsAhead 38 = .ok (.lload_n 2, 1) := by decide +kernel
theorem dX1_factsAhead_39 : decode cX1_factsAhead 39 = .ok (.lconst 1, 1) := by decide +kernel
theorem dX1_factsAhead_40 : decode cX1_factsAhead 40 = .ok (.iload 4, 2) := by decide +kernel
theorem dX1_factsAhead_42 : decode cX1_factsAhead 42 = .ok (.lshl, 1) := by decide +kernel
theorem dX1_factsAhead_43 : decode cX1_factsAhead 43 = .ok (.lor, 1) := by decide +kernel
theorem dX1_factsAhead_44 : decode cX1_factsAhead 44 = .ok (.lstore_n 2, 1) := by decide +kernel
theorem dX1_factsAhead_45 : decode cX1_factsAhead 45 = .ok (.iinc 4 1, 3) := by decide +kernel
theorem dX1_factsAhead_48 : decode cX1_factsAhead 48 = .ok (.goto (-43), 3) := by decide +kernel
theorem dX1_factsAhead_51 : decode cX1_factsAhead 51 = .ok (.lload_n 2, 1) := by decide +kernel
theorem dX1_factsAhead_52 : decode cX1_factsAhead 52 = .ok (.lreturn, 1) := by decide +kernel
theorem dX1_step_0 : decode cX1_step 0 = .ok (.aload_n 0, 1) := by decide +kernel
theorem dX1_step_1 : decode cX1_step 1 = .ok (.iload_n 1, 1) := by decide +kernel
theorem dX1_step_2 : decode cX1_step 2 = .ok (.invokevirtual 57, 3) := by decide +kernel
theorem dX1_step_5 : decode cX1_step 5 = .ok (.istore_n 3, 1) := by decide +kernel
theorem dX1_step_6 : decode cX1_step 6 = .ok (.iload_n 3, 1) := by decide +kernel
theorem dX1_step_7 : decode cX1_step 7 = .ok (.bipush (-9), 2) := by decide +kernel
theorem dX1_step_9 : decode cX1_step 9 = .ok (.if_icmp .eq 11, 3) := by decide +kernel
theorem dX1_step_12 : decode cX1_step 12 = .ok (.aload_n 0, 1) := by decide +kernel
theorem dX1_step_13 : decode cX1_step 13 = .ok (.iload_n 1, 1) := by decide +kernel
theorem dX1_step_14 : decode cX1_step 14 = .ok (.invokevirtual 37, 3) := by decide +kernel
theorem dX1_step_17 : decode cX1_step 17 = .ok (.ifCond .eq 6, 3) := by decide +kernel
theorem dX1_step_20 : decode cX1_step 20 = .ok (.bipush (-9), 2) := by decide +kernel
theorem dX1_step_22 : decode cX1_step 22 = .ok (.ireturn, 1) := by decide +kernel
theorem dX1_step_23 : decode cX1_step 23 = .ok (.aload_n 0, 1) := by decide +kernel
theorem dX1_step_24 : decode cX1_step 24 = .ok (.aload_n 0, 1) := by decide +kernel
theorem dX1_step_25 : decode cX1_step 25 = .ok (.iload_n 3, 1) := by decide +kernel
theorem dX1_step_26 : decode cX1_step 26 = .ok (.invokevirtual 40, 3) := by decide +kernel
theorem dX1_step_29 : decode cX1_step 29 = .ok (.putfield 44, 3) := by decide +kernel
theorem dX1_step_32 : decode cX1_step 32 = .ok (.aload_n 0, 1) := by decide +kernel
theorem dX1_step_33 : decode cX1_step 33 = .ok (.iload_n 1, 1) := by decide +kernel
theorem dX1_step_34 : decode cX1_step 34 = .ok (.invokevirtual 53, 3) := by decide +kernel
theorem dX1_step_37 : decode cX1_step 37 = .ok (.istore 4, 2) := by decide +kernel
theorem dX1_step_39 : decode cX1_step 39 = .ok (.iload_n 2, 1) := by decide +kernel
theorem dX1_step_40 : decode cX1_step 40 = .ok (.ifCond .eq 10, 3) := by decide +kernel
theorem dX1_step_43 : decode cX1_step 43 = .ok (.iload 4, 2) := by decide +kernel
theorem dX1_step_45 : decode cX1_step 45 = .ok (.bipush (-9), 2) := by decide +kernel
theorem dX1_step_47 : decode cX1_step 47 = .ok (.if_icmp .ne 6, 3) := by decide +kernel
theorem dX1_step_50 : decode cX1_step 50 = .ok (.iload 4, 2) := by decide +kernel
theorem dX1_step_52 : decode cX1_step 52 = .ok (.ireturn, 1) := by decide +kernel
theorem dX1_step_53 : decode cX1_step 53 = .ok (.iload_n 2, 1) := by decide +kernel
theorem dX1_step_54 : decode cX1_step 54 = .ok (.iconst 1, 1) := by decide +kernel
theorem dX1_step_55 : decode cX1_step 55 = .ok (.if_icmp .ne 10, 3) := by decide +kernel
theorem dX1_step_58 : decode cX1_step 58 = .ok (.aload_n 0, 1) := by decide +kernel
theorem dX1_step_59 : decode cX1_step 59 = .ok (.getfield 60, 3) := by decide +kernel
theorem dX1_step_62 : decode cX1_step 62 = .ok (.goto 7, 3) := by decide +kernel
theorem dX1_step_65 : decode cX1_step 65 = .ok (.aload_n 0, 1) := by decide +kernel
theorem dX1_step_66 : decode cX1_step 66 = .ok (.getfield 63, 3) := by decide +kernel
theorem dX1_step_69 : decode cX1_step 69 = .ok (.ireturn, 1) := by decide +kernel
theorem dX1_leastMood_0 : decode cX1_leastMood 0 = .ok (.iconst 0, 1) := by decide +kernel
theorem dX1_leastMood_1 : decode cX1_leastMood 1 = .ok (.istore_n 2, 1) := by decide +kernel
theorem dX1_leastMood_2 : decode cX1_leastMood 2 = .ok (.iload_n 2, 1) := by decide +kernel
theorem dX1_leastMood_3 : decode cX1_leastMood 3 = .ok (.bipush 9, 2) := by decide +kernel
theorem dX1_leastMood_5 : decode cX1_leastMood 5 = .ok (.if_icmp .ge 67, 3) := by decide +kernel
theorem dX1_leastMood_8 : decode cX1_leastMood 8 = .ok (.iload_n 2, 1) := by decide +kernel
theorem dX1_leastMood_9 : decode cX1_leastMood 9 = .ok (.getstatic 66, 3) := by decide +kernel
theorem dX1_leastMood_12 : decode cX1_leastMood 12 = .ok (.arraylength, 1) := by decide +kernel
theorem dX1_leastMood_13 : decode cX1_leastMood 13 = .ok (.if_icmp .ge 59, 3) := by decide +kernel
theorem dX1_leastMood_16 : decode cX1_leastMood 16 = .ok (.aload_n 0, 1) := by decide +kernel
theorem dX1_leastMood_17 : decode cX1_leastMood 17 = .ok (.getfield 19, 3) := by decide +kernel
theorem dX1_leastMood_20 : decode cX1_leastMood 20 = .ok (.iload_n 2, 1) := by decide +kernel
theorem dX1_leastMood_21 : decode cX1_leastMood 21 = .ok (.invokestatic 29, 3) := by decide +kernel
theorem dX1_leastMood_24 : decode cX1_leastMood 24 = .ok (.ifCond .eq 18, 3) := by decide +kernel
theorem dX1_leastMood_27 : decode cX1_leastMood 27 = .ok (.getstatic 66, 3) := by decide +kernel
theorem dX1_leastMood_30 : decode cX1_leastMood 30 = .ok (.iload_n 2, 1) := by decide +kernel
theorem dX1_leastMood_31 : decode cX1_leastMood 31 = .ok (.iaload, 1) := by decide +kernel
theorem dX1_leastMood_32 : decode cX1_leastMood 32 = .ok (.iload_n 1, 1) := by decide +kernel
theorem dX1_leastMood_33 : decode cX1_leastMood 33 = .ok (.iconst 4, 1) := by decide +kernel
theorem dX1_leastMood_34 : decode cX1_leastMood 34 = .ok (.ishr, 1) := by decide +kernel
theorem dX1_leastMood_35 : decode cX1_leastMood 35 = .ok (.if_icmp .ne 7, 3) := by decide +kernel
theorem dX1_leastMood_38 : decode cX1_leastMood 38 = .ok (.iconst 1, 1) := by decide +kernel
theorem dX1_leastMood_39 : decode cX1_leastMood 39 = .ok (.goto 4, 3) := by decide +kernel
theorem dX1_leastMood_42 : decode cX1_leastMood 42 = .ok (.iconst 0, 1) := by decide +kernel
theorem dX1_leastMood_43 : decode cX1_leastMood 43 = .ok (.istore_n 3, 1) := by decide +kernel
theorem dX1_leastMood_44 : decode cX1_leastMood 44 = .ok (.iload_n 3, 1) := by decide +kernel
theorem dX1_leastMood_45 : decode cX1_leastMood 45 = .ok (.ifCond .eq 21, 3) := by decide +kernel
theorem dX1_leastMood_48 : decode cX1_leastMood 48 = .ok (.aload_n 0, 1) := by decide +kernel
theorem dX1_leastMood_49 : decode cX1_leastMood 49 = .ok (.iload_n 2, 1) := by decide +kernel
theorem dX1_leastMood_50 : decode cX1_leastMood 50 = .ok (.iload_n 1, 1) := by decide +kernel
theorem dX1_leastMood_51 : decode cX1_leastMood 51 = .ok (.iconst 2, 1) := by decide +kernel
theorem dX1_leastMood_52 : decode cX1_leastMood 52 = .ok (.ishr, 1) := by decide +kernel
theorem dX1_leastMood_53 : decode cX1_leastMood 53 = .ok (.iconst 3, 1) := by decide +kernel
theorem dX1_leastMood_54 : decode cX1_leastMood 54 = .ok (.iand, 1) := by decide +kernel
theorem dX1_leastMood_55 : decode cX1_leastMood 55 = .ok (.iload_n 1, 1) := by decide +kernel
theorem dX1_leastMood_56 : decode cX1_leastMood 56 = .ok (.iconst 3, 1) := by decide +kernel
theorem dX1_leastMood_57 : decode cX1_leastMood 57 = .ok (.iand, 1) := by decide +kernel
theorem dX1_leastMood_58 : decode cX1_leastMood 58 = .ok (.invokevirtual 69, 3) := by decide +kernel
theorem dX1_leastMood_61 : decode cX1_leastMood 61 = .ok (.ifCond .eq 5, 3) := by decide +kernel
theorem dX1_leastMood_64 : decode cX1_leastMood 64 = .ok (.iload_n 2, 1) := by decide +kernel
theorem dX1_leastMood_65 : decode cX1_leastMood 65 = .ok (.ireturn, 1) := by decide +kernel
theorem dX1_leastMood_66 : decode cX1_leastMood 66 = .ok (.iinc 2 1, 3) := by decide +kernel
theorem dX1_leastMood_69 : decode cX1_leastMood 69 = .ok (.goto (-67), 3) := by decide +kernel
theorem dX1_leastMood_72 : decode cX1_leastMood 72 = .ok (.bipush (-9), 2) := by decide +kernel
theorem dX1_leastMood_74 : decode cX1_leastMood 74 = .ok (.ireturn, 1) := by decide +kernel
theorem dX1_isShowing_0 : decode cX1_isShowing 0 = .ok (.iload_n 1, 1) := by decide +kernel
theorem dX1_isShowing_1 : decode cX1_isShowing 1 = .ok (.getstatic 73, 3) := by decide +kernel
theorem dX1_isShowing_4 : decode cX1_isShowing 4 = .ok (.arraylength, 1) := by decide +kernel
theorem dX1_isShowing_5 : decode cX1_isShowing 5 = .ok (.if_icmp .ge 11, 3) := by decide +kernel
theorem dX1_isShowing_8 : decode cX1_isShowing 8 = .ok (.getstatic 73, 3) := by decide +kernel
theorem dX1_isShowing_11 : decode cX1_isShowing 11 = .ok (.iload_n 1, 1) := by decide +kernel
theorem dX1_isShowing_12 : decode cX1_isShowing 12 = .ok (.iaload, 1) := by decide +kernel
theorem dX1_isShowing_13 : decode cX1_isShowing 13 = .ok (.goto 5, 3) := by decide +kernel
theorem dX1_isShowing_16 : decode cX1_isShowing 16 = .ok (.bipush (-9), 2) := by decide +kernel
theorem dX1_isShowing_18 : decode cX1_isShowing 18 = .ok (.istore 4, 2) := by decide +kernel
theorem dX1_isShowing_20 : decode cX1_isShowing 20 = .ok (.iload_n 1, 1) := by decide +kernel
theorem dX1_isShowing_21 : decode cX1_isShowing 21 = .ok (.getstatic 76, 3) := by decide +kernel
theorem dX1_isShowing_24 : decode cX1_isShowing 24 = .ok (.arraylength, 1) := by decide +kernel
theorem dX1_isShowing_25 : decode cX1_isShowing 25 = .ok (.if_icmp .ge 11, 3) := by decide +kernel
theorem dX1_isShowing_28 : decode cX1_isShowing 28 = .ok (.getstatic 76, 3) := by decide +kernel
theorem dX1_isShowing_31 : decode cX1_isShowing 31 = .ok (.iload_n 1, 1) := by decide +kernel
theorem dX1_isShowing_32 : decode cX1_isShowing 32 = .ok (.iaload, 1) := by decide +kernel
theorem dX1_isShowing_33 : decode cX1_isShowing 33 = .ok (.goto 5, 3) := by decide +kernel
theorem dX1_isShowing_36 : decode cX1_isShowing 36 = .ok (.bipush (-9), 2) := by decide +kernel
theorem dX1_isShowing_38 : decode cX1_isShowing 38 = .ok (.istore 5, 2) := by decide +kernel
theorem dX1_isShowing_40 : decode cX1_isShowing 40 = .ok (.iload_n 1, 1) := by decide +kernel
theorem dX1_isShowing_41 : decode cX1_isShowing 41 = .ok (.tableswitch 85 4 8 #[35, 35, 85, 49, 71], 35) := by decide +kernel
theorem dX1_isShowing_76 : decode cX1_isShowing 76 = .ok (.aload_n 0, 1) := by decide +kernel
theorem dX1_isShowing_77 : decode cX1_isShowing 77 = .ok (.iload 4, 2) := by decide +kernel
theorem dX1_isShowing_79 : decode cX1_isShowing 79 = .ok (.iload_n 3, 1) := by decide +kernel
theorem dX1_isShowing_80 : decode cX1_isShowing 80 = .ok (.iload_n 2, 1) := by decide +kernel
theorem dX1_isShowing_81 : decode cX1_isShowing 81 = .ok (.invokestatic 79, 3) := by decide +kernel
theorem dX1_isShowing_84 : decode cX1_isShowing 84 = .ok (.bipush (-9), 2) := by decide +kernel
theorem dX1_isShowing_86 : decode cX1_isShowing 86 = .ok (.invokevirtual 83, 3) := by decide +kernel
theorem dX1_isShowing_89 : decode cX1_isShowing 89 = .ok (.ireturn, 1) := by decide +kernel
theorem dX1_isShowing_90 : decode cX1_isShowing 90 = .ok (.iload_n 2, 1) := by decide +kernel
theorem dX1_isShowing_91 : decode cX1_isShowing 91 = .ok (.iload_n 3, 1) := by decide +kernel
theorem dX1_isShowing_92 : decode cX1_isShowing 92 = .ok (.if_icmp .ne 18, 3) := by decide +kernel
theorem dX1_isShowing_95 : decode cX1_isShowing 95 = .ok (.aload_n 0, 1) := by decide +kernel
theorem dX1_isShowing_96 : decode cX1_isShowing 96 = .ok (.bipush (-9), 2) := by decide +kernel
theorem dX1_isShowing_98 : decode cX1_isShowing 98 = .ok (.bipush (-9), 2) := by decide +kernel
theorem dX1_isShowing_100 : decode cX1_isShowing 100 = .ok (.invokevirtual 83, 3) := by decide +kernel
theorem dX1_isShowing_103 : decode cX1_isShowing 103 = .ok (.ifCond .eq 7, 3) := by decide +kernel
theorem dX1_isShowing_106 : decode cX1_isShowing 106 = .ok (.iconst 1, 1) := by decide +kernel
theorem dX1_isShowing_107 : decode cX1_isShowing 107 = .ok (.goto 4, 3) := by decide +kernel
theorem dX1_isShowing_110 : decode cX1_isShowing 110 = .ok (.iconst 0, 1) := by decide +kernel
theorem dX1_isShowing_111 : decode cX1_isShowing 111 = .ok (.ireturn, 1) := by decide +kernel
theorem dX1_isShowing_112 : decode cX1_isShowing 112 = .ok (.aload_n 0, 1) := by decide +kernel
theorem dX1_isShowing_113 : decode cX1_isShowing 113 = .ok (.iload 4, 2) := by decide +kernel
theorem dX1_isShowing_115 : decode cX1_isShowing 115 = .ok (.iload_n 2, 1) := by decide +kernel
theorem dX1_isShowing_116 : decode cX1_isShowing 116 = .ok (.iload_n 3, 1) := by decide +kernel
theorem dX1_isShowing_117 : decode cX1_isShowing 117 = .ok (.invokestatic 79, 3) := by decide +kernel
theorem dX1_isShowing_120 : decode cX1_isShowing 120 = .ok (.bipush (-9), 2) := by decide +kernel
theorem dX1_isShowing_122 : decode cX1_isShowing 122 = .ok (.invokevirtual 83, 3) := by decide +kernel
theorem dX1_isShowing_125 : decode cX1_isShowing 125 = .ok (.ireturn, 1) := by decide +kernel
theorem dX1_isShowing_126 : decode cX1_isShowing 126 = .ok (.iconst 0, 1) := by decide +kernel
theorem dX1_isShowing_127 : decode cX1_isShowing 127 = .ok (.istore 6, 2) := by decide +kernel
theorem dX1_isShowing_129 : decode cX1_isShowing 129 = .ok (.iload 6, 2) := by decide +kernel
theorem dX1_isShowing_131 : decode cX1_isShowing 131 = .ok (.aload_n 0, 1) := by decide +kernel
theorem dX1_isShowing_132 : decode cX1_isShowing 132 = .ok (.getfield 23, 3) := by decide +kernel
theorem dX1_isShowing_135 : decode cX1_isShowing 135 = .ok (.if_icmp .ge 59, 3) := by decide +kernel
theorem dX1_isShowing_138 : decode cX1_isShowing 138 = .ok (.iload 4, 2) := by decide +kernel
theorem dX1_isShowing_140 : decode cX1_isShowing 140 = .ok (.iload_n 2, 1) := by decide +kernel
theorem dX1_isShowing_141 : decode cX1_isShowing 141 = .ok (.iload 6, 2) := by decide +kernel
theorem dX1_isShowing_143 : decode cX1_isShowing 143 = .ok (.invokestatic 79, 3) := by decide +kernel
theorem dX1_isShowing_146 : decode cX1_isShowing 146 = .ok (.istore 7, 2) := by decide +kernel
theorem dX1_isShowing_148 : decode cX1_isShowing 148 = .ok (.iload_n 1, 1) := by decide +kernel
theorem dX1_isShowing_149 : decode cX1_isShowing 149 = .ok (.bipush 6, 2) := by decide +kernel
theorem dX1_isShowing_151 : decode cX1_isShowing 151 = .ok (.if_icmp .ne 14, 3) := by decide +kernel
theorem dX1_isShowing_154 : decode cX1_isShowing 154 = .ok (.iload 5, 2) := by decide +kernel
theorem dX1_isShowing_156 : decode cX1_isShowing 156 = .ok (.iload_n 3, 1) := by decide +kernel
theorem dX1_isShowing_157 : decode cX1_isShowing 157 = .ok (.iload 6, 2) := by decide +kernel
theorem dX1_isShowing_159 : decode cX1_isShowing 159 = .ok (.invokestatic 79, 3) := by decide +kernel
theorem dX1_isShowing_162 : decode cX1_isShowing 162 = .ok (.goto 11, 3) := by decide +kernel
theorem dX1_isShowing_165 : decode cX1_isShowing 165 = .ok (.iload 5, 2) := by decide +kernel
theorem dX1_isShowing_167 : decode cX1_isShowing 167 = .ok (.iload 6, 2) := by decide +kernel
theorem dX1_isShowing_169 : decode cX1_isShowing 169 = .ok (.iload_n 3, 1) := by decide +kernel
theorem dX1_isShowing_170 : decode cX1_isShowing 170 = .ok (.invokestatic 79, 3) := by decide +kernel
theorem dX1_isShowing_173 : decode cX1_isShowing 173 = .ok (.istore 8, 2) := by decide +kernel
theorem dX1_isShowing_175 : decode cX1_isShowing 175 = .ok (.aload_n 0, 1) := by decide +kernel
theorem dX1_isShowing_176 : decode cX1_isShowing 176 = .ok (.iload 7, 2) := by decide +kernel
theorem dX1_isShowing_178 : decode cX1_isShowing 178 = .ok (.iload 8, 2) := by decide +kernel
theorem dX1_isShowing_180 : decode cX1_isShowing 180 = .ok (.invokevirtual 83, 3) := by decide +kernel
theorem dX1_isShowing_183 : decode cX1_isShowing 183 = .ok (.ifCond .eq 5, 3) := by decide +kernel
theorem dX1_isShowing_186 : decode cX1_isShowing 186 = .ok (.iconst 1, 1) := by decide +kernel
theorem dX1_isShowing_187 : decode cX1_isShowing 187 = .ok (.ireturn, 1) := by decide +kernel
theorem dX1_isShowing_188 : decode cX1_isShowing 188 = .ok (.iinc 6 1, 3) := by decide +kernel
theorem dX1_isShowing_191 : decode cX1_isShowing 191 = .ok (.goto (-62), 3) := by decide +kernel
theorem dX1_isShowing_194 : decode cX1_isShowing 194 = .ok (.iconst 0, 1) := by decide +kernel
theorem dX1_isShowing_195 : decode cX1_isShowing 195 = .ok (.ireturn, 1) := by decide +kernel
theorem dX1_isShownOf_0 : decode cX1_isShownOf 0 = .ok (.iload_n 1, 1) := by decide +kernel
theorem dX1_isShownOf_1 : decode cX1_isShownOf 1 = .ok (.bipush (-9), 2) := by decide +kernel
theorem dX1_isShownOf_3 : decode cX1_isShownOf 3 = .ok (.if_icmp .ne 7, 3) := by decide +kernel
theorem dX1_isShownOf_6 : decode cX1_isShownOf 6 = .ok (.lconst 0, 1) := by decide +kernel
theorem dX1_isShownOf_7 : decode cX1_isShownOf 7 = .ok (.goto 6, 3) := by decide +kernel
theorem dX1_isShownOf_10 : decode cX1_isShownOf 10 = .ok (.lconst 1, 1) := by decide +kernel
theorem dX1_isShownOf_11 : decode cX1_isShownOf 11 = .ok (.iload_n 1, 1) := by decide +kernel
theorem dX1_isShownOf_12 : decode cX1_isShownOf 12 = .ok (.lshl, 1) := by decide +kernel
theorem dX1_isShownOf_13 : decode cX1_isShownOf 13 = .ok (.iload_n 2, 1) := by decide +kernel
theorem dX1_isShownOf_14 : decode cX1_isShownOf 14 = .ok (.bipush (-9), 2) := by decide +kernel
theorem dX1_isShownOf_16 : decode cX1_isShownOf 16 = .ok (.if_icmp .ne 7, 3) := by decide +kernel
theorem dX1_isShownOf_19 : decode cX1_isShownOf 19 = .ok (.lconst 0, 1) := by decide +kernel
theorem dX1_isShownOf_20 : decode cX1_isShownOf 20 = .ok (.goto 6, 3) := by decide +kernel
theorem dX1_isShownOf_23 : decode cX1_isShownOf 23 = .ok (.lconst 1, 1) := by decide +kernel
theorem dX1_isShownOf_24 : decode cX1_isShownOf 24 = .ok (.iload_n 2, 1) := by decide +kernel
theorem dX1_isShownOf_25 : decode cX1_isShownOf 25 = .ok (.lshl, 1) := by decide +kernel
theorem dX1_isShownOf_26 : decode cX1_isShownOf 26 = .ok (.lor, 1) := by decide +kernel
theorem dX1_isShownOf_27 : decode cX1_isShownOf 27 = .ok (.lstore_n 3, 1) := by decide +kernel
theorem dX1_isShownOf_28 : decode cX1_isShownOf 28 = .ok (.aload_n 0, 1) := by decide +kernel
theorem dX1_isShownOf_29 : decode cX1_isShownOf 29 = .ok (.getfield 44, 3) := by decide +kernel
theorem dX1_isShownOf_32 : decode cX1_isShownOf 32 = .ok (.lload_n 3, 1) := by decide +kernel
theorem dX1_isShownOf_33 : decode cX1_isShownOf 33 = .ok (.land, 1) := by decide +kernel
theorem dX1_isShownOf_34 : decode cX1_isShownOf 34 = .ok (.lload_n 3, 1) := by decide +kernel
theorem dX1_isShownOf_35 : decode cX1_isShownOf 35 = .ok (.lcmp, 1) := by decide +kernel
theorem dX1_isShownOf_36 : decode cX1_isShownOf 36 = .ok (.ifCond .eq 5, 3) := by decide +kernel
theorem dX1_isShownOf_39 : decode cX1_isShownOf 39 = .ok (.iconst 0, 1) := by decide +kernel
theorem dX1_isShownOf_40 : decode cX1_isShownOf 40 = .ok (.ireturn, 1) := by decide +kernel
theorem dX1_isShownOf_41 : decode cX1_isShownOf 41 = .ok (.aload_n 0, 1) := by decide +kernel
theorem dX1_isShownOf_42 : decode cX1_isShownOf 42 = .ok (.iload_n 1, 1) := by decide +kernel
theorem dX1_isShownOf_43 : decode cX1_isShownOf 43 = .ok (.putfield 60, 3) := by decide +kernel
theorem dX1_isShownOf_46 : decode cX1_isShownOf 46 = .ok (.aload_n 0, 1) := by decide +kernel
theorem dX1_isShownOf_47 : decode cX1_isShownOf 47 = .ok (.iload_n 2, 1) := by decide +kernel
theorem dX1_isShownOf_48 : decode cX1_isShownOf 48 = .ok (.putfield 63, 3) := by decide +kernel
theorem dX1_isShownOf_51 : decode cX1_isShownOf 51 = .ok (.iconst 1, 1) := by decide +kernel
theorem dX1_isShownOf_52 : decode cX1_isShownOf 52 = .ok (.ireturn, 1) := by decide +kernel
theorem dX2_init_0 : decode cX2_init 0 = .ok (.aload_n 0, 1) := by decide +kernel
theorem dX2_init_1 : decode cX2_init 1 = .ok (.invokespecial 3, 3) := by decide +kernel
theorem dX2_init_4 : decode cX2_init 4 = .ok (.aload_n 0, 1) := by decide +kernel
theorem dX2_init_5 : decode cX2_init 5 = .ok (.new 9, 3) := by decide +kernel
theorem dX2_init_8 : decode cX2_init 8 = .ok (.dup, 1) := by decide +kernel
theorem dX2_init_9 : decode cX2_init 9 = .ok (.invokespecial 11, 3) := by decide +kernel
theorem dX2_init_12 : decode cX2_init 12 = .ok (.putfield 12, 3) := by decide +kernel
theorem dX2_init_15 : decode cX2_init 15 = .ok (.aload_n 0, 1) := by decide +kernel
theorem dX2_init_16 : decode cX2_init 16 = .ok (.new 18, 3) := by decide +kernel
theorem dX2_init_19 : decode cX2_init 19 = .ok (.dup, 1) := by decide +kernel
theorem dX2_init_20 : decode cX2_init 20 = .ok (.invokespecial 20, 3) := by decide +kernel
theorem dX2_init_23 : decode cX2_init 23 = .ok (.putfield 21, 3) := by decide +kernel
theorem dX2_init_26 : decode cX2_init 26 = .ok (.return_, 1) := by decide +kernel
theorem dX2_readDraft_0 : decode cX2_readDraft 0 = .ok (.aload_n 0, 1) := by decide +kernel
theorem dX2_readDraft_1 : decode cX2_readDraft 1 = .ok (.iload_n 1, 1) := by decide +kernel
theorem dX2_readDraft_2 : decode cX2_readDraft 2 = .ok (.putfield 25, 3) := by decide +kernel
theorem dX2_readDraft_5 : decode cX2_readDraft 5 = .ok (.aload_n 0, 1) := by decide +kernel
theorem dX2_readDraft_6 : decode cX2_readDraft 6 = .ok (.iconst 0, 1) := by decide +kernel
theorem dX2_readDraft_7 : decode cX2_readDraft 7 = .ok (.putfield 29, 3) := by decide +kernel
theorem dX2_readDraft_10 : decode cX2_readDraft 10 = .ok (.aload_n 0, 1) := by decide +kernel
theorem dX2_readDraft_11 : decode cX2_readDraft 11 = .ok (.iconst (-1), 1) := by decide +kernel
theorem dX2_readDraft_12 : decode cX2_readDraft 12 = .ok (.putfield 32, 3) := by decide +kernel
theorem dX2_readDraft_15 : decode cX2_readDraft 15 = .ok (.aload_n 0, 1) := by decide +kernel
theorem dX2_readDraft_16 : decode cX2_readDraft 16 = .ok (.getfield 12, 3) := by decide +kernel
theorem dX2_readDraft_19 : decode cX2_readDraft 19 = .ok (.invokevirtual 35, 3) := by decide +kernel
theorem dX2_readDraft_22 : decode cX2_readDraft 22 = .ok (.aload_n 0, 1) := by decide +kernel
theorem dX2_readDraft_23 : decode cX2_readDraft 23 = .ok (.invokevirtual 38, 3) := by decide +kernel
theorem dX2_readDraft_26 : decode cX2_readDraft 26 = .ok (.aload_n 0, 1) := by decide +kernel
theorem dX2_readDraft_27 : decode cX2_readDraft 27 = .ok (.getfield 21, 3) := by decide +kernel
theorem dX2_readDraft_30 : decode cX2_readDraft 30 = .ok (.aload_n 0, 1) := by decide +kernel
theorem dX2_readDraft_31 : decode cX2_readDraft 31 = .ok (.invokevirtual 41, 3) := by decide +kernel
theorem dX2_readDraft_34 : decode cX2_readDraft 34 = .ok (.putfield 45, 3) := by decide +kernel
theorem dX2_readDraft_37 : decode cX2_readDraft 37 = .ok (.aload_n 0, 1) := by decide +kernel
theorem dX2_readDraft_38 : decode cX2_readDraft 38 = .ok (.getfield 48, 3) := by decide +kernel
theorem dX2_readDraft_41 : decode cX2_readDraft 41 = .ok (.istore_n 2, 1) := by decide +kernel
theorem dX2_readDraft_42 : decode cX2_readDraft 42 = .ok (.aload_n 0, 1) := by decide +kernel
theorem dX2_readDraft_43 : decode cX2_readDraft 43 = .ok (.bipush 58, 2) := by decide +kernel
theorem dX2_readDraft_45 : decode cX2_readDraft 45 = .ok (.invokevirtual 51, 3) := by decide +kernel
theorem dX2_readDraft_48 : decode cX2_readDraft 48 = .ok (.aload_n 0, 1) := by decide +kernel
theorem dX2_readDraft_49 : decode cX2_readDraft 49 = .ok (.getfield 21, 3) := by decide +kernel
theorem dX2_readDraft_52 : decode cX2_readDraft 52 = .ok (.aload_n 0, 1) := by decide +kernel
theorem dX2_readDraft_53 : decode cX2_readDraft 53 = .ok (.invokevirtual 41, 3) := by decide +kernel
theorem dX2_readDraft_56 : decode cX2_readDraft 56 = .ok (.putfield 55, 3) := by decide +kernel
theorem dX2_readDraft_59 : decode cX2_readDraft 59 = .ok (.aload_n 0, 1) := by decide +kernel
theorem dX2_readDraft_60 : decode cX2_readDraft 60 = .ok (.getfield 48, 3) := by decide +kernel
theorem dX2_readDraft_63 : decode cX2_readDraft 63 = .ok (.istore_n 3, 1) := by decide +kernel
theorem dX2_readDraft_64 : decode cX2_readDraft 64 = .ok (.aload_n 0, 1) := by decide +kernel
theorem dX2_readDraft_65 : decode cX2_readDraft 65 = .ok (.iconst 0, 1) := by decide +kernel
theorem dX2_readDraft_66 : decode cX2_readDraft 66 = .ok (.invokevirtual 51, 3) := by decide +kernel
theorem dX2_readDraft_69 : decode cX2_readDraft 69 = .ok (.aload_n 0, 1) := by decide +kernel
theorem dX2_readDraft_70 : decode cX2_readDraft 70 = .ok (.getfield 21, 3) := by decide +kernel
theorem dX2_readDraft_73 : decode cX2_readDraft 73 = .ok (.aload_n 0, 1) := by decide +kernel
theorem dX2_readDraft_74 : decode cX2_readDraft 74 = .ok (.iload_n 2, 1) := by decide +kernel
theorem dX2_readDraft_75 : decode cX2_readDraft 75 = .ok (.iload_n 3, 1) := by decide +kernel
theorem dX2_readDraft_76 : decode cX2_readDraft 76 = .ok (.invokevirtual 58, 3) := by decide +kernel
theorem dX2_readDraft_79 : decode cX2_readDraft 79 = .ok (.putfield 62, 3) := by decide +kernel
theorem dX2_readDraft_82 : decode cX2_readDraft 82 = .ok (.aload_n 0, 1) := by decide +kernel
theorem dX2_readDraft_83 : decode cX2_readDraft 83 = .ok (.getfield 32, 3) := by decide +kernel
theorem dX2_readDraft_86 : decode cX2_readDraft 86 = .ok (.ireturn, 1) := by decide +kernel
theorem dX2_readHead_0 : decode cX2_readHead 0 = .ok (.aload_n 0, 1) := by decide +kernel
theorem dX2_readHead_1 : decode cX2_readHead 1 = .ok (.getfield 21, 3) := by decide +kernel
theorem dX2_readHead_4 : decode cX2_readHead 4 = .ok (.aload_n 0, 1) := by decide +kernel
theorem dX2_readHead_5 : decode cX2_readHead 5 = .ok (.getfield 12, 3) := by decide +kernel
theorem dX2_readHead_8 : decode cX2_readHead 8 = .ok (.getfield 65, 3) := by decide +kernel
theorem dX2_readHead_11 : decode cX2_readHead 11 = .ok (.iconst 2, 1) := by decide +kernel
theorem dX2_readHead_12 : decode cX2_readHead 12 = .ok (.if_icmp .ne 19, 3) := by decide +kernel
theorem dX2_readHead_15 : decode cX2_readHead 15 = .ok (.aload_n 0, 1) := by decide +kernel
theorem dX2_readHead_16 : decode cX2_readHead 16 = .ok (.getfield 12, 3) := by decide +kernel
theorem dX2_readHead_19 : decode cX2_readHead 19 = .ok (.getfield 68, 3) := by decide +kernel
theorem dX2_readHead_22 : decode cX2_readHead 22 = .ok (.bipush 8, 2) := by decide +kernel
theorem dX2_readHead_24 : decode cX2_readHead 24 = .ok (.if_icmp .ne 7, 3) := by decide +kernel
theorem dX2_readHead_27 : decode cX2_readHead 27 = .ok (.iconst 1, 1) := by decide +kernel
theorem dX2_readHead_28 : decode cX2_readHead 28 = .ok (.goto 4, 3) := by decide +kernel
theorem dX2_readHead_31 : decode cX2_readHead 31 = .ok (.iconst 0, 1) := by decide +kernel
theorem dX2_readHead_32 : decode cX2_readHead 32 = .ok (.putfield 71, 3) := by decide +kernel
theorem dX2_readHead_35 : decode cX2_readHead 35 = .ok (.aload_n 0, 1) := by decide +kernel
theorem dX2_readHead_36 : decode cX2_readHead 36 = .ok (.getfield 21, 3) := by decide +kernel
theorem dX2_readHead_39 : decode cX2_readHead 39 = .ok (.getfield 71, 3) := by decide +kernel
theorem dX2_readHead_42 : decode cX2_readHead 42 = .ok (.ifCond .eq 10, 3) := by decide +kernel
theorem dX2_readHead_45 : decode cX2_readHead 45 = .ok (.aload_n 0, 1) := by decide +kernel
theorem dX2_readHead_46 : decode cX2_readHead 46 = .ok (.getfield 12, 3) := by decide +kernel
theorem dX2_readHead_49 : decode cX2_readHead 49 = .ok (.invokevirtual 75, 3) := by decide +kernel
theorem dX2_readHead_52 : decode cX2_readHead 52 = .ok (.aload_n 0, 1) := by decide +kernel
theorem dX2_readHead_53 : decode cX2_readHead 53 = .ok (.getfield 21, 3) := by decide +kernel
theorem dX2_readHead_56 : decode cX2_readHead 56 = .ok (.aload_n 0, 1) := by decide +kernel
theorem dX2_readHead_57 : decode cX2_readHead 57 = .ok (.getfield 12, 3) := by decide +kernel
theorem dX2_readHead_60 : decode cX2_readHead 60 = .ok (.getfield 68, 3) := by decide +kernel
theorem dX2_readHead_63 : decode cX2_readHead 63 = .ok (.putfield 78, 3) := by decide +kernel
theorem dX2_readHead_66 : decode cX2_readHead 66 = .ok (.aload_n 0, 1) := by decide +kernel
theorem dX2_readHead_67 : decode cX2_readHead 67 = .ok (.getfield 21, 3) := by decide +kernel
theorem dX2_readHead_70 : decode cX2_readHead 70 = .ok (.iconst 0, 1) := by decide +kernel
theorem dX2_readHead_71 : decode cX2_readHead 71 = .ok (.putfield 81, 3) := by decide +kernel
theorem dX2_readHead_74 : decode cX2_readHead 74 = .ok (.aload_n 0, 1) := by decide +kernel
theorem dX2_readHead_75 : decode cX2_readHead 75 = .ok (.getfield 12, 3) := by decide +kernel
theorem dX2_readHead_78 : decode cX2_readHead 78 = .ok (.getfield 65, 3) := by decide +kernel
theorem dX2_readHead_81 : decode cX2_readHead 81 = .ok (.iconst 2, 1) := by decide +kernel
theorem dX2_readHead_82 : decode cX2_readHead 82 = .ok (.if_icmp .ne 19, 3) := by decide +kernel
theorem dX2_readHead_85 : decode cX2_readHead 85 = .ok (.aload_n 0, 1) := by decide +kernel
theorem dX2_readHead_86 : decode cX2_readHead 86 = .ok (.getfield 12, 3) := by decide +kernel
theorem dX2_readHead_89 : decode cX2_readHead 89 = .ok (.getfield 68, 3) := by decide +kernel
theorem dX2_readHead_92 : decode cX2_readHead 92 = .ok (.bipush 8, 2) := by decide +kernel
theorem dX2_readHead_94 : decode cX2_readHead 94 = .ok (.if_icmp .ne 7, 3) := by decide +kernel
theorem dX2_readHead_97 : decode cX2_readHead 97 = .ok (.aload_n 0, 1) := by decide +kernel
theorem dX2_readHead_98 : decode cX2_readHead 98 = .ok (.invokevirtual 84, 3) := by decide +kernel
theorem dX2_readHead_101 : decode cX2_readHead 101 = .ok (.aload_n 0, 1) := by decide +kernel
theorem dX2_readHead_102 : decode cX2_readHead 102 = .ok (.iconst 2, 1) := by decide +kernel
theorem dX2_readHead_103 : decode cX2_readHead 103 = .ok (.invokevirtual 51, 3) := by decide +kernel
theorem dX2_readHead_106 : decode cX2_readHead 106 = .ok (.aload_n 0, 1) := by decide +kernel
theorem dX2_readHead_107 : decode cX2_readHead 107 = .ok (.getfield 21, 3) := by decide +kernel
theorem dX2_readHead_110 : decode cX2_readHead 110 = .ok (.getfield 78, 3) := by decide +kernel
theorem dX2_readHead_113 : decode cX2_readHead 113 = .ok (.iconst 4, 1) := by decide +kernel
theorem dX2_readHead_114 : decode cX2_readHead 114 = .ok (.if_icmp .eq 14, 3) := by decide +kernel
theorem dX2_readHead_117 : decode cX2_readHead 117 = .ok (.aload_n 0, 1) := by decide +kernel
theorem dX2_readHead_118 : decode cX2_readHead 118 = .ok (.getfield 21, 3) := by decide +kernel
theorem dX2_readHead_121 : decode cX2_readHead 121 = .ok (.getfield 78, 3) := by decide +kernel
theorem dX2_readHead_124 : decode cX2_readHead 124 = .ok (.iconst 5, 1) := by decide +kernel
theorem dX2_readHead_125 : decode cX2_readHead 125 = .ok (.if_icmp .ne 7, 3) := by decide +kernel
theorem dX2_readHead_128 : decode cX2_readHead 128 = .ok (.aload_n 0, 1) := by decide +kernel
theorem dX2_readHead_129 : decode cX2_readHead 129 = .ok (.invokevirtual 87, 3) := by decide +kernel
theorem dX2_readHead_132 : decode cX2_readHead 132 = .ok (.return_, 1) := by decide +kernel
theorem dX2_readNumber_0 : decode cX2_readNumber 0 = .ok (.aload_n 0, 1) := by decide +kernel
theorem dX2_readNumber_1 : decode cX2_readNumber 1 = .ok (.getfield 21, 3) := by decide +kernel
theorem dX2_readNumber_4 : decode cX2_readNumber 4 = .ok (.aload_n 0, 1) := by decide +kernel
theorem dX2_readNumber_5 : decode cX2_readNumber 5 = .ok (.getfield 12, 3) := by decide +kernel
theorem dX2_readNumber_8 : decode cX2_readNumber 8 = .ok (.getfield 68, 3) := by decide +kernel
theorem dX2_readNumber_11 : decode cX2_readNumber 11 = .ok (.putfield 81, 3) := by decide +kernel
theorem dX2_readNumber_14 : decode cX2_readNumber 14 = .ok (.aload_n 0, 1) := by decide +kernel
theorem dX2_readNumber_15 : decode cX2_readNumber 15 = .ok (.getfield 12, 3) := by decide +kernel
theorem dX2_readNumber_18 : decode cX2_readNumber 18 = .ok (.getfield 65, 3) := by decide +kernel
theorem dX2_readNumber_21 : decode cX2_readNumber 21 = .ok (.iconst 3, 1) := by decide +kernel
theorem dX2_readNumber_22 : decode cX2_readNumber 22 = .ok (.if_icmp .ne 19, 3) := by decide +kernel
theorem dX2_readNumber_25 : decode cX2_readNumber 25 = .ok (.aload_n 0, 1) := by decide +kernel
theorem dX2_readNumber_26 : decode cX2_readNumber 26 = .ok (.getfield 12, 3) := by decide +kernel
theorem dX2_readNumber_29 : decode cX2_readNumber 29 = .ok (.getfield 68, 3) := by decide +kernel
theorem dX2_readNumber_32 : decode cX2_readNumber 32 = .ok (.bipush 6, 2) := by decide +kernel
theorem dX2_readNumber_34 : decode cX2_readNumber 34 = .ok (.if_icmp .le 7, 3) := by decide +kernel
theorem dX2_readNumber_37 : decode cX2_readNumber 37 = .ok (.aload_n 0, 1) := by decide +kernel
theorem dX2_readNumber_38 : decode cX2_readNumber 38 = .ok (.invokevirtual 84, 3) := by decide +kernel
theorem dX2_readNumber_41 : decode cX2_readNumber 41 = .ok (.aload_n 0, 1) := by decide +kernel
theorem dX2_readNumber_42 : decode cX2_readNumber 42 = .ok (.iconst 3, 1) := by decide +kernel
theorem dX2_readNumber_43 : decode cX2_readNumber 43 = .ok (.invokevirtual 51, 3) := by decide +kernel
theorem dX2_readNumber_46 : decode cX2_readNumber 46 = .ok (.return_, 1) := by decide +kernel
theorem dX2_readSide_0 : decode cX2_readSide 0 = .ok (.aload_n 0, 1) := by decide +kernel
theorem dX2_readSide_1 : decode cX2_readSide 1 = .ok (.getfield 12, 3) := by decide +kernel
theorem dX2_readSide_4 : decode cX2_readSide 4 = .ok (.getfield 68, 3) := by decide +kernel
theorem dX2_readSide_7 : decode cX2_readSide 7 = .ok (.istore_n 1, 1) := by decide +kernel
theorem dX2_readSide_8 : decode cX2_readSide 8 = .ok (.aload_n 0, 1) := by decide +kernel
theorem dX2_readSide_9 : decode cX2_readSide 9 = .ok (.getfield 12, 3) := by decide +kernel
theorem dX2_readSide_12 : decode cX2_readSide 12 = .ok (.getfield 90, 3) := by decide +kernel
theorem dX2_readSide_15 : decode cX2_readSide 15 = .ok (.istore_n 2, 1) := by decide +kernel
theorem dX2_readSide_16 : decode cX2_readSide 16 = .ok (.aload_n 0, 1) := by decide +kernel
theorem dX2_readSide_17 : decode cX2_readSide 17 = .ok (.iconst 0, 1) := by decide +kernel
theorem dX2_readSide_18 : decode cX2_readSide 18 = .ok (.invokevirtual 93, 3) := by decide +kernel
theorem dX2_readSide_21 : decode cX2_readSide 21 = .ok (.istore_n 3, 1) := by decide +kernel
theorem dX2_readSide_22 : decode cX2_readSide 22 = .ok (.aload_n 0, 1) := by decide +kernel
theorem dX2_readSide_23 : decode cX2_readSide 23 = .ok (.aload_n 0, 1) := by decide +kernel
theorem dX2_readSide_24 : decode cX2_readSide 24 = .ok (.getfield 12, 3) := by decide +kernel
theorem dX2_readSide_27 : decode cX2_readSide 27 = .ok (.getfield 90, 3) := by decide +kernel
theorem dX2_readSide_30 : decode cX2_readSide 30 = .ok (.iload_n 2, 1) := by decide +kernel
theorem dX2_readSide_31 : decode cX2_readSide 31 = .ok (.isub, 1) := by decide +kernel
theorem dX2_readSide_32 : decode cX2_readSide 32 = .ok (.iconst 1, 1) := by decide +kernel
theorem dX2_readSide_33 : decode cX2_readSide 33 = .ok (.if_icmp .ne 7, 3) := by decide +kernel
theorem dX2_readSide_36 : decode cX2_readSide 36 = .ok (.iload_n 1, 1) := by decide +kernel
theorem dX2_readSide_37 : decode cX2_readSide 37 = .ok (.goto 5, 3) := by decide +kernel
theorem dX2_readSide_40 : decode cX2_readSide 40 = .ok (.bipush (-9), 2) := by decide +kernel
theorem dX2_readSide_42 : decode cX2_readSide 42 = .ok (.putfield 48, 3) := by decide +kernel
theorem dX2_readSide_45 : decode cX2_readSide 45 = .ok (.iload_n 3, 1) := by decide +kernel
theorem dX2_readSide_46 : decode cX2_readSide 46 = .ok (.ireturn, 1) := by decide +kernel
theorem dX2_readUnion_0 : decode cX2_readUnion 0 = .ok (.aload_n 0, 1) := by decide +kernel
theorem dX2_readUnion_1 : decode cX2_readUnion 1 = .ok (.iload_n 1, 1) := by decide +kernel
theorem dX2_readUnion_2 : decode cX2_readUnion 2 = .ok (.invokevirtual 97, 3) := by decide +kernel
theorem dX2_readUnion_5 : decode cX2_readUnion 5 = .ok (.istore_n 2, 1) := by decide +kernel
theorem dX2_readUnion_6 : decode cX2_readUnion 6 = .ok (.iconst 0, 1) := by decide +kernel
theorem dX2_readUnion_7 : decode cX2_readUnion 7 = .ok (.istore_n 3, 1) := by decide +kernel
theorem dX2_readUnion_8 : decode cX2_readUnion 8 = .ok (.iload_n 3, 1) := by decide +kernel
theorem dX2_readUnion_9 : decode cX2_readUnion 9 = .ok (.bipush 80, 2) := by decide +kernel
theorem dX2_readUnion_11 : decode cX2_readUnion 11 = .ok (.if_icmp .ge 44, 3) := by decide +kernel
theorem dX2_readUnion_14 : decode cX2_readUnion 14 = .ok (.aload_n 0, 1) := by decide +kernel
theorem dX2_readUnion_15 : decode cX2_readUnion 15 = .ok (.getfield 32, 3) := by decide +kernel
theorem dX2_readUnion_18 : decode cX2_readUnion 18 = .ok (.iconst (-1), 1) := by decide +kernel
theorem dX2_readUnion_19 : decode cX2_readUnion 19 = .ok (.if_icmp .ne 36, 3) := by decide +kernel
theorem dX2_readUnion_22 : decode cX2_readUnion 22 = .ok (.aload_n 0, 1) := by decide +kernel
theorem dX2_readUnion_23 : decode cX2_readUnion 23 = .ok (.getfield 12, 3) := by decide +kernel
theorem dX2_readUnion_26 : decode cX2_readUnion 26 = .ok (.getfield 65, 3) := by decide +kernel
theorem dX2_readUnion_29 : decode cX2_readUnion 29 = .ok (.bipush 124, 2) := by decide +kernel
theorem dX2_readUnion_31 : decode cX2_readUnion 31 = .ok (.if_icmp .ne 24, 3) := by decide +kernel
theorem dX2_readUnion_34 : decode cX2_readUnion 34 = .ok (.aload_n 0, 1) := by decide +kernel
theorem dX2_readUnion_35 : decode cX2_readUnion 35 = .ok (.getfield 12, 3) := by decide +kernel
theorem dX2_readUnion_38 : decode cX2_readUnion 38 = .ok (.invokevirtual 75, 3) := by decide +kernel
theorem dX2_readUnion_41 : decode cX2_readUnion 41 = .ok (.iload_n 2, 1) := by decide +kernel
theorem dX2_readUnion_42 : decode cX2_readUnion 42 = .ok (.aload_n 0, 1) := by decide +kernel
theorem dX2_readUnion_43 : decode cX2_readUnion 43 = .ok (.iload_n 1, 1) := by decide +kernel
theorem dX2_readUnion_44 : decode cX2_readUnion 44 = .ok (.invokevirtual 97, 3) := by decide +kernel
theorem dX2_readUnion_47 : decode cX2_readUnion 47 = .ok (.ior, 1) := by decide +kernel
theorem dX2_readUnion_48 : decode cX2_readUnion 48 = .ok (.istore_n 2, 1) := by decide +kernel
theorem dX2_readUnion_49 : decode cX2_readUnion 49 = .ok (.iinc 3 1, 3) := by decide +kernel
theorem dX2_readUnion_52 : decode cX2_readUnion 52 = .ok (.goto (-44), 3) := by decide +kernel
theorem dX2_readUnion_55 : decode cX2_readUnion 55 = .ok (.iload_n 2, 1) := by decide +kernel
theorem dX2_readUnion_56 : decode cX2_readUnion 56 = .ok (.ireturn, 1) := by decide +kernel
theorem dX2_readMeet_0 : decode cX2_readMeet 0 = .ok (.aload_n 0, 1) := by decide +kernel
theorem dX2_readMeet_1 : decode cX2_readMeet 1 = .ok (.iload_n 1, 1) := by decide +kernel
theorem dX2_readMeet_2 : decode cX2_readMeet 2 = .ok (.invokevirtual 100, 3) := by decide +kernel
theorem dX2_readMeet_5 : decode cX2_readMeet 5 = .ok (.istore_n 2, 1) := by decide +kernel
theorem dX2_readMeet_6 : decode cX2_readMeet 6 = .ok (.iconst 0, 1) := by decide +kernel
theorem dX2_readMeet_7 : decode cX2_readMeet 7 = .ok (.istore_n 3, 1) := by decide +kernel
theorem dX2_readMeet_8 : decode cX2_readMeet 8 = .ok (.iload_n 3, 1) := by decide +kernel
theorem dX2_readMeet_9 : decode cX2_readMeet 9 = .ok (.bipush 80, 2) := by decide +kernel
theorem dX2_readMeet_11 : decode cX2_readMeet 11 = .ok (.if_icmp .ge 44, 3) := by decide +kernel
theorem dX2_readMeet_14 : decode cX2_readMeet 14 = .ok (.aload_n 0, 1) := by decide +kernel
theorem dX2_readMeet_15 : decode cX2_readMeet 15 = .ok (.getfield 32, 3) := by decide +kernel
theorem dX2_readMeet_18 : decode cX2_readMeet 18 = .ok (.iconst (-1), 1) := by decide +kernel
theorem dX2_readMeet_19 : decode cX2_readMeet 19 = .ok (.if_icmp .ne 36, 3) := by decide +kernel
theorem dX2_readMeet_22 : decode cX2_readMeet 22 = .ok (.aload_n 0, 1) := by decide +kernel
theorem dX2_readMeet_23 : decode cX2_readMeet 23 = .ok (.getfield 12, 3) := by decide +kernel
theorem dX2_readMeet_26 : decode cX2_readMeet 26 = .ok (.getfield 65, 3) := by decide +kernel
theorem dX2_readMeet_29 : decode cX2_readMeet 29 = .ok (.bipush 38, 2) := by decide +kernel
theorem dX2_readMeet_31 : decode cX2_readMeet 31 = .ok (.if_icmp .ne 24, 3) := by decide +kernel
theorem dX2_readMeet_34 : decode cX2_readMeet 34 = .ok (.aload_n 0, 1) := by decide +kernel
theorem dX2_readMeet_35 : decode cX2_readMeet 35 = .ok (.getfield 12, 3) := by decide +kernel
theorem dX2_readMeet_38 : decode cX2_readMeet 38 = .ok (.invokevirtual 75, 3) := by decide +kernel
theorem dX2_readMeet_41 : decode cX2_readMeet 41 = .ok (.iload_n 2, 1) := by decide +kernel
theorem dX2_readMeet_42 : decode cX2_readMeet 42 = .ok (.aload_n 0, 1) := by decide +kernel
theorem dX2_readMeet_43 : decode cX2_readMeet 43 = .ok (.iload_n 1, 1) := by decide +kernel
theorem dX2_readMeet_44 : decode cX2_readMeet 44 = .ok (.invokevirtual 100, 3) := by decide +kernel
theorem dX2_readMeet_47 : decode cX2_readMeet 47 = .ok (.iand, 1) := by decide +kernel
theorem dX2_readMeet_48 : decode cX2_readMeet 48 = .ok (.istore_n 2, 1) := by decide +kernel
theorem dX2_readMeet_49 : decode cX2_readMeet 49 = .ok (.iinc 3 1, 3) := by decide +kernel
theorem dX2_readMeet_52 : decode cX2_readMeet 52 = .ok (.goto (-44), 3) := by decide +kernel
theorem dX2_readMeet_55 : decode cX2_readMeet 55 = .ok (.iload_n 2, 1) := by decide +kernel
theorem dX2_readMeet_56 : decode cX2_readMeet 56 = .ok (.ireturn, 1) := by decide +kernel
theorem dX2_readPart_0 : decode cX2_readPart 0 = .ok (.aload_n 0, 1) := by decide +kernel
theorem dX2_readPart_1 : decode cX2_readPart 1 = .ok (.getfield 12, 3) := by decide +kernel
theorem dX2_readPart_4 : decode cX2_readPart 4 = .ok (.getfield 65, 3) := by decide +kernel
theorem dX2_readPart_7 : decode cX2_readPart 7 = .ok (.istore_n 2, 1) := by decide +kernel
theorem dX2_readPart_8 : decode cX2_readPart 8 = .ok (.aload_n 0, 1) := by decide +kernel
theorem dX2_readPart_9 : decode cX2_readPart 9 = .ok (.getfield 12, 3) := by decide +kernel
theorem dX2_readPart_12 : decode cX2_readPart 12 = .ok (.getfield 68, 3) := by decide +kernel
theorem dX2_readPart_15 : decode cX2_readPart 15 = .ok (.istore_n 3, 1) := by decide +kernel
theorem dX2_readPart_16 : decode cX2_readPart 16 = .ok (.aload_n 0, 1) := by decide +kernel
theorem dX2_readPart_17 : decode cX2_readPart 17 = .ok (.iload_n 2, 1) := by decide +kernel
theorem dX2_readPart_18 : decode cX2_readPart 18 = .ok (.iload_n 3, 1) := by decide +kernel
theorem dX2_readPart_19 : decode cX2_readPart 19 = .ok (.iload_n 1, 1) := by decide +kernel
theorem dX2_readPart_20 : decode cX2_readPart 20 = .ok (.invokevirtual 103, 3) := by decide +kernel
theorem dX2_readPart_23 : decode cX2_readPart 23 = .ok (.ifCond .ne 7, 3) := by decide +kernel
theorem dX2_readPart_26 : decode cX2_readPart 26 = .ok (.aload_n 0, 1) := by decide +kernel
theorem dX2_readPart_27 : decode cX2_readPart 27 = .ok (.invokevirtual 84, 3) := by decide +kernel
theorem dX2_readPart_30 : decode cX2_readPart 30 = .ok (.aload_n 0, 1) := by decide +kernel
theorem dX2_readPart_31 : decode cX2_readPart 31 = .ok (.getfield 32, 3) := by decide +kernel
theorem dX2_readPart_34 : decode cX2_readPart 34 = .ok (.iconst (-1), 1) := by decide +kernel
theorem dX2_readPart_35 : decode cX2_readPart 35 = .ok (.if_icmp .eq 5, 3) := by decide +kernel
theorem dX2_readPart_38 : decode cX2_readPart 38 = .ok (.iconst 0, 1) := by decide +kernel
theorem dX2_readPart_39 : decode cX2_readPart 39 = .ok (.ireturn, 1) := by decide +kernel
theorem dX2_readPart_40 : decode cX2_readPart 40 = .ok (.aload_n 0, 1) := by decide +kernel
theorem dX2_readPart_41 : decode cX2_readPart 41 = .ok (.dup, 1) := by decide +kernel
theorem dX2_readPart_42 : decode cX2_readPart 42 = .ok (.getfield 29, 3) := by decide +kernel
theorem dX2_readPart_45 : decode cX2_readPart 45 = .ok (.iconst 1, 1) := by decide +kernel
theorem dX2_readPart_46 : decode cX2_readPart 46 = .ok (.iadd, 1) := by decide +kernel
theorem dX2_readPart_47 : decode cX2_readPart 47 = .ok (.putfield 29, 3) := by decide +kernel
theorem dX2_readPart_50 : decode cX2_readPart 50 = .ok (.aload_n 0, 1) := by decide +kernel
theorem dX2_readPart_51 : decode cX2_readPart 51 = .ok (.getfield 12, 3) := by decide +kernel
theorem dX2_readPart_54 : decode cX2_readPart 54 = .ok (.invokevirtual 75, 3) := by decide +kernel
theorem dX2_readPart_57 : decode cX2_readPart 57 = .ok (.iload_n 2, 1) := by decide +kernel
theorem dX2_readPart_58 : decode cX2_readPart 58 = .ok (.iconst 4, 1) := by decide +kernel
theorem dX2_readPart_59 : decode cX2_readPart 59 = .ok (.if_icmp .ne 12, 3) := by decide +kernel
theorem dX2_readPart_62 : decode cX2_readPart 62 = .ok (.iload_n 3, 1) := by decide +kernel
theorem dX2_readPart_63 : decode cX2_readPart 63 = .ok (.aload_n 0, 1) := by decide +kernel
theorem dX2_readPart_64 : decode cX2_readPart 64 = .ok (.getfield 25, 3) := by decide +kernel
theorem dX2_readPart_67 : decode cX2_readPart 67 = .ok (.invokestatic 107, 3) := by decide +kernel
theorem dX2_readPart_70 : decode cX2_readPart 70 = .ok (.ireturn, 1) := by decide +kernel
theorem dX2_readPart_71 : decode cX2_readPart 71 = .ok (.iload_n 2, 1) := by decide +kernel
theorem dX2_readPart_72 : decode cX2_readPart 72 = .ok (.bipush 33, 2) := by decide +kernel
theorem dX2_readPart_74 : decode cX2_readPart 74 = .ok (.if_icmp .ne 21, 3) := by decide +kernel
theorem dX2_readPart_77 : decode cX2_readPart 77 = .ok (.aload_n 0, 1) := by decide +kernel
theorem dX2_readPart_78 : decode cX2_readPart 78 = .ok (.getfield 25, 3) := by decide +kernel
theorem dX2_readPart_81 : decode cX2_readPart 81 = .ok (.invokestatic 110, 3) := by decide +kernel
theorem dX2_readPart_84 : decode cX2_readPart 84 = .ok (.aload_n 0, 1) := by decide +kernel
theorem dX2_readPart_85 : decode cX2_readPart 85 = .ok (.iload_n 1, 1) := by decide +kernel
theorem dX2_readPart_86 : decode cX2_readPart 86 = .ok (.iconst 1, 1) := by decide +kernel
theorem dX2_readPart_87 : decode cX2_readPart 87 = .ok (.iadd, 1) := by decide +kernel
theorem dX2_readPart_88 : decode cX2_readPart 88 = .ok (.invokevirtual 100, 3) := by decide +kernel
theorem dX2_readPart_91 : decode cX2_readPart 91 = .ok (.iconst (-1), 1) := by decide +kernel
theorem dX2_readPart_92 : decode cX2_readPart 92 = .ok (.ixor, 1) := by decide +kernel
theorem dX2_readPart_93 : decode cX2_readPart 93 = .ok (.iand, 1) := by decide +kernel
theorem dX2_readPart_94 : decode cX2_readPart 94 = .ok (.ireturn, 1) := by decide +kernel
theorem dX2_readPart_95 : decode cX2_readPart 95 = .ok (.aload_n 0, 1) := by decide +kernel
theorem dX2_readPart_96 : decode cX2_readPart 96 = .ok (.iload_n 1, 1) := by decide +kernel
theorem dX2_readPart_97 : decode cX2_readPart 97 = .ok (.iconst 1, 1) := by decide +kernel
theorem dX2_readPart_98 : decode cX2_readPart 98 = .ok (.iadd, 1) := by decide +kernel
theorem dX2_readPart_99 : decode cX2_readPart 99 = .ok (.invokevirtual 93, 3) := by decide +kernel
theorem dX2_readPart_102 : decode cX2_readPart 102 = .ok (.istore 4, 2) := by decide +kernel
theorem dX2_readPart_104 : decode cX2_readPart 104 = .ok (.aload_n 0, 1) := by decide +kernel
theorem dX2_readPart_105 : decode cX2_readPart 105 = .ok (.bipush 41, 2) := by decide +kernel
theorem dX2_readPart_107 : decode cX2_readPart 107 = .ok (.invokevirtual 51, 3) := by decide +kernel
theorem dX2_readPart_110 : decode cX2_readPart 110 = .ok (.iload 4, 2) := by decide +kernel
theorem dX2_readPart_112 : decode cX2_readPart 112 = .ok (.ireturn, 1) := by decide +kernel
theorem dX2_isPart_0 : decode cX2_isPart 0 = .ok (.aload_n 0, 1) := by decide +kernel
theorem dX2_isPart_1 : decode cX2_isPart 1 = .ok (.getfield 29, 3) := by decide +kernel
theorem dX2_isPart_4 : decode cX2_isPart 4 = .ok (.bipush 24, 2) := by decide +kernel
theorem dX2_isPart_6 : decode cX2_isPart 6 = .ok (.if_icmp .lt 5, 3) := by decide +kernel
theorem dX2_isPart_9 : decode cX2_isPart 9 = .ok (.iconst 0, 1) := by decide +kernel
theorem dX2_isPart_10 : decode cX2_isPart 10 = .ok (.ireturn, 1) := by decide +kernel
theorem dX2_isPart_11 : decode cX2_isPart 11 = .ok (.iload_n 1, 1) := by decide +kernel
theorem dX2_isPart_12 : decode cX2_isPart 12 = .ok (.iconst 4, 1) := by decide +kernel
theorem dX2_isPart_13 : decode cX2_isPart 13 = .ok (.if_icmp .ne 17, 3) := by decide +kernel
theorem dX2_isPart_16 : decode cX2_isPart 16 = .ok (.iload_n 2, 1) := by decide +kernel
theorem dX2_isPart_17 : decode cX2_isPart 17 = .ok (.aload_n 0, 1) := by decide +kernel
theorem dX2_isPart_18 : decode cX2_isPart 18 = .ok (.getfield 25, 3) := by decide +kernel
theorem dX2_isPart_21 : decode cX2_isPart 21 = .ok (.if_icmp .ge 7, 3) := by decide +kernel
theorem dX2_isPart_24 : decode cX2_isPart 24 = .ok (.iconst 1, 1) := by decide +kernel
theorem dX2_isPart_25 : decode cX2_isPart 25 = .ok (.goto 4, 3) := by decide +kernel
theorem dX2_isPart_28 : decode cX2_isPart 28 = .ok (.iconst 0, 1) := by decide +kernel
theorem dX2_isPart_29 : decode cX2_isPart 29 = .ok (.ireturn, 1) := by decide +kernel
theorem dX2_isPart_30 : decode cX2_isPart 30 = .ok (.iload_n 1, 1) := by decide +kernel
theorem dX2_isPart_31 : decode cX2_isPart 31 = .ok (.bipush 33, 2) := by decide +kernel
theorem dX2_isPart_33 : decode cX2_isPart 33 = .ok (.if_icmp .eq 9, 3) := by decide +kernel
theorem dX2_isPart_36 : decode cX2_isPart 36 = .ok (.iload_n 1, 1) := by decide +kernel
theorem dX2_isPart_37 : decode cX2_isPart 37 = .ok (.bipush 40, 2) := by decide +kernel
theorem dX2_isPart_39 : decode cX2_isPart 39 = .ok (.if_icmp .ne 13, 3) := by decide +kernel
theorem dX2_isPart_42 : decode cX2_isPart 42 = .ok (.iload_n 3, 1) := by decide +kernel
theorem dX2_isPart_43 : decode cX2_isPart 43 = .ok (.bipush 8, 2) := by decide +kernel
theorem dX2_isPart_45 : decode cX2_isPart 45 = .ok (.if_icmp .ge 7, 3) := by decide +kernel
theorem dX2_isPart_48 : decode cX2_isPart 48 = .ok (.iconst 1, 1) := by decide +kernel
theorem dX2_isPart_49 : decode cX2_isPart 49 = .ok (.goto 4, 3) := by decide +kernel
theorem dX2_isPart_52 : decode cX2_isPart 52 = .ok (.iconst 0, 1) := by decide +kernel
theorem dX2_isPart_53 : decode cX2_isPart 53 = .ok (.ireturn, 1) := by decide +kernel
theorem dX2_pass_0 : decode cX2_pass 0 = .ok (.aload_n 0, 1) := by decide +kernel
theorem dX2_pass_1 : decode cX2_pass 1 = .ok (.getfield 12, 3) := by decide +kernel
theorem dX2_pass_4 : decode cX2_pass 4 = .ok (.getfield 65, 3) := by decide +kernel
theorem dX2_pass_7 : decode cX2_pass 7 = .ok (.iload_n 1, 1) := by decide +kernel
theorem dX2_pass_8 : decode cX2_pass 8 = .ok (.if_icmp .eq 7, 3) := by decide +kernel
theorem dX2_pass_11 : decode cX2_pass 11 = .ok (.aload_n 0, 1) := by decide +kernel
theorem dX2_pass_12 : decode cX2_pass 12 = .ok (.invokevirtual 84, 3) := by decide +kernel
theorem dX2_pass_15 : decode cX2_pass 15 = .ok (.aload_n 0, 1) := by decide +kernel
theorem dX2_pass_16 : decode cX2_pass 16 = .ok (.getfield 32, 3) := by decide +kernel
theorem dX2_pass_19 : decode cX2_pass 19 = .ok (.iconst (-1), 1) := by decide +kernel
theorem dX2_pass_20 : decode cX2_pass 20 = .ok (.if_icmp .ne 10, 3) := by decide +kernel
theorem dX2_pass_23 : decode cX2_pass 23 = .ok (.aload_n 0, 1) := by decide +kernel
theorem dX2_pass_24 : decode cX2_pass 24 = .ok (.getfield 12, 3) := by decide +kernel
theorem dX2_pass_27 : decode cX2_pass 27 = .ok (.invokevirtual 75, 3) := by decide +kernel
theorem dX2_pass_30 : decode cX2_pass 30 = .ok (.return_, 1) := by decide +kernel
theorem dX2_fail_0 : decode cX2_fail 0 = .ok (.aload_n 0, 1) := by decide +kernel
theorem dX2_fail_1 : decode cX2_fail 1 = .ok (.getfield 32, 3) := by decide +kernel
theorem dX2_fail_4 : decode cX2_fail 4 = .ok (.iconst (-1), 1) := by decide +kernel
theorem dX2_fail_5 : decode cX2_fail 5 = .ok (.if_icmp .ne 14, 3) := by decide +kernel
theorem dX2_fail_8 : decode cX2_fail 8 = .ok (.aload_n 0, 1) := by decide +kernel
theorem dX2_fail_9 : decode cX2_fail 9 = .ok (.aload_n 0, 1) := by decide +kernel
theorem dX2_fail_10 : decode cX2_fail 10 = .ok (.getfield 12, 3) := by decide +kernel
theorem dX2_fail_13 : decode cX2_fail 13 = .ok (.getfield 113, 3) := by decide +kernel
theorem dX2_fail_16 : decode cX2_fail 16 = .ok (.putfield 32, 3) := by decide +kernel
theorem dX2_fail_19 : decode cX2_fail 19 = .ok (.return_, 1) := by decide +kernel
theorem dX2_factTold_0 : decode cX2_factTold 0 = .ok (.iload_n 1, 1) := by decide +kernel
theorem dX2_factTold_1 : decode cX2_factTold 1 = .ok (.bipush (-9), 2) := by decide +kernel
theorem dX2_factTold_3 : decode cX2_factTold 3 = .ok (.if_icmp .eq 9, 3) := by decide +kernel
theorem dX2_factTold_6 : decode cX2_factTold 6 = .ok (.iload_n 2, 1) := by decide +kernel
theorem dX2_factTold_7 : decode cX2_factTold 7 = .ok (.bipush (-9), 2) := by decide +kernel
theorem dX2_factTold_9 : decode cX2_factTold 9 = .ok (.if_icmp .ne 6, 3) := by decide +kernel
theorem dX2_factTold_12 : decode cX2_factTold 12 = .ok (.bipush (-9), 2) := by decide +kernel
theorem dX2_factTold_14 : decode cX2_factTold 14 = .ok (.ireturn, 1) := by decide +kernel
theorem dX2_factTold_15 : decode cX2_factTold 15 = .ok (.aload_n 0, 1) := by decide +kernel
theorem dX2_factTold_16 : decode cX2_factTold 16 = .ok (.getfield 21, 3) := by decide +kernel
theorem dX2_factTold_19 : decode cX2_factTold 19 = .ok (.getfield 78, 3) := by decide +kernel
theorem dX2_factTold_22 : decode cX2_factTold 22 = .ok (.tableswitch 89 0 2 #[26, 47, 68], 26) := by decide +kernel
theorem dX2_factTold_48 : decode cX2_factTold 48 = .ok (.aload_n 0, 1) := by decide +kernel
theorem dX2_factTold_49 : decode cX2_factTold 49 = .ok (.getfield 21, 3) := by decide +kernel
theorem dX2_factTold_52 : decode cX2_factTold 52 = .ok (.getfield 71, 3) := by decide +kernel
theorem dX2_factTold_55 : decode cX2_factTold 55 = .ok (.ifCond .eq 7, 3) := by decide +kernel
theorem dX2_factTold_58 : decode cX2_factTold 58 = .ok (.iconst 3, 1) := by decide +kernel
theorem dX2_factTold_59 : decode cX2_factTold 59 = .ok (.goto 4, 3) := by decide +kernel
theorem dX2_factTold_62 : decode cX2_factTold 62 = .ok (.iconst 0, 1) := by decide +kernel
theorem dX2_factTold_63 : decode cX2_factTold 63 = .ok (.iload_n 1, 1) := by decide +kernel
theorem dX2_factTold_64 : decode cX2_factTold 64 = .ok (.iload_n 2, 1) := by decide +kernel
theorem dX2_factTold_65 : decode cX2_factTold 65 = .ok (.invokestatic 116, 3) := by decide +kernel
theorem dX2_factTold_68 : decode cX2_factTold 68 = .ok (.ireturn, 1) := by decide +kernel
theorem dX2_factTold_69 : decode cX2_factTold 69 = .ok (.aload_n 0, 1) := by decide +kernel
theorem dX2_factTold_70 : decode cX2_factTold 70 = .ok (.getfield 21, 3) := by decide +kernel
theorem dX2_factTold_73 : decode cX2_factTold 73 = .ok (.getfield 71, 3) := by decide +kernel
theorem dX2_factTold_76 : decode cX2_factTold 76 = .ok (.ifCond .eq 7, 3) := by decide +kernel
theorem dX2_factTold_79 : decode cX2_factTold 79 = .ok (.iconst 2, 1) := by decide +kernel
theorem dX2_factTold_80 : decode cX2_factTold 80 = .ok (.goto 4, 3) := by decide +kernel
theorem dX2_factTold_83 : decode cX2_factTold 83 = .ok (.iconst 1, 1) := by decide +kernel
theorem dX2_factTold_84 : decode cX2_factTold 84 = .ok (.iload_n 1, 1) := by decide +kernel
theorem dX2_factTold_85 : decode cX2_factTold 85 = .ok (.iload_n 2, 1) := by decide +kernel
theorem dX2_factTold_86 : decode cX2_factTold 86 = .ok (.invokestatic 116, 3) := by decide +kernel
theorem dX2_factTold_89 : decode cX2_factTold 89 = .ok (.ireturn, 1) := by decide +kernel
theorem dX2_factTold_90 : decode cX2_factTold 90 = .ok (.aload_n 0, 1) := by decide +kernel
theorem dX2_factTold_91 : decode cX2_factTold 91 = .ok (.getfield 21, 3) := by decide +kernel
theorem dX2_factTold_94 : decode cX2_factTold 94 = .ok (.getfield 71, 3) := by decide +kernel
theorem dX2_factTold_97 : decode cX2_factTold 97 = .ok (.ifCond .eq 7, 3) := by decide +kernel
theorem dX2_factTold_100 : decode cX2_factTold 100 = .ok (.iconst 1, 1) := by decide +kernel
theorem dX2_factTold_101 : decode cX2_factTold 101 = .ok (.goto 4, 3) := by decide +kernel
theorem dX2_factTold_104 : decode cX2_factTold 104 = .ok (.iconst 2, 1) := by decide +kernel
theorem dX2_factTold_105 : decode cX2_factTold 105 = .ok (.iload_n 1, 1) := by decide +kernel
theorem dX2_factTold_106 : decode cX2_factTold 106 = .ok (.iload_n 2, 1) := by decide +kernel
theorem dX2_factTold_107 : decode cX2_factTold 107 = .ok (.invokestatic 116, 3) := by decide +kernel
theorem dX2_factTold_110 : decode cX2_factTold 110 = .ok (.ireturn, 1) := by decide +kernel
theorem dX2_factTold_111 : decode cX2_factTold 111 = .ok (.bipush (-9), 2) := by decide +kernel
theorem dX2_factTold_113 : decode cX2_factTold 113 = .ok (.ireturn, 1) := by decide +kernel
theorem dX3_init_0 : decode cX3_init 0 = .ok (.aload_n 0, 1) := by decide +kernel
theorem dX3_init_1 : decode cX3_init 1 = .ok (.invokespecial 3, 3) := by decide +kernel
theorem dX3_init_4 : decode cX3_init 4 = .ok (.return_, 1) := by decide +kernel
theorem dX3_becomeFirst_0 : decode cX3_becomeFirst 0 = .ok (.aload_n 0, 1) := by decide +kernel
theorem dX3_becomeFirst_1 : decode cX3_becomeFirst 1 = .ok (.iconst 0, 1) := by decide +kernel
theorem dX3_becomeFirst_2 : decode cX3_becomeFirst 2 = .ok (.putfield 9, 3) := by decide +kernel
theorem dX3_becomeFirst_5 : decode cX3_becomeFirst 5 = .ok (.aload_n 0, 1) := by decide +kernel
theorem dX3_becomeFirst_6 : decode cX3_becomeFirst 6 = .ok (.iconst 0, 1) := by decide +kernel
theorem dX3_becomeFirst_7 : decode cX3_becomeFirst 7 = .ok (.putfield 15, 3) := by decide +kernel
theorem dX3_becomeFirst_10 : decode cX3_becomeFirst 10 = .ok (.aload_n 0, 1) := by decide +kernel
theorem dX3_becomeFirst_11 : decode cX3_becomeFirst 11 = .ok (.iconst 0, 1) := by decide +kernel
theorem dX3_becomeFirst_12 : decode cX3_becomeFirst 12 = .ok (.iload_n 1, 1) := by decide +kernel
theorem dX3_becomeFirst_13 : decode cX3_becomeFirst 13 = .ok (.invokestatic 18, 3) := by decide +kernel
theorem dX3_becomeFirst_16 : decode cX3_becomeFirst 16 = .ok (.putfield 22, 3) := by decide +kernel
theorem dX3_becomeFirst_19 : decode cX3_becomeFirst 19 = .ok (.aload_n 0, 1) := by decide +kernel
theorem dX3_becomeFirst_20 : decode cX3_becomeFirst 20 = .ok (.aload_n 0, 1) := by decide +kernel
theorem dX3_becomeFirst_21 : decode cX3_becomeFirst 21 = .ok (.getfield 22, 3) := by decide +kernel
theorem dX3_becomeFirst_24 : decode cX3_becomeFirst 24 = .ok (.putfield 25, 3) := by decide +kernel
theorem dX3_becomeFirst_27 : decode cX3_becomeFirst 27 = .ok (.aload_n 0, 1) := by decide +kernel
theorem dX3_becomeFirst_28 : decode cX3_becomeFirst 28 = .ok (.iconst 0, 1) := by decide +kernel
theorem dX3_becomeFirst_29 : decode cX3_becomeFirst 29 = .ok (.iconst 0, 1) := by decide +kernel
theorem dX3_becomeFirst_30 : decode cX3_becomeFirst 30 = .ok (.iconst 0, 1) := by decide +kernel
theorem dX3_becomeFirst_31 : decode cX3_becomeFirst 31 = .ok (.invokestatic 28, 3) := by decide +kernel
theorem dX3_becomeFirst_34 : decode cX3_becomeFirst 34 = .ok (.putfield 32, 3) := by decide +kernel
theorem dX3_becomeFirst_37 : decode cX3_becomeFirst 37 = .ok (.aload_n 0, 1) := by decide +kernel
theorem dX3_becomeFirst_38 : decode cX3_becomeFirst 38 = .ok (.iconst 0, 1) := by decide +kernel
theorem dX3_becomeFirst_39 : decode cX3_becomeFirst 39 = .ok (.putfield 35, 3) := by decide +kernel
theorem dX3_becomeFirst_42 : decode cX3_becomeFirst 42 = .ok (.return_, 1) := by decide +kernel
theorem dX3_become_0 : decode cX3_become 0 = .ok (.aload_n 0, 1) := by decide +kernel
theorem dX3_become_1 : decode cX3_become 1 = .ok (.aload_n 1, 1) := by decide +kernel
theorem dX3_become_2 : decode cX3_become 2 = .ok (.getfield 9, 3) := by decide +kernel
theorem dX3_become_5 : decode cX3_become 5 = .ok (.putfield 9, 3) := by decide +kernel
theorem dX3_become_8 : decode cX3_become 8 = .ok (.aload_n 0, 1) := by decide +kernel
theorem dX3_become_9 : decode cX3_become 9 = .ok (.aload_n 1, 1) := by decide +kernel
theorem dX3_become_10 : decode cX3_become 10 = .ok (.getfield 15, 3) := by decide +kernel
theorem dX3_become_13 : decode cX3_become 13 = .ok (.putfield 15, 3) := by decide +kernel
theorem dX3_become_16 : decode cX3_become 16 = .ok (.aload_n 0, 1) := by decide +kernel
theorem dX3_become_17 : decode cX3_become 17 = .ok (.aload_n 1, 1) := by decide +kernel
theorem dX3_become_18 : decode cX3_become 18 = .ok (.getfield 22, 3) := by decide +kernel
theorem dX3_become_21 : decode cX3_become 21 = .ok (.putfield 22, 3) := by decide +kernel
theorem dX3_become_24 : decode cX3_become 24 = .ok (.aload_n 0, 1) := by decide +kernel
theorem dX3_become_25 : decode cX3_become 25 = .ok (.aload_n 1, 1) := by decide +kernel
theorem dX3_become_26 : decode cX3_become 26 = .ok (.getfield 25, 3) := by decide +kernel
theorem dX3_become_29 : decode cX3_become 29 = .ok (.putfield 25, 3) := by decide +kernel
theorem dX3_become_32 : decode cX3_become 32 = .ok (.aload_n 0, 1) := by decide +kernel
theorem dX3_become_33 : decode cX3_become 33 = .ok (.aload_n 1, 1) := by decide +kernel
theorem dX3_become_34 : decode cX3_become 34 = .ok (.getfield 32, 3) := by decide +kernel
theorem dX3_become_37 : decode cX3_become 37 = .ok (.putfield 32, 3) := by decide +kernel
theorem dX3_become_40 : decode cX3_become 40 = .ok (.aload_n 0, 1) := by decide +kernel
theorem dX3_become_41 : decode cX3_become 41 = .ok (.aload_n 1, 1) := by decide +kernel
theorem dX3_become_42 : decode cX3_become 42 = .ok (.getfield 35, 3) := by decide +kernel
theorem dX3_become_45 : decode cX3_become 45 = .ok (.putfield 35, 3) := by decide +kernel
theorem dX3_become_48 : decode cX3_become 48 = .ok (.return_, 1) := by decide +kernel
theorem dX3_isLike_0 : decode cX3_isLike 0 = .ok (.aload_n 0, 1) := by decide +kernel
theorem dX3_isLike_1 : decode cX3_isLike 1 = .ok (.getfield 9, 3) := by decide +kernel
theorem dX3_isLike_4 : decode cX3_isLike 4 = .ok (.aload_n 1, 1) := by decide +kernel
theorem dX3_isLike_5 : decode cX3_isLike 5 = .ok (.getfield 9, 3) := by decide +kernel
theorem dX3_isLike_8 : decode cX3_isLike 8 = .ok (.if_icmp .ne 51, 3) := by decide +kernel
theorem dX3_isLike_11 : decode cX3_isLike 11 = .ok (.aload_n 0, 1) := by decide +kernel
theorem dX3_isLike_12 : decode cX3_isLike 12 = .ok (.getfield 15, 3) := by decide +kernel
theorem dX3_isLike_15 : decode cX3_isLike 15 = .ok (.aload_n 1, 1) := by decide +kernel
theorem dX3_isLike_16 : decode cX3_isLike 16 = .ok (.getfield 15, 3) := by decide +kernel
theorem dX3_isLike_19 : decode cX3_isLike 19 = .ok (.if_icmp .ne 40, 3) := by decide +kernel
theorem dX3_isLike_22 : decode cX3_isLike 22 = .ok (.aload_n 0, 1) := by decide +kernel
theorem dX3_isLike_23 : decode cX3_isLike 23 = .ok (.getfield 35, 3) := by decide +kernel
theorem dX3_isLike_26 : decode cX3_isLike 26 = .ok (.aload_n 1, 1) := by decide +kernel
theorem dX3_isLike_27 : decode cX3_isLike 27 = .ok (.getfield 35, 3) := by decide +kernel
theorem dX3_isLike_30 : decode cX3_isLike 30 = .ok (.if_icmp .ne 29, 3) := by decide +kernel
theorem dX3_isLike_33 : decode cX3_isLike 33 = .ok (.aload_n 0, 1) := by decide +kernel
theorem dX3_isLike_34 : decode cX3_isLike 34 = .ok (.getfield 22, 3) := by decide +kernel
theorem dX3_isLike_37 : decode cX3_isLike 37 = .ok (.aload_n 1, 1) := by decide +kernel
theorem dX3_isLike_38 : decode cX3_isLike 38 = .ok (.getfield 22, 3) := by decide +kernel
theorem dX3_isLike_41 : decode cX3_isLike 41 = .ok (.if_icmp .ne 18, 3) := by decide +kernel
theorem dX3_isLike_44 : decode cX3_isLike 44 = .ok (.aload_n 0, 1) := by decide +kernel
theorem dX3_isLike_45 : decode cX3_isLike 45 = .ok (.getfield 25, 3) := by decide +kernel
theorem dX3_isLike_48 : decode cX3_isLike 48 = .ok (.aload_n 1, 1) := by decide +kernel
theorem dX3_isLike_49 : decode cX3_isLike 49 = .ok (.getfield 25, 3) := by decide +kernel
theorem dX3_isLike_52 : decode cX3_isLike 52 = .ok (.if_icmp .ne 7, 3) := by decide +kernel
theorem dX3_isLike_55 : decode cX3_isLike 55 = .ok (.iconst 1, 1) := by decide +kernel
theorem dX3_isLike_56 : decode cX3_isLike 56 = .ok (.goto 4, 3) := by decide +kernel
theorem dX3_isLike_59 : decode cX3_isLike 59 = .ok (.iconst 0, 1) := by decide +kernel
theorem dX3_isLike_60 : decode cX3_isLike 60 = .ok (.ireturn, 1) := by decide +kernel
theorem dX3_weight_0 : decode cX3_weight 0 = .ok (.aload_n 0, 1) := by decide +kernel
theorem dX3_weight_1 : decode cX3_weight 1 = .ok (.getfield 22, 3) := by decide +kernel
theorem dX3_weight_4 : decode cX3_weight 4 = .ok (.iload_n 1, 1) := by decide +kernel
theorem dX3_weight_5 : decode cX3_weight 5 = .ok (.ishr, 1) := by decide +kernel
theorem dX3_weight_6 : decode cX3_weight 6 = .ok (.iconst 1, 1) := by decide +kernel
theorem dX3_weight_7 : decode cX3_weight 7 = .ok (.iand, 1) := by decide +kernel
theorem dX3_weight_8 : decode cX3_weight 8 = .ok (.istore_n 2, 1) := by decide +kernel
theorem dX3_weight_9 : decode cX3_weight 9 = .ok (.aload_n 0, 1) := by decide +kernel
theorem dX3_weight_10 : decode cX3_weight 10 = .ok (.getfield 25, 3) := by decide +kernel
theorem dX3_weight_13 : decode cX3_weight 13 = .ok (.iload_n 1, 1) := by decide +kernel
theorem dX3_weight_14 : decode cX3_weight 14 = .ok (.ishr, 1) := by decide +kernel
theorem dX3_weight_15 : decode cX3_weight 15 = .ok (.iconst 1, 1) := by decide +kernel
theorem dX3_weight_16 : decode cX3_weight 16 = .ok (.iand, 1) := by decide +kernel
theorem dX3_weight_17 : decode cX3_weight 17 = .ok (.istore_n 3, 1) := by decide +kernel
theorem dX3_weight_18 : decode cX3_weight 18 = .ok (.iload_n 2, 1) := by decide +kernel
theorem dX3_weight_19 : decode cX3_weight 19 = .ok (.iload_n 3, 1) := by decide +kernel
theorem dX3_weight_20 : decode cX3_weight 20 = .ok (.iconst 4, 1) := by decide +kernel
theorem dX3_weight_21 : decode cX3_weight 21 = .ok (.ishl, 1) := by decide +kernel
theorem dX3_weight_22 : decode cX3_weight 22 = .ok (.ior, 1) := by decide +kernel
theorem dX3_weight_23 : decode cX3_weight 23 = .ok (.iload_n 2, 1) := by decide +kernel
theorem dX3_weight_24 : decode cX3_weight 24 = .ok (.iload_n 3, 1) := by decide +kernel
theorem dX3_weight_25 : decode cX3_weight 25 = .ok (.iand, 1) := by decide +kernel
theorem dX3_weight_26 : decode cX3_weight 26 = .ok (.bipush 8, 2) := by decide +kernel
theorem dX3_weight_28 : decode cX3_weight 28 = .ok (.ishl, 1) := by decide +kernel
theorem dX3_weight_29 : decode cX3_weight 29 = .ok (.ior, 1) := by decide +kernel
theorem dX3_weight_30 : decode cX3_weight 30 = .ok (.ireturn, 1) := by decide +kernel
theorem dX3_isTrue_0 : decode cX3_isTrue 0 = .ok (.aload_n 0, 1) := by decide +kernel
theorem dX3_isTrue_1 : decode cX3_isTrue 1 = .ok (.getfield 35, 3) := by decide +kernel
theorem dX3_isTrue_4 : decode cX3_isTrue 4 = .ok (.aload_n 0, 1) := by decide +kernel
theorem dX3_isTrue_5 : decode cX3_isTrue 5 = .ok (.iload_n 1, 1) := by decide +kernel
theorem dX3_isTrue_6 : decode cX3_isTrue 6 = .ok (.bipush 15, 2) := by decide +kernel
theorem dX3_isTrue_8 : decode cX3_isTrue 8 = .ok (.iand, 1) := by decide +kernel
theorem dX3_isTrue_9 : decode cX3_isTrue 9 = .ok (.iload_n 1, 1) := by decide +kernel
theorem dX3_isTrue_10 : decode cX3_isTrue 10 = .ok (.iconst 4, 1) := by decide +kernel
theorem dX3_isTrue_11 : decode cX3_isTrue 11 = .ok (.ishr, 1) := by decide +kernel
theorem dX3_isTrue_12 : decode cX3_isTrue 12 = .ok (.bipush 15, 2) := by decide +kernel
theorem dX3_isTrue_14 : decode cX3_isTrue 14 = .ok (.iand, 1) := by decide +kernel
theorem dX3_isTrue_15 : decode cX3_isTrue 15 = .ok (.iload_n 1, 1) := by decide +kernel
theorem dX3_isTrue_16 : decode cX3_isTrue 16 = .ok (.bipush 8, 2) := by decide +kernel
theorem dX3_isTrue_18 : decode cX3_isTrue 18 = .ok (.ishr, 1) := by decide +kernel
theorem dX3_isTrue_19 : decode cX3_isTrue 19 = .ok (.bipush 15, 2) := by decide +kernel
theorem dX3_isTrue_21 : decode cX3_isTrue 21 = .ok (.iand, 1) := by decide +kernel
theorem dX3_isTrue_22 : decode cX3_isTrue 22 = .ok (.invokevirtual 39, 3) := by decide +kernel
theorem dX3_isTrue_25 : decode cX3_isTrue 25 = .ok (.if_icmp .eq 7, 3) := by decide +kernel
theorem dX3_isTrue_28 : decode cX3_isTrue 28 = .ok (.iconst 1, 1) := by decide +kernel
theorem dX3_isTrue_29 : decode cX3_isTrue 29 = .ok (.goto 4, 3) := by decide +kernel
theorem dX3_isTrue_32 : decode cX3_isTrue 32 = .ok (.iconst 0, 1) := by decide +kernel
theorem dX3_isTrue_33 : decode cX3_isTrue 33 = .ok (.ireturn, 1) := by decide +kernel
theorem dX3_isTrueUnturned_0 : decode cX3_isTrueUnturned 0 = .ok (.aload_n 0, 1) := by decide +kernel
theorem dX3_isTrueUnturned_1 : decode cX3_isTrueUnturned 1 = .ok (.getfield 9, 3) := by decide +kernel
theorem dX3_isTrueUnturned_4 : decode cX3_isTrueUnturned 4 = .ok (.tableswitch 127 0 6 #[44, 55, 65, 75, 88, 102, 116], 44) := by decide +kernel
theorem dX3_isTrueUnturned_48 : decode cX3_isTrueUnturned 48 = .ok (.iload_n 3, 1) := by decide +kernel
theorem dX3_isTrueUnturned_49 : decode cX3_isTrueUnturned 49 = .ok (.iload_n 1, 1) := by decide +kernel
theorem dX3_isTrueUnturned_50 : decode cX3_isTrueUnturned 50 = .ok (.if_icmp .ne 7, 3) := by decide +kernel
theorem dX3_isTrueUnturned_53 : decode cX3_isTrueUnturned 53 = .ok (.iconst 1, 1) := by decide +kernel
theorem dX3_isTrueUnturned_54 : decode cX3_isTrueUnturned 54 = .ok (.goto 4, 3) := by decide +kernel
theorem dX3_isTrueUnturned_57 : decode cX3_isTrueUnturned 57 = .ok (.iconst 0, 1) := by decide +kernel
theorem dX3_isTrueUnturned_58 : decode cX3_isTrueUnturned 58 = .ok (.ireturn, 1) := by decide +kernel
theorem dX3_isTrueUnturned_59 : decode cX3_isTrueUnturned 59 = .ok (.iload_n 3, 1) := by decide +kernel
theorem dX3_isTrueUnturned_60 : decode cX3_isTrueUnturned 60 = .ok (.ifCond .le 7, 3) := by decide +kernel
theorem dX3_isTrueUnturned_63 : decode cX3_isTrueUnturned 63 = .ok (.iconst 1, 1) := by decide +kernel
theorem dX3_isTrueUnturned_64 : decode cX3_isTrueUnturned 64 = .ok (.goto 4, 3) := by decide +kernel
theorem dX3_isTrueUnturned_67 : decode cX3_isTrueUnturned 67 = .ok (.iconst 0, 1) := by decide +kernel
theorem dX3_isTrueUnturned_68 : decode cX3_isTrueUnturned 68 = .ok (.ireturn, 1) := by decide +kernel
theorem dX3_isTrueUnturned_69 : decode cX3_isTrueUnturned 69 = .ok (.iload_n 3, 1) := by decide +kernel
theorem dX3_isTrueUnturned_70 : decode cX3_isTrueUnturned 70 = .ok (.ifCond .ne 7, 3) := by decide +kernel
theorem dX3_isTrueUnturned_73 : decode cX3_isTrueUnturned 73 = .ok (.iconst 1, 1) := by decide +kernel
theorem dX3_isTrueUnturned_74 : decode cX3_isTrueUnturned 74 = .ok (.goto 4, 3) := by decide +kernel
theorem dX3_isTrueUnturned_77 : decode cX3_isTrueUnturned 77 = .ok (.iconst 0, 1) := by decide +kernel
theorem dX3_isTrueUnturned_78 : decode cX3_isTrueUnturned 78 = .ok (.ireturn, 1) := by decide +kernel
theorem dX3_isTrueUnturned_79 : decode cX3_isTrueUnturned 79 = .ok (.iconst 2, 1) := by decide +kernel
theorem dX3_isTrueUnturned_80 : decode cX3_isTrueUnturned 80 = .ok (.iload_n 3, 1) := by decide +kernel
theorem dX3_isTrueUnturned_81 : decode cX3_isTrueUnturned 81 = .ok (.imul, 1) := by decide +kernel
theorem dX3_isTrueUnturned_82 : decode cX3_isTrueUnturned 82 = .ok (.iload_n 1, 1) := by decide +kernel
theorem dX3_isTrueUnturned_83 : decode cX3_isTrueUnturned 83 = .ok (.if_icmp .le 7, 3) := by decide +kernel
theorem dX3_isTrueUnturned_86 : decode cX3_isTrueUnturned 86 = .ok (.iconst 1, 1) := by decide +kernel
theorem dX3_isTrueUnturned_87 : decode cX3_isTrueUnturned 87 = .ok (.goto 4, 3) := by decide +kernel
theorem dX3_isTrueUnturned_90 : decode cX3_isTrueUnturned 90 = .ok (.iconst 0, 1) := by decide +kernel
theorem dX3_isTrueUnturned_91 : decode cX3_isTrueUnturned 91 = .ok (.ireturn, 1) := by decide +kernel
theorem dX3_isTrueUnturned_92 : decode cX3_isTrueUnturned 92 = .ok (.iload_n 3, 1) := by decide +kernel
theorem dX3_isTrueUnturned_93 : decode cX3_isTrueUnturned 93 = .ok (.aload_n 0, 1) := by decide +kernel
theorem dX3_isTrueUnturned_94 : decode cX3_isTrueUnturned 94 = .ok (.getfield 15, 3) := by decide +kernel
theorem dX3_isTrueUnturned_97 : decode cX3_isTrueUnturned 97 = .ok (.if_icmp .lt 7, 3) := by decide +kernel
theorem dX3_isTrueUnturned_100 : decode cX3_isTrueUnturned 100 = .ok (.iconst 1, 1) := by decide +kernel
theorem dX3_isTrueUnturned_101 : decode cX3_isTrueUnturned 101 = .ok (.goto 4, 3) := by decide +kernel
theorem dX3_isTrueUnturned_104 : decode cX3_isTrueUnturned 104 = .ok (.iconst 0, 1) := by decide +kernel
theorem dX3_isTrueUnturned_105 : decode cX3_isTrueUnturned 105 = .ok (.ireturn, 1) := by decide +kernel
theorem dX3_isTrueUnturned_106 : decode cX3_isTrueUnturned 106 = .ok (.iload_n 3, 1) := by decide +kernel
theorem dX3_isTrueUnturned_107 : decode cX3_isTrueUnturned 107 = .ok (.aload_n 0, 1) := by decide +kernel
theorem dX3_isTrueUnturned_108 : decode cX3_isTrueUnturned 108 = .ok (.getfield 15, 3) := by decide +kernel
theorem dX3_isTrueUnturned_111 : decode cX3_isTrueUnturned 111 = .ok (.if_icmp .ne 7, 3) := by decide +kernel
theorem dX3_isTrueUnturned_114 : decode cX3_isTrueUnturned 114 = .ok (.iconst 1, 1) := by decide +kernel
theorem dX3_isTrueUnturned_115 : decode cX3_isTrueUnturned 115 = .ok (.goto 4, 3) := by decide +kernel
theorem dX3_isTrueUnturned_118 : decode cX3_isTrueUnturned 118 = .ok (.iconst 0, 1) := by decide +kernel
theorem dX3_isTrueUnturned_119 : decode cX3_isTrueUnturned 119 = .ok (.ireturn, 1) := by decide +kernel
theorem dX3_isTrueUnturned_120 : decode cX3_isTrueUnturned 120 = .ok (.iload_n 1, 1) := by decide +kernel
theorem dX3_isTrueUnturned_121 : decode cX3_isTrueUnturned 121 = .ok (.iload_n 2, 1) := by decide +kernel
theorem dX3_isTrueUnturned_122 : decode cX3_isTrueUnturned 122 = .ok (.if_icmp .le 7, 3) := by decide +kernel
theorem dX3_isTrueUnturned_125 : decode cX3_isTrueUnturned 125 = .ok (.iconst 1, 1) := by decide +kernel
theorem dX3_isTrueUnturned_126 : decode cX3_isTrueUnturned 126 = .ok (.goto 4, 3) := by decide +kernel
theorem dX3_isTrueUnturned_129 : decode cX3_isTrueUnturned 129 = .ok (.iconst 0, 1) := by decide +kernel
theorem dX3_isTrueUnturned_130 : decode cX3_isTrueUnturned 130 = .ok (.ireturn, 1) := by decide +kernel
theorem dX3_isTrueUnturned_131 : decode cX3_isTrueUnturned 131 = .ok (.iload_n 1, 1) := by decide +kernel
theorem dX3_isTrueUnturned_132 : decode cX3_isTrueUnturned 132 = .ok (.iload_n 2, 1) := by decide +kernel
theorem dX3_isTrueUnturned_133 : decode cX3_isTrueUnturned 133 = .ok (.if_icmp .ne 7, 3) := by decide +kernel
theorem dX3_isTrueUnturned_136 : decode cX3_isTrueUnturned 136 = .ok (.iconst 1, 1) := by decide +kernel
theorem dX3_isTrueUnturned_137 : decode cX3_isTrueUnturned 137 = .ok (.goto 4, 3) := by decide +kernel
theorem dX3_isTrueUnturned_140 : decode cX3_isTrueUnturned 140 = .ok (.iconst 0, 1) := by decide +kernel
theorem dX3_isTrueUnturned_141 : decode cX3_isTrueUnturned 141 = .ok (.ireturn, 1) := by decide +kernel
theorem dX4_init_0 : decode cX4_init 0 = .ok (.aload_n 0, 1) := by decide +kernel
theorem dX4_init_1 : decode cX4_init 1 = .ok (.invokespecial 3, 3) := by decide +kernel
theorem dX4_init_4 : decode cX4_init 4 = .ok (.aload_n 0, 1) := by decide +kernel
theorem dX4_init_5 : decode cX4_init 5 = .ok (.bipush 80, 2) := by decide +kernel
theorem dX4_init_7 : decode cX4_init 7 = .ok (.newarray .char, 2) := by decide +kernel
theorem dX4_init_9 : decode cX4_init 9 = .ok (.putfield 9, 3) := by decide +kernel
theorem dX4_init_12 : decode cX4_init 12 = .ok (.return_, 1) := by decide +kernel
theorem dX4_append_0 : decode cX4_append 0 = .ok (.iload_n 3, 1) := by decide +kernel
theorem dX4_append_1 : decode cX4_append 1 = .ok (.iconst 1, 1) := by decide +kernel
theorem dX4_append_2 : decode cX4_append 2 = .ok (.isub, 1) := by decide +kernel
theorem dX4_append_3 : decode cX4_append 3 = .ok (.istore 4, 2) := by decide +kernel
theorem dX4_append_5 : decode cX4_append 5 = .ok (.iload 4, 2) := by decide +kernel
theorem dX4_append_7 : decode cX4_append 7 = .ok (.ifCond .lt 60, 3) := by decide +kernel
theorem dX4_append_10 : decode cX4_append 10 = .ok (.aload_n 0, 1) := by decide +kernel
theorem dX4_append_11 : decode cX4_append 11 = .ok (.getfield 15, 3) := by decide +kernel
theorem dX4_append_14 : decode cX4_append 14 = .ok (.ifCond .lt 53, 3) := by decide +kernel
theorem dX4_append_17 : decode cX4_append 17 = .ok (.aload_n 0, 1) := by decide +kernel
theorem dX4_append_18 : decode cX4_append 18 = .ok (.getfield 15, 3) := by decide +kernel
theorem dX4_append_21 : decode cX4_append 21 = .ok (.aload_n 0, 1) := by decide +kernel
theorem dX4_append_22 : decode cX4_append 22 = .ok (.getfield 9, 3) := by decide +kernel
theorem dX4_append_25 : decode cX4_append 25 = .ok (.arraylength, 1) := by decide +kernel
theorem dX4_append_26 : decode cX4_append 26 = .ok (.if_icmp .ge 41, 3) := by decide +kernel
theorem dX4_append_29 : decode cX4_append 29 = .ok (.aload_n 0, 1) := by decide +kernel
theorem dX4_append_30 : decode cX4_append 30 = .ok (.getfield 9, 3) := by decide +kernel
theorem dX4_append_33 : decode cX4_append 33 = .ok (.aload_n 0, 1) := by decide +kernel
theorem dX4_append_34 : decode cX4_append 34 = .ok (.getfield 15, 3) := by decide +kernel
theorem dX4_append_37 : decode cX4_append 37 = .ok (.lload_n 1, 1) := by decide +kernel
theorem dX4_append_38 : decode cX4_append 38 = .ok (.bipush 8, 2) := by decide +kernel
theorem dX4_append_40 : decode cX4_append 40 = .ok (.iload 4, 2) := by decide +kernel
theorem dX4_append_42 : decode cX4_append 42 = .ok (.imul, 1) := by decide +kernel
theorem dX4_append_43 : decode cX4_append 43 = .ok (.lushr, 1) := by decide +kernel
theorem dX4_append_44 : decode cX4_append 44 = .ok (.ldc2_w 19, 3) := by decide +kernel
theorem dX4_append_47 : decode cX4_append 47 = .ok (.land, 1) := by decide +kernel
theorem dX4_append_48 : decode cX4_append 48 = .ok (.l2i, 1) := by decide +kernel
theorem dX4_append_49 : decode cX4_append 49 = .ok (.i2c, 1) := by decide +kernel
theorem dX4_append_50 : decode cX4_append 50 = .ok (.castore, 1) := by decide +kernel
theorem dX4_append_51 : decode cX4_append 51 = .ok (.aload_n 0, 1) := by decide +kernel
theorem dX4_append_52 : decode cX4_append 52 = .ok (.dup, 1) := by decide +kernel
theorem dX4_append_53 : decode cX4_append 53 = .ok (.getfield 15, 3) := by decide +kernel
theorem dX4_append_56 : decode cX4_append 56 = .ok (.iconst 1, 1) := by decide +kernel
theorem dX4_append_57 : decode cX4_append 57 = .ok (.iadd, 1) := by decide +kernel
theorem dX4_append_58 : decode cX4_append 58 = .ok (.putfield 15, 3) := by decide +kernel
theorem dX4_append_61 : decode cX4_append 61 = .ok (.iinc 4 (-1), 3) := by decide +kernel
theorem dX4_append_64 : decode cX4_append 64 = .ok (.goto (-59), 3) := by decide +kernel
theorem dX4_append_67 : decode cX4_append 67 = .ok (.return_, 1) := by decide +kernel
theorem dX4_begin_0 : decode cX4_begin 0 = .ok (.aload_n 0, 1) := by decide +kernel
theorem dX4_begin_1 : decode cX4_begin 1 = .ok (.iconst 0, 1) := by decide +kernel
theorem dX4_begin_2 : decode cX4_begin 2 = .ok (.putfield 21, 3) := by decide +kernel
theorem dX4_begin_5 : decode cX4_begin 5 = .ok (.aload_n 0, 1) := by decide +kernel
theorem dX4_begin_6 : decode cX4_begin 6 = .ok (.iconst (-1), 1) := by decide +kernel
theorem dX4_begin_7 : decode cX4_begin 7 = .ok (.putfield 24, 3) := by decide +kernel
theorem dX4_begin_10 : decode cX4_begin 10 = .ok (.aload_n 0, 1) := by decide +kernel
theorem dX4_begin_11 : decode cX4_begin 11 = .ok (.invokevirtual 27, 3) := by decide +kernel
theorem dX4_begin_14 : decode cX4_begin 14 = .ok (.return_, 1) := by decide +kernel
theorem dX4_advance_0 : decode cX4_advance 0 = .ok (.aload_n 0, 1) := by decide +kernel
theorem dX4_advance_1 : decode cX4_advance 1 = .ok (.dup, 1) := by decide +kernel
theorem dX4_advance_2 : decode cX4_advance 2 = .ok (.getfield 24, 3) := by decide +kernel
theorem dX4_advance_5 : decode cX4_advance 5 = .ok (.iconst 1, 1) := by decide +kernel
theorem dX4_advance_6 : decode cX4_advance 6 = .ok (.iadd, 1) := by decide +kernel
theorem dX4_advance_7 : decode cX4_advance 7 = .ok (.putfield 24, 3) := by decide +kernel
theorem dX4_advance_10 : decode cX4_advance 10 = .ok (.aload_n 0, 1) := by decide +kernel
theorem dX4_advance_11 : decode cX4_advance 11 = .ok (.getfield 21, 3) := by decide +kernel
theorem dX4_advance_14 : decode cX4_advance 14 = .ok (.aload_n 0, 1) := by decide +kernel
theorem dX4_advance_15 : decode cX4_advance 15 = .ok (.getfield 15, 3) := by decide +kernel
theorem dX4_advance_18 : decode cX4_advance 18 = .ok (.if_icmp .ge 29, 3) := by decide +kernel
theorem dX4_advance_21 : decode cX4_advance 21 = .ok (.aload_n 0, 1) := by decide +kernel
theorem dX4_advance_22 : decode cX4_advance 22 = .ok (.aload_n 0, 1) := by decide +kernel
theorem dX4_advance_23 : decode cX4_advance 23 = .ok (.getfield 21, 3) := by decide +kernel
theorem dX4_advance_26 : decode cX4_advance 26 = .ok (.invokevirtual 30, 3) := by decide +kernel
theorem dX4_advance_29 : decode cX4_advance 29 = .ok (.bipush 32, 2) := by decide +kernel
theorem dX4_advance_31 : decode cX4_advance 31 = .ok (.if_icmp .ne 16, 3) := by decide +kernel
theorem dX4_advance_34 : decode cX4_advance 34 = .ok (.aload_n 0, 1) := by decide +kernel
theorem dX4_advance_35 : decode cX4_advance 35 = .ok (.dup, 1) := by decide +kernel
theorem dX4_advance_36 : decode cX4_advance 36 = .ok (.getfield 21, 3) := by decide +kernel
theorem dX4_advance_39 : decode cX4_advance 39 = .ok (.iconst 1, 1) := by decide +kernel
theorem dX4_advance_40 : decode cX4_advance 40 = .ok (.iadd, 1) := by decide +kernel
theorem dX4_advance_41 : decode cX4_advance 41 = .ok (.putfield 21, 3) := by decide +kernel
theorem dX4_advance_44 : decode cX4_advance 44 = .ok (.goto (-34), 3) := by decide +kernel
theorem dX4_advance_47 : decode cX4_advance 47 = .ok (.aload_n 0, 1) := by decide +kernel
theorem dX4_advance_48 : decode cX4_advance 48 = .ok (.aload_n 0, 1) := by decide +kernel
theorem dX4_advance_49 : decode cX4_advance 49 = .ok (.getfield 21, 3) := by decide +kernel
theorem dX4_advance_52 : decode cX4_advance 52 = .ok (.putfield 34, 3) := by decide +kernel
theorem dX4_advance_55 : decode cX4_advance 55 = .ok (.aload_n 0, 1) := by decide +kernel
theorem dX4_advance_56 : decode cX4_advance 56 = .ok (.iconst 0, 1) := by decide +kernel
theorem dX4_advance_57 : decode cX4_advance 57 = .ok (.putfield 37, 3) := by decide +kernel
theorem dX4_advance_60 : decode cX4_advance 60 = .ok (.aload_n 0, 1) := by decide +kernel
theorem dX4_advance_61 : decode cX4_advance 61 = .ok (.aload_n 0, 1) := by decide +kernel
theorem dX4_advance_62 : decode cX4_advance 62 = .ok (.getfield 34, 3) := by decide +kernel
theorem dX4_advance_65 : decode cX4_advance 65 = .ok (.invokevirtual 30, 3) := by decide +kernel
theorem dX4_advance_68 : decode cX4_advance 68 = .ok (.istore_n 1, 1) := by decide +kernel
theorem dX4_advance_69 : decode cX4_advance 69 = .ok (.iload_n 1, 1) := by decide +kernel
theorem dX4_advance_70 : decode cX4_advance 70 = .ok (.ifCond .ge 11, 3) := by decide +kernel
theorem dX4_advance_73 : decode cX4_advance 73 = .ok (.aload_n 0, 1) := by decide +kernel
theorem dX4_advance_74 : decode cX4_advance 74 = .ok (.iconst 0, 1) := by decide +kernel
theorem dX4_advance_75 : decode cX4_advance 75 = .ok (.putfield 40, 3) := by decide +kernel
theorem dX4_advance_78 : decode cX4_advance 78 = .ok (.goto 36, 3) := by decide +kernel
theorem dX4_advance_81 : decode cX4_advance 81 = .ok (.iload_n 1, 1) := by decide +kernel
theorem dX4_advance_82 : decode cX4_advance 82 = .ok (.invokestatic 43, 3) := by decide +kernel
theorem dX4_advance_85 : decode cX4_advance 85 = .ok (.ifCond .eq 10, 3) := by decide +kernel
theorem dX4_advance_88 : decode cX4_advance 88 = .ok (.aload_n 0, 1) := by decide +kernel
theorem dX4_advance_89 : decode cX4_advance 89 = .ok (.invokevirtual 47, 3) := by decide +kernel
theorem dX4_advance_92 : decode cX4_advance 92 = .ok (.goto 22, 3) := by decide +kernel
theorem dX4_advance_95 : decode cX4_advance 95 = .ok (.iload_n 1, 1) := by decide +kernel
theorem dX4_advance_96 : decode cX4_advance 96 = .ok (.invokestatic 50, 3) := by decide +kernel
theorem dX4_advance_99 : decode cX4_advance 99 = .ok (.ifCond .eq 10, 3) := by decide +kernel
theorem dX4_advance_102 : decode cX4_advance 102 = .ok (.aload_n 0, 1) := by decide +kernel
theorem dX4_advance_103 : decode cX4_advance 103 = .ok (.invokevirtual 53, 3) := by decide +kernel
theorem dX4_advance_106 : decode cX4_advance 106 = .ok (.goto 8, 3) := by decide +kernel
theorem dX4_advance_109 : decode cX4_advance 109 = .ok (.aload_n 0, 1) := by decide +kernel
theorem dX4_advance_110 : decode cX4_advance 110 = .ok (.iload_n 1, 1) := by decide +kernel
theorem dX4_advance_111 : decode cX4_advance 111 = .ok (.invokevirtual 56, 3) := by decide +kernel
theorem dX4_advance_114 : decode cX4_advance 114 = .ok (.return_, 1) := by decide +kernel
theorem dX4_takeWord_0 : decode cX4_takeWord 0 = .ok (.lconst 0, 1) := by decide +kernel
theorem dX4_takeWord_1 : decode cX4_takeWord 1 = .ok (.lstore_n 1, 1) := by decide +kernel
theorem dX4_takeWord_2 : decode cX4_takeWord 2 = .ok (.aload_n 0, 1) := by decide +kernel
theorem dX4_takeWord_3 : decode cX4_takeWord 3 = .ok (.getfield 21, 3) := by decide +kernel
theorem dX4_takeWord_6 : decode cX4_takeWord 6 = .ok (.aload_n 0, 1) := by decide +kernel
theorem dX4_takeWord_7 : decode cX4_takeWord 7 = .ok (.getfield 15, 3) := by decide +kernel
theorem dX4_takeWord_10 : decode cX4_takeWord 10 = .ok (.if_icmp .ge 45, 3) := by decide +kernel
theorem dX4_takeWord_13 : decode cX4_takeWord 13 = .ok (.aload_n 0, 1) := by decide +kernel
theorem dX4_takeWord_14 : decode cX4_takeWord 14 = .ok (.aload_n 0, 1) := by decide +kernel
theorem dX4_takeWord_15 : decode cX4_takeWord 15 = .ok (.getfield 21, 3) := by decide +kernel
theorem dX4_takeWord_18 : decode cX4_takeWord 18 = .ok (.invokevirtual 30, 3) := by decide +kernel
theorem dX4_takeWord_21 : decode cX4_takeWord 21 = .ok (.invokestatic 43, 3) := by decide +kernel
theorem dX4_takeWord_24 : decode cX4_takeWord 24 = .ok (.ifCond .eq 31, 3) := by decide +kernel
theorem dX4_takeWord_27 : decode cX4_takeWord 27 = .ok (.lload_n 1, 1) := by decide +kernel
theorem dX4_takeWord_28 : decode cX4_takeWord 28 = .ok (.bipush 8, 2) := by decide +kernel
theorem dX4_takeWord_30 : decode cX4_takeWord 30 = .ok (.lshl, 1) := by decide +kernel
theorem dX4_takeWord_31 : decode cX4_takeWord 31 = .ok (.aload_n 0, 1) := by decide +kernel
theorem dX4_takeWord_32 : decode cX4_takeWord 32 = .ok (.aload_n 0, 1) := by decide +kernel
theorem dX4_takeWord_33 : decode cX4_takeWord 33 = .ok (.getfield 21, 3) := by decide +kernel
theorem dX4_takeWord_36 : decode cX4_takeWord 36 = .ok (.invokevirtual 30, 3) := by decide +kernel
theorem dX4_takeWord_39 : decode cX4_takeWord 39 = .ok (.i2l, 1) := by decide +kernel
theorem dX4_takeWord_40 : decode cX4_takeWord 40 = .ok (.lor, 1) := by decide +kernel
theorem dX4_takeWord_41 : decode cX4_takeWord 41 = .ok (.lstore_n 1, 1) := by decide +kernel
theorem dX4_takeWord_42 : decode cX4_takeWord 42 = .ok (.aload_n 0, 1) := by decide +kernel
theorem dX4_takeWord_43 : decode cX4_takeWord 43 = .ok (.dup, 1) := by decide +kernel
theorem dX4_takeWord_44 : decode cX4_takeWord 44 = .ok (.getfield 21, 3) := by decide +kernel
theorem dX4_takeWord_47 : decode cX4_takeWord 47 = .ok (.iconst 1, 1) := by decide +kernel
theorem dX4_takeWord_48 : decode cX4_takeWord 48 = .ok (.iadd, 1) := by decide +kernel
theorem dX4_takeWord_49 : decode cX4_takeWord 49 = .ok (.putfield 21, 3) := by decide +kernel
theorem dX4_takeWord_52 : decode cX4_takeWord 52 = .ok (.goto (-50), 3) := by decide +kernel
theorem dX4_takeWord_55 : decode cX4_takeWord 55 = .ok (.aload_n 0, 1) := by decide +kernel
theorem dX4_takeWord_56 : decode cX4_takeWord 56 = .ok (.iconst 1, 1) := by decide +kernel
theorem dX4_takeWord_57 : decode cX4_takeWord 57 = .ok (.putfield 40, 3) := by decide +kernel
theorem dX4_takeWord_60 : decode cX4_takeWord 60 = .ok (.iconst 0, 1) := by decide +kernel
theorem dX4_takeWord_61 : decode cX4_takeWord 61 = .ok (.istore_n 3, 1) := by decide +kernel
theorem dX4_takeWord_62 : decode cX4_takeWord 62 = .ok (.iload_n 3, 1) := by decide +kernel
theorem dX4_takeWord_63 : decode cX4_takeWord 63 = .ok (.getstatic 60, 3) := by decide +kernel
theorem dX4_takeWord_66 : decode cX4_takeWord 66 = .ok (.arraylength, 1) := by decide +kernel
theorem dX4_takeWord_67 : decode cX4_takeWord 67 = .ok (.if_icmp .ge 29, 3) := by decide +kernel
theorem dX4_takeWord_70 : decode cX4_takeWord 70 = .ok (.getstatic 60, 3) := by decide +kernel
theorem dX4_takeWord_73 : decode cX4_takeWord 73 = .ok (.iload_n 3, 1) := by decide +kernel
theorem dX4_takeWord_74 : decode cX4_takeWord 74 = .ok (.laload, 1) := by decide +kernel
theorem dX4_takeWord_75 : decode cX4_takeWord 75 = .ok (.lload_n 1, 1) := by decide +kernel
theorem dX4_takeWord_76 : decode cX4_takeWord 76 = .ok (.lcmp, 1) := by decide +kernel
theorem dX4_takeWord_77 : decode cX4_takeWord 77 = .ok (.ifCond .ne 13, 3) := by decide +kernel
theorem dX4_takeWord_80 : decode cX4_takeWord 80 = .ok (.aload_n 0, 1) := by decide +kernel
theorem dX4_takeWord_81 : decode cX4_takeWord 81 = .ok (.iconst 2, 1) := by decide +kernel
theorem dX4_takeWord_82 : decode cX4_takeWord 82 = .ok (.putfield 40, 3) := by decide +kernel
theorem dX4_takeWord_85 : decode cX4_takeWord 85 = .ok (.aload_n 0, 1) := by decide +kernel
theorem dX4_takeWord_86 : decode cX4_takeWord 86 = .ok (.iload_n 3, 1) := by decide +kernel
theorem dX4_takeWord_87 : decode cX4_takeWord 87 = .ok (.putfield 37, 3) := by decide +kernel
theorem dX4_takeWord_90 : decode cX4_takeWord 90 = .ok (.iinc 3 1, 3) := by decide +kernel
theorem dX4_takeWord_93 : decode cX4_takeWord 93 = .ok (.goto (-31), 3) := by decide +kernel
theorem dX4_takeWord_96 : decode cX4_takeWord 96 = .ok (.return_, 1) := by decide +kernel
theorem dX4_takeNumber_0 : decode cX4_takeNumber 0 = .ok (.aload_n 0, 1) := by decide +kernel
theorem dX4_takeNumber_1 : decode cX4_takeNumber 1 = .ok (.getfield 21, 3) := by decide +kernel
theorem dX4_takeNumber_4 : decode cX4_takeNumber 4 = .ok (.aload_n 0, 1) := by decide +kernel
theorem dX4_takeNumber_5 : decode cX4_takeNumber 5 = .ok (.getfield 15, 3) := by decide +kernel
theorem dX4_takeNumber_8 : decode cX4_takeNumber 8 = .ok (.if_icmp .ge 59, 3) := by decide +kernel
theorem dX4_takeNumber_11 : decode cX4_takeNumber 11 = .ok (.aload_n 0, 1) := by decide +kernel
theorem dX4_takeNumber_12 : decode cX4_takeNumber 12 = .ok (.aload_n 0, 1) := by decide +kernel
theorem dX4_takeNumber_13 : decode cX4_takeNumber 13 = .ok (.getfield 21, 3) := by decide +kernel
theorem dX4_takeNumber_16 : decode cX4_takeNumber 16 = .ok (.invokevirtual 30, 3) := by decide +kernel
theorem dX4_takeNumber_19 : decode cX4_takeNumber 19 = .ok (.invokestatic 50, 3) := by decide +kernel
theorem dX4_takeNumber_22 : decode cX4_takeNumber 22 = .ok (.ifCond .eq 45, 3) := by decide +kernel
theorem dX4_takeNumber_25 : decode cX4_takeNumber 25 = .ok (.aload_n 0, 1) := by decide +kernel
theorem dX4_takeNumber_26 : decode cX4_takeNumber 26 = .ok (.bipush 10, 2) := by decide +kernel
theorem dX4_takeNumber_28 : decode cX4_takeNumber 28 = .ok (.aload_n 0, 1) := by decide +kernel
theorem dX4_takeNumber_29 : decode cX4_takeNumber 29 = .ok (.getfield 37, 3) := by decide +kernel
theorem dX4_takeNumber_32 : decode cX4_takeNumber 32 = .ok (.imul, 1) := by decide +kernel
theorem dX4_takeNumber_33 : decode cX4_takeNumber 33 = .ok (.aload_n 0, 1) := by decide +kernel
theorem dX4_takeNumber_34 : decode cX4_takeNumber 34 = .ok (.aload_n 0, 1) := by decide +kernel
