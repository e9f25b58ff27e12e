theorem dX11_waysToDraw_25 : decode cX11_waysToDraw 25 = .ok (.isub, 1) := by decide +kernel
theorem dX11_waysToDraw_26 : decode cX11_waysToDraw 26 = .ok (.iload 4, 2) := by decide +kernel
theorem dX11_waysToDraw_28 : decode cX11_waysToDraw 28 = .ok (.iadd, 1) := by decide +kernel
theorem dX11_waysToDraw_29 : decode cX11_waysToDraw 29 = .ok (.i2l, 1) := by decide +kernel
theorem dX11_waysToDraw_30 : decode cX11_waysToDraw 30 = .ok (.lmul, 1) := by decide +kernel
theorem dX11_waysToDraw_31 : decode cX11_waysToDraw 31 = .ok (.iload 4, 2) := by decide +kernel
theorem dX11_waysToDraw_33 : decode cX11_waysToDraw 33 = .ok (.i2l, 1) := by decide +kernel
theorem dX11_waysToDraw_34 : decode cX11_waysToDraw 34 = .ok (.ldiv, 1) := by decide +kernel
theorem dX11_waysToDraw_35 : decode cX11_waysToDraw 35 = .ok (.lstore_n 2, 1) := by decide +kernel
theorem dX11_waysToDraw_36 : decode cX11_waysToDraw 36 = .ok (.iinc 4 1, 3) := by decide +kernel
theorem dX11_waysToDraw_39 : decode cX11_waysToDraw 39 = .ok (.goto (-23), 3) := by decide +kernel
theorem dX11_waysToDraw_42 : decode cX11_waysToDraw 42 = .ok (.lload_n 2, 1) := by decide +kernel
theorem dX11_waysToDraw_43 : decode cX11_waysToDraw 43 = .ok (.lreturn, 1) := by decide +kernel
theorem dX11_commonDivisor_0 : decode cX11_commonDivisor 0 = .ok (.lload_n 0, 1) := by decide +kernel
theorem dX11_commonDivisor_1 : decode cX11_commonDivisor 1 = .ok (.lstore 4, 2) := by decide +kernel
theorem dX11_commonDivisor_3 : decode cX11_commonDivisor 3 = .ok (.lload_n 2, 1) := by decide +kernel
theorem dX11_commonDivisor_4 : decode cX11_commonDivisor 4 = .ok (.lstore 6, 2) := by decide +kernel
theorem dX11_commonDivisor_6 : decode cX11_commonDivisor 6 = .ok (.iconst 0, 1) := by decide +kernel
theorem dX11_commonDivisor_7 : decode cX11_commonDivisor 7 = .ok (.istore 8, 2) := by decide +kernel
theorem dX11_commonDivisor_9 : decode cX11_commonDivisor 9 = .ok (.iload 8, 2) := by decide +kernel
theorem dX11_commonDivisor_11 : decode cX11_commonDivisor 11 = .ok (.sipush 200, 3) := by decide +kernel
theorem dX11_commonDivisor_14 : decode cX11_commonDivisor 14 = .ok (.if_icmp .ge 31, 3) := by decide +kernel
theorem dX11_commonDivisor_17 : decode cX11_commonDivisor 17 = .ok (.lload 6, 2) := by decide +kernel
theorem dX11_commonDivisor_19 : decode cX11_commonDivisor 19 = .ok (.lconst 0, 1) := by decide +kernel
theorem dX11_commonDivisor_20 : decode cX11_commonDivisor 20 = .ok (.lcmp, 1) := by decide +kernel
theorem dX11_commonDivisor_21 : decode cX11_commonDivisor 21 = .ok (.ifCond .eq 24, 3) := by decide +kernel
theorem dX11_commonDivisor_24 : decode cX11_commonDivisor 24 = .ok (.lload 4, 2) := by decide +kernel
theorem dX11_commonDivisor_26 : decode cX11_commonDivisor 26 = .ok (.lload 6, 2) := by decide +kernel
theorem dX11_commonDivisor_28 : decode cX11_commonDivisor 28 = .ok (.lrem, 1) := by decide +kernel
theorem dX11_commonDivisor_29 : decode cX11_commonDivisor 29 = .ok (.lstore 9, 2) := by decide +kernel
theorem dX11_commonDivisor_31 : decode cX11_commonDivisor 31 = .ok (.lload 6, 2) := by decide +kernel
theorem dX11_commonDivisor_33 : decode cX11_commonDivisor 33 = .ok (.lstore 4, 2) := by decide +kernel
theorem dX11_commonDivisor_35 : decode cX11_commonDivisor 35 = .ok (.lload 9, 2) := by decide +kernel
theorem dX11_commonDivisor_37 : decode cX11_commonDivisor 37 = .ok (.lstore 6, 2) := by decide +kernel
theorem dX11_commonDivisor_39 : decode cX11_commonDivisor 39 = .ok (.iinc 8 1, 3) := by decide +kernel
theorem dX11_commonDivisor_42 : decode cX11_commonDivisor 42 = .ok (.goto (-33), 3) := by decide +kernel
theorem dX11_commonDivisor_45 : decode cX11_commonDivisor 45 = .ok (.lload 4, 2) := by decide +kernel
theorem dX11_commonDivisor_47 : decode cX11_commonDivisor 47 = .ok (.lreturn, 1) := by decide +kernel
theorem dX12_in_0 : decode cX12_in 0 = .ok (.lload_n 0, 1) := by decide +kernel
theorem dX12_in_1 : decode cX12_in 1 = .ok (.lload_n 2, 1) := by decide +kernel
theorem dX12_in_2 : decode cX12_in 2 = .ok (.lcmp, 1) := by decide +kernel
theorem dX12_in_3 : decode cX12_in 3 = .ok (.ifCond .lt 14, 3) := by decide +kernel
theorem dX12_in_6 : decode cX12_in 6 = .ok (.lload_n 0, 1) := by decide +kernel
theorem dX12_in_7 : decode cX12_in 7 = .ok (.lload 4, 2) := by decide +kernel
theorem dX12_in_9 : decode cX12_in 9 = .ok (.lcmp, 1) := by decide +kernel
theorem dX12_in_10 : decode cX12_in 10 = .ok (.ifCond .gt 7, 3) := by decide +kernel
theorem dX12_in_13 : decode cX12_in 13 = .ok (.iconst 1, 1) := by decide +kernel
theorem dX12_in_14 : decode cX12_in 14 = .ok (.goto 4, 3) := by decide +kernel
theorem dX12_in_17 : decode cX12_in 17 = .ok (.iconst 0, 1) := by decide +kernel
theorem dX12_in_18 : decode cX12_in 18 = .ok (.ireturn, 1) := by decide +kernel
theorem dX12_isBody_0 : decode cX12_isBody 0 = .ok (.iload_n 1, 1) := by decide +kernel
theorem dX12_isBody_1 : decode cX12_isBody 1 = .ok (.i2l, 1) := by decide +kernel
theorem dX12_isBody_2 : decode cX12_isBody 2 = .ok (.lconst 0, 1) := by decide +kernel
theorem dX12_isBody_3 : decode cX12_isBody 3 = .ok (.aload_n 0, 1) := by decide +kernel
theorem dX12_isBody_4 : decode cX12_isBody 4 = .ok (.getfield 177, 3) := by decide +kernel
theorem dX12_isBody_7 : decode cX12_isBody 7 = .ok (.iconst 1, 1) := by decide +kernel
theorem dX12_isBody_8 : decode cX12_isBody 8 = .ok (.isub, 1) := by decide +kernel
theorem dX12_isBody_9 : decode cX12_isBody 9 = .ok (.i2l, 1) := by decide +kernel
theorem dX12_isBody_10 : decode cX12_isBody 10 = .ok (.invokestatic 181, 3) := by decide +kernel
theorem dX12_isBody_13 : decode cX12_isBody 13 = .ok (.ireturn, 1) := by decide +kernel
theorem dX12_isDay_0 : decode cX12_isDay 0 = .ok (.iload_n 0, 1) := by decide +kernel
theorem dX12_isDay_1 : decode cX12_isDay 1 = .ok (.i2l, 1) := by decide +kernel
theorem dX12_isDay_2 : decode cX12_isDay 2 = .ok (.lconst 0, 1) := by decide +kernel
theorem dX12_isDay_3 : decode cX12_isDay 3 = .ok (.ldc2_w 185, 3) := by decide +kernel
theorem dX12_isDay_6 : decode cX12_isDay 6 = .ok (.invokestatic 181, 3) := by decide +kernel
theorem dX12_isDay_9 : decode cX12_isDay 9 = .ok (.ireturn, 1) := by decide +kernel
theorem dX12_day_0 : decode cX12_day 0 = .ok (.iload_n 1, 1) := by decide +kernel
theorem dX12_day_1 : decode cX12_day 1 = .ok (.i2l, 1) := by decide +kernel
theorem dX12_day_2 : decode cX12_day 2 = .ok (.aload_n 0, 1) := by decide +kernel
theorem dX12_day_3 : decode cX12_day 3 = .ok (.getfield 187, 3) := by decide +kernel
theorem dX12_day_6 : decode cX12_day 6 = .ok (.i2l, 1) := by decide +kernel
theorem dX12_day_7 : decode cX12_day 7 = .ok (.ldc2_w 185, 3) := by decide +kernel
theorem dX12_day_10 : decode cX12_day 10 = .ok (.invokestatic 181, 3) := by decide +kernel
theorem dX12_day_13 : decode cX12_day 13 = .ok (.ifCond .ne 5, 3) := by decide +kernel
theorem dX12_day_16 : decode cX12_day 16 = .ok (.iconst (-1), 1) := by decide +kernel
theorem dX12_day_17 : decode cX12_day 17 = .ok (.ireturn, 1) := by decide +kernel
theorem dX12_day_18 : decode cX12_day 18 = .ok (.aload_n 0, 1) := by decide +kernel
theorem dX12_day_19 : decode cX12_day 19 = .ok (.getfield 187, 3) := by decide +kernel
theorem dX12_day_22 : decode cX12_day 22 = .ok (.istore_n 2, 1) := by decide +kernel
theorem dX12_day_23 : decode cX12_day 23 = .ok (.aload_n 0, 1) := by decide +kernel
theorem dX12_day_24 : decode cX12_day 24 = .ok (.iload_n 1, 1) := by decide +kernel
theorem dX12_day_25 : decode cX12_day 25 = .ok (.putfield 187, 3) := by decide +kernel
theorem dX12_day_28 : decode cX12_day 28 = .ok (.iload_n 2, 1) := by decide +kernel
theorem dX12_day_29 : decode cX12_day 29 = .ok (.ireturn, 1) := by decide +kernel
theorem dX12_body_0 : decode cX12_body 0 = .ok (.iload_n 1, 1) := by decide +kernel
theorem dX12_body_1 : decode cX12_body 1 = .ok (.i2l, 1) := by decide +kernel
theorem dX12_body_2 : decode cX12_body 2 = .ok (.lconst 0, 1) := by decide +kernel
theorem dX12_body_3 : decode cX12_body 3 = .ok (.ldc2_w 190, 3) := by decide +kernel
theorem dX12_body_6 : decode cX12_body 6 = .ok (.invokestatic 181, 3) := by decide +kernel
theorem dX12_body_9 : decode cX12_body 9 = .ok (.ifCond .eq 27, 3) := by decide +kernel
theorem dX12_body_12 : decode cX12_body 12 = .ok (.iload_n 2, 1) := by decide +kernel
theorem dX12_body_13 : decode cX12_body 13 = .ok (.i2l, 1) := by decide +kernel
theorem dX12_body_14 : decode cX12_body 14 = .ok (.lconst 0, 1) := by decide +kernel
theorem dX12_body_15 : decode cX12_body 15 = .ok (.ldc2_w 192, 3) := by decide +kernel
theorem dX12_body_18 : decode cX12_body 18 = .ok (.invokestatic 181, 3) := by decide +kernel
theorem dX12_body_21 : decode cX12_body 21 = .ok (.ifCond .eq 15, 3) := by decide +kernel
theorem dX12_body_24 : decode cX12_body 24 = .ok (.iload_n 3, 1) := by decide +kernel
theorem dX12_body_25 : decode cX12_body 25 = .ok (.i2l, 1) := by decide +kernel
theorem dX12_body_26 : decode cX12_body 26 = .ok (.lconst 0, 1) := by decide +kernel
theorem dX12_body_27 : decode cX12_body 27 = .ok (.ldc2_w 194, 3) := by decide +kernel
theorem dX12_body_30 : decode cX12_body 30 = .ok (.invokestatic 181, 3) := by decide +kernel
theorem dX12_body_33 : decode cX12_body 33 = .ok (.ifCond .ne 5, 3) := by decide +kernel
theorem dX12_body_36 : decode cX12_body 36 = .ok (.iconst (-1), 1) := by decide +kernel
theorem dX12_body_37 : decode cX12_body 37 = .ok (.ireturn, 1) := by decide +kernel
theorem dX12_body_38 : decode cX12_body 38 = .ok (.aload_n 0, 1) := by decide +kernel
theorem dX12_body_39 : decode cX12_body 39 = .ok (.getfield 177, 3) := by decide +kernel
theorem dX12_body_42 : decode cX12_body 42 = .ok (.bipush 12, 2) := by decide +kernel
theorem dX12_body_44 : decode cX12_body 44 = .ok (.if_icmp .ne 6, 3) := by decide +kernel
theorem dX12_body_47 : decode cX12_body 47 = .ok (.bipush (-3), 2) := by decide +kernel
theorem dX12_body_49 : decode cX12_body 49 = .ok (.ireturn, 1) := by decide +kernel
theorem dX12_body_50 : decode cX12_body 50 = .ok (.aload_n 0, 1) := by decide +kernel
theorem dX12_body_51 : decode cX12_body 51 = .ok (.getfield 7, 3) := by decide +kernel
theorem dX12_body_54 : decode cX12_body 54 = .ok (.aload_n 0, 1) := by decide +kernel
theorem dX12_body_55 : decode cX12_body 55 = .ok (.getfield 177, 3) := by decide +kernel
theorem dX12_body_58 : decode cX12_body 58 = .ok (.iload_n 1, 1) := by decide +kernel
theorem dX12_body_59 : decode cX12_body 59 = .ok (.iastore, 1) := by decide +kernel
theorem dX12_body_60 : decode cX12_body 60 = .ok (.aload_n 0, 1) := by decide +kernel
theorem dX12_body_61 : decode cX12_body 61 = .ok (.getfield 13, 3) := by decide +kernel
theorem dX12_body_64 : decode cX12_body 64 = .ok (.aload_n 0, 1) := by decide +kernel
theorem dX12_body_65 : decode cX12_body 65 = .ok (.getfield 177, 3) := by decide +kernel
theorem dX12_body_68 : decode cX12_body 68 = .ok (.iload_n 2, 1) := by decide +kernel
theorem dX12_body_69 : decode cX12_body 69 = .ok (.iastore, 1) := by decide +kernel
theorem dX12_body_70 : decode cX12_body 70 = .ok (.aload_n 0, 1) := by decide +kernel
theorem dX12_body_71 : decode cX12_body 71 = .ok (.getfield 16, 3) := by decide +kernel
theorem dX12_body_74 : decode cX12_body 74 = .ok (.aload_n 0, 1) := by decide +kernel
theorem dX12_body_75 : decode cX12_body 75 = .ok (.getfield 177, 3) := by decide +kernel
theorem dX12_body_78 : decode cX12_body 78 = .ok (.iload_n 3, 1) := by decide +kernel
theorem dX12_body_79 : decode cX12_body 79 = .ok (.iastore, 1) := by decide +kernel
theorem dX12_body_80 : decode cX12_body 80 = .ok (.aload_n 0, 1) := by decide +kernel
theorem dX12_body_81 : decode cX12_body 81 = .ok (.getfield 19, 3) := by decide +kernel
theorem dX12_body_84 : decode cX12_body 84 = .ok (.aload_n 0, 1) := by decide +kernel
theorem dX12_body_85 : decode cX12_body 85 = .ok (.getfield 177, 3) := by decide +kernel
theorem dX12_body_88 : decode cX12_body 88 = .ok (.iconst 0, 1) := by decide +kernel
theorem dX12_body_89 : decode cX12_body 89 = .ok (.iastore, 1) := by decide +kernel
theorem dX12_body_90 : decode cX12_body 90 = .ok (.aload_n 0, 1) := by decide +kernel
theorem dX12_body_91 : decode cX12_body 91 = .ok (.dup, 1) := by decide +kernel
theorem dX12_body_92 : decode cX12_body 92 = .ok (.getfield 177, 3) := by decide +kernel
theorem dX12_body_95 : decode cX12_body 95 = .ok (.iconst 1, 1) := by decide +kernel
theorem dX12_body_96 : decode cX12_body 96 = .ok (.iadd, 1) := by decide +kernel
theorem dX12_body_97 : decode cX12_body 97 = .ok (.putfield 177, 3) := by decide +kernel
theorem dX12_body_100 : decode cX12_body 100 = .ok (.aload_n 0, 1) := by decide +kernel
theorem dX12_body_101 : decode cX12_body 101 = .ok (.getfield 177, 3) := by decide +kernel
theorem dX12_body_104 : decode cX12_body 104 = .ok (.iconst 1, 1) := by decide +kernel
theorem dX12_body_105 : decode cX12_body 105 = .ok (.isub, 1) := by decide +kernel
theorem dX12_body_106 : decode cX12_body 106 = .ok (.ireturn, 1) := by decide +kernel
theorem dX12_becomes_0 : decode cX12_becomes 0 = .ok (.aload_n 0, 1) := by decide +kernel
theorem dX12_becomes_1 : decode cX12_becomes 1 = .ok (.iload_n 1, 1) := by decide +kernel
theorem dX12_becomes_2 : decode cX12_becomes 2 = .ok (.invokevirtual 196, 3) := by decide +kernel
theorem dX12_becomes_5 : decode cX12_becomes 5 = .ok (.ifCond .eq 48, 3) := by decide +kernel
theorem dX12_becomes_8 : decode cX12_becomes 8 = .ok (.iload_n 2, 1) := by decide +kernel
theorem dX12_becomes_9 : decode cX12_becomes 9 = .ok (.i2l, 1) := by decide +kernel
theorem dX12_becomes_10 : decode cX12_becomes 10 = .ok (.lconst 0, 1) := by decide +kernel
theorem dX12_becomes_11 : decode cX12_becomes 11 = .ok (.ldc2_w 194, 3) := by decide +kernel
theorem dX12_becomes_14 : decode cX12_becomes 14 = .ok (.invokestatic 181, 3) := by decide +kernel
theorem dX12_becomes_17 : decode cX12_becomes 17 = .ok (.ifCond .eq 36, 3) := by decide +kernel
theorem dX12_becomes_20 : decode cX12_becomes 20 = .ok (.iload_n 3, 1) := by decide +kernel
theorem dX12_becomes_21 : decode cX12_becomes 21 = .ok (.i2l, 1) := by decide +kernel
theorem dX12_becomes_22 : decode cX12_becomes 22 = .ok (.lconst 0, 1) := by decide +kernel
theorem dX12_becomes_23 : decode cX12_becomes 23 = .ok (.iload_n 2, 1) := by decide +kernel
theorem dX12_becomes_24 : decode cX12_becomes 24 = .ok (.ifCond .ne 9, 3) := by decide +kernel
theorem dX12_becomes_27 : decode cX12_becomes 27 = .ok (.ldc2_w 190, 3) := by decide +kernel
theorem dX12_becomes_30 : decode cX12_becomes 30 = .ok (.goto 17, 3) := by decide +kernel
theorem dX12_becomes_33 : decode cX12_becomes 33 = .ok (.iload_n 2, 1) := by decide +kernel
theorem dX12_becomes_34 : decode cX12_becomes 34 = .ok (.iconst 1, 1) := by decide +kernel
theorem dX12_becomes_35 : decode cX12_becomes 35 = .ok (.if_icmp .ne 9, 3) := by decide +kernel
theorem dX12_becomes_38 : decode cX12_becomes 38 = .ok (.ldc2_w 192, 3) := by decide +kernel
theorem dX12_becomes_41 : decode cX12_becomes 41 = .ok (.goto 6, 3) := by decide +kernel
theorem dX12_becomes_44 : decode cX12_becomes 44 = .ok (.ldc2_w 194, 3) := by decide +kernel
theorem dX12_becomes_47 : decode cX12_becomes 47 = .ok (.invokestatic 181, 3) := by decide +kernel
theorem dX12_becomes_50 : decode cX12_becomes 50 = .ok (.ifCond .ne 5, 3) := by decide +kernel
theorem dX12_becomes_53 : decode cX12_becomes 53 = .ok (.iconst (-1), 1) := by decide +kernel
theorem dX12_becomes_54 : decode cX12_becomes 54 = .ok (.ireturn, 1) := by decide +kernel
theorem dX12_becomes_55 : decode cX12_becomes 55 = .ok (.iload_n 2, 1) := by decide +kernel
theorem dX12_becomes_56 : decode cX12_becomes 56 = .ok (.ifCond .ne 12, 3) := by decide +kernel
theorem dX12_becomes_59 : decode cX12_becomes 59 = .ok (.aload_n 0, 1) := by decide +kernel
theorem dX12_becomes_60 : decode cX12_becomes 60 = .ok (.getfield 7, 3) := by decide +kernel
theorem dX12_becomes_63 : decode cX12_becomes 63 = .ok (.iload_n 1, 1) := by decide +kernel
theorem dX12_becomes_64 : decode cX12_becomes 64 = .ok (.iaload, 1) := by decide +kernel
theorem dX12_becomes_65 : decode cX12_becomes 65 = .ok (.goto 23, 3) := by decide +kernel
theorem dX12_becomes_68 : decode cX12_becomes 68 = .ok (.iload_n 2, 1) := by decide +kernel
theorem dX12_becomes_69 : decode cX12_becomes 69 = .ok (.iconst 1, 1) := by decide +kernel
theorem dX12_becomes_70 : decode cX12_becomes 70 = .ok (.if_icmp .ne 12, 3) := by decide +kernel
theorem dX12_becomes_73 : decode cX12_becomes 73 = .ok (.aload_n 0, 1) := by decide +kernel
theorem dX12_becomes_74 : decode cX12_becomes 74 = .ok (.getfield 13, 3) := by decide +kernel
theorem dX12_becomes_77 : decode cX12_becomes 77 = .ok (.iload_n 1, 1) := by decide +kernel
theorem dX12_becomes_78 : decode cX12_becomes 78 = .ok (.iaload, 1) := by decide +kernel
theorem dX12_becomes_79 : decode cX12_becomes 79 = .ok (.goto 9, 3) := by decide +kernel
theorem dX12_becomes_82 : decode cX12_becomes 82 = .ok (.aload_n 0, 1) := by decide +kernel
theorem dX12_becomes_83 : decode cX12_becomes 83 = .ok (.getfield 16, 3) := by decide +kernel
theorem dX12_becomes_86 : decode cX12_becomes 86 = .ok (.iload_n 1, 1) := by decide +kernel
theorem dX12_becomes_87 : decode cX12_becomes 87 = .ok (.iaload, 1) := by decide +kernel
theorem dX12_becomes_88 : decode cX12_becomes 88 = .ok (.istore 4, 2) := by decide +kernel
theorem dX12_becomes_90 : decode cX12_becomes 90 = .ok (.iload_n 2, 1) := by decide +kernel
theorem dX12_becomes_91 : decode cX12_becomes 91 = .ok (.ifCond .ne 13, 3) := by decide +kernel
theorem dX12_becomes_94 : decode cX12_becomes 94 = .ok (.aload_n 0, 1) := by decide +kernel
theorem dX12_becomes_95 : decode cX12_becomes 95 = .ok (.getfield 7, 3) := by decide +kernel
theorem dX12_becomes_98 : decode cX12_becomes 98 = .ok (.iload_n 1, 1) := by decide +kernel
theorem dX12_becomes_99 : decode cX12_becomes 99 = .ok (.iload_n 3, 1) := by decide +kernel
theorem dX12_becomes_100 : decode cX12_becomes 100 = .ok (.iastore, 1) := by decide +kernel
theorem dX12_becomes_101 : decode cX12_becomes 101 = .ok (.goto 25, 3) := by decide +kernel
theorem dX12_becomes_104 : decode cX12_becomes 104 = .ok (.iload_n 2, 1) := by decide +kernel
theorem dX12_becomes_105 : decode cX12_becomes 105 = .ok (.iconst 1, 1) := by decide +kernel
theorem dX12_becomes_106 : decode cX12_becomes 106 = .ok (.if_icmp .ne 13, 3) := by decide +kernel
theorem dX12_becomes_109 : decode cX12_becomes 109 = .ok (.aload_n 0, 1) := by decide +kernel
theorem dX12_becomes_110 : decode cX12_becomes 110 = .ok (.getfield 13, 3) := by decide +kernel
theorem dX12_becomes_113 : decode cX12_becomes 113 = .ok (.iload_n 1, 1) := by decide +kernel
theorem dX12_becomes_114 : decode cX12_becomes 114 = .ok (.iload_n 3, 1) := by decide +kernel
theorem dX12_becomes_115 : decode cX12_becomes 115 = .ok (.iastore, 1) := by decide +kernel
theorem dX12_becomes_116 : decode cX12_becomes 116 = .ok (.goto 10, 3) := by decide +kernel
theorem dX12_becomes_119 : decode cX12_becomes 119 = .ok (.aload_n 0, 1) := by decide +kernel
theorem dX12_becomes_120 : decode cX12_becomes 120 = .ok (.getfield 16, 3) := by decide +kernel
theorem dX12_becomes_123 : decode cX12_becomes 123 = .ok (.iload_n 1, 1) := by decide +kernel
theorem dX12_becomes_124 : decode cX12_becomes 124 = .ok (.iload_n 3, 1) := by decide +kernel
theorem dX12_becomes_125 : decode cX12_becomes 125 = .ok (.iastore, 1) := by decide +kernel
theorem dX12_becomes_126 : decode cX12_becomes 126 = .ok (.iload 4, 2) := by decide +kernel
theorem dX12_becomes_128 : decode cX12_becomes 128 = .ok (.ireturn, 1) := by decide +kernel
theorem dX12_tell_0 : decode cX12_tell 0 = .ok (.aload_n 0, 1) := by decide +kernel
theorem dX12_tell_1 : decode cX12_tell 1 = .ok (.getfield 22, 3) := by decide +kernel
theorem dX12_tell_4 : decode cX12_tell 4 = .ok (.aload_n 0, 1) := by decide +kernel
theorem dX12_tell_5 : decode cX12_tell 5 = .ok (.getfield 200, 3) := by decide +kernel
theorem dX12_tell_8 : decode cX12_tell 8 = .ok (.iload_n 1, 1) := by decide +kernel
theorem dX12_tell_9 : decode cX12_tell 9 = .ok (.iastore, 1) := by decide +kernel
theorem dX12_tell_10 : decode cX12_tell 10 = .ok (.aload_n 0, 1) := by decide +kernel
theorem dX12_tell_11 : decode cX12_tell 11 = .ok (.getfield 25, 3) := by decide +kernel
theorem dX12_tell_14 : decode cX12_tell 14 = .ok (.aload_n 0, 1) := by decide +kernel
theorem dX12_tell_15 : decode cX12_tell 15 = .ok (.getfield 200, 3) := by decide +kernel
theorem dX12_tell_18 : decode cX12_tell 18 = .ok (.iload_n 2, 1) := by decide +kernel
theorem dX12_tell_19 : decode cX12_tell 19 = .ok (.iastore, 1) := by decide +kernel
theorem dX12_tell_20 : decode cX12_tell 20 = .ok (.aload_n 0, 1) := by decide +kernel
theorem dX12_tell_21 : decode cX12_tell 21 = .ok (.getfield 28, 3) := by decide +kernel
theorem dX12_tell_24 : decode cX12_tell 24 = .ok (.aload_n 0, 1) := by decide +kernel
theorem dX12_tell_25 : decode cX12_tell 25 = .ok (.getfield 200, 3) := by decide +kernel
theorem dX12_tell_28 : decode cX12_tell 28 = .ok (.iload_n 3, 1) := by decide +kernel
theorem dX12_tell_29 : decode cX12_tell 29 = .ok (.iastore, 1) := by decide +kernel
theorem dX12_tell_30 : decode cX12_tell 30 = .ok (.aload_n 0, 1) := by decide +kernel
theorem dX12_tell_31 : decode cX12_tell 31 = .ok (.getfield 31, 3) := by decide +kernel
theorem dX12_tell_34 : decode cX12_tell 34 = .ok (.aload_n 0, 1) := by decide +kernel
theorem dX12_tell_35 : decode cX12_tell 35 = .ok (.getfield 200, 3) := by decide +kernel
theorem dX12_tell_38 : decode cX12_tell 38 = .ok (.iload 4, 2) := by decide +kernel
theorem dX12_tell_40 : decode cX12_tell 40 = .ok (.iastore, 1) := by decide +kernel
theorem dX12_tell_41 : decode cX12_tell 41 = .ok (.aload_n 0, 1) := by decide +kernel
theorem dX12_tell_42 : decode cX12_tell 42 = .ok (.getfield 34, 3) := by decide +kernel
theorem dX12_tell_45 : decode cX12_tell 45 = .ok (.aload_n 0, 1) := by decide +kernel
theorem dX12_tell_46 : decode cX12_tell 46 = .ok (.getfield 200, 3) := by decide +kernel
theorem dX12_tell_49 : decode cX12_tell 49 = .ok (.aload_n 0, 1) := by decide +kernel
theorem dX12_tell_50 : decode cX12_tell 50 = .ok (.getfield 187, 3) := by decide +kernel
theorem dX12_tell_53 : decode cX12_tell 53 = .ok (.iastore, 1) := by decide +kernel
theorem dX12_tell_54 : decode cX12_tell 54 = .ok (.aload_n 0, 1) := by decide +kernel
theorem dX12_tell_55 : decode cX12_tell 55 = .ok (.dup, 1) := by decide +kernel
theorem dX12_tell_56 : decode cX12_tell 56 = .ok (.getfield 200, 3) := by decide +kernel
theorem dX12_tell_59 : decode cX12_tell 59 = .ok (.iconst 1, 1) := by decide +kernel
theorem dX12_tell_60 : decode cX12_tell 60 = .ok (.iadd, 1) := by decide +kernel
theorem dX12_tell_61 : decode cX12_tell 61 = .ok (.putfield 200, 3) := by decide +kernel
theorem dX12_tell_64 : decode cX12_tell 64 = .ok (.return_, 1) := by decide +kernel
theorem dX12_measure_0 : decode cX12_measure 0 = .ok (.aload_n 0, 1) := by decide +kernel
theorem dX12_measure_1 : decode cX12_measure 1 = .ok (.iload_n 1, 1) := by decide +kernel
theorem dX12_measure_2 : decode cX12_measure 2 = .ok (.invokevirtual 196, 3) := by decide +kernel
theorem dX12_measure_5 : decode cX12_measure 5 = .ok (.ifCond .eq 35, 3) := by decide +kernel
theorem dX12_measure_8 : decode cX12_measure 8 = .ok (.iload_n 2, 1) := by decide +kernel
theorem dX12_measure_9 : decode cX12_measure 9 = .ok (.i2l, 1) := by decide +kernel
theorem dX12_measure_10 : decode cX12_measure 10 = .ok (.lconst 0, 1) := by decide +kernel
theorem dX12_measure_11 : decode cX12_measure 11 = .ok (.ldc2_w 194, 3) := by decide +kernel
theorem dX12_measure_14 : decode cX12_measure 14 = .ok (.invokestatic 181, 3) := by decide +kernel
theorem dX12_measure_17 : decode cX12_measure 17 = .ok (.ifCond .eq 23, 3) := by decide +kernel
theorem dX12_measure_20 : decode cX12_measure 20 = .ok (.iload_n 3, 1) := by decide +kernel
theorem dX12_measure_21 : decode cX12_measure 21 = .ok (.i2l, 1) := by decide +kernel
theorem dX12_measure_22 : decode cX12_measure 22 = .ok (.lconst 0, 1) := by decide +kernel
theorem dX12_measure_23 : decode cX12_measure 23 = .ok (.ldc2_w 203, 3) := by decide +kernel
theorem dX12_measure_26 : decode cX12_measure 26 = .ok (.invokestatic 181, 3) := by decide +kernel
theorem dX12_measure_29 : decode cX12_measure 29 = .ok (.ifCond .eq 11, 3) := by decide +kernel
theorem dX12_measure_32 : decode cX12_measure 32 = .ok (.iload 4, 2) := by decide +kernel
theorem dX12_measure_34 : decode cX12_measure 34 = .ok (.invokestatic 205, 3) := by decide +kernel
theorem dX12_measure_37 : decode cX12_measure 37 = .ok (.ifCond .ne 5, 3) := by decide +kernel
theorem dX12_measure_40 : decode cX12_measure 40 = .ok (.iconst (-1), 1) := by decide +kernel
theorem dX12_measure_41 : decode cX12_measure 41 = .ok (.ireturn, 1) := by decide +kernel
theorem dX12_measure_42 : decode cX12_measure 42 = .ok (.aload_n 0, 1) := by decide +kernel
theorem dX12_measure_43 : decode cX12_measure 43 = .ok (.getfield 200, 3) := by decide +kernel
theorem dX12_measure_46 : decode cX12_measure 46 = .ok (.bipush 60, 2) := by decide +kernel
theorem dX12_measure_48 : decode cX12_measure 48 = .ok (.if_icmp .ne 6, 3) := by decide +kernel
theorem dX12_measure_51 : decode cX12_measure 51 = .ok (.bipush (-3), 2) := by decide +kernel
theorem dX12_measure_53 : decode cX12_measure 53 = .ok (.ireturn, 1) := by decide +kernel
theorem dX12_measure_54 : decode cX12_measure 54 = .ok (.aload_n 0, 1) := by decide +kernel
theorem dX12_measure_55 : decode cX12_measure 55 = .ok (.iload_n 1, 1) := by decide +kernel
theorem dX12_measure_56 : decode cX12_measure 56 = .ok (.iload_n 2, 1) := by decide +kernel
theorem dX12_measure_57 : decode cX12_measure 57 = .ok (.iload_n 3, 1) := by decide +kernel
theorem dX12_measure_58 : decode cX12_measure 58 = .ok (.iload 4, 2) := by decide +kernel
theorem dX12_measure_60 : decode cX12_measure 60 = .ok (.invokevirtual 208, 3) := by decide +kernel
theorem dX12_measure_63 : decode cX12_measure 63 = .ok (.aload_n 0, 1) := by decide +kernel
theorem dX12_measure_64 : decode cX12_measure 64 = .ok (.getfield 200, 3) := by decide +kernel
theorem dX12_measure_67 : decode cX12_measure 67 = .ok (.ireturn, 1) := by decide +kernel
theorem dX12_knownOf_0 : decode cX12_knownOf 0 = .ok (.iconst 0, 1) := by decide +kernel
theorem dX12_knownOf_1 : decode cX12_knownOf 1 = .ok (.istore 5, 2) := by decide +kernel
theorem dX12_knownOf_3 : decode cX12_knownOf 3 = .ok (.iconst (-1), 1) := by decide +kernel
theorem dX12_knownOf_4 : decode cX12_knownOf 4 = .ok (.istore 6, 2) := by decide +kernel
theorem dX12_knownOf_6 : decode cX12_knownOf 6 = .ok (.iconst 0, 1) := by decide +kernel
theorem dX12_knownOf_7 : decode cX12_knownOf 7 = .ok (.istore 7, 2) := by decide +kernel
theorem dX12_knownOf_9 : decode cX12_knownOf 9 = .ok (.iload 7, 2) := by decide +kernel
theorem dX12_knownOf_11 : decode cX12_knownOf 11 = .ok (.aload_n 0, 1) := by decide +kernel
theorem dX12_knownOf_12 : decode cX12_knownOf 12 = .ok (.getfield 200, 3) := by decide +kernel
theorem dX12_knownOf_15 : decode cX12_knownOf 15 = .ok (.if_icmp .ge 84, 3) := by decide +kernel
theorem dX12_knownOf_18 : decode cX12_knownOf 18 = .ok (.aload_n 0, 1) := by decide +kernel
theorem dX12_knownOf_19 : decode cX12_knownOf 19 = .ok (.getfield 22, 3) := by decide +kernel
theorem dX12_knownOf_22 : decode cX12_knownOf 22 = .ok (.iload 7, 2) := by decide +kernel
theorem dX12_knownOf_24 : decode cX12_knownOf 24 = .ok (.iaload, 1) := by decide +kernel
theorem dX12_knownOf_25 : decode cX12_knownOf 25 = .ok (.iload_n 1, 1) := by decide +kernel
theorem dX12_knownOf_26 : decode cX12_knownOf 26 = .ok (.if_icmp .ne 67, 3) := by decide +kernel
theorem dX12_knownOf_29 : decode cX12_knownOf 29 = .ok (.aload_n 0, 1) := by decide +kernel
theorem dX12_knownOf_30 : decode cX12_knownOf 30 = .ok (.getfield 25, 3) := by decide +kernel
theorem dX12_knownOf_33 : decode cX12_knownOf 33 = .ok (.iload 7, 2) := by decide +kernel
theorem dX12_knownOf_35 : decode cX12_knownOf 35 = .ok (.iaload, 1) := by decide +kernel
theorem dX12_knownOf_36 : decode cX12_knownOf 36 = .ok (.iload_n 2, 1) := by decide +kernel
theorem dX12_knownOf_37 : decode cX12_knownOf 37 = .ok (.if_icmp .ne 56, 3) := by decide +kernel
theorem dX12_knownOf_40 : decode cX12_knownOf 40 = .ok (.aload_n 0, 1) := by decide +kernel
theorem dX12_knownOf_41 : decode cX12_knownOf 41 = .ok (.getfield 34, 3) := by decide +kernel
theorem dX12_knownOf_44 : decode cX12_knownOf 44 = .ok (.iload 7, 2) := by decide +kernel
theorem dX12_knownOf_46 : decode cX12_knownOf 46 = .ok (.iaload, 1) := by decide +kernel
theorem dX12_knownOf_47 : decode cX12_knownOf 47 = .ok (.iload_n 3, 1) := by decide +kernel
theorem dX12_knownOf_48 : decode cX12_knownOf 48 = .ok (.if_icmp .gt 45, 3) := by decide +kernel
theorem dX12_knownOf_51 : decode cX12_knownOf 51 = .ok (.aload_n 0, 1) := by decide +kernel
theorem dX12_knownOf_52 : decode cX12_knownOf 52 = .ok (.getfield 31, 3) := by decide +kernel
theorem dX12_knownOf_55 : decode cX12_knownOf 55 = .ok (.iload 7, 2) := by decide +kernel
theorem dX12_knownOf_57 : decode cX12_knownOf 57 = .ok (.iaload, 1) := by decide +kernel
theorem dX12_knownOf_58 : decode cX12_knownOf 58 = .ok (.iload 4, 2) := by decide +kernel
theorem dX12_knownOf_60 : decode cX12_knownOf 60 = .ok (.if_icmp .gt 33, 3) := by decide +kernel
theorem dX12_knownOf_63 : decode cX12_knownOf 63 = .ok (.aload_n 0, 1) := by decide +kernel
theorem dX12_knownOf_64 : decode cX12_knownOf 64 = .ok (.getfield 31, 3) := by decide +kernel
theorem dX12_knownOf_67 : decode cX12_knownOf 67 = .ok (.iload 7, 2) := by decide +kernel
theorem dX12_knownOf_69 : decode cX12_knownOf 69 = .ok (.iaload, 1) := by decide +kernel
theorem dX12_knownOf_70 : decode cX12_knownOf 70 = .ok (.iload 6, 2) := by decide +kernel
theorem dX12_knownOf_72 : decode cX12_knownOf 72 = .ok (.if_icmp .lt 21, 3) := by decide +kernel
theorem dX12_knownOf_75 : decode cX12_knownOf 75 = .ok (.aload_n 0, 1) := by decide +kernel
theorem dX12_knownOf_76 : decode cX12_knownOf 76 = .ok (.getfield 28, 3) := by decide +kernel
theorem dX12_knownOf_79 : decode cX12_knownOf 79 = .ok (.iload 7, 2) := by decide +kernel
theorem dX12_knownOf_81 : decode cX12_knownOf 81 = .ok (.iaload, 1) := by decide +kernel
theorem dX12_knownOf_82 : decode cX12_knownOf 82 = .ok (.istore 5, 2) := by decide +kernel
theorem dX12_knownOf_84 : decode cX12_knownOf 84 = .ok (.aload_n 0, 1) := by decide +kernel
theorem dX12_knownOf_85 : decode cX12_knownOf 85 = .ok (.getfield 31, 3) := by decide +kernel
theorem dX12_knownOf_88 : decode cX12_knownOf 88 = .ok (.iload 7, 2) := by decide +kernel
theorem dX12_knownOf_90 : decode cX12_knownOf 90 = .ok (.iaload, 1) := by decide +kernel
theorem dX12_knownOf_91 : decode cX12_knownOf 91 = .ok (.istore 6, 2) := by decide +kernel
theorem dX12_knownOf_93 : decode cX12_knownOf 93 = .ok (.iinc 7 1, 3) := by decide +kernel
theorem dX12_knownOf_96 : decode cX12_knownOf 96 = .ok (.goto (-87), 3) := by decide +kernel
theorem dX12_knownOf_99 : decode cX12_knownOf 99 = .ok (.iload 5, 2) := by decide +kernel
theorem dX12_knownOf_101 : decode cX12_knownOf 101 = .ok (.ireturn, 1) := by decide +kernel
theorem dX12_known_0 : decode cX12_known 0 = .ok (.aload_n 0, 1) := by decide +kernel
theorem dX12_known_1 : decode cX12_known 1 = .ok (.iload_n 1, 1) := by decide +kernel
theorem dX12_known_2 : decode cX12_known 2 = .ok (.invokevirtual 196, 3) := by decide +kernel
theorem dX12_known_5 : decode cX12_known 5 = .ok (.ifCond .eq 42, 3) := by decide +kernel
theorem dX12_known_8 : decode cX12_known 8 = .ok (.iload_n 2, 1) := by decide +kernel
theorem dX12_known_9 : decode cX12_known 9 = .ok (.i2l, 1) := by decide +kernel
theorem dX12_known_10 : decode cX12_known 10 = .ok (.lconst 0, 1) := by decide +kernel
theorem dX12_known_11 : decode cX12_known 11 = .ok (.ldc2_w 194, 3) := by decide +kernel
theorem dX12_known_14 : decode cX12_known 14 = .ok (.invokestatic 181, 3) := by decide +kernel
theorem dX12_known_17 : decode cX12_known 17 = .ok (.ifCond .eq 30, 3) := by decide +kernel
theorem dX12_known_20 : decode cX12_known 20 = .ok (.iload_n 3, 1) := by decide +kernel
theorem dX12_known_21 : decode cX12_known 21 = .ok (.invokestatic 205, 3) := by decide +kernel
theorem dX12_known_24 : decode cX12_known 24 = .ok (.ifCond .eq 23, 3) := by decide +kernel
theorem dX12_known_27 : decode cX12_known 27 = .ok (.iload 4, 2) := by decide +kernel
theorem dX12_known_29 : decode cX12_known 29 = .ok (.invokestatic 205, 3) := by decide +kernel
theorem dX12_known_32 : decode cX12_known 32 = .ok (.ifCond .eq 15, 3) := by decide +kernel
theorem dX12_known_35 : decode cX12_known 35 = .ok (.aload_n 0, 1) := by decide +kernel
theorem dX12_known_36 : decode cX12_known 36 = .ok (.iload_n 1, 1) := by decide +kernel
theorem dX12_known_37 : decode cX12_known 37 = .ok (.iload_n 2, 1) := by decide +kernel
theorem dX12_known_38 : decode cX12_known 38 = .ok (.iload_n 3, 1) := by decide +kernel
theorem dX12_known_39 : decode cX12_known 39 = .ok (.iload 4, 2) := by decide +kernel
theorem dX12_known_41 : decode cX12_known 41 = .ok (.invokevirtual 212, 3) := by decide +kernel
theorem dX12_known_44 : decode cX12_known 44 = .ok (.goto 4, 3) := by decide +kernel
theorem dX12_known_47 : decode cX12_known 47 = .ok (.iconst (-1), 1) := by decide +kernel
theorem dX12_known_48 : decode cX12_known 48 = .ok (.ireturn, 1) := by decide +kernel
theorem dX12_told_0 : decode cX12_told 0 = .ok (.aload_n 0, 1) := by decide +kernel
theorem dX12_told_1 : decode cX12_told 1 = .ok (.iload_n 1, 1) := by decide +kernel
theorem dX12_told_2 : decode cX12_told 2 = .ok (.invokevirtual 196, 3) := by decide +kernel
theorem dX12_told_5 : decode cX12_told 5 = .ok (.ifCond .ne 5, 3) := by decide +kernel
theorem dX12_told_8 : decode cX12_told 8 = .ok (.iconst (-1), 1) := by decide +kernel
theorem dX12_told_9 : decode cX12_told 9 = .ok (.ireturn, 1) := by decide +kernel
theorem dX12_told_10 : decode cX12_told 10 = .ok (.iload_n 2, 1) := by decide +kernel
theorem dX12_told_11 : decode cX12_told 11 = .ok (.i2l, 1) := by decide +kernel
theorem dX12_told_12 : decode cX12_told 12 = .ok (.ldc2_w 192, 3) := by decide +kernel
theorem dX12_told_15 : decode cX12_told 15 = .ok (.ldc2_w 190, 3) := by decide +kernel
theorem dX12_told_18 : decode cX12_told 18 = .ok (.invokestatic 181, 3) := by decide +kernel
theorem dX12_told_21 : decode cX12_told 21 = .ok (.ifCond .eq 20, 3) := by decide +kernel
theorem dX12_told_24 : decode cX12_told 24 = .ok (.aload_n 0, 1) := by decide +kernel
theorem dX12_told_25 : decode cX12_told 25 = .ok (.iload_n 1, 1) := by decide +kernel
theorem dX12_told_26 : decode cX12_told 26 = .ok (.iload_n 2, 1) := by decide +kernel
theorem dX12_told_27 : decode cX12_told 27 = .ok (.iconst 3, 1) := by decide +kernel
theorem dX12_told_28 : decode cX12_told 28 = .ok (.isub, 1) := by decide +kernel
theorem dX12_told_29 : decode cX12_told 29 = .ok (.aload_n 0, 1) := by decide +kernel
theorem dX12_told_30 : decode cX12_told 30 = .ok (.getfield 187, 3) := by decide +kernel
theorem dX12_told_33 : decode cX12_told 33 = .ok (.aload_n 0, 1) := by decide +kernel
theorem dX12_told_34 : decode cX12_told 34 = .ok (.getfield 187, 3) := by decide +kernel
theorem dX12_told_37 : decode cX12_told 37 = .ok (.invokevirtual 212, 3) := by decide +kernel
theorem dX12_told_40 : decode cX12_told 40 = .ok (.ireturn, 1) := by decide +kernel
theorem dX12_told_41 : decode cX12_told 41 = .ok (.iload_n 2, 1) := by decide +kernel
theorem dX12_told_42 : decode cX12_told 42 = .ok (.i2l, 1) := by decide +kernel
theorem dX12_told_43 : decode cX12_told 43 = .ok (.ldc2_w 216, 3) := by decide +kernel
theorem dX12_told_46 : decode cX12_told 46 = .ok (.ldc2_w 218, 3) := by decide +kernel
theorem dX12_told_49 : decode cX12_told 49 = .ok (.invokestatic 181, 3) := by decide +kernel
theorem dX12_told_52 : decode cX12_told 52 = .ok (.ifCond .eq 13, 3) := by decide +kernel
theorem dX12_told_55 : decode cX12_told 55 = .ok (.aload_n 0, 1) := by decide +kernel
theorem dX12_told_56 : decode cX12_told 56 = .ok (.iload_n 1, 1) := by decide +kernel
theorem dX12_told_57 : decode cX12_told 57 = .ok (.iload_n 2, 1) := by decide +kernel
theorem dX12_told_58 : decode cX12_told 58 = .ok (.bipush 10, 2) := by decide +kernel
theorem dX12_told_60 : decode cX12_told 60 = .ok (.isub, 1) := by decide +kernel
theorem dX12_told_61 : decode cX12_told 61 = .ok (.invokevirtual 220, 3) := by decide +kernel
theorem dX12_told_64 : decode cX12_told 64 = .ok (.ireturn, 1) := by decide +kernel
theorem dX12_told_65 : decode cX12_told 65 = .ok (.iload_n 2, 1) := by decide +kernel
theorem dX12_told_66 : decode cX12_told 66 = .ok (.i2l, 1) := by decide +kernel
theorem dX12_told_67 : decode cX12_told 67 = .ok (.ldc2_w 224, 3) := by decide +kernel
theorem dX12_told_70 : decode cX12_told 70 = .ok (.ldc2_w 226, 3) := by decide +kernel
theorem dX12_told_73 : decode cX12_told 73 = .ok (.invokestatic 181, 3) := by decide +kernel
theorem dX12_told_76 : decode cX12_told 76 = .ok (.ifCond .eq 17, 3) := by decide +kernel
theorem dX12_told_79 : decode cX12_told 79 = .ok (.aload_n 0, 1) := by decide +kernel
theorem dX12_told_80 : decode cX12_told 80 = .ok (.iload_n 1, 1) := by decide +kernel
theorem dX12_told_81 : decode cX12_told 81 = .ok (.iload_n 2, 1) := by decide +kernel
theorem dX12_told_82 : decode cX12_told 82 = .ok (.bipush 20, 2) := by decide +kernel
theorem dX12_told_84 : decode cX12_told 84 = .ok (.isub, 1) := by decide +kernel
theorem dX12_told_85 : decode cX12_told 85 = .ok (.aload_n 0, 1) := by decide +kernel
theorem dX12_told_86 : decode cX12_told 86 = .ok (.getfield 187, 3) := by decide +kernel
theorem dX12_told_89 : decode cX12_told 89 = .ok (.invokevirtual 228, 3) := by decide +kernel
theorem dX12_told_92 : decode cX12_told 92 = .ok (.ireturn, 1) := by decide +kernel
theorem dX12_told_93 : decode cX12_told 93 = .ok (.iconst 0, 1) := by decide +kernel
theorem dX12_told_94 : decode cX12_told 94 = .ok (.istore_n 3, 1) := by decide +kernel
theorem dX12_told_95 : decode cX12_told 95 = .ok (.iconst 0, 1) := by decide +kernel
theorem dX12_told_96 : decode cX12_told 96 = .ok (.istore 4, 2) := by decide +kernel
theorem dX12_told_98 : decode cX12_told 98 = .ok (.iload 4, 2) := by decide +kernel
theorem dX12_told_100 : decode cX12_told 100 = .ok (.aload_n 0, 1) := by decide +kernel
theorem dX12_told_101 : decode cX12_told 101 = .ok (.getfield 232, 3) := by decide +kernel
theorem dX12_told_104 : decode cX12_told 104 = .ok (.if_icmp .ge 28, 3) := by decide +kernel
theorem dX12_told_107 : decode cX12_told 107 = .ok (.iload_n 3, 1) := by decide +kernel
theorem dX12_told_108 : decode cX12_told 108 = .ok (.aload_n 0, 1) := by decide +kernel
theorem dX12_told_109 : decode cX12_told 109 = .ok (.getfield 106, 3) := by decide +kernel
theorem dX12_told_112 : decode cX12_told 112 = .ok (.iload 4, 2) := by decide +kernel
theorem dX12_told_114 : decode cX12_told 114 = .ok (.iaload, 1) := by decide +kernel
theorem dX12_told_115 : decode cX12_told 115 = .ok (.iload_n 1, 1) := by decide +kernel
theorem dX12_told_116 : decode cX12_told 116 = .ok (.if_icmp .ne 7, 3) := by decide +kernel
theorem dX12_told_119 : decode cX12_told 119 = .ok (.iconst 1, 1) := by decide +kernel
theorem dX12_told_120 : decode cX12_told 120 = .ok (.goto 4, 3) := by decide +kernel
theorem dX12_told_123 : decode cX12_told 123 = .ok (.iconst 0, 1) := by decide +kernel
theorem dX12_told_124 : decode cX12_told 124 = .ok (.iadd, 1) := by decide +kernel
theorem dX12_told_125 : decode cX12_told 125 = .ok (.istore_n 3, 1) := by decide +kernel
theorem dX12_told_126 : decode cX12_told 126 = .ok (.iinc 4 1, 3) := by decide +kernel
theorem dX12_told_129 : decode cX12_told 129 = .ok (.goto (-31), 3) := by decide +kernel
theorem dX12_told_132 : decode cX12_told 132 = .ok (.iload_n 2, 1) := by decide +kernel
theorem dX12_told_133 : decode cX12_told 133 = .ok (.ifCond .ne 12, 3) := by decide +kernel
theorem dX12_told_136 : decode cX12_told 136 = .ok (.aload_n 0, 1) := by decide +kernel
theorem dX12_told_137 : decode cX12_told 137 = .ok (.getfield 7, 3) := by decide +kernel
theorem dX12_told_140 : decode cX12_told 140 = .ok (.iload_n 1, 1) := by decide +kernel
theorem dX12_told_141 : decode cX12_told 141 = .ok (.iaload, 1) := by decide +kernel
theorem dX12_told_142 : decode cX12_told 142 = .ok (.goto 57, 3) := by decide +kernel
theorem dX12_told_145 : decode cX12_told 145 = .ok (.iload_n 2, 1) := by decide +kernel
theorem dX12_told_146 : decode cX12_told 146 = .ok (.iconst 1, 1) := by decide +kernel
theorem dX12_told_147 : decode cX12_told 147 = .ok (.if_icmp .ne 12, 3) := by decide +kernel
theorem dX12_told_150 : decode cX12_told 150 = .ok (.aload_n 0, 1) := by decide +kernel
theorem dX12_told_151 : decode cX12_told 151 = .ok (.getfield 13, 3) := by decide +kernel
theorem dX12_told_154 : decode cX12_told 154 = .ok (.iload_n 1, 1) := by decide +kernel
theorem dX12_told_155 : decode cX12_told 155 = .ok (.iaload, 1) := by decide +kernel
theorem dX12_told_156 : decode cX12_told 156 = .ok (.goto 43, 3) := by decide +kernel
theorem dX12_told_159 : decode cX12_told 159 = .ok (.iload_n 2, 1) := by decide +kernel
theorem dX12_told_160 : decode cX12_told 160 = .ok (.iconst 2, 1) := by decide +kernel
theorem dX12_told_161 : decode cX12_told 161 = .ok (.if_icmp .ne 12, 3) := by decide +kernel
theorem dX12_told_164 : decode cX12_told 164 = .ok (.aload_n 0, 1) := by decide +kernel
theorem dX12_told_165 : decode cX12_told 165 = .ok (.getfield 16, 3) := by decide +kernel
theorem dX12_told_168 : decode cX12_told 168 = .ok (.iload_n 1, 1) := by decide +kernel
theorem dX12_told_169 : decode cX12_told 169 = .ok (.iaload, 1) := by decide +kernel
theorem dX12_told_170 : decode cX12_told 170 = .ok (.goto 29, 3) := by decide +kernel
theorem dX12_told_173 : decode cX12_told 173 = .ok (.iload_n 2, 1) := by decide +kernel
theorem dX12_told_174 : decode cX12_told 174 = .ok (.bipush 6, 2) := by decide +kernel
theorem dX12_told_176 : decode cX12_told 176 = .ok (.if_icmp .ne 7, 3) := by decide +kernel
theorem dX12_told_179 : decode cX12_told 179 = .ok (.iload_n 3, 1) := by decide +kernel
theorem dX12_told_180 : decode cX12_told 180 = .ok (.goto 19, 3) := by decide +kernel
theorem dX12_told_183 : decode cX12_told 183 = .ok (.iload_n 2, 1) := by decide +kernel
theorem dX12_told_184 : decode cX12_told 184 = .ok (.bipush 7, 2) := by decide +kernel
theorem dX12_told_186 : decode cX12_told 186 = .ok (.if_icmp .ne 12, 3) := by decide +kernel
theorem dX12_told_189 : decode cX12_told 189 = .ok (.aload_n 0, 1) := by decide +kernel
theorem dX12_told_190 : decode cX12_told 190 = .ok (.getfield 19, 3) := by decide +kernel
theorem dX12_told_193 : decode cX12_told 193 = .ok (.iload_n 1, 1) := by decide +kernel
theorem dX12_told_194 : decode cX12_told 194 = .ok (.iaload, 1) := by decide +kernel
theorem dX12_told_195 : decode cX12_told 195 = .ok (.goto 4, 3) := by decide +kernel
theorem dX12_told_198 : decode cX12_told 198 = .ok (.iconst (-1), 1) := by decide +kernel
theorem dX12_told_199 : decode cX12_told 199 = .ok (.ireturn, 1) := by decide +kernel
theorem dX12_size_0 : decode cX12_size 0 = .ok (.iload_n 1, 1) := by decide +kernel
theorem dX12_size_1 : decode cX12_size 1 = .ok (.i2l, 1) := by decide +kernel
theorem dX12_size_2 : decode cX12_size 2 = .ok (.lconst 0, 1) := by decide +kernel
theorem dX12_size_3 : decode cX12_size 3 = .ok (.ldc2_w 192, 3) := by decide +kernel
theorem dX12_size_6 : decode cX12_size 6 = .ok (.invokestatic 181, 3) := by decide +kernel
theorem dX12_size_9 : decode cX12_size 9 = .ok (.ifCond .eq 83, 3) := by decide +kernel
theorem dX12_size_12 : decode cX12_size 12 = .ok (.iload_n 2, 1) := by decide +kernel
theorem dX12_size_13 : decode cX12_size 13 = .ok (.i2l, 1) := by decide +kernel
theorem dX12_size_14 : decode cX12_size 14 = .ok (.lconst 0, 1) := by decide +kernel
theorem dX12_size_15 : decode cX12_size 15 = .ok (.iload_n 3, 1) := by decide +kernel
theorem dX12_size_16 : decode cX12_size 16 = .ok (.i2l, 1) := by decide +kernel
theorem dX12_size_17 : decode cX12_size 17 = .ok (.invokestatic 181, 3) := by decide +kernel
theorem dX12_size_20 : decode cX12_size 20 = .ok (.ifCond .eq 72, 3) := by decide +kernel
theorem dX12_size_23 : decode cX12_size 23 = .ok (.iload_n 3, 1) := by decide +kernel
theorem dX12_size_24 : decode cX12_size 24 = .ok (.i2l, 1) := by decide +kernel
theorem dX12_size_25 : decode cX12_size 25 = .ok (.iload_n 2, 1) := by decide +kernel
theorem dX12_size_26 : decode cX12_size 26 = .ok (.i2l, 1) := by decide +kernel
theorem dX12_size_27 : decode cX12_size 27 = .ok (.ldc2_w 203, 3) := by decide +kernel
theorem dX12_size_30 : decode cX12_size 30 = .ok (.invokestatic 181, 3) := by decide +kernel
theorem dX12_size_33 : decode cX12_size 33 = .ok (.ifCond .eq 59, 3) := by decide +kernel
theorem dX12_size_36 : decode cX12_size 36 = .ok (.iload 4, 2) := by decide +kernel
theorem dX12_size_38 : decode cX12_size 38 = .ok (.i2l, 1) := by decide +kernel
theorem dX12_size_39 : decode cX12_size 39 = .ok (.lconst 0, 1) := by decide +kernel
theorem dX12_size_40 : decode cX12_size 40 = .ok (.iload 5, 2) := by decide +kernel
theorem dX12_size_42 : decode cX12_size 42 = .ok (.i2l, 1) := by decide +kernel
theorem dX12_size_43 : decode cX12_size 43 = .ok (.invokestatic 181, 3) := by decide +kernel
theorem dX12_size_46 : decode cX12_size 46 = .ok (.ifCond .eq 46, 3) := by decide +kernel
theorem dX12_size_49 : decode cX12_size 49 = .ok (.iload 5, 2) := by decide +kernel
theorem dX12_size_51 : decode cX12_size 51 = .ok (.i2l, 1) := by decide +kernel
theorem dX12_size_52 : decode cX12_size 52 = .ok (.iload 4, 2) := by decide +kernel
theorem dX12_size_54 : decode cX12_size 54 = .ok (.i2l, 1) := by decide +kernel
theorem dX12_size_55 : decode cX12_size 55 = .ok (.ldc2_w 203, 3) := by decide +kernel
theorem dX12_size_58 : decode cX12_size 58 = .ok (.invokestatic 181, 3) := by decide +kernel
theorem dX12_size_61 : decode cX12_size 61 = .ok (.ifCond .eq 31, 3) := by decide +kernel
theorem dX12_size_64 : decode cX12_size 64 = .ok (.iload 6, 2) := by decide +kernel
theorem dX12_size_66 : decode cX12_size 66 = .ok (.i2l, 1) := by decide +kernel
theorem dX12_size_67 : decode cX12_size 67 = .ok (.lconst 0, 1) := by decide +kernel
theorem dX12_size_68 : decode cX12_size 68 = .ok (.iload 7, 2) := by decide +kernel
theorem dX12_size_70 : decode cX12_size 70 = .ok (.i2l, 1) := by decide +kernel
theorem dX12_size_71 : decode cX12_size 71 = .ok (.invokestatic 181, 3) := by decide +kernel
theorem dX12_size_74 : decode cX12_size 74 = .ok (.ifCond .eq 18, 3) := by decide +kernel
theorem dX12_size_77 : decode cX12_size 77 = .ok (.iload 7, 2) := by decide +kernel
theorem dX12_size_79 : decode cX12_size 79 = .ok (.i2l, 1) := by decide +kernel
theorem dX12_size_80 : decode cX12_size 80 = .ok (.iload 6, 2) := by decide +kernel
theorem dX12_size_82 : decode cX12_size 82 = .ok (.i2l, 1) := by decide +kernel
theorem dX12_size_83 : decode cX12_size 83 = .ok (.ldc2_w 203, 3) := by decide +kernel
theorem dX12_size_86 : decode cX12_size 86 = .ok (.invokestatic 181, 3) := by decide +kernel
theorem dX12_size_89 : decode cX12_size 89 = .ok (.ifCond .ne 5, 3) := by decide +kernel
theorem dX12_size_92 : decode cX12_size 92 = .ok (.iconst (-1), 1) := by decide +kernel
theorem dX12_size_93 : decode cX12_size 93 = .ok (.ireturn, 1) := by decide +kernel
theorem dX12_size_94 : decode cX12_size 94 = .ok (.aload_n 0, 1) := by decide +kernel
theorem dX12_size_95 : decode cX12_size 95 = .ok (.getfield 235, 3) := by decide +kernel
theorem dX12_size_98 : decode cX12_size 98 = .ok (.bipush 12, 2) := by decide +kernel
theorem dX12_size_100 : decode cX12_size 100 = .ok (.if_icmp .ne 6, 3) := by decide +kernel
theorem dX12_size_103 : decode cX12_size 103 = .ok (.bipush (-3), 2) := by decide +kernel
theorem dX12_size_105 : decode cX12_size 105 = .ok (.ireturn, 1) := by decide +kernel
theorem dX12_size_106 : decode cX12_size 106 = .ok (.aload_n 0, 1) := by decide +kernel
theorem dX12_size_107 : decode cX12_size 107 = .ok (.getfield 37, 3) := by decide +kernel
theorem dX12_size_110 : decode cX12_size 110 = .ok (.aload_n 0, 1) := by decide +kernel
theorem dX12_size_111 : decode cX12_size 111 = .ok (.getfield 235, 3) := by decide +kernel
theorem dX12_size_114 : decode cX12_size 114 = .ok (.iload_n 1, 1) := by decide +kernel
theorem dX12_size_115 : decode cX12_size 115 = .ok (.iastore, 1) := by decide +kernel
theorem dX12_size_116 : decode cX12_size 116 = .ok (.aload_n 0, 1) := by decide +kernel
theorem dX12_size_117 : decode cX12_size 117 = .ok (.getfield 40, 3) := by decide +kernel
theorem dX12_size_120 : decode cX12_size 120 = .ok (.bipush 6, 2) := by decide +kernel
theorem dX12_size_122 : decode cX12_size 122 = .ok (.aload_n 0, 1) := by decide +kernel
theorem dX12_size_123 : decode cX12_size 123 = .ok (.getfield 235, 3) := by decide +kernel
theorem dX12_size_126 : decode cX12_size 126 = .ok (.imul, 1) := by decide +kernel
theorem dX12_size_127 : decode cX12_size 127 = .ok (.iload_n 2, 1) := by decide +kernel
theorem dX12_size_128 : decode cX12_size 128 = .ok (.iastore, 1) := by decide +kernel
theorem dX12_size_129 : decode cX12_size 129 = .ok (.aload_n 0, 1) := by decide +kernel
theorem dX12_size_130 : decode cX12_size 130 = .ok (.getfield 40, 3) := by decide +kernel
theorem dX12_size_133 : decode cX12_size 133 = .ok (.bipush 6, 2) := by decide +kernel
theorem dX12_size_135 : decode cX12_size 135 = .ok (.aload_n 0, 1) := by decide +kernel
theorem dX12_size_136 : decode cX12_size 136 = .ok (.getfield 235, 3) := by decide +kernel
theorem dX12_size_139 : decode cX12_size 139 = .ok (.imul, 1) := by decide +kernel
theorem dX12_size_140 : decode cX12_size 140 = .ok (.iconst 1, 1) := by decide +kernel
theorem dX12_size_141 : decode cX12_size 141 = .ok (.iadd, 1) := by decide +kernel
theorem dX12_size_142 : decode cX12_size 142 = .ok (.iload_n 3, 1) := by decide +kernel
theorem dX12_size_143 : decode cX12_size 143 = .ok (.iastore, 1) := by decide +kernel
theorem dX12_size_144 : decode cX12_size 144 = .ok (.aload_n 0, 1) := by decide +kernel
theorem dX12_size_145 : decode cX12_size 145 = .ok (.getfield 40, 3) := by decide +kernel
theorem dX12_size_148 : decode cX12_size 148 = .ok (.bipush 6, 2) := by decide +kernel
theorem dX12_size_150 : decode cX12_size 150 = .ok (.aload_n 0, 1) := by decide +kernel
theorem dX12_size_151 : decode cX12_size 151 = .ok (.getfield 235, 3) := by decide +kernel
theorem dX12_size_154 : decode cX12_size 154 = .ok (.imul, 1) := by decide +kernel
theorem dX12_size_155 : decode cX12_size 155 = .ok (.iconst 2, 1) := by decide +kernel
theorem dX12_size_156 : decode cX12_size 156 = .ok (.iadd, 1) := by decide +kernel
theorem dX12_size_157 : decode cX12_size 157 = .ok (.iload 4, 2) := by decide +kernel
theorem dX12_size_159 : decode cX12_size 159 = .ok (.iastore, 1) := by decide +kernel
theorem dX12_size_160 : decode cX12_size 160 = .ok (.aload_n 0, 1) := by decide +kernel
theorem dX12_size_161 : decode cX12_size 161 = .ok (.getfield 40, 3) := by decide +kernel
theorem dX12_size_164 : decode cX12_size 164 = .ok (.bipush 6, 2) := by decide +kernel
theorem dX12_size_166 : decode cX12_size 166 = .ok (.aload_n 0, 1) := by decide +kernel
theorem dX12_size_167 : decode cX12_size 167 = .ok (.getfield 235, 3) := by decide +kernel
theorem dX12_size_170 : decode cX12_size 170 = .ok (.imul, 1) := by decide +kernel
theorem dX12_size_171 : decode cX12_size 171 = .ok (.iconst 3, 1) := by decide +kernel
theorem dX12_size_172 : decode cX12_size 172 = .ok (.iadd, 1) := by decide +kernel
theorem dX12_size_173 : decode cX12_size 173 = .ok (.iload 5, 2) := by decide +kernel
theorem dX12_size_175 : decode cX12_size 175 = .ok (.iastore, 1) := by decide +kernel
theorem dX12_size_176 : decode cX12_size 176 = .ok (.aload_n 0, 1) := by decide +kernel
theorem dX12_size_177 : decode cX12_size 177 = .ok (.getfield 40, 3) := by decide +kernel
theorem dX12_size_180 : decode cX12_size 180 = .ok (.bipush 6, 2) := by decide +kernel
theorem dX12_size_182 : decode cX12_size 182 = .ok (.aload_n 0, 1) := by decide +kernel
theorem dX12_size_183 : decode cX12_size 183 = .ok (.getfield 235, 3) := by decide +kernel
theorem dX12_size_186 : decode cX12_size 186 = .ok (.imul, 1) := by decide +kernel
theorem dX12_size_187 : decode cX12_size 187 = .ok (.iconst 4, 1) := by decide +kernel
theorem dX12_size_188 : decode cX12_size 188 = .ok (.iadd, 1) := by decide +kernel
theorem dX12_size_189 : decode cX12_size 189 = .ok (.iload 6, 2) := by decide +kernel
theorem dX12_size_191 : decode cX12_size 191 = .ok (.iastore, 1) := by decide +kernel
theorem dX12_size_192 : decode cX12_size 192 = .ok (.aload_n 0, 1) := by decide +kernel
theorem dX12_size_193 : decode cX12_size 193 = .ok (.getfield 40, 3) := by decide +kernel
theorem dX12_size_196 : decode cX12_size 196 = .ok (.bipush 6, 2) := by decide +kernel
theorem dX12_size_198 : decode cX12_size 198 = .ok (.aload_n 0, 1) := by decide +kernel
theorem dX12_size_199 : decode cX12_size 199 = .ok (.getfield 235, 3) := by decide +kernel
theorem dX12_size_202 : decode cX12_size 202 = .ok (.imul, 1) := by decide +kernel
theorem dX12_size_203 : decode cX12_size 203 = .ok (.iconst 5, 1) := by decide +kernel
theorem dX12_size_204 : decode cX12_size 204 = .ok (.iadd, 1) := by decide +kernel
theorem dX12_size_205 : decode cX12_size 205 = .ok (.iload 7, 2) := by decide +kernel
theorem dX12_size_207 : decode cX12_size 207 = .ok (.iastore, 1) := by decide +kernel
theorem dX12_size_208 : decode cX12_size 208 = .ok (.aload_n 0, 1) := by decide +kernel
theorem dX12_size_209 : decode cX12_size 209 = .ok (.dup, 1) := by decide +kernel
theorem dX12_size_210 : decode cX12_size 210 = .ok (.getfield 235, 3) := by decide +kernel
theorem dX12_size_213 : decode cX12_size 213 = .ok (.iconst 1, 1) := by decide +kernel
theorem dX12_size_214 : decode cX12_size 214 = .ok (.iadd, 1) := by decide +kernel
theorem dX12_size_215 : decode cX12_size 215 = .ok (.putfield 235, 3) := by decide +kernel
theorem dX12_size_218 : decode cX12_size 218 = .ok (.aload_n 0, 1) := by decide +kernel
theorem dX12_size_219 : decode cX12_size 219 = .ok (.getfield 235, 3) := by decide +kernel
theorem dX12_size_222 : decode cX12_size 222 = .ok (.iconst 1, 1) := by decide +kernel
theorem dX12_size_223 : decode cX12_size 223 = .ok (.isub, 1) := by decide +kernel
theorem dX12_size_224 : decode cX12_size 224 = .ok (.ireturn, 1) := by decide +kernel
theorem dX12_doesFit_0 : decode cX12_doesFit 0 = .ok (.iconst 1, 1) := by decide +kernel
theorem dX12_doesFit_1 : decode cX12_doesFit 1 = .ok (.istore 4, 2) := by decide +kernel
theorem dX12_doesFit_3 : decode cX12_doesFit 3 = .ok (.iconst 0, 1) := by decide +kernel
theorem dX12_doesFit_4 : decode cX12_doesFit 4 = .ok (.istore 5, 2) := by decide +kernel
theorem dX12_doesFit_6 : decode cX12_doesFit 6 = .ok (.iload 5, 2) := by decide +kernel
theorem dX12_doesFit_8 : decode cX12_doesFit 8 = .ok (.iconst 3, 1) := by decide +kernel
theorem dX12_doesFit_9 : decode cX12_doesFit 9 = .ok (.if_icmp .ge 79, 3) := by decide +kernel
theorem dX12_doesFit_12 : decode cX12_doesFit 12 = .ok (.iload 4, 2) := by decide +kernel
theorem dX12_doesFit_14 : decode cX12_doesFit 14 = .ok (.ifCond .eq 65, 3) := by decide +kernel
theorem dX12_doesFit_17 : decode cX12_doesFit 17 = .ok (.aload_n 0, 1) := by decide +kernel
theorem dX12_doesFit_18 : decode cX12_doesFit 18 = .ok (.iload_n 2, 1) := by decide +kernel
theorem dX12_doesFit_19 : decode cX12_doesFit 19 = .ok (.iload 5, 2) := by decide +kernel
theorem dX12_doesFit_21 : decode cX12_doesFit 21 = .ok (.aload_n 0, 1) := by decide +kernel
theorem dX12_doesFit_22 : decode cX12_doesFit 22 = .ok (.getfield 187, 3) := by decide +kernel
theorem dX12_doesFit_25 : decode cX12_doesFit 25 = .ok (.aload_n 0, 1) := by decide +kernel
theorem dX12_doesFit_26 : decode cX12_doesFit 26 = .ok (.getfield 187, 3) := by decide +kernel
theorem dX12_doesFit_29 : decode cX12_doesFit 29 = .ok (.invokevirtual 212, 3) := by decide +kernel
theorem dX12_doesFit_32 : decode cX12_doesFit 32 = .ok (.i2l, 1) := by decide +kernel
theorem dX12_doesFit_33 : decode cX12_doesFit 33 = .ok (.aload_n 0, 1) := by decide +kernel
theorem dX12_doesFit_34 : decode cX12_doesFit 34 = .ok (.getfield 40, 3) := by decide +kernel
theorem dX12_doesFit_37 : decode cX12_doesFit 37 = .ok (.bipush 6, 2) := by decide +kernel
theorem dX12_doesFit_39 : decode cX12_doesFit 39 = .ok (.iload_n 1, 1) := by decide +kernel
theorem dX12_doesFit_40 : decode cX12_doesFit 40 = .ok (.imul, 1) := by decide +kernel
theorem dX12_doesFit_41 : decode cX12_doesFit 41 = .ok (.iconst 2, 1) := by decide +kernel
theorem dX12_doesFit_42 : decode cX12_doesFit 42 = .ok (.iload 5, 2) := by decide +kernel
theorem dX12_doesFit_44 : decode cX12_doesFit 44 = .ok (.imul, 1) := by decide +kernel
theorem dX12_doesFit_45 : decode cX12_doesFit 45 = .ok (.iadd, 1) := by decide +kernel
theorem dX12_doesFit_46 : decode cX12_doesFit 46 = .ok (.iaload, 1) := by decide +kernel
theorem dX12_doesFit_47 : decode cX12_doesFit 47 = .ok (.iload_n 3, 1) := by decide +kernel
theorem dX12_doesFit_48 : decode cX12_doesFit 48 = .ok (.isub, 1) := by decide +kernel
theorem dX12_doesFit_49 : decode cX12_doesFit 49 = .ok (.i2l, 1) := by decide +kernel
theorem dX12_doesFit_50 : decode cX12_doesFit 50 = .ok (.aload_n 0, 1) := by decide +kernel
theorem dX12_doesFit_51 : decode cX12_doesFit 51 = .ok (.getfield 40, 3) := by decide +kernel
theorem dX12_doesFit_54 : decode cX12_doesFit 54 = .ok (.bipush 6, 2) := by decide +kernel
theorem dX12_doesFit_56 : decode cX12_doesFit 56 = .ok (.iload_n 1, 1) := by decide +kernel
theorem dX12_doesFit_57 : decode cX12_doesFit 57 = .ok (.imul, 1) := by decide +kernel
theorem dX12_doesFit_58 : decode cX12_doesFit 58 = .ok (.iconst 2, 1) := by decide +kernel
theorem dX12_doesFit_59 : decode cX12_doesFit 59 = .ok (.iload 5, 2) := by decide +kernel
theorem dX12_doesFit_61 : decode cX12_doesFit 61 = .ok (.imul, 1) := by decide +kernel
theorem dX12_doesFit_62 : decode cX12_doesFit 62 = .ok (.iadd, 1) := by decide +kernel
theorem dX12_doesFit_63 : decode cX12_doesFit 63 = .ok (.iconst 1, 1) := by decide +kernel
theorem dX12_doesFit_64 : decode cX12_doesFit 64 = .ok (.iadd, 1) := by decide +kernel
theorem dX12_doesFit_65 : decode cX12_doesFit 65 = .ok (.iaload, 1) := by decide +kernel
theorem dX12_doesFit_66 : decode cX12_doesFit 66 = .ok (.iload_n 3, 1) := by decide +kernel
theorem dX12_doesFit_67 : decode cX12_doesFit 67 = .ok (.iadd, 1) := by decide +kernel
theorem dX12_doesFit_68 : decode cX12_doesFit 68 = .ok (.i2l, 1) := by decide +kernel
theorem dX12_doesFit_69 : decode cX12_doesFit 69 = .ok (.invokestatic 181, 3) := by decide +kernel
theorem dX12_doesFit_72 : decode cX12_doesFit 72 = .ok (.ifCond .eq 7, 3) := by decide +kernel
theorem dX12_doesFit_75 : decode cX12_doesFit 75 = .ok (.iconst 1, 1) := by decide +kernel
theorem dX12_doesFit_76 : decode cX12_doesFit 76 = .ok (.goto 4, 3) := by decide +kernel
theorem dX12_doesFit_79 : decode cX12_doesFit 79 = .ok (.iconst 0, 1) := by decide +kernel
theorem dX12_doesFit_80 : decode cX12_doesFit 80 = .ok (.istore 4, 2) := by decide +kernel
theorem dX12_doesFit_82 : decode cX12_doesFit 82 = .ok (.iinc 5 1, 3) := by decide +kernel
theorem dX12_doesFit_85 : decode cX12_doesFit 85 = .ok (.goto (-79), 3) := by decide +kernel
theorem dX12_doesFit_88 : decode cX12_doesFit 88 = .ok (.iload 4, 2) := by decide +kernel
theorem dX12_doesFit_90 : decode cX12_doesFit 90 = .ok (.ireturn, 1) := by decide +kernel
theorem dX12_fits_0 : decode cX12_fits 0 = .ok (.iload_n 1, 1) := by decide +kernel
theorem dX12_fits_1 : decode cX12_fits 1 = .ok (.i2l, 1) := by decide +kernel
theorem dX12_fits_2 : decode cX12_fits 2 = .ok (.lconst 0, 1) := by decide +kernel
theorem dX12_fits_3 : decode cX12_fits 3 = .ok (.aload_n 0, 1) := by decide +kernel
theorem dX12_fits_4 : decode cX12_fits 4 = .ok (.getfield 235, 3) := by decide +kernel
theorem dX12_fits_7 : decode cX12_fits 7 = .ok (.iconst 1, 1) := by decide +kernel
theorem dX12_fits_8 : decode cX12_fits 8 = .ok (.isub, 1) := by decide +kernel
theorem dX12_fits_9 : decode cX12_fits 9 = .ok (.i2l, 1) := by decide +kernel
theorem dX12_fits_10 : decode cX12_fits 10 = .ok (.invokestatic 181, 3) := by decide +kernel
theorem dX12_fits_13 : decode cX12_fits 13 = .ok (.ifCond .eq 23, 3) := by decide +kernel
theorem dX12_fits_16 : decode cX12_fits 16 = .ok (.aload_n 0, 1) := by decide +kernel
theorem dX12_fits_17 : decode cX12_fits 17 = .ok (.iload_n 2, 1) := by decide +kernel
theorem dX12_fits_18 : decode cX12_fits 18 = .ok (.invokevirtual 196, 3) := by decide +kernel
theorem dX12_fits_21 : decode cX12_fits 21 = .ok (.ifCond .eq 15, 3) := by decide +kernel
theorem dX12_fits_24 : decode cX12_fits 24 = .ok (.iload_n 3, 1) := by decide +kernel
theorem dX12_fits_25 : decode cX12_fits 25 = .ok (.i2l, 1) := by decide +kernel
theorem dX12_fits_26 : decode cX12_fits 26 = .ok (.lconst 0, 1) := by decide +kernel
theorem dX12_fits_27 : decode cX12_fits 27 = .ok (.ldc2_w 238, 3) := by decide +kernel
theorem dX12_fits_30 : decode cX12_fits 30 = .ok (.invokestatic 181, 3) := by decide +kernel
theorem dX12_fits_33 : decode cX12_fits 33 = .ok (.ifCond .ne 5, 3) := by decide +kernel
theorem dX12_fits_36 : decode cX12_fits 36 = .ok (.iconst (-1), 1) := by decide +kernel
theorem dX12_fits_37 : decode cX12_fits 37 = .ok (.ireturn, 1) := by decide +kernel
theorem dX12_fits_38 : decode cX12_fits 38 = .ok (.aload_n 0, 1) := by decide +kernel
theorem dX12_fits_39 : decode cX12_fits 39 = .ok (.iload_n 1, 1) := by decide +kernel
theorem dX12_fits_40 : decode cX12_fits 40 = .ok (.iload_n 2, 1) := by decide +kernel
theorem dX12_fits_41 : decode cX12_fits 41 = .ok (.iload_n 3, 1) := by decide +kernel
theorem dX12_fits_42 : decode cX12_fits 42 = .ok (.invokevirtual 240, 3) := by decide +kernel
theorem dX12_fits_45 : decode cX12_fits 45 = .ok (.ifCond .eq 7, 3) := by decide +kernel
theorem dX12_fits_48 : decode cX12_fits 48 = .ok (.iconst 1, 1) := by decide +kernel
theorem dX12_fits_49 : decode cX12_fits 49 = .ok (.goto 4, 3) := by decide +kernel
theorem dX12_fits_52 : decode cX12_fits 52 = .ok (.iconst 0, 1) := by decide +kernel
theorem dX12_fits_53 : decode cX12_fits 53 = .ok (.ireturn, 1) := by decide +kernel
theorem dX12_sized_0 : decode cX12_sized 0 = .ok (.aload_n 0, 1) := by decide +kernel
theorem dX12_sized_1 : decode cX12_sized 1 = .ok (.iload_n 1, 1) := by decide +kernel
theorem dX12_sized_2 : decode cX12_sized 2 = .ok (.invokevirtual 196, 3) := by decide +kernel
theorem dX12_sized_5 : decode cX12_sized 5 = .ok (.ifCond .eq 46, 3) := by decide +kernel
theorem dX12_sized_8 : decode cX12_sized 8 = .ok (.iload_n 2, 1) := by decide +kernel
theorem dX12_sized_9 : decode cX12_sized 9 = .ok (.i2l, 1) := by decide +kernel
theorem dX12_sized_10 : decode cX12_sized 10 = .ok (.lconst 0, 1) := by decide +kernel
theorem dX12_sized_11 : decode cX12_sized 11 = .ok (.ldc2_w 192, 3) := by decide +kernel
theorem dX12_sized_14 : decode cX12_sized 14 = .ok (.invokestatic 181, 3) := by decide +kernel
theorem dX12_sized_17 : decode cX12_sized 17 = .ok (.ifCond .eq 34, 3) := by decide +kernel
theorem dX12_sized_20 : decode cX12_sized 20 = .ok (.iload 4, 2) := by decide +kernel
theorem dX12_sized_22 : decode cX12_sized 22 = .ok (.i2l, 1) := by decide +kernel
theorem dX12_sized_23 : decode cX12_sized 23 = .ok (.lconst 0, 1) := by decide +kernel
theorem dX12_sized_24 : decode cX12_sized 24 = .ok (.ldc2_w 194, 3) := by decide +kernel
theorem dX12_sized_27 : decode cX12_sized 27 = .ok (.invokestatic 181, 3) := by decide +kernel
theorem dX12_sized_30 : decode cX12_sized 30 = .ok (.ifCond .eq 21, 3) := by decide +kernel
theorem dX12_sized_33 : decode cX12_sized 33 = .ok (.iload 4, 2) := by decide +kernel
theorem dX12_sized_35 : decode cX12_sized 35 = .ok (.iconst 2, 1) := by decide +kernel
theorem dX12_sized_36 : decode cX12_sized 36 = .ok (.if_icmp .ge 17, 3) := by decide +kernel
theorem dX12_sized_39 : decode cX12_sized 39 = .ok (.iload_n 3, 1) := by decide +kernel
theorem dX12_sized_40 : decode cX12_sized 40 = .ok (.i2l, 1) := by decide +kernel
theorem dX12_sized_41 : decode cX12_sized 41 = .ok (.lconst 0, 1) := by decide +kernel
theorem dX12_sized_42 : decode cX12_sized 42 = .ok (.ldc2_w 238, 3) := by decide +kernel
theorem dX12_sized_45 : decode cX12_sized 45 = .ok (.invokestatic 181, 3) := by decide +kernel
theorem dX12_sized_48 : decode cX12_sized 48 = .ok (.ifCond .ne 5, 3) := by decide +kernel
theorem dX12_sized_51 : decode cX12_sized 51 = .ok (.iconst (-1), 1) := by decide +kernel
theorem dX12_sized_52 : decode cX12_sized 52 = .ok (.ireturn, 1) := by decide +kernel
theorem dX12_sized_53 : decode cX12_sized 53 = .ok (.iconst 0, 1) := by decide +kernel
theorem dX12_sized_54 : decode cX12_sized 54 = .ok (.istore 5, 2) := by decide +kernel
theorem dX12_sized_56 : decode cX12_sized 56 = .ok (.bipush (-4), 2) := by decide +kernel
theorem dX12_sized_58 : decode cX12_sized 58 = .ok (.istore 6, 2) := by decide +kernel
theorem dX12_sized_60 : decode cX12_sized 60 = .ok (.bipush 51, 2) := by decide +kernel
theorem dX12_sized_62 : decode cX12_sized 62 = .ok (.istore 7, 2) := by decide +kernel
theorem dX12_sized_64 : decode cX12_sized 64 = .ok (.aload_n 0, 1) := by decide +kernel
theorem dX12_sized_65 : decode cX12_sized 65 = .ok (.getfield 235, 3) := by decide +kernel
theorem dX12_sized_68 : decode cX12_sized 68 = .ok (.iconst 1, 1) := by decide +kernel
theorem dX12_sized_69 : decode cX12_sized 69 = .ok (.isub, 1) := by decide +kernel
theorem dX12_sized_70 : decode cX12_sized 70 = .ok (.istore 8, 2) := by decide +kernel
theorem dX12_sized_72 : decode cX12_sized 72 = .ok (.iload 8, 2) := by decide +kernel
theorem dX12_sized_74 : decode cX12_sized 74 = .ok (.ifCond .lt 63, 3) := by decide +kernel
theorem dX12_sized_77 : decode cX12_sized 77 = .ok (.aload_n 0, 1) := by decide +kernel
theorem dX12_sized_78 : decode cX12_sized 78 = .ok (.getfield 37, 3) := by decide +kernel
theorem dX12_sized_81 : decode cX12_sized 81 = .ok (.iload 8, 2) := by decide +kernel
theorem dX12_sized_83 : decode cX12_sized 83 = .ok (.iaload, 1) := by decide +kernel
theorem dX12_sized_84 : decode cX12_sized 84 = .ok (.iload_n 2, 1) := by decide +kernel
theorem dX12_sized_85 : decode cX12_sized 85 = .ok (.if_icmp .ne 46, 3) := by decide +kernel
theorem dX12_sized_88 : decode cX12_sized 88 = .ok (.aload_n 0, 1) := by decide +kernel
theorem dX12_sized_89 : decode cX12_sized 89 = .ok (.iload 8, 2) := by decide +kernel
theorem dX12_sized_91 : decode cX12_sized 91 = .ok (.iload_n 1, 1) := by decide +kernel
theorem dX12_sized_92 : decode cX12_sized 92 = .ok (.iload_n 3, 1) := by decide +kernel
theorem dX12_sized_93 : decode cX12_sized 93 = .ok (.invokevirtual 240, 3) := by decide +kernel
theorem dX12_sized_96 : decode cX12_sized 96 = .ok (.ifCond .eq 10, 3) := by decide +kernel
theorem dX12_sized_99 : decode cX12_sized 99 = .ok (.iinc 5 1, 3) := by decide +kernel
theorem dX12_sized_102 : decode cX12_sized 102 = .ok (.iload 8, 2) := by decide +kernel
theorem dX12_sized_104 : decode cX12_sized 104 = .ok (.istore 6, 2) := by decide +kernel
theorem dX12_sized_106 : decode cX12_sized 106 = .ok (.iload 7, 2) := by decide +kernel
theorem dX12_sized_108 : decode cX12_sized 108 = .ok (.ifCond .le 23, 3) := by decide +kernel
theorem dX12_sized_111 : decode cX12_sized 111 = .ok (.aload_n 0, 1) := by decide +kernel
theorem dX12_sized_112 : decode cX12_sized 112 = .ok (.iload 8, 2) := by decide +kernel
theorem dX12_sized_114 : decode cX12_sized 114 = .ok (.iload_n 1, 1) := by decide +kernel
theorem dX12_sized_115 : decode cX12_sized 115 = .ok (.iload 7, 2) := by decide +kernel
theorem dX12_sized_117 : decode cX12_sized 117 = .ok (.iconst 1, 1) := by decide +kernel
theorem dX12_sized_118 : decode cX12_sized 118 = .ok (.isub, 1) := by decide +kernel
theorem dX12_sized_119 : decode cX12_sized 119 = .ok (.invokevirtual 240, 3) := by decide +kernel
theorem dX12_sized_122 : decode cX12_sized 122 = .ok (.ifCond .eq 9, 3) := by decide +kernel
theorem dX12_sized_125 : decode cX12_sized 125 = .ok (.iinc 7 (-1), 3) := by decide +kernel
theorem dX12_sized_128 : decode cX12_sized 128 = .ok (.goto (-22), 3) := by decide +kernel
theorem dX12_sized_131 : decode cX12_sized 131 = .ok (.iinc 8 (-1), 3) := by decide +kernel
theorem dX12_sized_134 : decode cX12_sized 134 = .ok (.goto (-62), 3) := by decide +kernel
theorem dX12_sized_137 : decode cX12_sized 137 = .ok (.iload 4, 2) := by decide +kernel
theorem dX12_sized_139 : decode cX12_sized 139 = .ok (.ifCond .ne 8, 3) := by decide +kernel
theorem dX12_sized_142 : decode cX12_sized 142 = .ok (.iload 5, 2) := by decide +kernel
theorem dX12_sized_144 : decode cX12_sized 144 = .ok (.goto 28, 3) := by decide +kernel
theorem dX12_sized_147 : decode cX12_sized 147 = .ok (.iload 4, 2) := by decide +kernel
theorem dX12_sized_149 : decode cX12_sized 149 = .ok (.iconst 1, 1) := by decide +kernel
theorem dX12_sized_150 : decode cX12_sized 150 = .ok (.if_icmp .ne 8, 3) := by decide +kernel
theorem dX12_sized_153 : decode cX12_sized 153 = .ok (.iload 6, 2) := by decide +kernel
theorem dX12_sized_155 : decode cX12_sized 155 = .ok (.goto 17, 3) := by decide +kernel
theorem dX12_sized_158 : decode cX12_sized 158 = .ok (.iload 7, 2) := by decide +kernel
theorem dX12_sized_160 : decode cX12_sized 160 = .ok (.bipush 50, 2) := by decide +kernel
theorem dX12_sized_162 : decode cX12_sized 162 = .ok (.if_icmp .le 8, 3) := by decide +kernel
theorem dX12_sized_165 : decode cX12_sized 165 = .ok (.bipush (-4), 2) := by decide +kernel
theorem dX12_sized_167 : decode cX12_sized 167 = .ok (.goto 5, 3) := by decide +kernel
theorem dX12_sized_170 : decode cX12_sized 170 = .ok (.iload 7, 2) := by decide +kernel
theorem dX12_sized_172 : decode cX12_sized 172 = .ok (.ireturn, 1) := by decide +kernel
theorem dX12_sizeOf_0 : decode cX12_sizeOf 0 = .ok (.iconst 0, 1) := by decide +kernel
theorem dX12_sizeOf_1 : decode cX12_sizeOf 1 = .ok (.istore_n 1, 1) := by decide +kernel
theorem dX12_sizeOf_2 : decode cX12_sizeOf 2 = .ok (.iconst 0, 1) := by decide +kernel
theorem dX12_sizeOf_3 : decode cX12_sizeOf 3 = .ok (.istore_n 2, 1) := by decide +kernel
theorem dX12_sizeOf_4 : decode cX12_sizeOf 4 = .ok (.iload_n 2, 1) := by decide +kernel
theorem dX12_sizeOf_5 : decode cX12_sizeOf 5 = .ok (.bipush 16, 2) := by decide +kernel
theorem dX12_sizeOf_7 : decode cX12_sizeOf 7 = .ok (.if_icmp .ge 17, 3) := by decide +kernel
theorem dX12_sizeOf_10 : decode cX12_sizeOf 10 = .ok (.iload_n 1, 1) := by decide +kernel
theorem dX12_sizeOf_11 : decode cX12_sizeOf 11 = .ok (.iload_n 0, 1) := by decide +kernel
theorem dX12_sizeOf_12 : decode cX12_sizeOf 12 = .ok (.iload_n 2, 1) := by decide +kernel
theorem dX12_sizeOf_13 : decode cX12_sizeOf 13 = .ok (.ishr, 1) := by decide +kernel
theorem dX12_sizeOf_14 : decode cX12_sizeOf 14 = .ok (.iconst 1, 1) := by decide +kernel
theorem dX12_sizeOf_15 : decode cX12_sizeOf 15 = .ok (.iand, 1) := by decide +kernel
theorem dX12_sizeOf_16 : decode cX12_sizeOf 16 = .ok (.iadd, 1) := by decide +kernel
theorem dX12_sizeOf_17 : decode cX12_sizeOf 17 = .ok (.istore_n 1, 1) := by decide +kernel
theorem dX12_sizeOf_18 : decode cX12_sizeOf 18 = .ok (.iinc 2 1, 3) := by decide +kernel
theorem dX12_sizeOf_21 : decode cX12_sizeOf 21 = .ok (.goto (-17), 3) := by decide +kernel
theorem dX12_sizeOf_24 : decode cX12_sizeOf 24 = .ok (.iload_n 1, 1) := by decide +kernel
theorem dX12_sizeOf_25 : decode cX12_sizeOf 25 = .ok (.ireturn, 1) := by decide +kernel
theorem dX12_fittedBy_0 : decode cX12_fittedBy 0 = .ok (.iconst 0, 1) := by decide +kernel
theorem dX12_fittedBy_1 : decode cX12_fittedBy 1 = .ok (.istore_n 2, 1) := by decide +kernel
theorem dX12_fittedBy_2 : decode cX12_fittedBy 2 = .ok (.iconst 0, 1) := by decide +kernel
theorem dX12_fittedBy_3 : decode cX12_fittedBy 3 = .ok (.istore_n 3, 1) := by decide +kernel
theorem dX12_fittedBy_4 : decode cX12_fittedBy 4 = .ok (.iload_n 3, 1) := by decide +kernel
theorem dX12_fittedBy_5 : decode cX12_fittedBy 5 = .ok (.aload_n 0, 1) := by decide +kernel
theorem dX12_fittedBy_6 : decode cX12_fittedBy 6 = .ok (.getfield 235, 3) := by decide +kernel
theorem dX12_fittedBy_9 : decode cX12_fittedBy 9 = .ok (.if_icmp .ge 31, 3) := by decide +kernel
theorem dX12_fittedBy_12 : decode cX12_fittedBy 12 = .ok (.iload_n 2, 1) := by decide +kernel
theorem dX12_fittedBy_13 : decode cX12_fittedBy 13 = .ok (.iload_n 1, 1) := by decide +kernel
theorem dX12_fittedBy_14 : decode cX12_fittedBy 14 = .ok (.iload_n 3, 1) := by decide +kernel
theorem dX12_fittedBy_15 : decode cX12_fittedBy 15 = .ok (.ishr, 1) := by decide +kernel
theorem dX12_fittedBy_16 : decode cX12_fittedBy 16 = .ok (.iconst 1, 1) := by decide +kernel
theorem dX12_fittedBy_17 : decode cX12_fittedBy 17 = .ok (.iand, 1) := by decide +kernel
theorem dX12_fittedBy_18 : decode cX12_fittedBy 18 = .ok (.iconst 1, 1) := by decide +kernel
theorem dX12_fittedBy_19 : decode cX12_fittedBy 19 = .ok (.if_icmp .ne 12, 3) := by decide +kernel
theorem dX12_fittedBy_22 : decode cX12_fittedBy 22 = .ok (.aload_n 0, 1) := by decide +kernel
theorem dX12_fittedBy_23 : decode cX12_fittedBy 23 = .ok (.getfield 43, 3) := by decide +kernel
theorem dX12_fittedBy_26 : decode cX12_fittedBy 26 = .ok (.iload_n 3, 1) := by decide +kernel
theorem dX12_fittedBy_27 : decode cX12_fittedBy 27 = .ok (.iaload, 1) := by decide +kernel
theorem dX12_fittedBy_28 : decode cX12_fittedBy 28 = .ok (.goto 4, 3) := by decide +kernel
theorem dX12_fittedBy_31 : decode cX12_fittedBy 31 = .ok (.iconst 0, 1) := by decide +kernel
theorem dX12_fittedBy_32 : decode cX12_fittedBy 32 = .ok (.ior, 1) := by decide +kernel
theorem dX12_fittedBy_33 : decode cX12_fittedBy 33 = .ok (.istore_n 2, 1) := by decide +kernel
theorem dX12_fittedBy_34 : decode cX12_fittedBy 34 = .ok (.iinc 3 1, 3) := by decide +kernel
theorem dX12_fittedBy_37 : decode cX12_fittedBy 37 = .ok (.goto (-33), 3) := by decide +kernel
theorem dX12_fittedBy_40 : decode cX12_fittedBy 40 = .ok (.iload_n 2, 1) := by decide +kernel
theorem dX12_fittedBy_41 : decode cX12_fittedBy 41 = .ok (.ireturn, 1) := by decide +kernel
theorem dX12_chosen_0 : decode cX12_chosen 0 = .ok (.iload_n 1, 1) := by decide +kernel
theorem dX12_chosen_1 : decode cX12_chosen 1 = .ok (.i2l, 1) := by decide +kernel
theorem dX12_chosen_2 : decode cX12_chosen 2 = .ok (.lconst 0, 1) := by decide +kernel
theorem dX12_chosen_3 : decode cX12_chosen 3 = .ok (.ldc2_w 192, 3) := by decide +kernel
theorem dX12_chosen_6 : decode cX12_chosen 6 = .ok (.invokestatic 181, 3) := by decide +kernel
theorem dX12_chosen_9 : decode cX12_chosen 9 = .ok (.ifCond .eq 27, 3) := by decide +kernel
theorem dX12_chosen_12 : decode cX12_chosen 12 = .ok (.iload_n 2, 1) := by decide +kernel
theorem dX12_chosen_13 : decode cX12_chosen 13 = .ok (.i2l, 1) := by decide +kernel
theorem dX12_chosen_14 : decode cX12_chosen 14 = .ok (.lconst 0, 1) := by decide +kernel
theorem dX12_chosen_15 : decode cX12_chosen 15 = .ok (.ldc2_w 216, 3) := by decide +kernel
theorem dX12_chosen_18 : decode cX12_chosen 18 = .ok (.invokestatic 181, 3) := by decide +kernel
theorem dX12_chosen_21 : decode cX12_chosen 21 = .ok (.ifCond .eq 15, 3) := by decide +kernel
theorem dX12_chosen_24 : decode cX12_chosen 24 = .ok (.iload_n 3, 1) := by decide +kernel
theorem dX12_chosen_25 : decode cX12_chosen 25 = .ok (.i2l, 1) := by decide +kernel
theorem dX12_chosen_26 : decode cX12_chosen 26 = .ok (.lconst 0, 1) := by decide +kernel
theorem dX12_chosen_27 : decode cX12_chosen 27 = .ok (.ldc2_w 194, 3) := by decide +kernel
theorem dX12_chosen_30 : decode cX12_chosen 30 = .ok (.invokestatic 181, 3) := by decide +kernel
theorem dX12_chosen_33 : decode cX12_chosen 33 = .ok (.ifCond .ne 5, 3) := by decide +kernel
theorem dX12_chosen_36 : decode cX12_chosen 36 = .ok (.iconst (-1), 1) := by decide +kernel
theorem dX12_chosen_37 : decode cX12_chosen 37 = .ok (.ireturn, 1) := by decide +kernel
theorem dX12_chosen_38 : decode cX12_chosen 38 = .ok (.iconst 0, 1) := by decide +kernel
theorem dX12_chosen_39 : decode cX12_chosen 39 = .ok (.istore 4, 2) := by decide +kernel
theorem dX12_chosen_41 : decode cX12_chosen 41 = .ok (.iconst 0, 1) := by decide +kernel
theorem dX12_chosen_42 : decode cX12_chosen 42 = .ok (.istore 5, 2) := by decide +kernel
theorem dX12_chosen_44 : decode cX12_chosen 44 = .ok (.iload 5, 2) := by decide +kernel
theorem dX12_chosen_46 : decode cX12_chosen 46 = .ok (.aload_n 0, 1) := by decide +kernel
theorem dX12_chosen_47 : decode cX12_chosen 47 = .ok (.getfield 235, 3) := by decide +kernel
theorem dX12_chosen_50 : decode cX12_chosen 50 = .ok (.if_icmp .ge 89, 3) := by decide +kernel
theorem dX12_chosen_53 : decode cX12_chosen 53 = .ok (.iload 4, 2) := by decide +kernel
theorem dX12_chosen_55 : decode cX12_chosen 55 = .ok (.aload_n 0, 1) := by decide +kernel
theorem dX12_chosen_56 : decode cX12_chosen 56 = .ok (.getfield 37, 3) := by decide +kernel
theorem dX12_chosen_59 : decode cX12_chosen 59 = .ok (.iload 5, 2) := by decide +kernel
theorem dX12_chosen_61 : decode cX12_chosen 61 = .ok (.iaload, 1) := by decide +kernel
theorem dX12_chosen_62 : decode cX12_chosen 62 = .ok (.iload_n 1, 1) := by decide +kernel
theorem dX12_chosen_63 : decode cX12_chosen 63 = .ok (.if_icmp .ne 10, 3) := by decide +kernel
theorem dX12_chosen_66 : decode cX12_chosen 66 = .ok (.iconst 1, 1) := by decide +kernel
theorem dX12_chosen_67 : decode cX12_chosen 67 = .ok (.iload 5, 2) := by decide +kernel
theorem dX12_chosen_69 : decode cX12_chosen 69 = .ok (.ishl, 1) := by decide +kernel
theorem dX12_chosen_70 : decode cX12_chosen 70 = .ok (.goto 4, 3) := by decide +kernel
theorem dX12_chosen_73 : decode cX12_chosen 73 = .ok (.iconst 0, 1) := by decide +kernel
theorem dX12_chosen_74 : decode cX12_chosen 74 = .ok (.ior, 1) := by decide +kernel
theorem dX12_chosen_75 : decode cX12_chosen 75 = .ok (.istore 4, 2) := by decide +kernel
theorem dX12_chosen_77 : decode cX12_chosen 77 = .ok (.aload_n 0, 1) := by decide +kernel
theorem dX12_chosen_78 : decode cX12_chosen 78 = .ok (.getfield 43, 3) := by decide +kernel
theorem dX12_chosen_81 : decode cX12_chosen 81 = .ok (.iload 5, 2) := by decide +kernel
theorem dX12_chosen_83 : decode cX12_chosen 83 = .ok (.iconst 0, 1) := by decide +kernel
theorem dX12_chosen_84 : decode cX12_chosen 84 = .ok (.iastore, 1) := by decide +kernel
theorem dX12_chosen_85 : decode cX12_chosen 85 = .ok (.iconst 0, 1) := by decide +kernel
theorem dX12_chosen_86 : decode cX12_chosen 86 = .ok (.istore 6, 2) := by decide +kernel
theorem dX12_chosen_88 : decode cX12_chosen 88 = .ok (.iload 6, 2) := by decide +kernel
theorem dX12_chosen_90 : decode cX12_chosen 90 = .ok (.aload_n 0, 1) := by decide +kernel
theorem dX12_chosen_91 : decode cX12_chosen 91 = .ok (.getfield 177, 3) := by decide +kernel
theorem dX12_chosen_94 : decode cX12_chosen 94 = .ok (.if_icmp .ge 39, 3) := by decide +kernel
theorem dX12_chosen_97 : decode cX12_chosen 97 = .ok (.aload_n 0, 1) := by decide +kernel
theorem dX12_chosen_98 : decode cX12_chosen 98 = .ok (.getfield 43, 3) := by decide +kernel
theorem dX12_chosen_101 : decode cX12_chosen 101 = .ok (.iload 5, 2) := by decide +kernel
theorem dX12_chosen_103 : decode cX12_chosen 103 = .ok (.dup2, 1) := by decide +kernel
theorem dX12_chosen_104 : decode cX12_chosen 104 = .ok (.iaload, 1) := by decide +kernel
theorem dX12_chosen_105 : decode cX12_chosen 105 = .ok (.aload_n 0, 1) := by decide +kernel
theorem dX12_chosen_106 : decode cX12_chosen 106 = .ok (.iload 5, 2) := by decide +kernel
theorem dX12_chosen_108 : decode cX12_chosen 108 = .ok (.iload 6, 2) := by decide +kernel
theorem dX12_chosen_110 : decode cX12_chosen 110 = .ok (.iconst 0, 1) := by decide +kernel
theorem dX12_chosen_111 : decode cX12_chosen 111 = .ok (.invokevirtual 240, 3) := by decide +kernel
theorem dX12_chosen_114 : decode cX12_chosen 114 = .ok (.ifCond .eq 10, 3) := by decide +kernel
theorem dX12_chosen_117 : decode cX12_chosen 117 = .ok (.iconst 1, 1) := by decide +kernel
theorem dX12_chosen_118 : decode cX12_chosen 118 = .ok (.iload 6, 2) := by decide +kernel
theorem dX12_chosen_120 : decode cX12_chosen 120 = .ok (.ishl, 1) := by decide +kernel
theorem dX12_chosen_121 : decode cX12_chosen 121 = .ok (.goto 4, 3) := by decide +kernel
theorem dX12_chosen_124 : decode cX12_chosen 124 = .ok (.iconst 0, 1) := by decide +kernel
theorem dX12_chosen_125 : decode cX12_chosen 125 = .ok (.ior, 1) := by decide +kernel
theorem dX12_chosen_126 : decode cX12_chosen 126 = .ok (.iastore, 1) := by decide +kernel
theorem dX12_chosen_127 : decode cX12_chosen 127 = .ok (.iinc 6 1, 3) := by decide +kernel
theorem dX12_chosen_130 : decode cX12_chosen 130 = .ok (.goto (-42), 3) := by decide +kernel
theorem dX12_chosen_133 : decode cX12_chosen 133 = .ok (.iinc 5 1, 3) := by decide +kernel
theorem dX12_chosen_136 : decode cX12_chosen 136 = .ok (.goto (-92), 3) := by decide +kernel
theorem dX12_chosen_139 : decode cX12_chosen 139 = .ok (.iload 4, 2) := by decide +kernel
theorem dX12_chosen_141 : decode cX12_chosen 141 = .ok (.invokestatic 244, 3) := by decide +kernel
theorem dX12_chosen_144 : decode cX12_chosen 144 = .ok (.bipush 10, 2) := by decide +kernel
theorem dX12_chosen_146 : decode cX12_chosen 146 = .ok (.if_icmp .le 6, 3) := by decide +kernel
theorem dX12_chosen_149 : decode cX12_chosen 149 = .ok (.bipush (-2), 2) := by decide +kernel
theorem dX12_chosen_151 : decode cX12_chosen 151 = .ok (.ireturn, 1) := by decide +kernel
theorem dX12_chosen_152 : decode cX12_chosen 152 = .ok (.iconst 0, 1) := by decide +kernel
theorem dX12_chosen_153 : decode cX12_chosen 153 = .ok (.istore 5, 2) := by decide +kernel
theorem dX12_chosen_155 : decode cX12_chosen 155 = .ok (.iconst 0, 1) := by decide +kernel
theorem dX12_chosen_156 : decode cX12_chosen 156 = .ok (.istore 6, 2) := by decide +kernel
theorem dX12_chosen_158 : decode cX12_chosen 158 = .ok (.iconst 1, 1) := by decide +kernel
theorem dX12_chosen_159 : decode cX12_chosen 159 = .ok (.istore 7, 2) := by decide +kernel
theorem dX12_chosen_161 : decode cX12_chosen 161 = .ok (.iload 7, 2) := by decide +kernel
theorem dX12_chosen_163 : decode cX12_chosen 163 = .ok (.iconst 1, 1) := by decide +kernel
theorem dX12_chosen_164 : decode cX12_chosen 164 = .ok (.aload_n 0, 1) := by decide +kernel
theorem dX12_chosen_165 : decode cX12_chosen 165 = .ok (.getfield 235, 3) := by decide +kernel
theorem dX12_chosen_168 : decode cX12_chosen 168 = .ok (.ishl, 1) := by decide +kernel
theorem dX12_chosen_169 : decode cX12_chosen 169 = .ok (.if_icmp .ge 74, 3) := by decide +kernel
theorem dX12_chosen_172 : decode cX12_chosen 172 = .ok (.iload 7, 2) := by decide +kernel
theorem dX12_chosen_174 : decode cX12_chosen 174 = .ok (.iload 4, 2) := by decide +kernel
theorem dX12_chosen_176 : decode cX12_chosen 176 = .ok (.iconst (-1), 1) := by decide +kernel
theorem dX12_chosen_177 : decode cX12_chosen 177 = .ok (.ixor, 1) := by decide +kernel
theorem dX12_chosen_178 : decode cX12_chosen 178 = .ok (.iand, 1) := by decide +kernel
theorem dX12_chosen_179 : decode cX12_chosen 179 = .ok (.ifCond .ne 58, 3) := by decide +kernel
theorem dX12_chosen_182 : decode cX12_chosen 182 = .ok (.iload 7, 2) := by decide +kernel
theorem dX12_chosen_184 : decode cX12_chosen 184 = .ok (.invokestatic 244, 3) := by decide +kernel
theorem dX12_chosen_187 : decode cX12_chosen 187 = .ok (.iload_n 2, 1) := by decide +kernel
theorem dX12_chosen_188 : decode cX12_chosen 188 = .ok (.if_icmp .gt 49, 3) := by decide +kernel
theorem dX12_chosen_191 : decode cX12_chosen 191 = .ok (.aload_n 0, 1) := by decide +kernel
theorem dX12_chosen_192 : decode cX12_chosen 192 = .ok (.iload 7, 2) := by decide +kernel
theorem dX12_chosen_194 : decode cX12_chosen 194 = .ok (.invokevirtual 248, 3) := by decide +kernel
theorem dX12_chosen_197 : decode cX12_chosen 197 = .ok (.invokestatic 244, 3) := by decide +kernel
theorem dX12_chosen_200 : decode cX12_chosen 200 = .ok (.istore 8, 2) := by decide +kernel
theorem dX12_chosen_202 : decode cX12_chosen 202 = .ok (.iload 8, 2) := by decide +kernel
theorem dX12_chosen_204 : decode cX12_chosen 204 = .ok (.iload 6, 2) := by decide +kernel
theorem dX12_chosen_206 : decode cX12_chosen 206 = .ok (.if_icmp .gt 23, 3) := by decide +kernel
theorem dX12_chosen_209 : decode cX12_chosen 209 = .ok (.iload 8, 2) := by decide +kernel
theorem dX12_chosen_211 : decode cX12_chosen 211 = .ok (.iload 6, 2) := by decide +kernel
theorem dX12_chosen_213 : decode cX12_chosen 213 = .ok (.if_icmp .ne 24, 3) := by decide +kernel
theorem dX12_chosen_216 : decode cX12_chosen 216 = .ok (.iload 7, 2) := by decide +kernel
theorem dX12_chosen_218 : decode cX12_chosen 218 = .ok (.invokestatic 244, 3) := by decide +kernel
theorem dX12_chosen_221 : decode cX12_chosen 221 = .ok (.iload 5, 2) := by decide +kernel
theorem dX12_chosen_223 : decode cX12_chosen 223 = .ok (.invokestatic 244, 3) := by decide +kernel
theorem dX12_chosen_226 : decode cX12_chosen 226 = .ok (.if_icmp .ge 11, 3) := by decide +kernel
theorem dX12_chosen_229 : decode cX12_chosen 229 = .ok (.iload 7, 2) := by decide +kernel
theorem dX12_chosen_231 : decode cX12_chosen 231 = .ok (.istore 5, 2) := by decide +kernel
theorem dX12_chosen_233 : decode cX12_chosen 233 = .ok (.iload 8, 2) := by decide +kernel
theorem dX12_chosen_235 : decode cX12_chosen 235 = .ok (.istore 6, 2) := by decide +kernel
theorem dX12_chosen_237 : decode cX12_chosen 237 = .ok (.iinc 7 1, 3) := by decide +kernel
theorem dX12_chosen_240 : decode cX12_chosen 240 = .ok (.goto (-79), 3) := by decide +kernel
theorem dX12_chosen_243 : decode cX12_chosen 243 = .ok (.iload_n 3, 1) := by decide +kernel
theorem dX12_chosen_244 : decode cX12_chosen 244 = .ok (.ifCond .ne 8, 3) := by decide +kernel
theorem dX12_chosen_247 : decode cX12_chosen 247 = .ok (.iload 6, 2) := by decide +kernel
theorem dX12_chosen_249 : decode cX12_chosen 249 = .ok (.goto 30, 3) := by decide +kernel
theorem dX12_chosen_252 : decode cX12_chosen 252 = .ok (.iload_n 3, 1) := by decide +kernel
theorem dX12_chosen_253 : decode cX12_chosen 253 = .ok (.iconst 1, 1) := by decide +kernel
theorem dX12_chosen_254 : decode cX12_chosen 254 = .ok (.if_icmp .ne 8, 3) := by decide +kernel
theorem dX12_chosen_257 : decode cX12_chosen 257 = .ok (.iload 5, 2) := by decide +kernel
theorem dX12_chosen_259 : decode cX12_chosen 259 = .ok (.goto 20, 3) := by decide +kernel
theorem dX12_chosen_262 : decode cX12_chosen 262 = .ok (.iconst 1, 1) := by decide +kernel
theorem dX12_chosen_263 : decode cX12_chosen 263 = .ok (.aload_n 0, 1) := by decide +kernel
theorem dX12_chosen_264 : decode cX12_chosen 264 = .ok (.getfield 177, 3) := by decide +kernel
theorem dX12_chosen_267 : decode cX12_chosen 267 = .ok (.ishl, 1) := by decide +kernel
theorem dX12_chosen_268 : decode cX12_chosen 268 = .ok (.iconst 1, 1) := by decide +kernel
theorem dX12_chosen_269 : decode cX12_chosen 269 = .ok (.isub, 1) := by decide +kernel
theorem dX12_chosen_270 : decode cX12_chosen 270 = .ok (.aload_n 0, 1) := by decide +kernel
theorem dX12_chosen_271 : decode cX12_chosen 271 = .ok (.iload 5, 2) := by decide +kernel
theorem dX12_chosen_273 : decode cX12_chosen 273 = .ok (.invokevirtual 248, 3) := by decide +kernel
theorem dX12_chosen_276 : decode cX12_chosen 276 = .ok (.iconst (-1), 1) := by decide +kernel
theorem dX12_chosen_277 : decode cX12_chosen 277 = .ok (.ixor, 1) := by decide +kernel
theorem dX12_chosen_278 : decode cX12_chosen 278 = .ok (.iand, 1) := by decide +kernel
theorem dX12_chosen_279 : decode cX12_chosen 279 = .ok (.ireturn, 1) := by decide +kernel
theorem dX12_feed_0 : decode cX12_feed 0 = .ok (.aload_n 0, 1) := by decide +kernel
theorem dX12_feed_1 : decode cX12_feed 1 = .ok (.getfield 251, 3) := by decide +kernel
theorem dX12_feed_4 : decode cX12_feed 4 = .ok (.bipush 8, 2) := by decide +kernel
theorem dX12_feed_6 : decode cX12_feed 6 = .ok (.iadd, 1) := by decide +kernel
theorem dX12_feed_7 : decode cX12_feed 7 = .ok (.sipush 240, 3) := by decide +kernel
theorem dX12_feed_10 : decode cX12_feed 10 = .ok (.if_icmp .le 6, 3) := by decide +kernel
theorem dX12_feed_13 : decode cX12_feed 13 = .ok (.bipush (-3), 2) := by decide +kernel
theorem dX12_feed_15 : decode cX12_feed 15 = .ok (.ireturn, 1) := by decide +kernel
theorem dX12_feed_16 : decode cX12_feed 16 = .ok (.bipush 56, 2) := by decide +kernel
theorem dX12_feed_18 : decode cX12_feed 18 = .ok (.istore_n 3, 1) := by decide +kernel
theorem dX12_feed_19 : decode cX12_feed 19 = .ok (.iload_n 3, 1) := by decide +kernel
theorem dX12_feed_20 : decode cX12_feed 20 = .ok (.ifCond .lt 36, 3) := by decide +kernel
theorem dX12_feed_23 : decode cX12_feed 23 = .ok (.aload_n 0, 1) := by decide +kernel
theorem dX12_feed_24 : decode cX12_feed 24 = .ok (.getfield 46, 3) := by decide +kernel
theorem dX12_feed_27 : decode cX12_feed 27 = .ok (.aload_n 0, 1) := by decide +kernel
theorem dX12_feed_28 : decode cX12_feed 28 = .ok (.getfield 251, 3) := by decide +kernel
theorem dX12_feed_31 : decode cX12_feed 31 = .ok (.lload_n 1, 1) := by decide +kernel
theorem dX12_feed_32 : decode cX12_feed 32 = .ok (.iload_n 3, 1) := by decide +kernel
theorem dX12_feed_33 : decode cX12_feed 33 = .ok (.lshr, 1) := by decide +kernel
theorem dX12_feed_34 : decode cX12_feed 34 = .ok (.l2i, 1) := by decide +kernel
theorem dX12_feed_35 : decode cX12_feed 35 = .ok (.sipush 255, 3) := by decide +kernel
theorem dX12_feed_38 : decode cX12_feed 38 = .ok (.iand, 1) := by decide +kernel
theorem dX12_feed_39 : decode cX12_feed 39 = .ok (.iastore, 1) := by decide +kernel
theorem dX12_feed_40 : decode cX12_feed 40 = .ok (.aload_n 0, 1) := by decide +kernel
theorem dX12_feed_41 : decode cX12_feed 41 = .ok (.dup, 1) := by decide +kernel
theorem dX12_feed_42 : decode cX12_feed 42 = .ok (.getfield 251, 3) := by decide +kernel
theorem dX12_feed_45 : decode cX12_feed 45 = .ok (.iconst 1, 1) := by decide +kernel
theorem dX12_feed_46 : decode cX12_feed 46 = .ok (.iadd, 1) := by decide +kernel
theorem dX12_feed_47 : decode cX12_feed 47 = .ok (.putfield 251, 3) := by decide +kernel
theorem dX12_feed_50 : decode cX12_feed 50 = .ok (.iinc 3 (-8), 3) := by decide +kernel
theorem dX12_feed_53 : decode cX12_feed 53 = .ok (.goto (-34), 3) := by decide +kernel
theorem dX12_feed_56 : decode cX12_feed 56 = .ok (.aload_n 0, 1) := by decide +kernel
theorem dX12_feed_57 : decode cX12_feed 57 = .ok (.getfield 251, 3) := by decide +kernel
theorem dX12_feed_60 : decode cX12_feed 60 = .ok (.ireturn, 1) := by decide +kernel
theorem dX12_end_0 : decode cX12_end 0 = .ok (.iload_n 1, 1) := by decide +kernel
theorem dX12_end_1 : decode cX12_end 1 = .ok (.i2l, 1) := by decide +kernel
theorem dX12_end_2 : decode cX12_end 2 = .ok (.lconst 0, 1) := by decide +kernel
theorem dX12_end_3 : decode cX12_end 3 = .ok (.aload_n 0, 1) := by decide +kernel
theorem dX12_end_4 : decode cX12_end 4 = .ok (.getfield 251, 3) := by decide +kernel
theorem dX12_end_7 : decode cX12_end 7 = .ok (.i2l, 1) := by decide +kernel
theorem dX12_end_8 : decode cX12_end 8 = .ok (.invokestatic 181, 3) := by decide +kernel
theorem dX12_end_11 : decode cX12_end 11 = .ok (.ifCond .ne 5, 3) := by decide +kernel
theorem dX12_end_14 : decode cX12_end 14 = .ok (.iconst (-1), 1) := by decide +kernel
theorem dX12_end_15 : decode cX12_end 15 = .ok (.ireturn, 1) := by decide +kernel
theorem dX12_end_16 : decode cX12_end 16 = .ok (.aload_n 0, 1) := by decide +kernel
theorem dX12_end_17 : decode cX12_end 17 = .ok (.getfield 251, 3) := by decide +kernel
theorem dX12_end_20 : decode cX12_end 20 = .ok (.istore_n 2, 1) := by decide +kernel
theorem dX12_end_21 : decode cX12_end 21 = .ok (.aload_n 0, 1) := by decide +kernel
theorem dX12_end_22 : decode cX12_end 22 = .ok (.iload_n 1, 1) := by decide +kernel
theorem dX12_end_23 : decode cX12_end 23 = .ok (.putfield 251, 3) := by decide +kernel
theorem dX12_end_26 : decode cX12_end 26 = .ok (.iload_n 2, 1) := by decide +kernel
theorem dX12_end_27 : decode cX12_end 27 = .ok (.ireturn, 1) := by decide +kernel
theorem dX12_byteAt_0 : decode cX12_byteAt 0 = .ok (.iload_n 1, 1) := by decide +kernel
theorem dX12_byteAt_1 : decode cX12_byteAt 1 = .ok (.aload_n 0, 1) := by decide +kernel
theorem dX12_byteAt_2 : decode cX12_byteAt 2 = .ok (.getfield 251, 3) := by decide +kernel
theorem dX12_byteAt_5 : decode cX12_byteAt 5 = .ok (.if_icmp .ge 12, 3) := by decide +kernel
theorem dX12_byteAt_8 : decode cX12_byteAt 8 = .ok (.aload_n 0, 1) := by decide +kernel
theorem dX12_byteAt_9 : decode cX12_byteAt 9 = .ok (.getfield 46, 3) := by decide +kernel
theorem dX12_byteAt_12 : decode cX12_byteAt 12 = .ok (.iload_n 1, 1) := by decide +kernel
theorem dX12_byteAt_13 : decode cX12_byteAt 13 = .ok (.iaload, 1) := by decide +kernel
theorem dX12_byteAt_14 : decode cX12_byteAt 14 = .ok (.goto 5, 3) := by decide +kernel
theorem dX12_byteAt_17 : decode cX12_byteAt 17 = .ok (.bipush (-4), 2) := by decide +kernel
theorem dX12_byteAt_19 : decode cX12_byteAt 19 = .ok (.ireturn, 1) := by decide +kernel
theorem dX12_fails_0 : decode cX12_fails 0 = .ok (.aload_n 0, 1) := by decide +kernel
theorem dX12_fails_1 : decode cX12_fails 1 = .ok (.getfield 254, 3) := by decide +kernel
theorem dX12_fails_4 : decode cX12_fails 4 = .ok (.ifCond .ne 16, 3) := by decide +kernel
theorem dX12_fails_7 : decode cX12_fails 7 = .ok (.aload_n 0, 1) := by decide +kernel
theorem dX12_fails_8 : decode cX12_fails 8 = .ok (.iload_n 1, 1) := by decide +kernel
theorem dX12_fails_9 : decode cX12_fails 9 = .ok (.putfield 254, 3) := by decide +kernel
theorem dX12_fails_12 : decode cX12_fails 12 = .ok (.aload_n 0, 1) := by decide +kernel
theorem dX12_fails_13 : decode cX12_fails 13 = .ok (.aload_n 0, 1) := by decide +kernel
theorem dX12_fails_14 : decode cX12_fails 14 = .ok (.getfield 257, 3) := by decide +kernel
theorem dX12_fails_17 : decode cX12_fails 17 = .ok (.putfield 260, 3) := by decide +kernel
theorem dX12_fails_20 : decode cX12_fails 20 = .ok (.return_, 1) := by decide +kernel
theorem dX12_nameAt_0 : decode cX12_nameAt 0 = .ok (.iconst 0, 1) := by decide +kernel
theorem dX12_nameAt_1 : decode cX12_nameAt 1 = .ok (.istore_n 3, 1) := by decide +kernel
theorem dX12_nameAt_2 : decode cX12_nameAt 2 = .ok (.iload_n 3, 1) := by decide +kernel
theorem dX12_nameAt_3 : decode cX12_nameAt 3 = .ok (.bipush 9, 2) := by decide +kernel
theorem dX12_nameAt_5 : decode cX12_nameAt 5 = .ok (.if_icmp .ge 98, 3) := by decide +kernel
theorem dX12_nameAt_8 : decode cX12_nameAt 8 = .ok (.iload_n 2, 1) := by decide +kernel
theorem dX12_nameAt_9 : decode cX12_nameAt 9 = .ok (.iload_n 1, 1) := by decide +kernel
theorem dX12_nameAt_10 : decode cX12_nameAt 10 = .ok (.isub, 1) := by decide +kernel
theorem dX12_nameAt_11 : decode cX12_nameAt 11 = .ok (.aload_n 0, 1) := by decide +kernel
theorem dX12_nameAt_12 : decode cX12_nameAt 12 = .ok (.getfield 49, 3) := by decide +kernel
theorem dX12_nameAt_15 : decode cX12_nameAt 15 = .ok (.iload_n 3, 1) := by decide +kernel
theorem dX12_nameAt_16 : decode cX12_nameAt 16 = .ok (.iconst 1, 1) := by decide +kernel
theorem dX12_nameAt_17 : decode cX12_nameAt 17 = .ok (.iadd, 1) := by decide +kernel
theorem dX12_nameAt_18 : decode cX12_nameAt 18 = .ok (.iaload, 1) := by decide +kernel
theorem dX12_nameAt_19 : decode cX12_nameAt 19 = .ok (.aload_n 0, 1) := by decide +kernel
theorem dX12_nameAt_20 : decode cX12_nameAt 20 = .ok (.getfield 49, 3) := by decide +kernel
theorem dX12_nameAt_23 : decode cX12_nameAt 23 = .ok (.iload_n 3, 1) := by decide +kernel
theorem dX12_nameAt_24 : decode cX12_nameAt 24 = .ok (.iaload, 1) := by decide +kernel
theorem dX12_nameAt_25 : decode cX12_nameAt 25 = .ok (.isub, 1) := by decide +kernel
theorem dX12_nameAt_26 : decode cX12_nameAt 26 = .ok (.if_icmp .ne 7, 3) := by decide +kernel
theorem dX12_nameAt_29 : decode cX12_nameAt 29 = .ok (.iconst 1, 1) := by decide +kernel
theorem dX12_nameAt_30 : decode cX12_nameAt 30 = .ok (.goto 4, 3) := by decide +kernel
theorem dX12_nameAt_33 : decode cX12_nameAt 33 = .ok (.iconst 0, 1) := by decide +kernel
theorem dX12_nameAt_34 : decode cX12_nameAt 34 = .ok (.istore 4, 2) := by decide +kernel
theorem dX12_nameAt_36 : decode cX12_nameAt 36 = .ok (.iconst 0, 1) := by decide +kernel
theorem dX12_nameAt_37 : decode cX12_nameAt 37 = .ok (.istore 5, 2) := by decide +kernel
theorem dX12_nameAt_39 : decode cX12_nameAt 39 = .ok (.iload 5, 2) := by decide +kernel
theorem dX12_nameAt_41 : decode cX12_nameAt 41 = .ok (.iload_n 2, 1) := by decide +kernel
theorem dX12_nameAt_42 : decode cX12_nameAt 42 = .ok (.iload_n 1, 1) := by decide +kernel
theorem dX12_nameAt_43 : decode cX12_nameAt 43 = .ok (.isub, 1) := by decide +kernel
theorem dX12_nameAt_44 : decode cX12_nameAt 44 = .ok (.if_icmp .ge 46, 3) := by decide +kernel
theorem dX12_nameAt_47 : decode cX12_nameAt 47 = .ok (.iload 4, 2) := by decide +kernel
theorem dX12_nameAt_49 : decode cX12_nameAt 49 = .ok (.ifCond .eq 41, 3) := by decide +kernel
theorem dX12_nameAt_52 : decode cX12_nameAt 52 = .ok (.aload_n 0, 1) := by decide +kernel
theorem dX12_nameAt_53 : decode cX12_nameAt 53 = .ok (.iload_n 1, 1) := by decide +kernel
theorem dX12_nameAt_54 : decode cX12_nameAt 54 = .ok (.iload 5, 2) := by decide +kernel
theorem dX12_nameAt_56 : decode cX12_nameAt 56 = .ok (.iadd, 1) := by decide +kernel
theorem dX12_nameAt_57 : decode cX12_nameAt 57 = .ok (.invokevirtual 263, 3) := by decide +kernel
theorem dX12_nameAt_60 : decode cX12_nameAt 60 = .ok (.aload_n 0, 1) := by decide +kernel
theorem dX12_nameAt_61 : decode cX12_nameAt 61 = .ok (.getfield 52, 3) := by decide +kernel
theorem dX12_nameAt_64 : decode cX12_nameAt 64 = .ok (.aload_n 0, 1) := by decide +kernel
theorem dX12_nameAt_65 : decode cX12_nameAt 65 = .ok (.getfield 49, 3) := by decide +kernel
theorem dX12_nameAt_68 : decode cX12_nameAt 68 = .ok (.iload_n 3, 1) := by decide +kernel
theorem dX12_nameAt_69 : decode cX12_nameAt 69 = .ok (.iaload, 1) := by decide +kernel
theorem dX12_nameAt_70 : decode cX12_nameAt 70 = .ok (.iload 5, 2) := by decide +kernel
theorem dX12_nameAt_72 : decode cX12_nameAt 72 = .ok (.iadd, 1) := by decide +kernel
theorem dX12_nameAt_73 : decode cX12_nameAt 73 = .ok (.iaload, 1) := by decide +kernel
theorem dX12_nameAt_74 : decode cX12_nameAt 74 = .ok (.if_icmp .ne 7, 3) := by decide +kernel
theorem dX12_nameAt_77 : decode cX12_nameAt 77 = .ok (.iconst 1, 1) := by decide +kernel
theorem dX12_nameAt_78 : decode cX12_nameAt 78 = .ok (.goto 4, 3) := by decide +kernel
theorem dX12_nameAt_81 : decode cX12_nameAt 81 = .ok (.iconst 0, 1) := by decide +kernel
theorem dX12_nameAt_82 : decode cX12_nameAt 82 = .ok (.istore 4, 2) := by decide +kernel
theorem dX12_nameAt_84 : decode cX12_nameAt 84 = .ok (.iinc 5 1, 3) := by decide +kernel
theorem dX12_nameAt_87 : decode cX12_nameAt 87 = .ok (.goto (-48), 3) := by decide +kernel
theorem dX12_nameAt_90 : decode cX12_nameAt 90 = .ok (.iload 4, 2) := by decide +kernel
theorem dX12_nameAt_92 : decode cX12_nameAt 92 = .ok (.ifCond .eq 5, 3) := by decide +kernel
theorem dX12_nameAt_95 : decode cX12_nameAt 95 = .ok (.iload_n 3, 1) := by decide +kernel
theorem dX12_nameAt_96 : decode cX12_nameAt 96 = .ok (.ireturn, 1) := by decide +kernel
theorem dX12_nameAt_97 : decode cX12_nameAt 97 = .ok (.iinc 3 1, 3) := by decide +kernel
theorem dX12_nameAt_100 : decode cX12_nameAt 100 = .ok (.goto (-98), 3) := by decide +kernel
theorem dX12_nameAt_103 : decode cX12_nameAt 103 = .ok (.bipush (-4), 2) := by decide +kernel
theorem dX12_nameAt_105 : decode cX12_nameAt 105 = .ok (.ireturn, 1) := by decide +kernel
theorem dX12_next_0 : decode cX12_next 0 = .ok (.aload_n 0, 1) := by decide +kernel
theorem dX12_next_1 : decode cX12_next 1 = .ok (.getfield 254, 3) := by decide +kernel
theorem dX12_next_4 : decode cX12_next 4 = .ok (.ifCond .le 4, 3) := by decide +kernel
theorem dX12_next_7 : decode cX12_next 7 = .ok (.return_, 1) := by decide +kernel
theorem dX12_next_8 : decode cX12_next 8 = .ok (.aload_n 0, 1) := by decide +kernel
theorem dX12_next_9 : decode cX12_next 9 = .ok (.aload_n 0, 1) := by decide +kernel
theorem dX12_next_10 : decode cX12_next 10 = .ok (.getfield 266, 3) := by decide +kernel
theorem dX12_next_13 : decode cX12_next 13 = .ok (.invokevirtual 263, 3) := by decide +kernel
theorem dX12_next_16 : decode cX12_next 16 = .ok (.bipush 32, 2) := by decide +kernel
theorem dX12_next_18 : decode cX12_next 18 = .ok (.if_icmp .ne 16, 3) := by decide +kernel
theorem dX12_next_21 : decode cX12_next 21 = .ok (.aload_n 0, 1) := by decide +kernel
theorem dX12_next_22 : decode cX12_next 22 = .ok (.dup, 1) := by decide +kernel
theorem dX12_next_23 : decode cX12_next 23 = .ok (.getfield 266, 3) := by decide +kernel
theorem dX12_next_26 : decode cX12_next 26 = .ok (.iconst 1, 1) := by decide +kernel
theorem dX12_next_27 : decode cX12_next 27 = .ok (.iadd, 1) := by decide +kernel
theorem dX12_next_28 : decode cX12_next 28 = .ok (.putfield 266, 3) := by decide +kernel
theorem dX12_next_31 : decode cX12_next 31 = .ok (.goto (-23), 3) := by decide +kernel
theorem dX12_next_34 : decode cX12_next 34 = .ok (.aload_n 0, 1) := by decide +kernel
theorem dX12_next_35 : decode cX12_next 35 = .ok (.aload_n 0, 1) := by decide +kernel
theorem dX12_next_36 : decode cX12_next 36 = .ok (.getfield 266, 3) := by decide +kernel
theorem dX12_next_39 : decode cX12_next 39 = .ok (.putfield 257, 3) := by decide +kernel
theorem dX12_next_42 : decode cX12_next 42 = .ok (.aload_n 0, 1) := by decide +kernel
theorem dX12_next_43 : decode cX12_next 43 = .ok (.aload_n 0, 1) := by decide +kernel
theorem dX12_next_44 : decode cX12_next 44 = .ok (.getfield 266, 3) := by decide +kernel
theorem dX12_next_47 : decode cX12_next 47 = .ok (.invokevirtual 263, 3) := by decide +kernel
theorem dX12_next_50 : decode cX12_next 50 = .ok (.istore_n 1, 1) := by decide +kernel
theorem dX12_next_51 : decode cX12_next 51 = .ok (.aload_n 0, 1) := by decide +kernel
theorem dX12_next_52 : decode cX12_next 52 = .ok (.iconst 0, 1) := by decide +kernel
theorem dX12_next_53 : decode cX12_next 53 = .ok (.putfield 269, 3) := by decide +kernel
theorem dX12_next_56 : decode cX12_next 56 = .ok (.iload_n 1, 1) := by decide +kernel
theorem dX12_next_57 : decode cX12_next 57 = .ok (.bipush (-4), 2) := by decide +kernel
theorem dX12_next_59 : decode cX12_next 59 = .ok (.if_icmp .ne 11, 3) := by decide +kernel
theorem dX12_next_62 : decode cX12_next 62 = .ok (.aload_n 0, 1) := by decide +kernel
theorem dX12_next_63 : decode cX12_next 63 = .ok (.iconst 0, 1) := by decide +kernel
theorem dX12_next_64 : decode cX12_next 64 = .ok (.putfield 272, 3) := by decide +kernel
theorem dX12_next_67 : decode cX12_next 67 = .ok (.goto 255, 3) := by decide +kernel
theorem dX12_next_70 : decode cX12_next 70 = .ok (.iload_n 1, 1) := by decide +kernel
theorem dX12_next_71 : decode cX12_next 71 = .ok (.i2l, 1) := by decide +kernel
theorem dX12_next_72 : decode cX12_next 72 = .ok (.ldc2_w 275, 3) := by decide +kernel
theorem dX12_next_75 : decode cX12_next 75 = .ok (.ldc2_w 277, 3) := by decide +kernel
theorem dX12_next_78 : decode cX12_next 78 = .ok (.invokestatic 181, 3) := by decide +kernel
theorem dX12_next_81 : decode cX12_next 81 = .ok (.ifCond .eq 75, 3) := by decide +kernel
theorem dX12_next_84 : decode cX12_next 84 = .ok (.aload_n 0, 1) := by decide +kernel
theorem dX12_next_85 : decode cX12_next 85 = .ok (.aload_n 0, 1) := by decide +kernel
theorem dX12_next_86 : decode cX12_next 86 = .ok (.getfield 266, 3) := by decide +kernel
theorem dX12_next_89 : decode cX12_next 89 = .ok (.invokevirtual 263, 3) := by decide +kernel
theorem dX12_next_92 : decode cX12_next 92 = .ok (.i2l, 1) := by decide +kernel
theorem dX12_next_93 : decode cX12_next 93 = .ok (.ldc2_w 275, 3) := by decide +kernel
theorem dX12_next_96 : decode cX12_next 96 = .ok (.ldc2_w 277, 3) := by decide +kernel
theorem dX12_next_99 : decode cX12_next 99 = .ok (.invokestatic 181, 3) := by decide +kernel
theorem dX12_next_102 : decode cX12_next 102 = .ok (.ifCond .eq 16, 3) := by decide +kernel
theorem dX12_next_105 : decode cX12_next 105 = .ok (.aload_n 0, 1) := by decide +kernel
theorem dX12_next_106 : decode cX12_next 106 = .ok (.dup, 1) := by decide +kernel
theorem dX12_next_107 : decode cX12_next 107 = .ok (.getfield 266, 3) := by decide +kernel
theorem dX12_next_110 : decode cX12_next 110 = .ok (.iconst 1, 1) := by decide +kernel
theorem dX12_next_111 : decode cX12_next 111 = .ok (.iadd, 1) := by decide +kernel
theorem dX12_next_112 : decode cX12_next 112 = .ok (.putfield 266, 3) := by decide +kernel
theorem dX12_next_115 : decode cX12_next 115 = .ok (.goto (-31), 3) := by decide +kernel
theorem dX12_next_118 : decode cX12_next 118 = .ok (.aload_n 0, 1) := by decide +kernel
theorem dX12_next_119 : decode cX12_next 119 = .ok (.iconst 1, 1) := by decide +kernel
theorem dX12_next_120 : decode cX12_next 120 = .ok (.putfield 272, 3) := by decide +kernel
theorem dX12_next_123 : decode cX12_next 123 = .ok (.aload_n 0, 1) := by decide +kernel
theorem dX12_next_124 : decode cX12_next 124 = .ok (.aload_n 0, 1) := by decide +kernel
theorem dX12_next_125 : decode cX12_next 125 = .ok (.aload_n 0, 1) := by decide +kernel
theorem dX12_next_126 : decode cX12_next 126 = .ok (.getfield 257, 3) := by decide +kernel
theorem dX12_next_129 : decode cX12_next 129 = .ok (.aload_n 0, 1) := by decide +kernel
theorem dX12_next_130 : decode cX12_next 130 = .ok (.getfield 266, 3) := by decide +kernel
theorem dX12_next_133 : decode cX12_next 133 = .ok (.invokevirtual 279, 3) := by decide +kernel
theorem dX12_next_136 : decode cX12_next 136 = .ok (.putfield 269, 3) := by decide +kernel
theorem dX12_next_139 : decode cX12_next 139 = .ok (.aload_n 0, 1) := by decide +kernel
theorem dX12_next_140 : decode cX12_next 140 = .ok (.getfield 269, 3) := by decide +kernel
theorem dX12_next_143 : decode cX12_next 143 = .ok (.bipush (-4), 2) := by decide +kernel
theorem dX12_next_145 : decode cX12_next 145 = .ok (.if_icmp .ne 177, 3) := by decide +kernel
theorem dX12_next_148 : decode cX12_next 148 = .ok (.aload_n 0, 1) := by decide +kernel
theorem dX12_next_149 : decode cX12_next 149 = .ok (.iconst 1, 1) := by decide +kernel
theorem dX12_next_150 : decode cX12_next 150 = .ok (.invokevirtual 282, 3) := by decide +kernel
theorem dX12_next_153 : decode cX12_next 153 = .ok (.goto 169, 3) := by decide +kernel
theorem dX12_next_156 : decode cX12_next 156 = .ok (.iload_n 1, 1) := by decide +kernel
theorem dX12_next_157 : decode cX12_next 157 = .ok (.i2l, 1) := by decide +kernel
theorem dX12_next_158 : decode cX12_next 158 = .ok (.ldc2_w 286, 3) := by decide +kernel
theorem dX12_next_161 : decode cX12_next 161 = .ok (.ldc2_w 288, 3) := by decide +kernel
theorem dX12_next_164 : decode cX12_next 164 = .ok (.invokestatic 181, 3) := by decide +kernel
theorem dX12_next_167 : decode cX12_next 167 = .ok (.ifCond .eq 106, 3) := by decide +kernel
theorem dX12_next_170 : decode cX12_next 170 = .ok (.aload_n 0, 1) := by decide +kernel
theorem dX12_next_171 : decode cX12_next 171 = .ok (.aload_n 0, 1) := by decide +kernel
theorem dX12_next_172 : decode cX12_next 172 = .ok (.getfield 266, 3) := by decide +kernel
theorem dX12_next_175 : decode cX12_next 175 = .ok (.invokevirtual 263, 3) := by decide +kernel
theorem dX12_next_178 : decode cX12_next 178 = .ok (.i2l, 1) := by decide +kernel
theorem dX12_next_179 : decode cX12_next 179 = .ok (.ldc2_w 286, 3) := by decide +kernel
theorem dX12_next_182 : decode cX12_next 182 = .ok (.ldc2_w 288, 3) := by decide +kernel
theorem dX12_next_185 : decode cX12_next 185 = .ok (.invokestatic 181, 3) := by decide +kernel
theorem dX12_next_188 : decode cX12_next 188 = .ok (.ifCond .eq 59, 3) := by decide +kernel
theorem dX12_next_191 : decode cX12_next 191 = .ok (.aload_n 0, 1) := by decide +kernel
theorem dX12_next_192 : decode cX12_next 192 = .ok (.aload_n 0, 1) := by decide +kernel
theorem dX12_next_193 : decode cX12_next 193 = .ok (.getfield 266, 3) := by decide +kernel
theorem dX12_next_196 : decode cX12_next 196 = .ok (.aload_n 0, 1) := by decide +kernel
theorem dX12_next_197 : decode cX12_next 197 = .ok (.getfield 257, 3) := by decide +kernel
theorem dX12_next_200 : decode cX12_next 200 = .ok (.isub, 1) := by decide +kernel
theorem dX12_next_201 : decode cX12_next 201 = .ok (.iconst 4, 1) := by decide +kernel
theorem dX12_next_202 : decode cX12_next 202 = .ok (.if_icmp .ge 25, 3) := by decide +kernel
theorem dX12_next_205 : decode cX12_next 205 = .ok (.bipush 10, 2) := by decide +kernel
theorem dX12_next_207 : decode cX12_next 207 = .ok (.aload_n 0, 1) := by decide +kernel
theorem dX12_next_208 : decode cX12_next 208 = .ok (.getfield 269, 3) := by decide +kernel
theorem dX12_next_211 : decode cX12_next 211 = .ok (.imul, 1) := by decide +kernel
theorem dX12_next_212 : decode cX12_next 212 = .ok (.aload_n 0, 1) := by decide +kernel
theorem dX12_next_213 : decode cX12_next 213 = .ok (.aload_n 0, 1) := by decide +kernel
theorem dX12_next_214 : decode cX12_next 214 = .ok (.getfield 266, 3) := by decide +kernel
theorem dX12_next_217 : decode cX12_next 217 = .ok (.invokevirtual 263, 3) := by decide +kernel
theorem dX12_next_220 : decode cX12_next 220 = .ok (.iadd, 1) := by decide +kernel
theorem dX12_next_221 : decode cX12_next 221 = .ok (.bipush 48, 2) := by decide +kernel
theorem dX12_next_223 : decode cX12_next 223 = .ok (.isub, 1) := by decide +kernel
theorem dX12_next_224 : decode cX12_next 224 = .ok (.goto 7, 3) := by decide +kernel
theorem dX12_next_227 : decode cX12_next 227 = .ok (.aload_n 0, 1) := by decide +kernel
theorem dX12_next_228 : decode cX12_next 228 = .ok (.getfield 269, 3) := by decide +kernel
theorem dX12_next_231 : decode cX12_next 231 = .ok (.putfield 269, 3) := by decide +kernel
theorem dX12_next_234 : decode cX12_next 234 = .ok (.aload_n 0, 1) := by decide +kernel
theorem dX12_next_235 : decode cX12_next 235 = .ok (.dup, 1) := by decide +kernel
theorem dX12_next_236 : decode cX12_next 236 = .ok (.getfield 266, 3) := by decide +kernel
theorem dX12_next_239 : decode cX12_next 239 = .ok (.iconst 1, 1) := by decide +kernel
theorem dX12_next_240 : decode cX12_next 240 = .ok (.iadd, 1) := by decide +kernel
theorem dX12_next_241 : decode cX12_next 241 = .ok (.putfield 266, 3) := by decide +kernel
theorem dX12_next_244 : decode cX12_next 244 = .ok (.goto (-74), 3) := by decide +kernel
theorem dX12_next_247 : decode cX12_next 247 = .ok (.aload_n 0, 1) := by decide +kernel
theorem dX12_next_248 : decode cX12_next 248 = .ok (.iconst 2, 1) := by decide +kernel
theorem dX12_next_249 : decode cX12_next 249 = .ok (.putfield 272, 3) := by decide +kernel
theorem dX12_next_252 : decode cX12_next 252 = .ok (.aload_n 0, 1) := by decide +kernel
theorem dX12_next_253 : decode cX12_next 253 = .ok (.getfield 266, 3) := by decide +kernel
theorem dX12_next_256 : decode cX12_next 256 = .ok (.aload_n 0, 1) := by decide +kernel
theorem dX12_next_257 : decode cX12_next 257 = .ok (.getfield 257, 3) := by decide +kernel
theorem dX12_next_260 : decode cX12_next 260 = .ok (.isub, 1) := by decide +kernel
theorem dX12_next_261 : decode cX12_next 261 = .ok (.iconst 4, 1) := by decide +kernel
theorem dX12_next_262 : decode cX12_next 262 = .ok (.if_icmp .le 60, 3) := by decide +kernel
theorem dX12_next_265 : decode cX12_next 265 = .ok (.aload_n 0, 1) := by decide +kernel
theorem dX12_next_266 : decode cX12_next 266 = .ok (.iconst 1, 1) := by decide +kernel
theorem dX12_next_267 : decode cX12_next 267 = .ok (.invokevirtual 282, 3) := by decide +kernel
theorem dX12_next_270 : decode cX12_next 270 = .ok (.goto 52, 3) := by decide +kernel
theorem dX12_next_273 : decode cX12_next 273 = .ok (.aload_n 0, 1) := by decide +kernel
theorem dX12_next_274 : decode cX12_next 274 = .ok (.iconst 3, 1) := by decide +kernel
theorem dX12_next_275 : decode cX12_next 275 = .ok (.putfield 272, 3) := by decide +kernel
theorem dX12_next_278 : decode cX12_next 278 = .ok (.aload_n 0, 1) := by decide +kernel
theorem dX12_next_279 : decode cX12_next 279 = .ok (.iload_n 1, 1) := by decide +kernel
theorem dX12_next_280 : decode cX12_next 280 = .ok (.putfield 269, 3) := by decide +kernel
theorem dX12_next_283 : decode cX12_next 283 = .ok (.aload_n 0, 1) := by decide +kernel
theorem dX12_next_284 : decode cX12_next 284 = .ok (.dup, 1) := by decide +kernel
theorem dX12_next_285 : decode cX12_next 285 = .ok (.getfield 266, 3) := by decide +kernel
theorem dX12_next_288 : decode cX12_next 288 = .ok (.iconst 1, 1) := by decide +kernel
theorem dX12_next_289 : decode cX12_next 289 = .ok (.iadd, 1) := by decide +kernel
theorem dX12_next_290 : decode cX12_next 290 = .ok (.putfield 266, 3) := by decide +kernel
theorem dX12_next_293 : decode cX12_next 293 = .ok (.iload_n 1, 1) := by decide +kernel
theorem dX12_next_294 : decode cX12_next 294 = .ok (.bipush 60, 2) := by decide +kernel
theorem dX12_next_296 : decode cX12_next 296 = .ok (.if_icmp .eq 26, 3) := by decide +kernel
theorem dX12_next_299 : decode cX12_next 299 = .ok (.iload_n 1, 1) := by decide +kernel
theorem dX12_next_300 : decode cX12_next 300 = .ok (.bipush 62, 2) := by decide +kernel
theorem dX12_next_302 : decode cX12_next 302 = .ok (.if_icmp .eq 20, 3) := by decide +kernel
theorem dX12_next_305 : decode cX12_next 305 = .ok (.iload_n 1, 1) := by decide +kernel
theorem dX12_next_306 : decode cX12_next 306 = .ok (.bipush 61, 2) := by decide +kernel
theorem dX12_next_308 : decode cX12_next 308 = .ok (.if_icmp .eq 14, 3) := by decide +kernel
theorem dX12_next_311 : decode cX12_next 311 = .ok (.iload_n 1, 1) := by decide +kernel
theorem dX12_next_312 : decode cX12_next 312 = .ok (.bipush 59, 2) := by decide +kernel
theorem dX12_next_314 : decode cX12_next 314 = .ok (.if_icmp .eq 8, 3) := by decide +kernel
theorem dX12_next_317 : decode cX12_next 317 = .ok (.aload_n 0, 1) := by decide +kernel
theorem dX12_next_318 : decode cX12_next 318 = .ok (.iconst 1, 1) := by decide +kernel
theorem dX12_next_319 : decode cX12_next 319 = .ok (.invokevirtual 282, 3) := by decide +kernel
theorem dX12_next_322 : decode cX12_next 322 = .ok (.return_, 1) := by decide +kernel
theorem dX12_isName_0 : decode cX12_isName 0 = .ok (.aload_n 0, 1) := by decide +kernel
theorem dX12_isName_1 : decode cX12_isName 1 = .ok (.getfield 272, 3) := by decide +kernel
theorem dX12_isName_4 : decode cX12_isName 4 = .ok (.iconst 1, 1) := by decide +kernel
theorem dX12_isName_5 : decode cX12_isName 5 = .ok (.if_icmp .ne 15, 3) := by decide +kernel
theorem dX12_isName_8 : decode cX12_isName 8 = .ok (.aload_n 0, 1) := by decide +kernel
theorem dX12_isName_9 : decode cX12_isName 9 = .ok (.getfield 269, 3) := by decide +kernel
theorem dX12_isName_12 : decode cX12_isName 12 = .ok (.iload_n 1, 1) := by decide +kernel
theorem dX12_isName_13 : decode cX12_isName 13 = .ok (.if_icmp .ne 7, 3) := by decide +kernel
theorem dX12_isName_16 : decode cX12_isName 16 = .ok (.iconst 1, 1) := by decide +kernel
theorem dX12_isName_17 : decode cX12_isName 17 = .ok (.goto 4, 3) := by decide +kernel
theorem dX12_isName_20 : decode cX12_isName 20 = .ok (.iconst 0, 1) := by decide +kernel
theorem dX12_isName_21 : decode cX12_isName 21 = .ok (.ireturn, 1) := by decide +kernel
theorem dX12_isRule_0 : decode cX12_isRule 0 = .ok (.aload_n 0, 1) := by decide +kernel
theorem dX12_isRule_1 : decode cX12_isRule 1 = .ok (.getfield 272, 3) := by decide +kernel
theorem dX12_isRule_4 : decode cX12_isRule 4 = .ok (.iconst 1, 1) := by decide +kernel
theorem dX12_isRule_5 : decode cX12_isRule 5 = .ok (.if_icmp .ne 15, 3) := by decide +kernel
theorem dX12_isRule_8 : decode cX12_isRule 8 = .ok (.aload_n 0, 1) := by decide +kernel
theorem dX12_isRule_9 : decode cX12_isRule 9 = .ok (.getfield 269, 3) := by decide +kernel
theorem dX12_isRule_12 : decode cX12_isRule 12 = .ok (.iconst 2, 1) := by decide +kernel
theorem dX12_isRule_13 : decode cX12_isRule 13 = .ok (.if_icmp .gt 7, 3) := by decide +kernel
theorem dX12_isRule_16 : decode cX12_isRule 16 = .ok (.iconst 1, 1) := by decide +kernel
theorem dX12_isRule_17 : decode cX12_isRule 17 = .ok (.goto 4, 3) := by decide +kernel
theorem dX12_isRule_20 : decode cX12_isRule 20 = .ok (.iconst 0, 1) := by decide +kernel
theorem dX12_isRule_21 : decode cX12_isRule 21 = .ok (.ireturn, 1) := by decide +kernel
theorem dX12_number_0 : decode cX12_number 0 = .ok (.aload_n 0, 1) := by decide +kernel
theorem dX12_number_1 : decode cX12_number 1 = .ok (.getfield 254, 3) := by decide +kernel
theorem dX12_number_4 : decode cX12_number 4 = .ok (.ifCond .ne 19, 3) := by decide +kernel
theorem dX12_number_7 : decode cX12_number 7 = .ok (.aload_n 0, 1) := by decide +kernel
theorem dX12_number_8 : decode cX12_number 8 = .ok (.getfield 272, 3) := by decide +kernel
theorem dX12_number_11 : decode cX12_number 11 = .ok (.iconst 2, 1) := by decide +kernel
theorem dX12_number_12 : decode cX12_number 12 = .ok (.if_icmp .eq 11, 3) := by decide +kernel
theorem dX12_number_15 : decode cX12_number 15 = .ok (.aload_n 0, 1) := by decide +kernel
theorem dX12_number_16 : decode cX12_number 16 = .ok (.iconst 2, 1) := by decide +kernel
theorem dX12_number_17 : decode cX12_number 17 = .ok (.invokevirtual 282, 3) := by decide +kernel
theorem dX12_number_20 : decode cX12_number 20 = .ok (.goto 30, 3) := by decide +kernel
theorem dX12_number_23 : decode cX12_number 23 = .ok (.aload_n 0, 1) := by decide +kernel
theorem dX12_number_24 : decode cX12_number 24 = .ok (.getfield 254, 3) := by decide +kernel
theorem dX12_number_27 : decode cX12_number 27 = .ok (.ifCond .ne 23, 3) := by decide +kernel
theorem dX12_number_30 : decode cX12_number 30 = .ok (.aload_n 0, 1) := by decide +kernel
theorem dX12_number_31 : decode cX12_number 31 = .ok (.getfield 269, 3) := by decide +kernel
theorem dX12_number_34 : decode cX12_number 34 = .ok (.i2l, 1) := by decide +kernel
theorem dX12_number_35 : decode cX12_number 35 = .ok (.iload_n 1, 1) := by decide +kernel
theorem dX12_number_36 : decode cX12_number 36 = .ok (.i2l, 1) := by decide +kernel
theorem dX12_number_37 : decode cX12_number 37 = .ok (.iload_n 2, 1) := by decide +kernel
theorem dX12_number_38 : decode cX12_number 38 = .ok (.i2l, 1) := by decide +kernel
theorem dX12_number_39 : decode cX12_number 39 = .ok (.invokestatic 181, 3) := by decide +kernel
theorem dX12_number_42 : decode cX12_number 42 = .ok (.ifCond .ne 8, 3) := by decide +kernel
theorem dX12_number_45 : decode cX12_number 45 = .ok (.aload_n 0, 1) := by decide +kernel
theorem dX12_number_46 : decode cX12_number 46 = .ok (.iconst 3, 1) := by decide +kernel
theorem dX12_number_47 : decode cX12_number 47 = .ok (.invokevirtual 282, 3) := by decide +kernel
theorem dX12_number_50 : decode cX12_number 50 = .ok (.aload_n 0, 1) := by decide +kernel
theorem dX12_number_51 : decode cX12_number 51 = .ok (.getfield 269, 3) := by decide +kernel
theorem dX12_number_54 : decode cX12_number 54 = .ok (.ireturn, 1) := by decide +kernel
theorem dX12_test_0 : decode cX12_test 0 = .ok (.aload_n 0, 1) := by decide +kernel
theorem dX12_test_1 : decode cX12_test 1 = .ok (.getfield 254, 3) := by decide +kernel
theorem dX12_test_4 : decode cX12_test 4 = .ok (.ifCond .ne 33, 3) := by decide +kernel
theorem dX12_test_7 : decode cX12_test 7 = .ok (.aload_n 0, 1) := by decide +kernel
theorem dX12_test_8 : decode cX12_test 8 = .ok (.getfield 272, 3) := by decide +kernel
theorem dX12_test_11 : decode cX12_test 11 = .ok (.iconst 1, 1) := by decide +kernel
theorem dX12_test_12 : decode cX12_test 12 = .ok (.if_icmp .ne 20, 3) := by decide +kernel
theorem dX12_test_15 : decode cX12_test 15 = .ok (.aload_n 0, 1) := by decide +kernel
theorem dX12_test_16 : decode cX12_test 16 = .ok (.getfield 269, 3) := by decide +kernel
theorem dX12_test_19 : decode cX12_test 19 = .ok (.i2l, 1) := by decide +kernel
theorem dX12_test_20 : decode cX12_test 20 = .ok (.ldc2_w 192, 3) := by decide +kernel
theorem dX12_test_23 : decode cX12_test 23 = .ok (.ldc2_w 190, 3) := by decide +kernel
theorem dX12_test_26 : decode cX12_test 26 = .ok (.invokestatic 181, 3) := by decide +kernel
theorem dX12_test_29 : decode cX12_test 29 = .ok (.ifCond .ne 8, 3) := by decide +kernel
theorem dX12_test_32 : decode cX12_test 32 = .ok (.aload_n 0, 1) := by decide +kernel
theorem dX12_test_33 : decode cX12_test 33 = .ok (.iconst 2, 1) := by decide +kernel
theorem dX12_test_34 : decode cX12_test 34 = .ok (.invokevirtual 282, 3) := by decide +kernel
theorem dX12_test_37 : decode cX12_test 37 = .ok (.aload_n 0, 1) := by decide +kernel
theorem dX12_test_38 : decode cX12_test 38 = .ok (.getfield 254, 3) := by decide +kernel
theorem dX12_test_41 : decode cX12_test 41 = .ok (.ifCond .ne 21, 3) := by decide +kernel
theorem dX12_test_44 : decode cX12_test 44 = .ok (.aload_n 0, 1) := by decide +kernel
theorem dX12_test_45 : decode cX12_test 45 = .ok (.getfield 85, 3) := by decide +kernel
theorem dX12_test_48 : decode cX12_test 48 = .ok (.aload_n 0, 1) := by decide +kernel
theorem dX12_test_49 : decode cX12_test 49 = .ok (.getfield 290, 3) := by decide +kernel
theorem dX12_test_52 : decode cX12_test 52 = .ok (.iaload, 1) := by decide +kernel
theorem dX12_test_53 : decode cX12_test 53 = .ok (.iconst 3, 1) := by decide +kernel
theorem dX12_test_54 : decode cX12_test 54 = .ok (.if_icmp .ne 8, 3) := by decide +kernel
theorem dX12_test_57 : decode cX12_test 57 = .ok (.aload_n 0, 1) := by decide +kernel
theorem dX12_test_58 : decode cX12_test 58 = .ok (.iconst 4, 1) := by decide +kernel
theorem dX12_test_59 : decode cX12_test 59 = .ok (.invokevirtual 282, 3) := by decide +kernel
theorem dX12_test_62 : decode cX12_test 62 = .ok (.aload_n 0, 1) := by decide +kernel
theorem dX12_test_63 : decode cX12_test 63 = .ok (.getfield 254, 3) := by decide +kernel
theorem dX12_test_66 : decode cX12_test 66 = .ok (.ifCond .le 4, 3) := by decide +kernel
theorem dX12_test_69 : decode cX12_test 69 = .ok (.return_, 1) := by decide +kernel
theorem dX12_test_70 : decode cX12_test 70 = .ok (.bipush 9, 2) := by decide +kernel
theorem dX12_test_72 : decode cX12_test 72 = .ok (.aload_n 0, 1) := by decide +kernel
theorem dX12_test_73 : decode cX12_test 73 = .ok (.getfield 290, 3) := by decide +kernel
theorem dX12_test_76 : decode cX12_test 76 = .ok (.imul, 1) := by decide +kernel
theorem dX12_test_77 : decode cX12_test 77 = .ok (.iconst 3, 1) := by decide +kernel
theorem dX12_test_78 : decode cX12_test 78 = .ok (.aload_n 0, 1) := by decide +kernel
theorem dX12_test_79 : decode cX12_test 79 = .ok (.getfield 85, 3) := by decide +kernel
theorem dX12_test_82 : decode cX12_test 82 = .ok (.aload_n 0, 1) := by decide +kernel
theorem dX12_test_83 : decode cX12_test 83 = .ok (.getfield 290, 3) := by decide +kernel
theorem dX12_test_86 : decode cX12_test 86 = .ok (.iaload, 1) := by decide +kernel
theorem dX12_test_87 : decode cX12_test 87 = .ok (.imul, 1) := by decide +kernel
theorem dX12_test_88 : decode cX12_test 88 = .ok (.iadd, 1) := by decide +kernel
theorem dX12_test_89 : decode cX12_test 89 = .ok (.istore_n 1, 1) := by decide +kernel
theorem dX12_test_90 : decode cX12_test 90 = .ok (.aload_n 0, 1) := by decide +kernel
theorem dX12_test_91 : decode cX12_test 91 = .ok (.getfield 88, 3) := by decide +kernel
theorem dX12_test_94 : decode cX12_test 94 = .ok (.iload_n 1, 1) := by decide +kernel
theorem dX12_test_95 : decode cX12_test 95 = .ok (.aload_n 0, 1) := by decide +kernel
theorem dX12_test_96 : decode cX12_test 96 = .ok (.getfield 269, 3) := by decide +kernel
theorem dX12_test_99 : decode cX12_test 99 = .ok (.iconst 3, 1) := by decide +kernel
theorem dX12_test_100 : decode cX12_test 100 = .ok (.isub, 1) := by decide +kernel
theorem dX12_test_101 : decode cX12_test 101 = .ok (.iastore, 1) := by decide +kernel
theorem dX12_test_102 : decode cX12_test 102 = .ok (.aload_n 0, 1) := by decide +kernel
theorem dX12_test_103 : decode cX12_test 103 = .ok (.invokevirtual 293, 3) := by decide +kernel
theorem dX12_test_106 : decode cX12_test 106 = .ok (.aload_n 0, 1) := by decide +kernel
theorem dX12_test_107 : decode cX12_test 107 = .ok (.getfield 254, 3) := by decide +kernel
theorem dX12_test_110 : decode cX12_test 110 = .ok (.ifCond .ne 25, 3) := by decide +kernel
theorem dX12_test_113 : decode cX12_test 113 = .ok (.aload_n 0, 1) := by decide +kernel
theorem dX12_test_114 : decode cX12_test 114 = .ok (.getfield 272, 3) := by decide +kernel
theorem dX12_test_117 : decode cX12_test 117 = .ok (.iconst 3, 1) := by decide +kernel
theorem dX12_test_118 : decode cX12_test 118 = .ok (.if_icmp .ne 12, 3) := by decide +kernel
theorem dX12_test_121 : decode cX12_test 121 = .ok (.aload_n 0, 1) := by decide +kernel
theorem dX12_test_122 : decode cX12_test 122 = .ok (.getfield 269, 3) := by decide +kernel
theorem dX12_test_125 : decode cX12_test 125 = .ok (.bipush 59, 2) := by decide +kernel
theorem dX12_test_127 : decode cX12_test 127 = .ok (.if_icmp .ne 8, 3) := by decide +kernel
theorem dX12_test_130 : decode cX12_test 130 = .ok (.aload_n 0, 1) := by decide +kernel
theorem dX12_test_131 : decode cX12_test 131 = .ok (.iconst 2, 1) := by decide +kernel
theorem dX12_test_132 : decode cX12_test 132 = .ok (.invokevirtual 282, 3) := by decide +kernel
theorem dX12_test_135 : decode cX12_test 135 = .ok (.aload_n 0, 1) := by decide +kernel
theorem dX12_test_136 : decode cX12_test 136 = .ok (.getfield 88, 3) := by decide +kernel
theorem dX12_test_139 : decode cX12_test 139 = .ok (.iload_n 1, 1) := by decide +kernel
theorem dX12_test_140 : decode cX12_test 140 = .ok (.iconst 1, 1) := by decide +kernel
theorem dX12_test_141 : decode cX12_test 141 = .ok (.iadd, 1) := by decide +kernel
theorem dX12_test_142 : decode cX12_test 142 = .ok (.aload_n 0, 1) := by decide +kernel
theorem dX12_test_143 : decode cX12_test 143 = .ok (.getfield 269, 3) := by decide +kernel
theorem dX12_test_146 : decode cX12_test 146 = .ok (.iastore, 1) := by decide +kernel
theorem dX12_test_147 : decode cX12_test 147 = .ok (.aload_n 0, 1) := by decide +kernel
theorem dX12_test_148 : decode cX12_test 148 = .ok (.invokevirtual 293, 3) := by decide +kernel
theorem dX12_test_151 : decode cX12_test 151 = .ok (.aload_n 0, 1) := by decide +kernel
theorem dX12_test_152 : decode cX12_test 152 = .ok (.getfield 88, 3) := by decide +kernel
theorem dX12_test_155 : decode cX12_test 155 = .ok (.iload_n 1, 1) := by decide +kernel
theorem dX12_test_156 : decode cX12_test 156 = .ok (.iconst 2, 1) := by decide +kernel
theorem dX12_test_157 : decode cX12_test 157 = .ok (.iadd, 1) := by decide +kernel
theorem dX12_test_158 : decode cX12_test 158 = .ok (.aload_n 0, 1) := by decide +kernel
theorem dX12_test_159 : decode cX12_test 159 = .ok (.iconst 0, 1) := by decide +kernel
theorem dX12_test_160 : decode cX12_test 160 = .ok (.bipush 9, 2) := by decide +kernel
theorem dX12_test_162 : decode cX12_test 162 = .ok (.invokevirtual 296, 3) := by decide +kernel
theorem dX12_test_165 : decode cX12_test 165 = .ok (.iastore, 1) := by decide +kernel
theorem dX12_test_166 : decode cX12_test 166 = .ok (.aload_n 0, 1) := by decide +kernel
theorem dX12_test_167 : decode cX12_test 167 = .ok (.getfield 85, 3) := by decide +kernel
theorem dX12_test_170 : decode cX12_test 170 = .ok (.aload_n 0, 1) := by decide +kernel
theorem dX12_test_171 : decode cX12_test 171 = .ok (.getfield 290, 3) := by decide +kernel
theorem dX12_test_174 : decode cX12_test 174 = .ok (.dup2, 1) := by decide +kernel
theorem dX12_test_175 : decode cX12_test 175 = .ok (.iaload, 1) := by decide +kernel
theorem dX12_test_176 : decode cX12_test 176 = .ok (.iconst 1, 1) := by decide +kernel
theorem dX12_test_177 : decode cX12_test 177 = .ok (.iadd, 1) := by decide +kernel
theorem dX12_test_178 : decode cX12_test 178 = .ok (.iastore, 1) := by decide +kernel
theorem dX12_test_179 : decode cX12_test 179 = .ok (.aload_n 0, 1) := by decide +kernel
theorem dX12_test_180 : decode cX12_test 180 = .ok (.invokevirtual 293, 3) := by decide +kernel
theorem dX12_test_183 : decode cX12_test 183 = .ok (.return_, 1) := by decide +kernel
theorem dX12_oneLine_0 : decode cX12_oneLine 0 = .ok (.aload_n 0, 1) := by decide +kernel
theorem dX12_oneLine_1 : decode cX12_oneLine 1 = .ok (.bipush 6, 2) := by decide +kernel
theorem dX12_oneLine_3 : decode cX12_oneLine 3 = .ok (.invokevirtual 299, 3) := by decide +kernel
theorem dX12_oneLine_6 : decode cX12_oneLine 6 = .ok (.ifCond .ne 18, 3) := by decide +kernel
theorem dX12_oneLine_9 : decode cX12_oneLine 9 = .ok (.aload_n 0, 1) := by decide +kernel
theorem dX12_oneLine_10 : decode cX12_oneLine 10 = .ok (.invokevirtual 302, 3) := by decide +kernel
theorem dX12_oneLine_13 : decode cX12_oneLine 13 = .ok (.ifCond .ne 11, 3) := by decide +kernel
theorem dX12_oneLine_16 : decode cX12_oneLine 16 = .ok (.aload_n 0, 1) := by decide +kernel
theorem dX12_oneLine_17 : decode cX12_oneLine 17 = .ok (.iconst 2, 1) := by decide +kernel
theorem dX12_oneLine_18 : decode cX12_oneLine 18 = .ok (.invokevirtual 282, 3) := by decide +kernel
theorem dX12_oneLine_21 : decode cX12_oneLine 21 = .ok (.goto 17, 3) := by decide +kernel
theorem dX12_oneLine_24 : decode cX12_oneLine 24 = .ok (.aload_n 0, 1) := by decide +kernel
theorem dX12_oneLine_25 : decode cX12_oneLine 25 = .ok (.getfield 290, 3) := by decide +kernel
theorem dX12_oneLine_28 : decode cX12_oneLine 28 = .ok (.bipush 12, 2) := by decide +kernel
theorem dX12_oneLine_30 : decode cX12_oneLine 30 = .ok (.if_icmp .ne 8, 3) := by decide +kernel
theorem dX12_oneLine_33 : decode cX12_oneLine 33 = .ok (.aload_n 0, 1) := by decide +kernel
theorem dX12_oneLine_34 : decode cX12_oneLine 34 = .ok (.iconst 4, 1) := by decide +kernel
theorem dX12_oneLine_35 : decode cX12_oneLine 35 = .ok (.invokevirtual 282, 3) := by decide +kernel
theorem dX12_oneLine_38 : decode cX12_oneLine 38 = .ok (.iconst 0, 1) := by decide +kernel
theorem dX12_oneLine_39 : decode cX12_oneLine 39 = .ok (.istore_n 1, 1) := by decide +kernel
theorem dX12_oneLine_40 : decode cX12_oneLine 40 = .ok (.aload_n 0, 1) := by decide +kernel
theorem dX12_oneLine_41 : decode cX12_oneLine 41 = .ok (.getfield 254, 3) := by decide +kernel
theorem dX12_oneLine_44 : decode cX12_oneLine 44 = .ok (.ifCond .ne 48, 3) := by decide +kernel
theorem dX12_oneLine_47 : decode cX12_oneLine 47 = .ok (.aload_n 0, 1) := by decide +kernel
theorem dX12_oneLine_48 : decode cX12_oneLine 48 = .ok (.bipush 6, 2) := by decide +kernel
theorem dX12_oneLine_50 : decode cX12_oneLine 50 = .ok (.invokevirtual 299, 3) := by decide +kernel
theorem dX12_oneLine_53 : decode cX12_oneLine 53 = .ok (.ifCond .eq 39, 3) := by decide +kernel
theorem dX12_oneLine_56 : decode cX12_oneLine 56 = .ok (.aload_n 0, 1) := by decide +kernel
theorem dX12_oneLine_57 : decode cX12_oneLine 57 = .ok (.invokevirtual 293, 3) := by decide +kernel
theorem dX12_oneLine_60 : decode cX12_oneLine 60 = .ok (.aload_n 0, 1) := by decide +kernel
theorem dX12_oneLine_61 : decode cX12_oneLine 61 = .ok (.iconst 0, 1) := by decide +kernel
theorem dX12_oneLine_62 : decode cX12_oneLine 62 = .ok (.sipush 9999, 3) := by decide +kernel
theorem dX12_oneLine_65 : decode cX12_oneLine 65 = .ok (.invokevirtual 296, 3) := by decide +kernel
theorem dX12_oneLine_68 : decode cX12_oneLine 68 = .ok (.istore_n 1, 1) := by decide +kernel
theorem dX12_oneLine_69 : decode cX12_oneLine 69 = .ok (.aload_n 0, 1) := by decide +kernel
theorem dX12_oneLine_70 : decode cX12_oneLine 70 = .ok (.invokevirtual 293, 3) := by decide +kernel
theorem dX12_oneLine_73 : decode cX12_oneLine 73 = .ok (.aload_n 0, 1) := by decide +kernel
theorem dX12_oneLine_74 : decode cX12_oneLine 74 = .ok (.getfield 254, 3) := by decide +kernel
theorem dX12_oneLine_77 : decode cX12_oneLine 77 = .ok (.ifCond .ne 15, 3) := by decide +kernel
theorem dX12_oneLine_80 : decode cX12_oneLine 80 = .ok (.aload_n 0, 1) := by decide +kernel
theorem dX12_oneLine_81 : decode cX12_oneLine 81 = .ok (.invokevirtual 302, 3) := by decide +kernel
theorem dX12_oneLine_84 : decode cX12_oneLine 84 = .ok (.ifCond .ne 8, 3) := by decide +kernel
theorem dX12_oneLine_87 : decode cX12_oneLine 87 = .ok (.aload_n 0, 1) := by decide +kernel
theorem dX12_oneLine_88 : decode cX12_oneLine 88 = .ok (.iconst 2, 1) := by decide +kernel
theorem dX12_oneLine_89 : decode cX12_oneLine 89 = .ok (.invokevirtual 282, 3) := by decide +kernel
theorem dX12_oneLine_92 : decode cX12_oneLine 92 = .ok (.aload_n 0, 1) := by decide +kernel
theorem dX12_oneLine_93 : decode cX12_oneLine 93 = .ok (.getfield 254, 3) := by decide +kernel
theorem dX12_oneLine_96 : decode cX12_oneLine 96 = .ok (.ifCond .le 4, 3) := by decide +kernel
theorem dX12_oneLine_99 : decode cX12_oneLine 99 = .ok (.return_, 1) := by decide +kernel
theorem dX12_oneLine_100 : decode cX12_oneLine 100 = .ok (.aload_n 0, 1) := by decide +kernel
theorem dX12_oneLine_101 : decode cX12_oneLine 101 = .ok (.getfield 269, 3) := by decide +kernel
theorem dX12_oneLine_104 : decode cX12_oneLine 104 = .ok (.istore_n 2, 1) := by decide +kernel
theorem dX12_oneLine_105 : decode cX12_oneLine 105 = .ok (.aload_n 0, 1) := by decide +kernel
theorem dX12_oneLine_106 : decode cX12_oneLine 106 = .ok (.getfield 73, 3) := by decide +kernel
theorem dX12_oneLine_109 : decode cX12_oneLine 109 = .ok (.aload_n 0, 1) := by decide +kernel
theorem dX12_oneLine_110 : decode cX12_oneLine 110 = .ok (.getfield 290, 3) := by decide +kernel
theorem dX12_oneLine_113 : decode cX12_oneLine 113 = .ok (.iload_n 2, 1) := by decide +kernel
theorem dX12_oneLine_114 : decode cX12_oneLine 114 = .ok (.iastore, 1) := by decide +kernel
theorem dX12_oneLine_115 : decode cX12_oneLine 115 = .ok (.aload_n 0, 1) := by decide +kernel
theorem dX12_oneLine_116 : decode cX12_oneLine 116 = .ok (.getfield 76, 3) := by decide +kernel
theorem dX12_oneLine_119 : decode cX12_oneLine 119 = .ok (.aload_n 0, 1) := by decide +kernel
theorem dX12_oneLine_120 : decode cX12_oneLine 120 = .ok (.getfield 290, 3) := by decide +kernel
theorem dX12_oneLine_123 : decode cX12_oneLine 123 = .ok (.iload_n 1, 1) := by decide +kernel
theorem dX12_oneLine_124 : decode cX12_oneLine 124 = .ok (.iastore, 1) := by decide +kernel
theorem dX12_oneLine_125 : decode cX12_oneLine 125 = .ok (.aload_n 0, 1) := by decide +kernel
theorem dX12_oneLine_126 : decode cX12_oneLine 126 = .ok (.getfield 85, 3) := by decide +kernel
theorem dX12_oneLine_129 : decode cX12_oneLine 129 = .ok (.aload_n 0, 1) := by decide +kernel
theorem dX12_oneLine_130 : decode cX12_oneLine 130 = .ok (.getfield 290, 3) := by decide +kernel
theorem dX12_oneLine_133 : decode cX12_oneLine 133 = .ok (.iconst 0, 1) := by decide +kernel
theorem dX12_oneLine_134 : decode cX12_oneLine 134 = .ok (.iastore, 1) := by decide +kernel
theorem dX12_oneLine_135 : decode cX12_oneLine 135 = .ok (.aload_n 0, 1) := by decide +kernel
theorem dX12_oneLine_136 : decode cX12_oneLine 136 = .ok (.invokevirtual 293, 3) := by decide +kernel
theorem dX12_oneLine_139 : decode cX12_oneLine 139 = .ok (.aload_n 0, 1) := by decide +kernel
theorem dX12_oneLine_140 : decode cX12_oneLine 140 = .ok (.iconst 0, 1) := by decide +kernel
theorem dX12_oneLine_141 : decode cX12_oneLine 141 = .ok (.iconst 3, 1) := by decide +kernel
theorem dX12_oneLine_142 : decode cX12_oneLine 142 = .ok (.invokevirtual 296, 3) := by decide +kernel
theorem dX12_oneLine_145 : decode cX12_oneLine 145 = .ok (.istore_n 3, 1) := by decide +kernel
theorem dX12_oneLine_146 : decode cX12_oneLine 146 = .ok (.iconst 0, 1) := by decide +kernel
theorem dX12_oneLine_147 : decode cX12_oneLine 147 = .ok (.istore 4, 2) := by decide +kernel
theorem dX12_oneLine_149 : decode cX12_oneLine 149 = .ok (.iload 4, 2) := by decide +kernel
theorem dX12_oneLine_151 : decode cX12_oneLine 151 = .ok (.aload_n 0, 1) := by decide +kernel
theorem dX12_oneLine_152 : decode cX12_oneLine 152 = .ok (.getfield 290, 3) := by decide +kernel
theorem dX12_oneLine_155 : decode cX12_oneLine 155 = .ok (.if_icmp .ge 58, 3) := by decide +kernel
theorem dX12_oneLine_158 : decode cX12_oneLine 158 = .ok (.aload_n 0, 1) := by decide +kernel
theorem dX12_oneLine_159 : decode cX12_oneLine 159 = .ok (.getfield 254, 3) := by decide +kernel
theorem dX12_oneLine_162 : decode cX12_oneLine 162 = .ok (.ifCond .ne 51, 3) := by decide +kernel
theorem dX12_oneLine_165 : decode cX12_oneLine 165 = .ok (.iload_n 2, 1) := by decide +kernel
theorem dX12_oneLine_166 : decode cX12_oneLine 166 = .ok (.ifCond .eq 47, 3) := by decide +kernel
theorem dX12_oneLine_169 : decode cX12_oneLine 169 = .ok (.aload_n 0, 1) := by decide +kernel
theorem dX12_oneLine_170 : decode cX12_oneLine 170 = .ok (.getfield 73, 3) := by decide +kernel
theorem dX12_oneLine_173 : decode cX12_oneLine 173 = .ok (.iload 4, 2) := by decide +kernel
theorem dX12_oneLine_175 : decode cX12_oneLine 175 = .ok (.iaload, 1) := by decide +kernel
theorem dX12_oneLine_176 : decode cX12_oneLine 176 = .ok (.iload_n 2, 1) := by decide +kernel
theorem dX12_oneLine_177 : decode cX12_oneLine 177 = .ok (.if_icmp .ne 30, 3) := by decide +kernel
theorem dX12_oneLine_180 : decode cX12_oneLine 180 = .ok (.aload_n 0, 1) := by decide +kernel
theorem dX12_oneLine_181 : decode cX12_oneLine 181 = .ok (.getfield 79, 3) := by decide +kernel
theorem dX12_oneLine_184 : decode cX12_oneLine 184 = .ok (.iload 4, 2) := by decide +kernel
theorem dX12_oneLine_186 : decode cX12_oneLine 186 = .ok (.iaload, 1) := by decide +kernel
theorem dX12_oneLine_187 : decode cX12_oneLine 187 = .ok (.iload_n 3, 1) := by decide +kernel
theorem dX12_oneLine_188 : decode cX12_oneLine 188 = .ok (.if_icmp .ne 19, 3) := by decide +kernel
theorem dX12_oneLine_191 : decode cX12_oneLine 191 = .ok (.aload_n 0, 1) := by decide +kernel
theorem dX12_oneLine_192 : decode cX12_oneLine 192 = .ok (.getfield 76, 3) := by decide +kernel
theorem dX12_oneLine_195 : decode cX12_oneLine 195 = .ok (.iload 4, 2) := by decide +kernel
theorem dX12_oneLine_197 : decode cX12_oneLine 197 = .ok (.iaload, 1) := by decide +kernel
theorem dX12_oneLine_198 : decode cX12_oneLine 198 = .ok (.iload_n 1, 1) := by decide +kernel
theorem dX12_oneLine_199 : decode cX12_oneLine 199 = .ok (.if_icmp .ne 8, 3) := by decide +kernel
theorem dX12_oneLine_202 : decode cX12_oneLine 202 = .ok (.aload_n 0, 1) := by decide +kernel
theorem dX12_oneLine_203 : decode cX12_oneLine 203 = .ok (.iconst 5, 1) := by decide +kernel
theorem dX12_oneLine_204 : decode cX12_oneLine 204 = .ok (.invokevirtual 282, 3) := by decide +kernel
theorem dX12_oneLine_207 : decode cX12_oneLine 207 = .ok (.iinc 4 1, 3) := by decide +kernel
theorem dX12_oneLine_210 : decode cX12_oneLine 210 = .ok (.goto (-61), 3) := by decide +kernel
theorem dX12_oneLine_213 : decode cX12_oneLine 213 = .ok (.aload_n 0, 1) := by decide +kernel
theorem dX12_oneLine_214 : decode cX12_oneLine 214 = .ok (.getfield 79, 3) := by decide +kernel
theorem dX12_oneLine_217 : decode cX12_oneLine 217 = .ok (.aload_n 0, 1) := by decide +kernel
theorem dX12_oneLine_218 : decode cX12_oneLine 218 = .ok (.getfield 290, 3) := by decide +kernel
theorem dX12_oneLine_221 : decode cX12_oneLine 221 = .ok (.iload_n 3, 1) := by decide +kernel
theorem dX12_oneLine_222 : decode cX12_oneLine 222 = .ok (.iastore, 1) := by decide +kernel
theorem dX12_oneLine_223 : decode cX12_oneLine 223 = .ok (.aload_n 0, 1) := by decide +kernel
theorem dX12_oneLine_224 : decode cX12_oneLine 224 = .ok (.invokevirtual 293, 3) := by decide +kernel
theorem dX12_oneLine_227 : decode cX12_oneLine 227 = .ok (.aload_n 0, 1) := by decide +kernel
theorem dX12_oneLine_228 : decode cX12_oneLine 228 = .ok (.getfield 82, 3) := by decide +kernel
theorem dX12_oneLine_231 : decode cX12_oneLine 231 = .ok (.aload_n 0, 1) := by decide +kernel
theorem dX12_oneLine_232 : decode cX12_oneLine 232 = .ok (.getfield 290, 3) := by decide +kernel
theorem dX12_oneLine_235 : decode cX12_oneLine 235 = .ok (.aload_n 0, 1) := by decide +kernel
theorem dX12_oneLine_236 : decode cX12_oneLine 236 = .ok (.iload_n 2, 1) := by decide +kernel
theorem dX12_oneLine_237 : decode cX12_oneLine 237 = .ok (.iconst 1, 1) := by decide +kernel
theorem dX12_oneLine_238 : decode cX12_oneLine 238 = .ok (.if_icmp .ne 7, 3) := by decide +kernel
theorem dX12_oneLine_241 : decode cX12_oneLine 241 = .ok (.iconst 1, 1) := by decide +kernel
theorem dX12_oneLine_242 : decode cX12_oneLine 242 = .ok (.goto 4, 3) := by decide +kernel
theorem dX12_oneLine_245 : decode cX12_oneLine 245 = .ok (.iconst 0, 1) := by decide +kernel
theorem dX12_oneLine_246 : decode cX12_oneLine 246 = .ok (.iload_n 2, 1) := by decide +kernel
theorem dX12_oneLine_247 : decode cX12_oneLine 247 = .ok (.ifCond .ne 8, 3) := by decide +kernel
theorem dX12_oneLine_250 : decode cX12_oneLine 250 = .ok (.bipush 9, 2) := by decide +kernel
theorem dX12_oneLine_252 : decode cX12_oneLine 252 = .ok (.goto 6, 3) := by decide +kernel
theorem dX12_oneLine_255 : decode cX12_oneLine 255 = .ok (.sipush 9999, 3) := by decide +kernel
theorem dX12_oneLine_258 : decode cX12_oneLine 258 = .ok (.invokevirtual 296, 3) := by decide +kernel
theorem dX12_oneLine_261 : decode cX12_oneLine 261 = .ok (.iastore, 1) := by decide +kernel
theorem dX12_oneLine_262 : decode cX12_oneLine 262 = .ok (.aload_n 0, 1) := by decide +kernel
theorem dX12_oneLine_263 : decode cX12_oneLine 263 = .ok (.invokevirtual 293, 3) := by decide +kernel
theorem dX12_oneLine_266 : decode cX12_oneLine 266 = .ok (.aload_n 0, 1) := by decide +kernel
theorem dX12_oneLine_267 : decode cX12_oneLine 267 = .ok (.getfield 254, 3) := by decide +kernel
theorem dX12_oneLine_270 : decode cX12_oneLine 270 = .ok (.ifCond .ne 51, 3) := by decide +kernel
theorem dX12_oneLine_273 : decode cX12_oneLine 273 = .ok (.iload_n 2, 1) := by decide +kernel
theorem dX12_oneLine_274 : decode cX12_oneLine 274 = .ok (.ifCond .ne 47, 3) := by decide +kernel
theorem dX12_oneLine_277 : decode cX12_oneLine 277 = .ok (.aload_n 0, 1) := by decide +kernel
theorem dX12_oneLine_278 : decode cX12_oneLine 278 = .ok (.bipush 7, 2) := by decide +kernel
theorem dX12_oneLine_280 : decode cX12_oneLine 280 = .ok (.invokevirtual 299, 3) := by decide +kernel
theorem dX12_oneLine_283 : decode cX12_oneLine 283 = .ok (.ifCond .eq 38, 3) := by decide +kernel
theorem dX12_oneLine_286 : decode cX12_oneLine 286 = .ok (.aload_n 0, 1) := by decide +kernel
theorem dX12_oneLine_287 : decode cX12_oneLine 287 = .ok (.invokevirtual 293, 3) := by decide +kernel
theorem dX12_oneLine_290 : decode cX12_oneLine 290 = .ok (.aload_n 0, 1) := by decide +kernel
theorem dX12_oneLine_291 : decode cX12_oneLine 291 = .ok (.invokevirtual 306, 3) := by decide +kernel
theorem dX12_oneLine_294 : decode cX12_oneLine 294 = .ok (.aload_n 0, 1) := by decide +kernel
theorem dX12_oneLine_295 : decode cX12_oneLine 295 = .ok (.getfield 254, 3) := by decide +kernel
theorem dX12_oneLine_298 : decode cX12_oneLine 298 = .ok (.ifCond .ne 23, 3) := by decide +kernel
theorem dX12_oneLine_301 : decode cX12_oneLine 301 = .ok (.aload_n 0, 1) := by decide +kernel
theorem dX12_oneLine_302 : decode cX12_oneLine 302 = .ok (.bipush 8, 2) := by decide +kernel
theorem dX12_oneLine_304 : decode cX12_oneLine 304 = .ok (.invokevirtual 299, 3) := by decide +kernel
theorem dX12_oneLine_307 : decode cX12_oneLine 307 = .ok (.ifCond .eq 14, 3) := by decide +kernel
theorem dX12_oneLine_310 : decode cX12_oneLine 310 = .ok (.aload_n 0, 1) := by decide +kernel
theorem dX12_oneLine_311 : decode cX12_oneLine 311 = .ok (.invokevirtual 293, 3) := by decide +kernel
theorem dX12_oneLine_314 : decode cX12_oneLine 314 = .ok (.aload_n 0, 1) := by decide +kernel
theorem dX12_oneLine_315 : decode cX12_oneLine 315 = .ok (.invokevirtual 306, 3) := by decide +kernel
theorem dX12_oneLine_318 : decode cX12_oneLine 318 = .ok (.goto (-24), 3) := by decide +kernel
theorem dX12_oneLine_321 : decode cX12_oneLine 321 = .ok (.aload_n 0, 1) := by decide +kernel
theorem dX12_oneLine_322 : decode cX12_oneLine 322 = .ok (.getfield 254, 3) := by decide +kernel
theorem dX12_oneLine_325 : decode cX12_oneLine 325 = .ok (.ifCond .ne 25, 3) := by decide +kernel
theorem dX12_oneLine_328 : decode cX12_oneLine 328 = .ok (.aload_n 0, 1) := by decide +kernel
theorem dX12_oneLine_329 : decode cX12_oneLine 329 = .ok (.getfield 272, 3) := by decide +kernel
theorem dX12_oneLine_332 : decode cX12_oneLine 332 = .ok (.iconst 3, 1) := by decide +kernel
theorem dX12_oneLine_333 : decode cX12_oneLine 333 = .ok (.if_icmp .ne 12, 3) := by decide +kernel
theorem dX12_oneLine_336 : decode cX12_oneLine 336 = .ok (.aload_n 0, 1) := by decide +kernel
theorem dX12_oneLine_337 : decode cX12_oneLine 337 = .ok (.getfield 269, 3) := by decide +kernel
theorem dX12_oneLine_340 : decode cX12_oneLine 340 = .ok (.bipush 59, 2) := by decide +kernel
theorem dX12_oneLine_342 : decode cX12_oneLine 342 = .ok (.if_icmp .eq 8, 3) := by decide +kernel
theorem dX12_oneLine_345 : decode cX12_oneLine 345 = .ok (.aload_n 0, 1) := by decide +kernel
theorem dX12_oneLine_346 : decode cX12_oneLine 346 = .ok (.iconst 2, 1) := by decide +kernel
theorem dX12_oneLine_347 : decode cX12_oneLine 347 = .ok (.invokevirtual 282, 3) := by decide +kernel
theorem dX12_oneLine_350 : decode cX12_oneLine 350 = .ok (.aload_n 0, 1) := by decide +kernel
theorem dX12_oneLine_351 : decode cX12_oneLine 351 = .ok (.getfield 254, 3) := by decide +kernel
theorem dX12_oneLine_354 : decode cX12_oneLine 354 = .ok (.ifCond .ne 17, 3) := by decide +kernel
theorem dX12_oneLine_357 : decode cX12_oneLine 357 = .ok (.aload_n 0, 1) := by decide +kernel
theorem dX12_oneLine_358 : decode cX12_oneLine 358 = .ok (.dup, 1) := by decide +kernel
theorem dX12_oneLine_359 : decode cX12_oneLine 359 = .ok (.getfield 290, 3) := by decide +kernel
theorem dX12_oneLine_362 : decode cX12_oneLine 362 = .ok (.iconst 1, 1) := by decide +kernel
theorem dX12_oneLine_363 : decode cX12_oneLine 363 = .ok (.iadd, 1) := by decide +kernel
theorem dX12_oneLine_364 : decode cX12_oneLine 364 = .ok (.putfield 290, 3) := by decide +kernel
theorem dX12_oneLine_367 : decode cX12_oneLine 367 = .ok (.aload_n 0, 1) := by decide +kernel
theorem dX12_oneLine_368 : decode cX12_oneLine 368 = .ok (.invokevirtual 293, 3) := by decide +kernel
theorem dX12_oneLine_371 : decode cX12_oneLine 371 = .ok (.return_, 1) := by decide +kernel
theorem dX12_text_0 : decode cX12_text 0 = .ok (.aload_n 0, 1) := by decide +kernel
theorem dX12_text_1 : decode cX12_text 1 = .ok (.iconst 0, 1) := by decide +kernel
theorem dX12_text_2 : decode cX12_text 2 = .ok (.putfield 254, 3) := by decide +kernel
theorem dX12_text_5 : decode cX12_text 5 = .ok (.aload_n 0, 1) := by decide +kernel
theorem dX12_text_6 : decode cX12_text 6 = .ok (.iconst 0, 1) := by decide +kernel
theorem dX12_text_7 : decode cX12_text 7 = .ok (.putfield 266, 3) := by decide +kernel
theorem dX12_text_10 : decode cX12_text 10 = .ok (.aload_n 0, 1) := by decide +kernel
theorem dX12_text_11 : decode cX12_text 11 = .ok (.iconst 0, 1) := by decide +kernel
theorem dX12_text_12 : decode cX12_text 12 = .ok (.putfield 290, 3) := by decide +kernel
theorem dX12_text_15 : decode cX12_text 15 = .ok (.aload_n 0, 1) := by decide +kernel
theorem dX12_text_16 : decode cX12_text 16 = .ok (.invokevirtual 293, 3) := by decide +kernel
theorem dX12_text_19 : decode cX12_text 19 = .ok (.aload_n 0, 1) := by decide +kernel
theorem dX12_text_20 : decode cX12_text 20 = .ok (.getfield 254, 3) := by decide +kernel
theorem dX12_text_23 : decode cX12_text 23 = .ok (.ifCond .ne 17, 3) := by decide +kernel
theorem dX12_text_26 : decode cX12_text 26 = .ok (.aload_n 0, 1) := by decide +kernel
theorem dX12_text_27 : decode cX12_text 27 = .ok (.getfield 272, 3) := by decide +kernel
theorem dX12_text_30 : decode cX12_text 30 = .ok (.ifCond .eq 10, 3) := by decide +kernel
theorem dX12_text_33 : decode cX12_text 33 = .ok (.aload_n 0, 1) := by decide +kernel
theorem dX12_text_34 : decode cX12_text 34 = .ok (.invokevirtual 309, 3) := by decide +kernel
theorem dX12_text_37 : decode cX12_text 37 = .ok (.goto (-18), 3) := by decide +kernel
theorem dX12_text_40 : decode cX12_text 40 = .ok (.aload_n 0, 1) := by decide +kernel
theorem dX12_text_41 : decode cX12_text 41 = .ok (.iconst 0, 1) := by decide +kernel
theorem dX12_text_42 : decode cX12_text 42 = .ok (.putfield 251, 3) := by decide +kernel
theorem dX12_text_45 : decode cX12_text 45 = .ok (.aload_n 0, 1) := by decide +kernel
theorem dX12_text_46 : decode cX12_text 46 = .ok (.aload_n 0, 1) := by decide +kernel
theorem dX12_text_47 : decode cX12_text 47 = .ok (.getfield 254, 3) := by decide +kernel
theorem dX12_text_50 : decode cX12_text 50 = .ok (.putfield 312, 3) := by decide +kernel
theorem dX12_text_53 : decode cX12_text 53 = .ok (.aload_n 0, 1) := by decide +kernel
theorem dX12_text_54 : decode cX12_text 54 = .ok (.getfield 254, 3) := by decide +kernel
theorem dX12_text_57 : decode cX12_text 57 = .ok (.ifCond .le 11, 3) := by decide +kernel
theorem dX12_text_60 : decode cX12_text 60 = .ok (.bipush (-10), 2) := by decide +kernel
theorem dX12_text_62 : decode cX12_text 62 = .ok (.aload_n 0, 1) := by decide +kernel
theorem dX12_text_63 : decode cX12_text 63 = .ok (.getfield 260, 3) := by decide +kernel
theorem dX12_text_66 : decode cX12_text 66 = .ok (.isub, 1) := by decide +kernel
theorem dX12_text_67 : decode cX12_text 67 = .ok (.ireturn, 1) := by decide +kernel
theorem dX12_text_68 : decode cX12_text 68 = .ok (.aload_n 0, 1) := by decide +kernel
theorem dX12_text_69 : decode cX12_text 69 = .ok (.aload_n 0, 1) := by decide +kernel
theorem dX12_text_70 : decode cX12_text 70 = .ok (.getfield 290, 3) := by decide +kernel
theorem dX12_text_73 : decode cX12_text 73 = .ok (.putfield 315, 3) := by decide +kernel
theorem dX12_text_76 : decode cX12_text 76 = .ok (.iconst 0, 1) := by decide +kernel
theorem dX12_text_77 : decode cX12_text 77 = .ok (.istore_n 1, 1) := by decide +kernel
theorem dX12_text_78 : decode cX12_text 78 = .ok (.iload_n 1, 1) := by decide +kernel
theorem dX12_text_79 : decode cX12_text 79 = .ok (.bipush 12, 2) := by decide +kernel
theorem dX12_text_81 : decode cX12_text 81 = .ok (.if_icmp .ge 69, 3) := by decide +kernel
theorem dX12_text_84 : decode cX12_text 84 = .ok (.aload_n 0, 1) := by decide +kernel
theorem dX12_text_85 : decode cX12_text 85 = .ok (.getfield 55, 3) := by decide +kernel
theorem dX12_text_88 : decode cX12_text 88 = .ok (.iload_n 1, 1) := by decide +kernel
theorem dX12_text_89 : decode cX12_text 89 = .ok (.aload_n 0, 1) := by decide +kernel
theorem dX12_text_90 : decode cX12_text 90 = .ok (.getfield 73, 3) := by decide +kernel
theorem dX12_text_93 : decode cX12_text 93 = .ok (.iload_n 1, 1) := by decide +kernel
theorem dX12_text_94 : decode cX12_text 94 = .ok (.iaload, 1) := by decide +kernel
theorem dX12_text_95 : decode cX12_text 95 = .ok (.iastore, 1) := by decide +kernel
theorem dX12_text_96 : decode cX12_text 96 = .ok (.aload_n 0, 1) := by decide +kernel
theorem dX12_text_97 : decode cX12_text 97 = .ok (.getfield 58, 3) := by decide +kernel
theorem dX12_text_100 : decode cX12_text 100 = .ok (.iload_n 1, 1) := by decide +kernel
theorem dX12_text_101 : decode cX12_text 101 = .ok (.aload_n 0, 1) := by decide +kernel
theorem dX12_text_102 : decode cX12_text 102 = .ok (.getfield 76, 3) := by decide +kernel
theorem dX12_text_105 : decode cX12_text 105 = .ok (.iload_n 1, 1) := by decide +kernel
theorem dX12_text_106 : decode cX12_text 106 = .ok (.iaload, 1) := by decide +kernel
theorem dX12_text_107 : decode cX12_text 107 = .ok (.iastore, 1) := by decide +kernel
theorem dX12_text_108 : decode cX12_text 108 = .ok (.aload_n 0, 1) := by decide +kernel
theorem dX12_text_109 : decode cX12_text 109 = .ok (.getfield 61, 3) := by decide +kernel
theorem dX12_text_112 : decode cX12_text 112 = .ok (.iload_n 1, 1) := by decide +kernel
theorem dX12_text_113 : decode cX12_text 113 = .ok (.aload_n 0, 1) := by decide +kernel
theorem dX12_text_114 : decode cX12_text 114 = .ok (.getfield 79, 3) := by decide +kernel
theorem dX12_text_117 : decode cX12_text 117 = .ok (.iload_n 1, 1) := by decide +kernel
theorem dX12_text_118 : decode cX12_text 118 = .ok (.iaload, 1) := by decide +kernel
theorem dX12_text_119 : decode cX12_text 119 = .ok (.iastore, 1) := by decide +kernel
theorem dX12_text_120 : decode cX12_text 120 = .ok (.aload_n 0, 1) := by decide +kernel
theorem dX12_text_121 : decode cX12_text 121 = .ok (.getfield 64, 3) := by decide +kernel
theorem dX12_text_124 : decode cX12_text 124 = .ok (.iload_n 1, 1) := by decide +kernel
theorem dX12_text_125 : decode cX12_text 125 = .ok (.aload_n 0, 1) := by decide +kernel
theorem dX12_text_126 : decode cX12_text 126 = .ok (.getfield 82, 3) := by decide +kernel
theorem dX12_text_129 : decode cX12_text 129 = .ok (.iload_n 1, 1) := by decide +kernel
theorem dX12_text_130 : decode cX12_text 130 = .ok (.iaload, 1) := by decide +kernel
theorem dX12_text_131 : decode cX12_text 131 = .ok (.iastore, 1) := by decide +kernel
theorem dX12_text_132 : decode cX12_text 132 = .ok (.aload_n 0, 1) := by decide +kernel
theorem dX12_text_133 : decode cX12_text 133 = .ok (.getfield 67, 3) := by decide +kernel
theorem dX12_text_136 : decode cX12_text 136 = .ok (.iload_n 1, 1) := by decide +kernel
theorem dX12_text_137 : decode cX12_text 137 = .ok (.aload_n 0, 1) := by decide +kernel
theorem dX12_text_138 : decode cX12_text 138 = .ok (.getfield 85, 3) := by decide +kernel
theorem dX12_text_141 : decode cX12_text 141 = .ok (.iload_n 1, 1) := by decide +kernel
theorem dX12_text_142 : decode cX12_text 142 = .ok (.iaload, 1) := by decide +kernel
theorem dX12_text_143 : decode cX12_text 143 = .ok (.iastore, 1) := by decide +kernel
theorem dX12_text_144 : decode cX12_text 144 = .ok (.iinc 1 1, 3) := by decide +kernel
theorem dX12_text_147 : decode cX12_text 147 = .ok (.goto (-69), 3) := by decide +kernel
theorem dX12_text_150 : decode cX12_text 150 = .ok (.iconst 0, 1) := by decide +kernel
theorem dX12_text_151 : decode cX12_text 151 = .ok (.istore_n 1, 1) := by decide +kernel
theorem dX12_text_152 : decode cX12_text 152 = .ok (.iload_n 1, 1) := by decide +kernel
theorem dX12_text_153 : decode cX12_text 153 = .ok (.bipush 108, 2) := by decide +kernel
theorem dX12_text_155 : decode cX12_text 155 = .ok (.if_icmp .ge 21, 3) := by decide +kernel
theorem dX12_text_158 : decode cX12_text 158 = .ok (.aload_n 0, 1) := by decide +kernel
theorem dX12_text_159 : decode cX12_text 159 = .ok (.getfield 70, 3) := by decide +kernel
theorem dX12_text_162 : decode cX12_text 162 = .ok (.iload_n 1, 1) := by decide +kernel
theorem dX12_text_163 : decode cX12_text 163 = .ok (.aload_n 0, 1) := by decide +kernel
theorem dX12_text_164 : decode cX12_text 164 = .ok (.getfield 88, 3) := by decide +kernel
theorem dX12_text_167 : decode cX12_text 167 = .ok (.iload_n 1, 1) := by decide +kernel
theorem dX12_text_168 : decode cX12_text 168 = .ok (.iaload, 1) := by decide +kernel
theorem dX12_text_169 : decode cX12_text 169 = .ok (.iastore, 1) := by decide +kernel
theorem dX12_text_170 : decode cX12_text 170 = .ok (.iinc 1 1, 3) := by decide +kernel
theorem dX12_text_173 : decode cX12_text 173 = .ok (.goto (-21), 3) := by decide +kernel
theorem dX12_text_176 : decode cX12_text 176 = .ok (.aload_n 0, 1) := by decide +kernel
theorem dX12_text_177 : decode cX12_text 177 = .ok (.getfield 315, 3) := by decide +kernel
theorem dX12_text_180 : decode cX12_text 180 = .ok (.ireturn, 1) := by decide +kernel
theorem dX12_fault_0 : decode cX12_fault 0 = .ok (.aload_n 0, 1) := by decide +kernel
theorem dX12_fault_1 : decode cX12_fault 1 = .ok (.getfield 312, 3) := by decide +kernel
theorem dX12_fault_4 : decode cX12_fault 4 = .ok (.ireturn, 1) := by decide +kernel
theorem dX12_doHold_0 : decode cX12_doHold 0 = .ok (.iconst 1, 1) := by decide +kernel
theorem dX12_doHold_1 : decode cX12_doHold 1 = .ok (.istore_n 3, 1) := by decide +kernel
theorem dX12_doHold_2 : decode cX12_doHold 2 = .ok (.iconst 0, 1) := by decide +kernel
theorem dX12_doHold_3 : decode cX12_doHold 3 = .ok (.istore 4, 2) := by decide +kernel
theorem dX12_doHold_5 : decode cX12_doHold 5 = .ok (.iload 4, 2) := by decide +kernel
theorem dX12_doHold_7 : decode cX12_doHold 7 = .ok (.aload_n 0, 1) := by decide +kernel
theorem dX12_doHold_8 : decode cX12_doHold 8 = .ok (.getfield 67, 3) := by decide +kernel
theorem dX12_doHold_11 : decode cX12_doHold 11 = .ok (.iload_n 1, 1) := by decide +kernel
theorem dX12_doHold_12 : decode cX12_doHold 12 = .ok (.iaload, 1) := by decide +kernel
theorem dX12_doHold_13 : decode cX12_doHold 13 = .ok (.if_icmp .ge 153, 3) := by decide +kernel
theorem dX12_doHold_16 : decode cX12_doHold 16 = .ok (.bipush 9, 2) := by decide +kernel
theorem dX12_doHold_18 : decode cX12_doHold 18 = .ok (.iload_n 1, 1) := by decide +kernel
theorem dX12_doHold_19 : decode cX12_doHold 19 = .ok (.imul, 1) := by decide +kernel
theorem dX12_doHold_20 : decode cX12_doHold 20 = .ok (.iconst 3, 1) := by decide +kernel
theorem dX12_doHold_21 : decode cX12_doHold 21 = .ok (.iload 4, 2) := by decide +kernel
theorem dX12_doHold_23 : decode cX12_doHold 23 = .ok (.imul, 1) := by decide +kernel
theorem dX12_doHold_24 : decode cX12_doHold 24 = .ok (.iadd, 1) := by decide +kernel
theorem dX12_doHold_25 : decode cX12_doHold 25 = .ok (.istore 5, 2) := by decide +kernel
theorem dX12_doHold_27 : decode cX12_doHold 27 = .ok (.aload_n 0, 1) := by decide +kernel
theorem dX12_doHold_28 : decode cX12_doHold 28 = .ok (.getfield 70, 3) := by decide +kernel
theorem dX12_doHold_31 : decode cX12_doHold 31 = .ok (.iload 5, 2) := by decide +kernel
theorem dX12_doHold_33 : decode cX12_doHold 33 = .ok (.iaload, 1) := by decide +kernel
theorem dX12_doHold_34 : decode cX12_doHold 34 = .ok (.ifCond .ne 12, 3) := by decide +kernel
theorem dX12_doHold_37 : decode cX12_doHold 37 = .ok (.aload_n 0, 1) := by decide +kernel
theorem dX12_doHold_38 : decode cX12_doHold 38 = .ok (.getfield 7, 3) := by decide +kernel
theorem dX12_doHold_41 : decode cX12_doHold 41 = .ok (.iload_n 2, 1) := by decide +kernel
theorem dX12_doHold_42 : decode cX12_doHold 42 = .ok (.iaload, 1) := by decide +kernel
theorem dX12_doHold_43 : decode cX12_doHold 43 = .ok (.goto 29, 3) := by decide +kernel
theorem dX12_doHold_46 : decode cX12_doHold 46 = .ok (.aload_n 0, 1) := by decide +kernel
theorem dX12_doHold_47 : decode cX12_doHold 47 = .ok (.getfield 70, 3) := by decide +kernel
theorem dX12_doHold_50 : decode cX12_doHold 50 = .ok (.iload 5, 2) := by decide +kernel
theorem dX12_doHold_52 : decode cX12_doHold 52 = .ok (.iaload, 1) := by decide +kernel
theorem dX12_doHold_53 : decode cX12_doHold 53 = .ok (.iconst 1, 1) := by decide +kernel
theorem dX12_doHold_54 : decode cX12_doHold 54 = .ok (.if_icmp .ne 12, 3) := by decide +kernel
theorem dX12_doHold_57 : decode cX12_doHold 57 = .ok (.aload_n 0, 1) := by decide +kernel
theorem dX12_doHold_58 : decode cX12_doHold 58 = .ok (.getfield 13, 3) := by decide +kernel
theorem dX12_doHold_61 : decode cX12_doHold 61 = .ok (.iload_n 2, 1) := by decide +kernel
theorem dX12_doHold_62 : decode cX12_doHold 62 = .ok (.iaload, 1) := by decide +kernel
theorem dX12_doHold_63 : decode cX12_doHold 63 = .ok (.goto 9, 3) := by decide +kernel
theorem dX12_doHold_66 : decode cX12_doHold 66 = .ok (.aload_n 0, 1) := by decide +kernel
theorem dX12_doHold_67 : decode cX12_doHold 67 = .ok (.getfield 16, 3) := by decide +kernel
theorem dX12_doHold_70 : decode cX12_doHold 70 = .ok (.iload_n 2, 1) := by decide +kernel
theorem dX12_doHold_71 : decode cX12_doHold 71 = .ok (.iaload, 1) := by decide +kernel
theorem dX12_doHold_72 : decode cX12_doHold 72 = .ok (.istore 6, 2) := by decide +kernel
theorem dX12_doHold_74 : decode cX12_doHold 74 = .ok (.iload_n 3, 1) := by decide +kernel
theorem dX12_doHold_75 : decode cX12_doHold 75 = .ok (.ifCond .eq 83, 3) := by decide +kernel
theorem dX12_doHold_78 : decode cX12_doHold 78 = .ok (.aload_n 0, 1) := by decide +kernel
theorem dX12_doHold_79 : decode cX12_doHold 79 = .ok (.getfield 70, 3) := by decide +kernel
theorem dX12_doHold_82 : decode cX12_doHold 82 = .ok (.iload 5, 2) := by decide +kernel
theorem dX12_doHold_84 : decode cX12_doHold 84 = .ok (.iconst 1, 1) := by decide +kernel
theorem dX12_doHold_85 : decode cX12_doHold 85 = .ok (.iadd, 1) := by decide +kernel
theorem dX12_doHold_86 : decode cX12_doHold 86 = .ok (.iaload, 1) := by decide +kernel
theorem dX12_doHold_87 : decode cX12_doHold 87 = .ok (.bipush 60, 2) := by decide +kernel
theorem dX12_doHold_89 : decode cX12_doHold 89 = .ok (.if_icmp .ne 20, 3) := by decide +kernel
theorem dX12_doHold_92 : decode cX12_doHold 92 = .ok (.iload 6, 2) := by decide +kernel
theorem dX12_doHold_94 : decode cX12_doHold 94 = .ok (.aload_n 0, 1) := by decide +kernel
theorem dX12_doHold_95 : decode cX12_doHold 95 = .ok (.getfield 70, 3) := by decide +kernel
theorem dX12_doHold_98 : decode cX12_doHold 98 = .ok (.iload 5, 2) := by decide +kernel
theorem dX12_doHold_100 : decode cX12_doHold 100 = .ok (.iconst 2, 1) := by decide +kernel
theorem dX12_doHold_101 : decode cX12_doHold 101 = .ok (.iadd, 1) := by decide +kernel
theorem dX12_doHold_102 : decode cX12_doHold 102 = .ok (.iaload, 1) := by decide +kernel
theorem dX12_doHold_103 : decode cX12_doHold 103 = .ok (.if_icmp .ge 55, 3) := by decide +kernel
theorem dX12_doHold_106 : decode cX12_doHold 106 = .ok (.goto 48, 3) := by decide +kernel
theorem dX12_doHold_109 : decode cX12_doHold 109 = .ok (.aload_n 0, 1) := by decide +kernel
theorem dX12_doHold_110 : decode cX12_doHold 110 = .ok (.getfield 70, 3) := by decide +kernel
theorem dX12_doHold_113 : decode cX12_doHold 113 = .ok (.iload 5, 2) := by decide +kernel
theorem dX12_doHold_115 : decode cX12_doHold 115 = .ok (.iconst 1, 1) := by decide +kernel
theorem dX12_doHold_116 : decode cX12_doHold 116 = .ok (.iadd, 1) := by decide +kernel
theorem dX12_doHold_117 : decode cX12_doHold 117 = .ok (.iaload, 1) := by decide +kernel
theorem dX12_doHold_118 : decode cX12_doHold 118 = .ok (.bipush 62, 2) := by decide +kernel
theorem dX12_doHold_120 : decode cX12_doHold 120 = .ok (.if_icmp .ne 20, 3) := by decide +kernel
theorem dX12_doHold_123 : decode cX12_doHold 123 = .ok (.iload 6, 2) := by decide +kernel
theorem dX12_doHold_125 : decode cX12_doHold 125 = .ok (.aload_n 0, 1) := by decide +kernel
theorem dX12_doHold_126 : decode cX12_doHold 126 = .ok (.getfield 70, 3) := by decide +kernel
theorem dX12_doHold_129 : decode cX12_doHold 129 = .ok (.iload 5, 2) := by decide +kernel
theorem dX12_doHold_131 : decode cX12_doHold 131 = .ok (.iconst 2, 1) := by decide +kernel
theorem dX12_doHold_132 : decode cX12_doHold 132 = .ok (.iadd, 1) := by decide +kernel
theorem dX12_doHold_133 : decode cX12_doHold 133 = .ok (.iaload, 1) := by decide +kernel
theorem dX12_doHold_134 : decode cX12_doHold 134 = .ok (.if_icmp .le 24, 3) := by decide +kernel
theorem dX12_doHold_137 : decode cX12_doHold 137 = .ok (.goto 17, 3) := by decide +kernel
theorem dX12_doHold_140 : decode cX12_doHold 140 = .ok (.iload 6, 2) := by decide +kernel
theorem dX12_doHold_142 : decode cX12_doHold 142 = .ok (.aload_n 0, 1) := by decide +kernel
theorem dX12_doHold_143 : decode cX12_doHold 143 = .ok (.getfield 70, 3) := by decide +kernel
theorem dX12_doHold_146 : decode cX12_doHold 146 = .ok (.iload 5, 2) := by decide +kernel
theorem dX12_doHold_148 : decode cX12_doHold 148 = .ok (.iconst 2, 1) := by decide +kernel
theorem dX12_doHold_149 : decode cX12_doHold 149 = .ok (.iadd, 1) := by decide +kernel
theorem dX12_doHold_150 : decode cX12_doHold 150 = .ok (.iaload, 1) := by decide +kernel
theorem dX12_doHold_151 : decode cX12_doHold 151 = .ok (.if_icmp .ne 7, 3) := by decide +kernel
theorem dX12_doHold_154 : decode cX12_doHold 154 = .ok (.iconst 1, 1) := by decide +kernel
theorem dX12_doHold_155 : decode cX12_doHold 155 = .ok (.goto 4, 3) := by decide +kernel
theorem dX12_doHold_158 : decode cX12_doHold 158 = .ok (.iconst 0, 1) := by decide +kernel
theorem dX12_doHold_159 : decode cX12_doHold 159 = .ok (.istore_n 3, 1) := by decide +kernel
theorem dX12_doHold_160 : decode cX12_doHold 160 = .ok (.iinc 4 1, 3) := by decide +kernel
theorem dX12_doHold_163 : decode cX12_doHold 163 = .ok (.goto (-158), 3) := by decide +kernel
theorem dX12_doHold_166 : decode cX12_doHold 166 = .ok (.iload_n 3, 1) := by decide +kernel
theorem dX12_doHold_167 : decode cX12_doHold 167 = .ok (.ireturn, 1) := by decide +kernel
theorem dX12_dueOf_0 : decode cX12_dueOf 0 = .ok (.iconst 0, 1) := by decide +kernel
theorem dX12_dueOf_1 : decode cX12_dueOf 1 = .ok (.istore 4, 2) := by decide +kernel
theorem dX12_dueOf_3 : decode cX12_dueOf 3 = .ok (.aload_n 0, 1) := by decide +kernel
theorem dX12_dueOf_4 : decode cX12_dueOf 4 = .ok (.bipush (-4), 2) := by decide +kernel
theorem dX12_dueOf_6 : decode cX12_dueOf 6 = .ok (.putfield 318, 3) := by decide +kernel
theorem dX12_dueOf_9 : decode cX12_dueOf 9 = .ok (.iconst 0, 1) := by decide +kernel
theorem dX12_dueOf_10 : decode cX12_dueOf 10 = .ok (.istore 5, 2) := by decide +kernel
theorem dX12_dueOf_12 : decode cX12_dueOf 12 = .ok (.iload 5, 2) := by decide +kernel
theorem dX12_dueOf_14 : decode cX12_dueOf 14 = .ok (.aload_n 0, 1) := by decide +kernel
theorem dX12_dueOf_15 : decode cX12_dueOf 15 = .ok (.getfield 315, 3) := by decide +kernel
theorem dX12_dueOf_18 : decode cX12_dueOf 18 = .ok (.if_icmp .ge 87, 3) := by decide +kernel
theorem dX12_dueOf_21 : decode cX12_dueOf 21 = .ok (.aload_n 0, 1) := by decide +kernel
theorem dX12_dueOf_22 : decode cX12_dueOf 22 = .ok (.getfield 55, 3) := by decide +kernel
theorem dX12_dueOf_25 : decode cX12_dueOf 25 = .ok (.iload 5, 2) := by decide +kernel
theorem dX12_dueOf_27 : decode cX12_dueOf 27 = .ok (.iaload, 1) := by decide +kernel
theorem dX12_dueOf_28 : decode cX12_dueOf 28 = .ok (.ifCond .ne 71, 3) := by decide +kernel
theorem dX12_dueOf_31 : decode cX12_dueOf 31 = .ok (.aload_n 0, 1) := by decide +kernel
theorem dX12_dueOf_32 : decode cX12_dueOf 32 = .ok (.getfield 61, 3) := by decide +kernel
theorem dX12_dueOf_35 : decode cX12_dueOf 35 = .ok (.iload 5, 2) := by decide +kernel
theorem dX12_dueOf_37 : decode cX12_dueOf 37 = .ok (.iaload, 1) := by decide +kernel
theorem dX12_dueOf_38 : decode cX12_dueOf 38 = .ok (.iload_n 2, 1) := by decide +kernel
theorem dX12_dueOf_39 : decode cX12_dueOf 39 = .ok (.if_icmp .ne 60, 3) := by decide +kernel
theorem dX12_dueOf_42 : decode cX12_dueOf 42 = .ok (.aload_n 0, 1) := by decide +kernel
theorem dX12_dueOf_43 : decode cX12_dueOf 43 = .ok (.getfield 58, 3) := by decide +kernel
theorem dX12_dueOf_46 : decode cX12_dueOf 46 = .ok (.iload 5, 2) := by decide +kernel
theorem dX12_dueOf_48 : decode cX12_dueOf 48 = .ok (.iaload, 1) := by decide +kernel
theorem dX12_dueOf_49 : decode cX12_dueOf 49 = .ok (.iload_n 3, 1) := by decide +kernel
theorem dX12_dueOf_50 : decode cX12_dueOf 50 = .ok (.if_icmp .gt 49, 3) := by decide +kernel
theorem dX12_dueOf_53 : decode cX12_dueOf 53 = .ok (.aload_n 0, 1) := by decide +kernel
theorem dX12_dueOf_54 : decode cX12_dueOf 54 = .ok (.iload 5, 2) := by decide +kernel
theorem dX12_dueOf_56 : decode cX12_dueOf 56 = .ok (.iload_n 1, 1) := by decide +kernel
theorem dX12_dueOf_57 : decode cX12_dueOf 57 = .ok (.invokevirtual 321, 3) := by decide +kernel
theorem dX12_dueOf_60 : decode cX12_dueOf 60 = .ok (.ifCond .eq 39, 3) := by decide +kernel
theorem dX12_dueOf_63 : decode cX12_dueOf 63 = .ok (.aload_n 0, 1) := by decide +kernel
theorem dX12_dueOf_64 : decode cX12_dueOf 64 = .ok (.getfield 318, 3) := by decide +kernel
theorem dX12_dueOf_67 : decode cX12_dueOf 67 = .ok (.bipush (-4), 2) := by decide +kernel
theorem dX12_dueOf_69 : decode cX12_dueOf 69 = .ok (.if_icmp .eq 15, 3) := by decide +kernel
theorem dX12_dueOf_72 : decode cX12_dueOf 72 = .ok (.aload_n 0, 1) := by decide +kernel
theorem dX12_dueOf_73 : decode cX12_dueOf 73 = .ok (.getfield 64, 3) := by decide +kernel
theorem dX12_dueOf_76 : decode cX12_dueOf 76 = .ok (.iload 5, 2) := by decide +kernel
theorem dX12_dueOf_78 : decode cX12_dueOf 78 = .ok (.iaload, 1) := by decide +kernel
theorem dX12_dueOf_79 : decode cX12_dueOf 79 = .ok (.iload 4, 2) := by decide +kernel
theorem dX12_dueOf_81 : decode cX12_dueOf 81 = .ok (.if_icmp .le 18, 3) := by decide +kernel
theorem dX12_dueOf_84 : decode cX12_dueOf 84 = .ok (.aload_n 0, 1) := by decide +kernel
theorem dX12_dueOf_85 : decode cX12_dueOf 85 = .ok (.getfield 64, 3) := by decide +kernel
theorem dX12_dueOf_88 : decode cX12_dueOf 88 = .ok (.iload 5, 2) := by decide +kernel
theorem dX12_dueOf_90 : decode cX12_dueOf 90 = .ok (.iaload, 1) := by decide +kernel
theorem dX12_dueOf_91 : decode cX12_dueOf 91 = .ok (.istore 4, 2) := by decide +kernel
theorem dX12_dueOf_93 : decode cX12_dueOf 93 = .ok (.aload_n 0, 1) := by decide +kernel
theorem dX12_dueOf_94 : decode cX12_dueOf 94 = .ok (.iload 5, 2) := by decide +kernel
theorem dX12_dueOf_96 : decode cX12_dueOf 96 = .ok (.putfield 318, 3) := by decide +kernel
theorem dX12_dueOf_99 : decode cX12_dueOf 99 = .ok (.iinc 5 1, 3) := by decide +kernel
theorem dX12_dueOf_102 : decode cX12_dueOf 102 = .ok (.goto (-90), 3) := by decide +kernel
theorem dX12_dueOf_105 : decode cX12_dueOf 105 = .ok (.iload 4, 2) := by decide +kernel
theorem dX12_dueOf_107 : decode cX12_dueOf 107 = .ok (.ireturn, 1) := by decide +kernel
theorem dX12_due_0 : decode cX12_due 0 = .ok (.aload_n 0, 1) := by decide +kernel
theorem dX12_due_1 : decode cX12_due 1 = .ok (.iload_n 1, 1) := by decide +kernel
theorem dX12_due_2 : decode cX12_due 2 = .ok (.invokevirtual 196, 3) := by decide +kernel
theorem dX12_due_5 : decode cX12_due 5 = .ok (.ifCond .eq 32, 3) := by decide +kernel
theorem dX12_due_8 : decode cX12_due 8 = .ok (.iload_n 2, 1) := by decide +kernel
theorem dX12_due_9 : decode cX12_due 9 = .ok (.i2l, 1) := by decide +kernel
theorem dX12_due_10 : decode cX12_due 10 = .ok (.lconst 0, 1) := by decide +kernel
theorem dX12_due_11 : decode cX12_due 11 = .ok (.ldc2_w 192, 3) := by decide +kernel
theorem dX12_due_14 : decode cX12_due 14 = .ok (.invokestatic 181, 3) := by decide +kernel
theorem dX12_due_17 : decode cX12_due 17 = .ok (.ifCond .eq 20, 3) := by decide +kernel
theorem dX12_due_20 : decode cX12_due 20 = .ok (.iload_n 3, 1) := by decide +kernel
theorem dX12_due_21 : decode cX12_due 21 = .ok (.invokestatic 205, 3) := by decide +kernel
theorem dX12_due_24 : decode cX12_due 24 = .ok (.ifCond .eq 13, 3) := by decide +kernel
theorem dX12_due_27 : decode cX12_due 27 = .ok (.aload_n 0, 1) := by decide +kernel
theorem dX12_due_28 : decode cX12_due 28 = .ok (.iload_n 1, 1) := by decide +kernel
theorem dX12_due_29 : decode cX12_due 29 = .ok (.iload_n 2, 1) := by decide +kernel
theorem dX12_due_30 : decode cX12_due 30 = .ok (.iload_n 3, 1) := by decide +kernel
theorem dX12_due_31 : decode cX12_due 31 = .ok (.invokevirtual 228, 3) := by decide +kernel
theorem dX12_due_34 : decode cX12_due 34 = .ok (.goto 4, 3) := by decide +kernel
theorem dX12_due_37 : decode cX12_due 37 = .ok (.iconst (-1), 1) := by decide +kernel
theorem dX12_due_38 : decode cX12_due 38 = .ok (.ireturn, 1) := by decide +kernel
theorem dX12_why_0 : decode cX12_why 0 = .ok (.aload_n 0, 1) := by decide +kernel
theorem dX12_why_1 : decode cX12_why 1 = .ok (.iload_n 1, 1) := by decide +kernel
theorem dX12_why_2 : decode cX12_why 2 = .ok (.invokevirtual 196, 3) := by decide +kernel
theorem dX12_why_5 : decode cX12_why 5 = .ok (.ifCond .eq 22, 3) := by decide +kernel
theorem dX12_why_8 : decode cX12_why 8 = .ok (.iload_n 2, 1) := by decide +kernel
theorem dX12_why_9 : decode cX12_why 9 = .ok (.i2l, 1) := by decide +kernel
theorem dX12_why_10 : decode cX12_why 10 = .ok (.lconst 0, 1) := by decide +kernel
theorem dX12_why_11 : decode cX12_why 11 = .ok (.ldc2_w 192, 3) := by decide +kernel
theorem dX12_why_14 : decode cX12_why 14 = .ok (.invokestatic 181, 3) := by decide +kernel
theorem dX12_why_17 : decode cX12_why 17 = .ok (.ifCond .eq 10, 3) := by decide +kernel
theorem dX12_why_20 : decode cX12_why 20 = .ok (.iload_n 3, 1) := by decide +kernel
theorem dX12_why_21 : decode cX12_why 21 = .ok (.invokestatic 205, 3) := by decide +kernel
theorem dX12_why_24 : decode cX12_why 24 = .ok (.ifCond .ne 5, 3) := by decide +kernel
theorem dX12_why_27 : decode cX12_why 27 = .ok (.iconst (-1), 1) := by decide +kernel
theorem dX12_why_28 : decode cX12_why 28 = .ok (.ireturn, 1) := by decide +kernel
theorem dX12_why_29 : decode cX12_why 29 = .ok (.aload_n 0, 1) := by decide +kernel
theorem dX12_why_30 : decode cX12_why 30 = .ok (.iload_n 1, 1) := by decide +kernel
theorem dX12_why_31 : decode cX12_why 31 = .ok (.iload_n 2, 1) := by decide +kernel
theorem dX12_why_32 : decode cX12_why 32 = .ok (.iload_n 3, 1) := by decide +kernel
theorem dX12_why_33 : decode cX12_why 33 = .ok (.invokevirtual 228, 3) := by decide +kernel
theorem dX12_why_36 : decode cX12_why 36 = .ok (.pop, 1) := by decide +kernel
theorem dX12_why_37 : decode cX12_why 37 = .ok (.aload_n 0, 1) := by decide +kernel
theorem dX12_why_38 : decode cX12_why 38 = .ok (.getfield 318, 3) := by decide +kernel
theorem dX12_why_41 : decode cX12_why 41 = .ok (.ireturn, 1) := by decide +kernel
theorem dX12_ruleOf_0 : decode cX12_ruleOf 0 = .ok (.iload_n 2, 1) := by decide +kernel
theorem dX12_ruleOf_1 : decode cX12_ruleOf 1 = .ok (.iconst 1, 1) := by decide +kernel
theorem dX12_ruleOf_2 : decode cX12_ruleOf 2 = .ok (.if_icmp .ne 9, 3) := by decide +kernel
theorem dX12_ruleOf_5 : decode cX12_ruleOf 5 = .ok (.sipush 365, 3) := by decide +kernel
theorem dX12_ruleOf_8 : decode cX12_ruleOf 8 = .ok (.goto 5, 3) := by decide +kernel
theorem dX12_ruleOf_11 : decode cX12_ruleOf 11 = .ok (.bipush 100, 2) := by decide +kernel
theorem dX12_ruleOf_13 : decode cX12_ruleOf 13 = .ok (.istore 4, 2) := by decide +kernel
theorem dX12_ruleOf_15 : decode cX12_ruleOf 15 = .ok (.iconst (-1), 1) := by decide +kernel
theorem dX12_ruleOf_16 : decode cX12_ruleOf 16 = .ok (.istore 5, 2) := by decide +kernel
theorem dX12_ruleOf_18 : decode cX12_ruleOf 18 = .ok (.iconst 0, 1) := by decide +kernel
theorem dX12_ruleOf_19 : decode cX12_ruleOf 19 = .ok (.istore 6, 2) := by decide +kernel
theorem dX12_ruleOf_21 : decode cX12_ruleOf 21 = .ok (.iload 6, 2) := by decide +kernel
theorem dX12_ruleOf_23 : decode cX12_ruleOf 23 = .ok (.aload_n 0, 1) := by decide +kernel
theorem dX12_ruleOf_24 : decode cX12_ruleOf 24 = .ok (.getfield 315, 3) := by decide +kernel
theorem dX12_ruleOf_27 : decode cX12_ruleOf 27 = .ok (.if_icmp .ge 72, 3) := by decide +kernel
theorem dX12_ruleOf_30 : decode cX12_ruleOf 30 = .ok (.aload_n 0, 1) := by decide +kernel
theorem dX12_ruleOf_31 : decode cX12_ruleOf 31 = .ok (.getfield 55, 3) := by decide +kernel
theorem dX12_ruleOf_34 : decode cX12_ruleOf 34 = .ok (.iload 6, 2) := by decide +kernel
theorem dX12_ruleOf_36 : decode cX12_ruleOf 36 = .ok (.iaload, 1) := by decide +kernel
theorem dX12_ruleOf_37 : decode cX12_ruleOf 37 = .ok (.iload_n 2, 1) := by decide +kernel
theorem dX12_ruleOf_38 : decode cX12_ruleOf 38 = .ok (.if_icmp .ne 55, 3) := by decide +kernel
theorem dX12_ruleOf_41 : decode cX12_ruleOf 41 = .ok (.aload_n 0, 1) := by decide +kernel
theorem dX12_ruleOf_42 : decode cX12_ruleOf 42 = .ok (.getfield 61, 3) := by decide +kernel
theorem dX12_ruleOf_45 : decode cX12_ruleOf 45 = .ok (.iload 6, 2) := by decide +kernel
theorem dX12_ruleOf_47 : decode cX12_ruleOf 47 = .ok (.iaload, 1) := by decide +kernel
theorem dX12_ruleOf_48 : decode cX12_ruleOf 48 = .ok (.iload_n 1, 1) := by decide +kernel
theorem dX12_ruleOf_49 : decode cX12_ruleOf 49 = .ok (.if_icmp .ne 44, 3) := by decide +kernel
theorem dX12_ruleOf_52 : decode cX12_ruleOf 52 = .ok (.aload_n 0, 1) := by decide +kernel
theorem dX12_ruleOf_53 : decode cX12_ruleOf 53 = .ok (.getfield 58, 3) := by decide +kernel
theorem dX12_ruleOf_56 : decode cX12_ruleOf 56 = .ok (.iload 6, 2) := by decide +kernel
theorem dX12_ruleOf_58 : decode cX12_ruleOf 58 = .ok (.iaload, 1) := by decide +kernel
theorem dX12_ruleOf_59 : decode cX12_ruleOf 59 = .ok (.iload_n 3, 1) := by decide +kernel
theorem dX12_ruleOf_60 : decode cX12_ruleOf 60 = .ok (.if_icmp .gt 33, 3) := by decide +kernel
theorem dX12_ruleOf_63 : decode cX12_ruleOf 63 = .ok (.aload_n 0, 1) := by decide +kernel
theorem dX12_ruleOf_64 : decode cX12_ruleOf 64 = .ok (.getfield 58, 3) := by decide +kernel
theorem dX12_ruleOf_67 : decode cX12_ruleOf 67 = .ok (.iload 6, 2) := by decide +kernel
theorem dX12_ruleOf_69 : decode cX12_ruleOf 69 = .ok (.iaload, 1) := by decide +kernel
theorem dX12_ruleOf_70 : decode cX12_ruleOf 70 = .ok (.iload 5, 2) := by decide +kernel
theorem dX12_ruleOf_72 : decode cX12_ruleOf 72 = .ok (.if_icmp .le 21, 3) := by decide +kernel
theorem dX12_ruleOf_75 : decode cX12_ruleOf 75 = .ok (.aload_n 0, 1) := by decide +kernel
theorem dX12_ruleOf_76 : decode cX12_ruleOf 76 = .ok (.getfield 64, 3) := by decide +kernel
theorem dX12_ruleOf_79 : decode cX12_ruleOf 79 = .ok (.iload 6, 2) := by decide +kernel
theorem dX12_ruleOf_81 : decode cX12_ruleOf 81 = .ok (.iaload, 1) := by decide +kernel
theorem dX12_ruleOf_82 : decode cX12_ruleOf 82 = .ok (.istore 4, 2) := by decide +kernel
theorem dX12_ruleOf_84 : decode cX12_ruleOf 84 = .ok (.aload_n 0, 1) := by decide +kernel
theorem dX12_ruleOf_85 : decode cX12_ruleOf 85 = .ok (.getfield 58, 3) := by decide +kernel
theorem dX12_ruleOf_88 : decode cX12_ruleOf 88 = .ok (.iload 6, 2) := by decide +kernel
theorem dX12_ruleOf_90 : decode cX12_ruleOf 90 = .ok (.iaload, 1) := by decide +kernel
theorem dX12_ruleOf_91 : decode cX12_ruleOf 91 = .ok (.istore 5, 2) := by decide +kernel
theorem dX12_ruleOf_93 : decode cX12_ruleOf 93 = .ok (.iinc 6 1, 3) := by decide +kernel
theorem dX12_ruleOf_96 : decode cX12_ruleOf 96 = .ok (.goto (-75), 3) := by decide +kernel
theorem dX12_ruleOf_99 : decode cX12_ruleOf 99 = .ok (.iload 4, 2) := by decide +kernel
theorem dX12_ruleOf_101 : decode cX12_ruleOf 101 = .ok (.ireturn, 1) := by decide +kernel
theorem dX12_rule_0 : decode cX12_rule 0 = .ok (.iload_n 1, 1) := by decide +kernel
theorem dX12_rule_1 : decode cX12_rule 1 = .ok (.i2l, 1) := by decide +kernel
theorem dX12_rule_2 : decode cX12_rule 2 = .ok (.lconst 0, 1) := by decide +kernel
theorem dX12_rule_3 : decode cX12_rule 3 = .ok (.ldc2_w 192, 3) := by decide +kernel
theorem dX12_rule_6 : decode cX12_rule 6 = .ok (.invokestatic 181, 3) := by decide +kernel
theorem dX12_rule_9 : decode cX12_rule 9 = .ok (.ifCond .eq 38, 3) := by decide +kernel
theorem dX12_rule_12 : decode cX12_rule 12 = .ok (.iload_n 2, 1) := by decide +kernel
theorem dX12_rule_13 : decode cX12_rule 13 = .ok (.i2l, 1) := by decide +kernel
theorem dX12_rule_14 : decode cX12_rule 14 = .ok (.lconst 0, 1) := by decide +kernel
theorem dX12_rule_15 : decode cX12_rule 15 = .ok (.lconst 1, 1) := by decide +kernel
theorem dX12_rule_16 : decode cX12_rule 16 = .ok (.invokestatic 181, 3) := by decide +kernel
theorem dX12_rule_19 : decode cX12_rule 19 = .ok (.ifCond .eq 28, 3) := by decide +kernel
theorem dX12_rule_22 : decode cX12_rule 22 = .ok (.iload_n 3, 1) := by decide +kernel
theorem dX12_rule_23 : decode cX12_rule 23 = .ok (.invokestatic 205, 3) := by decide +kernel
theorem dX12_rule_26 : decode cX12_rule 26 = .ok (.ifCond .eq 21, 3) := by decide +kernel
theorem dX12_rule_29 : decode cX12_rule 29 = .ok (.aload_n 0, 1) := by decide +kernel
theorem dX12_rule_30 : decode cX12_rule 30 = .ok (.iload_n 1, 1) := by decide +kernel
theorem dX12_rule_31 : decode cX12_rule 31 = .ok (.iload_n 2, 1) := by decide +kernel
theorem dX12_rule_32 : decode cX12_rule 32 = .ok (.ifCond .ne 7, 3) := by decide +kernel
theorem dX12_rule_35 : decode cX12_rule 35 = .ok (.iconst 1, 1) := by decide +kernel
theorem dX12_rule_36 : decode cX12_rule 36 = .ok (.goto 4, 3) := by decide +kernel
theorem dX12_rule_39 : decode cX12_rule 39 = .ok (.iconst 2, 1) := by decide +kernel
theorem dX12_rule_40 : decode cX12_rule 40 = .ok (.iload_n 3, 1) := by decide +kernel
theorem dX12_rule_41 : decode cX12_rule 41 = .ok (.invokevirtual 325, 3) := by decide +kernel
theorem dX12_rule_44 : decode cX12_rule 44 = .ok (.goto 4, 3) := by decide +kernel
theorem dX12_rule_47 : decode cX12_rule 47 = .ok (.iconst (-1), 1) := by decide +kernel
theorem dX12_rule_48 : decode cX12_rule 48 = .ok (.ireturn, 1) := by decide +kernel
theorem dX12_isStore_0 : decode cX12_isStore 0 = .ok (.iload_n 1, 1) := by decide +kernel
theorem dX12_isStore_1 : decode cX12_isStore 1 = .ok (.i2l, 1) := by decide +kernel
theorem dX12_isStore_2 : decode cX12_isStore 2 = .ok (.lconst 0, 1) := by decide +kernel
theorem dX12_isStore_3 : decode cX12_isStore 3 = .ok (.aload_n 0, 1) := by decide +kernel
theorem dX12_isStore_4 : decode cX12_isStore 4 = .ok (.getfield 328, 3) := by decide +kernel
theorem dX12_isStore_7 : decode cX12_isStore 7 = .ok (.iconst 1, 1) := by decide +kernel
theorem dX12_isStore_8 : decode cX12_isStore 8 = .ok (.isub, 1) := by decide +kernel
theorem dX12_isStore_9 : decode cX12_isStore 9 = .ok (.i2l, 1) := by decide +kernel
theorem dX12_isStore_10 : decode cX12_isStore 10 = .ok (.invokestatic 181, 3) := by decide +kernel
theorem dX12_isStore_13 : decode cX12_isStore 13 = .ok (.ireturn, 1) := by decide +kernel
theorem dX12_isPiece_0 : decode cX12_isPiece 0 = .ok (.iload_n 1, 1) := by decide +kernel
theorem dX12_isPiece_1 : decode cX12_isPiece 1 = .ok (.i2l, 1) := by decide +kernel
theorem dX12_isPiece_2 : decode cX12_isPiece 2 = .ok (.lconst 0, 1) := by decide +kernel
theorem dX12_isPiece_3 : decode cX12_isPiece 3 = .ok (.aload_n 0, 1) := by decide +kernel
theorem dX12_isPiece_4 : decode cX12_isPiece 4 = .ok (.getfield 232, 3) := by decide +kernel
theorem dX12_isPiece_7 : decode cX12_isPiece 7 = .ok (.iconst 1, 1) := by decide +kernel
theorem dX12_isPiece_8 : decode cX12_isPiece 8 = .ok (.isub, 1) := by decide +kernel
theorem dX12_isPiece_9 : decode cX12_isPiece 9 = .ok (.i2l, 1) := by decide +kernel
theorem dX12_isPiece_10 : decode cX12_isPiece 10 = .ok (.invokestatic 181, 3) := by decide +kernel
theorem dX12_isPiece_13 : decode cX12_isPiece 13 = .ok (.ireturn, 1) := by decide +kernel
theorem dX12_store_0 : decode cX12_store 0 = .ok (.aload_n 0, 1) := by decide +kernel
theorem dX12_store_1 : decode cX12_store 1 = .ok (.getfield 328, 3) := by decide +kernel
theorem dX12_store_4 : decode cX12_store 4 = .ok (.iconst 4, 1) := by decide +kernel
theorem dX12_store_5 : decode cX12_store 5 = .ok (.if_icmp .ne 6, 3) := by decide +kernel
theorem dX12_store_8 : decode cX12_store 8 = .ok (.bipush (-3), 2) := by decide +kernel
theorem dX12_store_10 : decode cX12_store 10 = .ok (.ireturn, 1) := by decide +kernel
theorem dX12_store_11 : decode cX12_store 11 = .ok (.aload_n 0, 1) := by decide +kernel
theorem dX12_store_12 : decode cX12_store 12 = .ok (.dup, 1) := by decide +kernel
theorem dX12_store_13 : decode cX12_store 13 = .ok (.getfield 328, 3) := by decide +kernel
theorem dX12_store_16 : decode cX12_store 16 = .ok (.iconst 1, 1) := by decide +kernel
theorem dX12_store_17 : decode cX12_store 17 = .ok (.iadd, 1) := by decide +kernel
theorem dX12_store_18 : decode cX12_store 18 = .ok (.putfield 328, 3) := by decide +kernel
theorem dX12_store_21 : decode cX12_store 21 = .ok (.aload_n 0, 1) := by decide +kernel
theorem dX12_store_22 : decode cX12_store 22 = .ok (.getfield 328, 3) := by decide +kernel
theorem dX12_store_25 : decode cX12_store 25 = .ok (.iconst 1, 1) := by decide +kernel
theorem dX12_store_26 : decode cX12_store 26 = .ok (.isub, 1) := by decide +kernel
theorem dX12_store_27 : decode cX12_store 27 = .ok (.ireturn, 1) := by decide +kernel
theorem dX12_road_0 : decode cX12_road 0 = .ok (.aload_n 0, 1) := by decide +kernel
theorem dX12_road_1 : decode cX12_road 1 = .ok (.iload_n 1, 1) := by decide +kernel
theorem dX12_road_2 : decode cX12_road 2 = .ok (.invokevirtual 331, 3) := by decide +kernel
theorem dX12_road_5 : decode cX12_road 5 = .ok (.ifCond .eq 28, 3) := by decide +kernel
theorem dX12_road_8 : decode cX12_road 8 = .ok (.aload_n 0, 1) := by decide +kernel
theorem dX12_road_9 : decode cX12_road 9 = .ok (.iload_n 2, 1) := by decide +kernel
theorem dX12_road_10 : decode cX12_road 10 = .ok (.invokevirtual 331, 3) := by decide +kernel
theorem dX12_road_13 : decode cX12_road 13 = .ok (.ifCond .eq 20, 3) := by decide +kernel
theorem dX12_road_16 : decode cX12_road 16 = .ok (.iload_n 1, 1) := by decide +kernel
theorem dX12_road_17 : decode cX12_road 17 = .ok (.iload_n 2, 1) := by decide +kernel
theorem dX12_road_18 : decode cX12_road 18 = .ok (.if_icmp .eq 15, 3) := by decide +kernel
theorem dX12_road_21 : decode cX12_road 21 = .ok (.iload_n 3, 1) := by decide +kernel
theorem dX12_road_22 : decode cX12_road 22 = .ok (.i2l, 1) := by decide +kernel
theorem dX12_road_23 : decode cX12_road 23 = .ok (.lconst 0, 1) := by decide +kernel
theorem dX12_road_24 : decode cX12_road 24 = .ok (.ldc2_w 334, 3) := by decide +kernel
theorem dX12_road_27 : decode cX12_road 27 = .ok (.invokestatic 181, 3) := by decide +kernel
theorem dX12_road_30 : decode cX12_road 30 = .ok (.ifCond .ne 5, 3) := by decide +kernel
theorem dX12_road_33 : decode cX12_road 33 = .ok (.iconst (-1), 1) := by decide +kernel
theorem dX12_road_34 : decode cX12_road 34 = .ok (.ireturn, 1) := by decide +kernel
theorem dX12_road_35 : decode cX12_road 35 = .ok (.aload_n 0, 1) := by decide +kernel
theorem dX12_road_36 : decode cX12_road 36 = .ok (.getfield 91, 3) := by decide +kernel
theorem dX12_road_39 : decode cX12_road 39 = .ok (.iconst 4, 1) := by decide +kernel
theorem dX12_road_40 : decode cX12_road 40 = .ok (.iload_n 1, 1) := by decide +kernel
theorem dX12_road_41 : decode cX12_road 41 = .ok (.imul, 1) := by decide +kernel
theorem dX12_road_42 : decode cX12_road 42 = .ok (.iload_n 2, 1) := by decide +kernel
theorem dX12_road_43 : decode cX12_road 43 = .ok (.iadd, 1) := by decide +kernel
theorem dX12_road_44 : decode cX12_road 44 = .ok (.iaload, 1) := by decide +kernel
theorem dX12_road_45 : decode cX12_road 45 = .ok (.istore 4, 2) := by decide +kernel
theorem dX12_road_47 : decode cX12_road 47 = .ok (.aload_n 0, 1) := by decide +kernel
theorem dX12_road_48 : decode cX12_road 48 = .ok (.getfield 91, 3) := by decide +kernel
theorem dX12_road_51 : decode cX12_road 51 = .ok (.iconst 4, 1) := by decide +kernel
theorem dX12_road_52 : decode cX12_road 52 = .ok (.iload_n 1, 1) := by decide +kernel
theorem dX12_road_53 : decode cX12_road 53 = .ok (.imul, 1) := by decide +kernel
theorem dX12_road_54 : decode cX12_road 54 = .ok (.iload_n 2, 1) := by decide +kernel
theorem dX12_road_55 : decode cX12_road 55 = .ok (.iadd, 1) := by decide +kernel
theorem dX12_road_56 : decode cX12_road 56 = .ok (.iload_n 3, 1) := by decide +kernel
theorem dX12_road_57 : decode cX12_road 57 = .ok (.iastore, 1) := by decide +kernel
theorem dX12_road_58 : decode cX12_road 58 = .ok (.aload_n 0, 1) := by decide +kernel
theorem dX12_road_59 : decode cX12_road 59 = .ok (.getfield 91, 3) := by decide +kernel
theorem dX12_road_62 : decode cX12_road 62 = .ok (.iconst 4, 1) := by decide +kernel
theorem dX12_road_63 : decode cX12_road 63 = .ok (.iload_n 2, 1) := by decide +kernel
theorem dX12_road_64 : decode cX12_road 64 = .ok (.imul, 1) := by decide +kernel
theorem dX12_road_65 : decode cX12_road 65 = .ok (.iload_n 1, 1) := by decide +kernel
theorem dX12_road_66 : decode cX12_road 66 = .ok (.iadd, 1) := by decide +kernel
theorem dX12_road_67 : decode cX12_road 67 = .ok (.iload_n 3, 1) := by decide +kernel
theorem dX12_road_68 : decode cX12_road 68 = .ok (.iastore, 1) := by decide +kernel
theorem dX12_road_69 : decode cX12_road 69 = .ok (.iload 4, 2) := by decide +kernel
theorem dX12_road_71 : decode cX12_road 71 = .ok (.ireturn, 1) := by decide +kernel
theorem dX12_piece_0 : decode cX12_piece 0 = .ok (.aload_n 0, 1) := by decide +kernel
theorem dX12_piece_1 : decode cX12_piece 1 = .ok (.iload_n 1, 1) := by decide +kernel
theorem dX12_piece_2 : decode cX12_piece 2 = .ok (.invokevirtual 331, 3) := by decide +kernel
theorem dX12_piece_5 : decode cX12_piece 5 = .ok (.ifCond .eq 44, 3) := by decide +kernel
theorem dX12_piece_8 : decode cX12_piece 8 = .ok (.iload_n 2, 1) := by decide +kernel
theorem dX12_piece_9 : decode cX12_piece 9 = .ok (.i2l, 1) := by decide +kernel
theorem dX12_piece_10 : decode cX12_piece 10 = .ok (.lconst 0, 1) := by decide +kernel
theorem dX12_piece_11 : decode cX12_piece 11 = .ok (.aload_n 0, 1) := by decide +kernel
theorem dX12_piece_12 : decode cX12_piece 12 = .ok (.getfield 235, 3) := by decide +kernel
theorem dX12_piece_15 : decode cX12_piece 15 = .ok (.iconst 1, 1) := by decide +kernel
theorem dX12_piece_16 : decode cX12_piece 16 = .ok (.isub, 1) := by decide +kernel
theorem dX12_piece_17 : decode cX12_piece 17 = .ok (.i2l, 1) := by decide +kernel
theorem dX12_piece_18 : decode cX12_piece 18 = .ok (.invokestatic 181, 3) := by decide +kernel
theorem dX12_piece_21 : decode cX12_piece 21 = .ok (.ifCond .eq 28, 3) := by decide +kernel
theorem dX12_piece_24 : decode cX12_piece 24 = .ok (.iload_n 3, 1) := by decide +kernel
theorem dX12_piece_25 : decode cX12_piece 25 = .ok (.i2l, 1) := by decide +kernel
theorem dX12_piece_26 : decode cX12_piece 26 = .ok (.lconst 0, 1) := by decide +kernel
theorem dX12_piece_27 : decode cX12_piece 27 = .ok (.ldc2_w 190, 3) := by decide +kernel
theorem dX12_piece_30 : decode cX12_piece 30 = .ok (.invokestatic 181, 3) := by decide +kernel
theorem dX12_piece_33 : decode cX12_piece 33 = .ok (.ifCond .eq 16, 3) := by decide +kernel
theorem dX12_piece_36 : decode cX12_piece 36 = .ok (.iload 4, 2) := by decide +kernel
theorem dX12_piece_38 : decode cX12_piece 38 = .ok (.i2l, 1) := by decide +kernel
theorem dX12_piece_39 : decode cX12_piece 39 = .ok (.lconst 0, 1) := by decide +kernel
theorem dX12_piece_40 : decode cX12_piece 40 = .ok (.ldc2_w 334, 3) := by decide +kernel
theorem dX12_piece_43 : decode cX12_piece 43 = .ok (.invokestatic 181, 3) := by decide +kernel
theorem dX12_piece_46 : decode cX12_piece 46 = .ok (.ifCond .ne 5, 3) := by decide +kernel
theorem dX12_piece_49 : decode cX12_piece 49 = .ok (.iconst (-1), 1) := by decide +kernel
