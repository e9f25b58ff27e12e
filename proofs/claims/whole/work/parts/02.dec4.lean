theorem dX12_piece_50 : decode cX12_piece 50 = .ok (.ireturn, 1) := by decide +kernel
theorem dX12_piece_51 : decode cX12_piece 51 = .ok (.aload_n 0, 1) := by decide +kernel
theorem dX12_piece_52 : decode cX12_piece 52 = .ok (.getfield 232, 3) := by decide +kernel
theorem dX12_piece_55 : decode cX12_piece 55 = .ok (.bipush 36, 2) := by decide +kernel
theorem dX12_piece_57 : decode cX12_piece 57 = .ok (.if_icmp .ne 6, 3) := by decide +kernel
theorem dX12_piece_60 : decode cX12_piece 60 = .ok (.bipush (-3), 2) := by decide +kernel
theorem dX12_piece_62 : decode cX12_piece 62 = .ok (.ireturn, 1) := by decide +kernel
theorem dX12_piece_63 : decode cX12_piece 63 = .ok (.aload_n 0, 1) := by decide +kernel
theorem dX12_piece_64 : decode cX12_piece 64 = .ok (.getfield 94, 3) := by decide +kernel
theorem dX12_piece_67 : decode cX12_piece 67 = .ok (.aload_n 0, 1) := by decide +kernel
theorem dX12_piece_68 : decode cX12_piece 68 = .ok (.getfield 232, 3) := by decide +kernel
theorem dX12_piece_71 : decode cX12_piece 71 = .ok (.iload_n 2, 1) := by decide +kernel
theorem dX12_piece_72 : decode cX12_piece 72 = .ok (.iastore, 1) := by decide +kernel
theorem dX12_piece_73 : decode cX12_piece 73 = .ok (.aload_n 0, 1) := by decide +kernel
theorem dX12_piece_74 : decode cX12_piece 74 = .ok (.getfield 97, 3) := by decide +kernel
theorem dX12_piece_77 : decode cX12_piece 77 = .ok (.aload_n 0, 1) := by decide +kernel
theorem dX12_piece_78 : decode cX12_piece 78 = .ok (.getfield 232, 3) := by decide +kernel
theorem dX12_piece_81 : decode cX12_piece 81 = .ok (.iload_n 3, 1) := by decide +kernel
theorem dX12_piece_82 : decode cX12_piece 82 = .ok (.iastore, 1) := by decide +kernel
theorem dX12_piece_83 : decode cX12_piece 83 = .ok (.aload_n 0, 1) := by decide +kernel
theorem dX12_piece_84 : decode cX12_piece 84 = .ok (.getfield 100, 3) := by decide +kernel
theorem dX12_piece_87 : decode cX12_piece 87 = .ok (.aload_n 0, 1) := by decide +kernel
theorem dX12_piece_88 : decode cX12_piece 88 = .ok (.getfield 232, 3) := by decide +kernel
theorem dX12_piece_91 : decode cX12_piece 91 = .ok (.iload 4, 2) := by decide +kernel
theorem dX12_piece_93 : decode cX12_piece 93 = .ok (.iastore, 1) := by decide +kernel
theorem dX12_piece_94 : decode cX12_piece 94 = .ok (.aload_n 0, 1) := by decide +kernel
theorem dX12_piece_95 : decode cX12_piece 95 = .ok (.getfield 103, 3) := by decide +kernel
theorem dX12_piece_98 : decode cX12_piece 98 = .ok (.aload_n 0, 1) := by decide +kernel
theorem dX12_piece_99 : decode cX12_piece 99 = .ok (.getfield 232, 3) := by decide +kernel
theorem dX12_piece_102 : decode cX12_piece 102 = .ok (.iload_n 1, 1) := by decide +kernel
theorem dX12_piece_103 : decode cX12_piece 103 = .ok (.iastore, 1) := by decide +kernel
theorem dX12_piece_104 : decode cX12_piece 104 = .ok (.aload_n 0, 1) := by decide +kernel
theorem dX12_piece_105 : decode cX12_piece 105 = .ok (.getfield 106, 3) := by decide +kernel
theorem dX12_piece_108 : decode cX12_piece 108 = .ok (.aload_n 0, 1) := by decide +kernel
theorem dX12_piece_109 : decode cX12_piece 109 = .ok (.getfield 232, 3) := by decide +kernel
theorem dX12_piece_112 : decode cX12_piece 112 = .ok (.bipush (-4), 2) := by decide +kernel
theorem dX12_piece_114 : decode cX12_piece 114 = .ok (.iastore, 1) := by decide +kernel
theorem dX12_piece_115 : decode cX12_piece 115 = .ok (.aload_n 0, 1) := by decide +kernel
theorem dX12_piece_116 : decode cX12_piece 116 = .ok (.getfield 109, 3) := by decide +kernel
theorem dX12_piece_119 : decode cX12_piece 119 = .ok (.aload_n 0, 1) := by decide +kernel
theorem dX12_piece_120 : decode cX12_piece 120 = .ok (.getfield 232, 3) := by decide +kernel
theorem dX12_piece_123 : decode cX12_piece 123 = .ok (.iconst 0, 1) := by decide +kernel
theorem dX12_piece_124 : decode cX12_piece 124 = .ok (.iastore, 1) := by decide +kernel
theorem dX12_piece_125 : decode cX12_piece 125 = .ok (.aload_n 0, 1) := by decide +kernel
theorem dX12_piece_126 : decode cX12_piece 126 = .ok (.getfield 112, 3) := by decide +kernel
theorem dX12_piece_129 : decode cX12_piece 129 = .ok (.aload_n 0, 1) := by decide +kernel
theorem dX12_piece_130 : decode cX12_piece 130 = .ok (.getfield 232, 3) := by decide +kernel
theorem dX12_piece_133 : decode cX12_piece 133 = .ok (.iconst 0, 1) := by decide +kernel
theorem dX12_piece_134 : decode cX12_piece 134 = .ok (.iastore, 1) := by decide +kernel
theorem dX12_piece_135 : decode cX12_piece 135 = .ok (.aload_n 0, 1) := by decide +kernel
theorem dX12_piece_136 : decode cX12_piece 136 = .ok (.getfield 115, 3) := by decide +kernel
theorem dX12_piece_139 : decode cX12_piece 139 = .ok (.aload_n 0, 1) := by decide +kernel
theorem dX12_piece_140 : decode cX12_piece 140 = .ok (.getfield 232, 3) := by decide +kernel
theorem dX12_piece_143 : decode cX12_piece 143 = .ok (.iconst 0, 1) := by decide +kernel
theorem dX12_piece_144 : decode cX12_piece 144 = .ok (.iastore, 1) := by decide +kernel
theorem dX12_piece_145 : decode cX12_piece 145 = .ok (.aload_n 0, 1) := by decide +kernel
theorem dX12_piece_146 : decode cX12_piece 146 = .ok (.getfield 118, 3) := by decide +kernel
theorem dX12_piece_149 : decode cX12_piece 149 = .ok (.aload_n 0, 1) := by decide +kernel
theorem dX12_piece_150 : decode cX12_piece 150 = .ok (.getfield 232, 3) := by decide +kernel
theorem dX12_piece_153 : decode cX12_piece 153 = .ok (.iconst 0, 1) := by decide +kernel
theorem dX12_piece_154 : decode cX12_piece 154 = .ok (.iastore, 1) := by decide +kernel
theorem dX12_piece_155 : decode cX12_piece 155 = .ok (.aload_n 0, 1) := by decide +kernel
theorem dX12_piece_156 : decode cX12_piece 156 = .ok (.getfield 121, 3) := by decide +kernel
theorem dX12_piece_159 : decode cX12_piece 159 = .ok (.aload_n 0, 1) := by decide +kernel
theorem dX12_piece_160 : decode cX12_piece 160 = .ok (.getfield 232, 3) := by decide +kernel
theorem dX12_piece_163 : decode cX12_piece 163 = .ok (.bipush (-4), 2) := by decide +kernel
theorem dX12_piece_165 : decode cX12_piece 165 = .ok (.iastore, 1) := by decide +kernel
theorem dX12_piece_166 : decode cX12_piece 166 = .ok (.aload_n 0, 1) := by decide +kernel
theorem dX12_piece_167 : decode cX12_piece 167 = .ok (.dup, 1) := by decide +kernel
theorem dX12_piece_168 : decode cX12_piece 168 = .ok (.getfield 232, 3) := by decide +kernel
theorem dX12_piece_171 : decode cX12_piece 171 = .ok (.iconst 1, 1) := by decide +kernel
theorem dX12_piece_172 : decode cX12_piece 172 = .ok (.iadd, 1) := by decide +kernel
theorem dX12_piece_173 : decode cX12_piece 173 = .ok (.putfield 232, 3) := by decide +kernel
theorem dX12_piece_176 : decode cX12_piece 176 = .ok (.aload_n 0, 1) := by decide +kernel
theorem dX12_piece_177 : decode cX12_piece 177 = .ok (.getfield 232, 3) := by decide +kernel
theorem dX12_piece_180 : decode cX12_piece 180 = .ok (.iconst 1, 1) := by decide +kernel
theorem dX12_piece_181 : decode cX12_piece 181 = .ok (.isub, 1) := by decide +kernel
theorem dX12_piece_182 : decode cX12_piece 182 = .ok (.ireturn, 1) := by decide +kernel
theorem dX12_wornOf_0 : decode cX12_wornOf 0 = .ok (.aload_n 0, 1) := by decide +kernel
theorem dX12_wornOf_1 : decode cX12_wornOf 1 = .ok (.getfield 112, 3) := by decide +kernel
theorem dX12_wornOf_4 : decode cX12_wornOf 4 = .ok (.iload_n 1, 1) := by decide +kernel
theorem dX12_wornOf_5 : decode cX12_wornOf 5 = .ok (.iaload, 1) := by decide +kernel
theorem dX12_wornOf_6 : decode cX12_wornOf 6 = .ok (.aload_n 0, 1) := by decide +kernel
theorem dX12_wornOf_7 : decode cX12_wornOf 7 = .ok (.getfield 106, 3) := by decide +kernel
theorem dX12_wornOf_10 : decode cX12_wornOf 10 = .ok (.iload_n 1, 1) := by decide +kernel
theorem dX12_wornOf_11 : decode cX12_wornOf 11 = .ok (.iaload, 1) := by decide +kernel
theorem dX12_wornOf_12 : decode cX12_wornOf 12 = .ok (.bipush (-4), 2) := by decide +kernel
theorem dX12_wornOf_14 : decode cX12_wornOf 14 = .ok (.if_icmp .ne 7, 3) := by decide +kernel
theorem dX12_wornOf_17 : decode cX12_wornOf 17 = .ok (.iconst 0, 1) := by decide +kernel
theorem dX12_wornOf_18 : decode cX12_wornOf 18 = .ok (.goto 14, 3) := by decide +kernel
theorem dX12_wornOf_21 : decode cX12_wornOf 21 = .ok (.aload_n 0, 1) := by decide +kernel
theorem dX12_wornOf_22 : decode cX12_wornOf 22 = .ok (.getfield 187, 3) := by decide +kernel
theorem dX12_wornOf_25 : decode cX12_wornOf 25 = .ok (.aload_n 0, 1) := by decide +kernel
theorem dX12_wornOf_26 : decode cX12_wornOf 26 = .ok (.getfield 109, 3) := by decide +kernel
theorem dX12_wornOf_29 : decode cX12_wornOf 29 = .ok (.iload_n 1, 1) := by decide +kernel
theorem dX12_wornOf_30 : decode cX12_wornOf 30 = .ok (.iaload, 1) := by decide +kernel
theorem dX12_wornOf_31 : decode cX12_wornOf 31 = .ok (.isub, 1) := by decide +kernel
theorem dX12_wornOf_32 : decode cX12_wornOf 32 = .ok (.iadd, 1) := by decide +kernel
theorem dX12_wornOf_33 : decode cX12_wornOf 33 = .ok (.ireturn, 1) := by decide +kernel
theorem dX12_kindAt_0 : decode cX12_kindAt 0 = .ok (.aload_n 0, 1) := by decide +kernel
theorem dX12_kindAt_1 : decode cX12_kindAt 1 = .ok (.getfield 37, 3) := by decide +kernel
theorem dX12_kindAt_4 : decode cX12_kindAt 4 = .ok (.aload_n 0, 1) := by decide +kernel
theorem dX12_kindAt_5 : decode cX12_kindAt 5 = .ok (.getfield 94, 3) := by decide +kernel
theorem dX12_kindAt_8 : decode cX12_kindAt 8 = .ok (.iload_n 1, 1) := by decide +kernel
theorem dX12_kindAt_9 : decode cX12_kindAt 9 = .ok (.iaload, 1) := by decide +kernel
theorem dX12_kindAt_10 : decode cX12_kindAt 10 = .ok (.iaload, 1) := by decide +kernel
theorem dX12_kindAt_11 : decode cX12_kindAt 11 = .ok (.ireturn, 1) := by decide +kernel
theorem dX12_isWornOut_0 : decode cX12_isWornOut 0 = .ok (.aload_n 0, 1) := by decide +kernel
theorem dX12_isWornOut_1 : decode cX12_isWornOut 1 = .ok (.iload_n 1, 1) := by decide +kernel
theorem dX12_isWornOut_2 : decode cX12_isWornOut 2 = .ok (.invokevirtual 336, 3) := by decide +kernel
theorem dX12_isWornOut_5 : decode cX12_isWornOut 5 = .ok (.aload_n 0, 1) := by decide +kernel
theorem dX12_isWornOut_6 : decode cX12_isWornOut 6 = .ok (.aload_n 0, 1) := by decide +kernel
theorem dX12_isWornOut_7 : decode cX12_isWornOut 7 = .ok (.iload_n 1, 1) := by decide +kernel
theorem dX12_isWornOut_8 : decode cX12_isWornOut 8 = .ok (.invokevirtual 339, 3) := by decide +kernel
theorem dX12_isWornOut_11 : decode cX12_isWornOut 11 = .ok (.iconst 1, 1) := by decide +kernel
theorem dX12_isWornOut_12 : decode cX12_isWornOut 12 = .ok (.aload_n 0, 1) := by decide +kernel
theorem dX12_isWornOut_13 : decode cX12_isWornOut 13 = .ok (.getfield 187, 3) := by decide +kernel
theorem dX12_isWornOut_16 : decode cX12_isWornOut 16 = .ok (.invokevirtual 325, 3) := by decide +kernel
theorem dX12_isWornOut_19 : decode cX12_isWornOut 19 = .ok (.if_icmp .lt 7, 3) := by decide +kernel
theorem dX12_isWornOut_22 : decode cX12_isWornOut 22 = .ok (.iconst 1, 1) := by decide +kernel
theorem dX12_isWornOut_23 : decode cX12_isWornOut 23 = .ok (.goto 4, 3) := by decide +kernel
theorem dX12_isWornOut_26 : decode cX12_isWornOut 26 = .ok (.iconst 0, 1) := by decide +kernel
theorem dX12_isWornOut_27 : decode cX12_isWornOut 27 = .ok (.ireturn, 1) := by decide +kernel
theorem dX12_hasOf_0 : decode cX12_hasOf 0 = .ok (.iconst 0, 1) := by decide +kernel
theorem dX12_hasOf_1 : decode cX12_hasOf 1 = .ok (.istore_n 3, 1) := by decide +kernel
theorem dX12_hasOf_2 : decode cX12_hasOf 2 = .ok (.iconst 0, 1) := by decide +kernel
theorem dX12_hasOf_3 : decode cX12_hasOf 3 = .ok (.istore 4, 2) := by decide +kernel
theorem dX12_hasOf_5 : decode cX12_hasOf 5 = .ok (.iload 4, 2) := by decide +kernel
theorem dX12_hasOf_7 : decode cX12_hasOf 7 = .ok (.aload_n 0, 1) := by decide +kernel
theorem dX12_hasOf_8 : decode cX12_hasOf 8 = .ok (.getfield 232, 3) := by decide +kernel
theorem dX12_hasOf_11 : decode cX12_hasOf 11 = .ok (.if_icmp .ge 47, 3) := by decide +kernel
theorem dX12_hasOf_14 : decode cX12_hasOf 14 = .ok (.iload_n 3, 1) := by decide +kernel
theorem dX12_hasOf_15 : decode cX12_hasOf 15 = .ok (.aload_n 0, 1) := by decide +kernel
theorem dX12_hasOf_16 : decode cX12_hasOf 16 = .ok (.getfield 106, 3) := by decide +kernel
theorem dX12_hasOf_19 : decode cX12_hasOf 19 = .ok (.iload 4, 2) := by decide +kernel
theorem dX12_hasOf_21 : decode cX12_hasOf 21 = .ok (.iaload, 1) := by decide +kernel
theorem dX12_hasOf_22 : decode cX12_hasOf 22 = .ok (.iload_n 1, 1) := by decide +kernel
theorem dX12_hasOf_23 : decode cX12_hasOf 23 = .ok (.if_icmp .ne 26, 3) := by decide +kernel
theorem dX12_hasOf_26 : decode cX12_hasOf 26 = .ok (.aload_n 0, 1) := by decide +kernel
theorem dX12_hasOf_27 : decode cX12_hasOf 27 = .ok (.iload 4, 2) := by decide +kernel
theorem dX12_hasOf_29 : decode cX12_hasOf 29 = .ok (.invokevirtual 339, 3) := by decide +kernel
theorem dX12_hasOf_32 : decode cX12_hasOf 32 = .ok (.iload_n 2, 1) := by decide +kernel
theorem dX12_hasOf_33 : decode cX12_hasOf 33 = .ok (.if_icmp .ne 16, 3) := by decide +kernel
theorem dX12_hasOf_36 : decode cX12_hasOf 36 = .ok (.aload_n 0, 1) := by decide +kernel
theorem dX12_hasOf_37 : decode cX12_hasOf 37 = .ok (.iload 4, 2) := by decide +kernel
theorem dX12_hasOf_39 : decode cX12_hasOf 39 = .ok (.invokevirtual 342, 3) := by decide +kernel
theorem dX12_hasOf_42 : decode cX12_hasOf 42 = .ok (.ifCond .ne 7, 3) := by decide +kernel
theorem dX12_hasOf_45 : decode cX12_hasOf 45 = .ok (.iconst 1, 1) := by decide +kernel
theorem dX12_hasOf_46 : decode cX12_hasOf 46 = .ok (.goto 4, 3) := by decide +kernel
theorem dX12_hasOf_49 : decode cX12_hasOf 49 = .ok (.iconst 0, 1) := by decide +kernel
theorem dX12_hasOf_50 : decode cX12_hasOf 50 = .ok (.iadd, 1) := by decide +kernel
theorem dX12_hasOf_51 : decode cX12_hasOf 51 = .ok (.istore_n 3, 1) := by decide +kernel
theorem dX12_hasOf_52 : decode cX12_hasOf 52 = .ok (.iinc 4 1, 3) := by decide +kernel
theorem dX12_hasOf_55 : decode cX12_hasOf 55 = .ok (.goto (-50), 3) := by decide +kernel
theorem dX12_hasOf_58 : decode cX12_hasOf 58 = .ok (.iload_n 3, 1) := by decide +kernel
theorem dX12_hasOf_59 : decode cX12_hasOf 59 = .ok (.ireturn, 1) := by decide +kernel
theorem dX12_pieceOf_0 : decode cX12_pieceOf 0 = .ok (.aload_n 0, 1) := by decide +kernel
theorem dX12_pieceOf_1 : decode cX12_pieceOf 1 = .ok (.iload_n 1, 1) := by decide +kernel
theorem dX12_pieceOf_2 : decode cX12_pieceOf 2 = .ok (.invokevirtual 345, 3) := by decide +kernel
theorem dX12_pieceOf_5 : decode cX12_pieceOf 5 = .ok (.ifCond .ne 5, 3) := by decide +kernel
theorem dX12_pieceOf_8 : decode cX12_pieceOf 8 = .ok (.iconst (-1), 1) := by decide +kernel
theorem dX12_pieceOf_9 : decode cX12_pieceOf 9 = .ok (.ireturn, 1) := by decide +kernel
theorem dX12_pieceOf_10 : decode cX12_pieceOf 10 = .ok (.iload_n 2, 1) := by decide +kernel
theorem dX12_pieceOf_11 : decode cX12_pieceOf 11 = .ok (.tableswitch 111 0 8 #[49, 56, 63, 70, 77, 84, 90, 97, 104], 49) := by decide +kernel
theorem dX12_pieceOf_60 : decode cX12_pieceOf 60 = .ok (.aload_n 0, 1) := by decide +kernel
theorem dX12_pieceOf_61 : decode cX12_pieceOf 61 = .ok (.getfield 94, 3) := by decide +kernel
theorem dX12_pieceOf_64 : decode cX12_pieceOf 64 = .ok (.iload_n 1, 1) := by decide +kernel
theorem dX12_pieceOf_65 : decode cX12_pieceOf 65 = .ok (.iaload, 1) := by decide +kernel
theorem dX12_pieceOf_66 : decode cX12_pieceOf 66 = .ok (.ireturn, 1) := by decide +kernel
theorem dX12_pieceOf_67 : decode cX12_pieceOf 67 = .ok (.aload_n 0, 1) := by decide +kernel
theorem dX12_pieceOf_68 : decode cX12_pieceOf 68 = .ok (.getfield 97, 3) := by decide +kernel
theorem dX12_pieceOf_71 : decode cX12_pieceOf 71 = .ok (.iload_n 1, 1) := by decide +kernel
theorem dX12_pieceOf_72 : decode cX12_pieceOf 72 = .ok (.iaload, 1) := by decide +kernel
theorem dX12_pieceOf_73 : decode cX12_pieceOf 73 = .ok (.ireturn, 1) := by decide +kernel
theorem dX12_pieceOf_74 : decode cX12_pieceOf 74 = .ok (.aload_n 0, 1) := by decide +kernel
theorem dX12_pieceOf_75 : decode cX12_pieceOf 75 = .ok (.getfield 100, 3) := by decide +kernel
theorem dX12_pieceOf_78 : decode cX12_pieceOf 78 = .ok (.iload_n 1, 1) := by decide +kernel
theorem dX12_pieceOf_79 : decode cX12_pieceOf 79 = .ok (.iaload, 1) := by decide +kernel
theorem dX12_pieceOf_80 : decode cX12_pieceOf 80 = .ok (.ireturn, 1) := by decide +kernel
theorem dX12_pieceOf_81 : decode cX12_pieceOf 81 = .ok (.aload_n 0, 1) := by decide +kernel
theorem dX12_pieceOf_82 : decode cX12_pieceOf 82 = .ok (.getfield 103, 3) := by decide +kernel
theorem dX12_pieceOf_85 : decode cX12_pieceOf 85 = .ok (.iload_n 1, 1) := by decide +kernel
theorem dX12_pieceOf_86 : decode cX12_pieceOf 86 = .ok (.iaload, 1) := by decide +kernel
theorem dX12_pieceOf_87 : decode cX12_pieceOf 87 = .ok (.ireturn, 1) := by decide +kernel
theorem dX12_pieceOf_88 : decode cX12_pieceOf 88 = .ok (.aload_n 0, 1) := by decide +kernel
theorem dX12_pieceOf_89 : decode cX12_pieceOf 89 = .ok (.getfield 106, 3) := by decide +kernel
theorem dX12_pieceOf_92 : decode cX12_pieceOf 92 = .ok (.iload_n 1, 1) := by decide +kernel
theorem dX12_pieceOf_93 : decode cX12_pieceOf 93 = .ok (.iaload, 1) := by decide +kernel
theorem dX12_pieceOf_94 : decode cX12_pieceOf 94 = .ok (.ireturn, 1) := by decide +kernel
theorem dX12_pieceOf_95 : decode cX12_pieceOf 95 = .ok (.aload_n 0, 1) := by decide +kernel
theorem dX12_pieceOf_96 : decode cX12_pieceOf 96 = .ok (.iload_n 1, 1) := by decide +kernel
theorem dX12_pieceOf_97 : decode cX12_pieceOf 97 = .ok (.invokevirtual 336, 3) := by decide +kernel
theorem dX12_pieceOf_100 : decode cX12_pieceOf 100 = .ok (.ireturn, 1) := by decide +kernel
theorem dX12_pieceOf_101 : decode cX12_pieceOf 101 = .ok (.aload_n 0, 1) := by decide +kernel
theorem dX12_pieceOf_102 : decode cX12_pieceOf 102 = .ok (.getfield 115, 3) := by decide +kernel
theorem dX12_pieceOf_105 : decode cX12_pieceOf 105 = .ok (.iload_n 1, 1) := by decide +kernel
theorem dX12_pieceOf_106 : decode cX12_pieceOf 106 = .ok (.iaload, 1) := by decide +kernel
theorem dX12_pieceOf_107 : decode cX12_pieceOf 107 = .ok (.ireturn, 1) := by decide +kernel
theorem dX12_pieceOf_108 : decode cX12_pieceOf 108 = .ok (.aload_n 0, 1) := by decide +kernel
theorem dX12_pieceOf_109 : decode cX12_pieceOf 109 = .ok (.getfield 118, 3) := by decide +kernel
theorem dX12_pieceOf_112 : decode cX12_pieceOf 112 = .ok (.iload_n 1, 1) := by decide +kernel
theorem dX12_pieceOf_113 : decode cX12_pieceOf 113 = .ok (.iaload, 1) := by decide +kernel
theorem dX12_pieceOf_114 : decode cX12_pieceOf 114 = .ok (.ireturn, 1) := by decide +kernel
theorem dX12_pieceOf_115 : decode cX12_pieceOf 115 = .ok (.aload_n 0, 1) := by decide +kernel
theorem dX12_pieceOf_116 : decode cX12_pieceOf 116 = .ok (.getfield 121, 3) := by decide +kernel
theorem dX12_pieceOf_119 : decode cX12_pieceOf 119 = .ok (.iload_n 1, 1) := by decide +kernel
theorem dX12_pieceOf_120 : decode cX12_pieceOf 120 = .ok (.iaload, 1) := by decide +kernel
theorem dX12_pieceOf_121 : decode cX12_pieceOf 121 = .ok (.ireturn, 1) := by decide +kernel
theorem dX12_pieceOf_122 : decode cX12_pieceOf 122 = .ok (.iconst (-1), 1) := by decide +kernel
theorem dX12_pieceOf_123 : decode cX12_pieceOf 123 = .ok (.ireturn, 1) := by decide +kernel
theorem dX12_issue_0 : decode cX12_issue 0 = .ok (.aload_n 0, 1) := by decide +kernel
theorem dX12_issue_1 : decode cX12_issue 1 = .ok (.iload_n 1, 1) := by decide +kernel
theorem dX12_issue_2 : decode cX12_issue 2 = .ok (.invokevirtual 345, 3) := by decide +kernel
theorem dX12_issue_5 : decode cX12_issue 5 = .ok (.ifCond .eq 11, 3) := by decide +kernel
theorem dX12_issue_8 : decode cX12_issue 8 = .ok (.aload_n 0, 1) := by decide +kernel
theorem dX12_issue_9 : decode cX12_issue 9 = .ok (.iload_n 2, 1) := by decide +kernel
theorem dX12_issue_10 : decode cX12_issue 10 = .ok (.invokevirtual 196, 3) := by decide +kernel
theorem dX12_issue_13 : decode cX12_issue 13 = .ok (.ifCond .ne 5, 3) := by decide +kernel
theorem dX12_issue_16 : decode cX12_issue 16 = .ok (.iconst (-1), 1) := by decide +kernel
theorem dX12_issue_17 : decode cX12_issue 17 = .ok (.ireturn, 1) := by decide +kernel
theorem dX12_issue_18 : decode cX12_issue 18 = .ok (.aload_n 0, 1) := by decide +kernel
theorem dX12_issue_19 : decode cX12_issue 19 = .ok (.iload_n 1, 1) := by decide +kernel
theorem dX12_issue_20 : decode cX12_issue 20 = .ok (.invokevirtual 339, 3) := by decide +kernel
theorem dX12_issue_23 : decode cX12_issue 23 = .ok (.istore_n 3, 1) := by decide +kernel
theorem dX12_issue_24 : decode cX12_issue 24 = .ok (.aload_n 0, 1) := by decide +kernel
theorem dX12_issue_25 : decode cX12_issue 25 = .ok (.getfield 103, 3) := by decide +kernel
theorem dX12_issue_28 : decode cX12_issue 28 = .ok (.iload_n 1, 1) := by decide +kernel
theorem dX12_issue_29 : decode cX12_issue 29 = .ok (.iaload, 1) := by decide +kernel
theorem dX12_issue_30 : decode cX12_issue 30 = .ok (.bipush (-4), 2) := by decide +kernel
theorem dX12_issue_32 : decode cX12_issue 32 = .ok (.if_icmp .eq 45, 3) := by decide +kernel
theorem dX12_issue_35 : decode cX12_issue 35 = .ok (.aload_n 0, 1) := by decide +kernel
theorem dX12_issue_36 : decode cX12_issue 36 = .ok (.aload_n 0, 1) := by decide +kernel
theorem dX12_issue_37 : decode cX12_issue 37 = .ok (.getfield 94, 3) := by decide +kernel
theorem dX12_issue_40 : decode cX12_issue 40 = .ok (.iload_n 1, 1) := by decide +kernel
theorem dX12_issue_41 : decode cX12_issue 41 = .ok (.iaload, 1) := by decide +kernel
theorem dX12_issue_42 : decode cX12_issue 42 = .ok (.iload_n 2, 1) := by decide +kernel
theorem dX12_issue_43 : decode cX12_issue 43 = .ok (.iconst 5, 1) := by decide +kernel
theorem dX12_issue_44 : decode cX12_issue 44 = .ok (.invokevirtual 240, 3) := by decide +kernel
theorem dX12_issue_47 : decode cX12_issue 47 = .ok (.ifCond .eq 30, 3) := by decide +kernel
theorem dX12_issue_50 : decode cX12_issue 50 = .ok (.aload_n 0, 1) := by decide +kernel
theorem dX12_issue_51 : decode cX12_issue 51 = .ok (.iload_n 1, 1) := by decide +kernel
theorem dX12_issue_52 : decode cX12_issue 52 = .ok (.invokevirtual 342, 3) := by decide +kernel
theorem dX12_issue_55 : decode cX12_issue 55 = .ok (.ifCond .ne 22, 3) := by decide +kernel
theorem dX12_issue_58 : decode cX12_issue 58 = .ok (.aload_n 0, 1) := by decide +kernel
theorem dX12_issue_59 : decode cX12_issue 59 = .ok (.iload_n 2, 1) := by decide +kernel
theorem dX12_issue_60 : decode cX12_issue 60 = .ok (.iload_n 3, 1) := by decide +kernel
theorem dX12_issue_61 : decode cX12_issue 61 = .ok (.invokevirtual 220, 3) := by decide +kernel
theorem dX12_issue_64 : decode cX12_issue 64 = .ok (.aload_n 0, 1) := by decide +kernel
theorem dX12_issue_65 : decode cX12_issue 65 = .ok (.iload_n 2, 1) := by decide +kernel
theorem dX12_issue_66 : decode cX12_issue 66 = .ok (.iload_n 3, 1) := by decide +kernel
theorem dX12_issue_67 : decode cX12_issue 67 = .ok (.aload_n 0, 1) := by decide +kernel
theorem dX12_issue_68 : decode cX12_issue 68 = .ok (.getfield 187, 3) := by decide +kernel
theorem dX12_issue_71 : decode cX12_issue 71 = .ok (.invokevirtual 228, 3) := by decide +kernel
theorem dX12_issue_74 : decode cX12_issue 74 = .ok (.if_icmp .lt 6, 3) := by decide +kernel
theorem dX12_issue_77 : decode cX12_issue 77 = .ok (.bipush (-2), 2) := by decide +kernel
theorem dX12_issue_79 : decode cX12_issue 79 = .ok (.ireturn, 1) := by decide +kernel
theorem dX12_issue_80 : decode cX12_issue 80 = .ok (.aload_n 0, 1) := by decide +kernel
theorem dX12_issue_81 : decode cX12_issue 81 = .ok (.getfield 103, 3) := by decide +kernel
theorem dX12_issue_84 : decode cX12_issue 84 = .ok (.iload_n 1, 1) := by decide +kernel
theorem dX12_issue_85 : decode cX12_issue 85 = .ok (.bipush (-4), 2) := by decide +kernel
theorem dX12_issue_87 : decode cX12_issue 87 = .ok (.iastore, 1) := by decide +kernel
theorem dX12_issue_88 : decode cX12_issue 88 = .ok (.aload_n 0, 1) := by decide +kernel
theorem dX12_issue_89 : decode cX12_issue 89 = .ok (.getfield 106, 3) := by decide +kernel
theorem dX12_issue_92 : decode cX12_issue 92 = .ok (.iload_n 1, 1) := by decide +kernel
theorem dX12_issue_93 : decode cX12_issue 93 = .ok (.iload_n 2, 1) := by decide +kernel
theorem dX12_issue_94 : decode cX12_issue 94 = .ok (.iastore, 1) := by decide +kernel
theorem dX12_issue_95 : decode cX12_issue 95 = .ok (.aload_n 0, 1) := by decide +kernel
theorem dX12_issue_96 : decode cX12_issue 96 = .ok (.getfield 121, 3) := by decide +kernel
theorem dX12_issue_99 : decode cX12_issue 99 = .ok (.iload_n 1, 1) := by decide +kernel
theorem dX12_issue_100 : decode cX12_issue 100 = .ok (.iload_n 2, 1) := by decide +kernel
theorem dX12_issue_101 : decode cX12_issue 101 = .ok (.iastore, 1) := by decide +kernel
theorem dX12_issue_102 : decode cX12_issue 102 = .ok (.aload_n 0, 1) := by decide +kernel
theorem dX12_issue_103 : decode cX12_issue 103 = .ok (.getfield 109, 3) := by decide +kernel
theorem dX12_issue_106 : decode cX12_issue 106 = .ok (.iload_n 1, 1) := by decide +kernel
theorem dX12_issue_107 : decode cX12_issue 107 = .ok (.aload_n 0, 1) := by decide +kernel
theorem dX12_issue_108 : decode cX12_issue 108 = .ok (.getfield 187, 3) := by decide +kernel
theorem dX12_issue_111 : decode cX12_issue 111 = .ok (.iastore, 1) := by decide +kernel
theorem dX12_issue_112 : decode cX12_issue 112 = .ok (.aload_n 0, 1) := by decide +kernel
theorem dX12_issue_113 : decode cX12_issue 113 = .ok (.getfield 115, 3) := by decide +kernel
theorem dX12_issue_116 : decode cX12_issue 116 = .ok (.iload_n 1, 1) := by decide +kernel
theorem dX12_issue_117 : decode cX12_issue 117 = .ok (.dup2, 1) := by decide +kernel
theorem dX12_issue_118 : decode cX12_issue 118 = .ok (.iaload, 1) := by decide +kernel
theorem dX12_issue_119 : decode cX12_issue 119 = .ok (.iconst 1, 1) := by decide +kernel
theorem dX12_issue_120 : decode cX12_issue 120 = .ok (.iadd, 1) := by decide +kernel
theorem dX12_issue_121 : decode cX12_issue 121 = .ok (.iastore, 1) := by decide +kernel
theorem dX12_issue_122 : decode cX12_issue 122 = .ok (.aload_n 0, 1) := by decide +kernel
theorem dX12_issue_123 : decode cX12_issue 123 = .ok (.aload_n 0, 1) := by decide +kernel
theorem dX12_issue_124 : decode cX12_issue 124 = .ok (.getfield 94, 3) := by decide +kernel
theorem dX12_issue_127 : decode cX12_issue 127 = .ok (.iload_n 1, 1) := by decide +kernel
theorem dX12_issue_128 : decode cX12_issue 128 = .ok (.iaload, 1) := by decide +kernel
theorem dX12_issue_129 : decode cX12_issue 129 = .ok (.iload_n 2, 1) := by decide +kernel
theorem dX12_issue_130 : decode cX12_issue 130 = .ok (.iconst 0, 1) := by decide +kernel
theorem dX12_issue_131 : decode cX12_issue 131 = .ok (.invokevirtual 240, 3) := by decide +kernel
theorem dX12_issue_134 : decode cX12_issue 134 = .ok (.ifCond .eq 7, 3) := by decide +kernel
theorem dX12_issue_137 : decode cX12_issue 137 = .ok (.iconst 1, 1) := by decide +kernel
theorem dX12_issue_138 : decode cX12_issue 138 = .ok (.goto 4, 3) := by decide +kernel
theorem dX12_issue_141 : decode cX12_issue 141 = .ok (.iconst 0, 1) := by decide +kernel
theorem dX12_issue_142 : decode cX12_issue 142 = .ok (.ireturn, 1) := by decide +kernel
theorem dX12_leaves_0 : decode cX12_leaves 0 = .ok (.aload_n 0, 1) := by decide +kernel
theorem dX12_leaves_1 : decode cX12_leaves 1 = .ok (.getfield 112, 3) := by decide +kernel
theorem dX12_leaves_4 : decode cX12_leaves 4 = .ok (.iload_n 1, 1) := by decide +kernel
theorem dX12_leaves_5 : decode cX12_leaves 5 = .ok (.aload_n 0, 1) := by decide +kernel
theorem dX12_leaves_6 : decode cX12_leaves 6 = .ok (.iload_n 1, 1) := by decide +kernel
theorem dX12_leaves_7 : decode cX12_leaves 7 = .ok (.invokevirtual 336, 3) := by decide +kernel
theorem dX12_leaves_10 : decode cX12_leaves 10 = .ok (.iastore, 1) := by decide +kernel
theorem dX12_leaves_11 : decode cX12_leaves 11 = .ok (.aload_n 0, 1) := by decide +kernel
theorem dX12_leaves_12 : decode cX12_leaves 12 = .ok (.getfield 106, 3) := by decide +kernel
theorem dX12_leaves_15 : decode cX12_leaves 15 = .ok (.iload_n 1, 1) := by decide +kernel
theorem dX12_leaves_16 : decode cX12_leaves 16 = .ok (.bipush (-4), 2) := by decide +kernel
theorem dX12_leaves_18 : decode cX12_leaves 18 = .ok (.iastore, 1) := by decide +kernel
theorem dX12_leaves_19 : decode cX12_leaves 19 = .ok (.return_, 1) := by decide +kernel
theorem dX12_back_0 : decode cX12_back 0 = .ok (.aload_n 0, 1) := by decide +kernel
theorem dX12_back_1 : decode cX12_back 1 = .ok (.iload_n 1, 1) := by decide +kernel
theorem dX12_back_2 : decode cX12_back 2 = .ok (.invokevirtual 345, 3) := by decide +kernel
theorem dX12_back_5 : decode cX12_back 5 = .ok (.ifCond .eq 11, 3) := by decide +kernel
theorem dX12_back_8 : decode cX12_back 8 = .ok (.aload_n 0, 1) := by decide +kernel
theorem dX12_back_9 : decode cX12_back 9 = .ok (.iload_n 2, 1) := by decide +kernel
theorem dX12_back_10 : decode cX12_back 10 = .ok (.invokevirtual 331, 3) := by decide +kernel
theorem dX12_back_13 : decode cX12_back 13 = .ok (.ifCond .ne 5, 3) := by decide +kernel
theorem dX12_back_16 : decode cX12_back 16 = .ok (.iconst (-1), 1) := by decide +kernel
theorem dX12_back_17 : decode cX12_back 17 = .ok (.ireturn, 1) := by decide +kernel
theorem dX12_back_18 : decode cX12_back 18 = .ok (.aload_n 0, 1) := by decide +kernel
theorem dX12_back_19 : decode cX12_back 19 = .ok (.getfield 106, 3) := by decide +kernel
theorem dX12_back_22 : decode cX12_back 22 = .ok (.iload_n 1, 1) := by decide +kernel
theorem dX12_back_23 : decode cX12_back 23 = .ok (.iaload, 1) := by decide +kernel
theorem dX12_back_24 : decode cX12_back 24 = .ok (.bipush (-4), 2) := by decide +kernel
theorem dX12_back_26 : decode cX12_back 26 = .ok (.if_icmp .ne 6, 3) := by decide +kernel
theorem dX12_back_29 : decode cX12_back 29 = .ok (.bipush (-2), 2) := by decide +kernel
theorem dX12_back_31 : decode cX12_back 31 = .ok (.ireturn, 1) := by decide +kernel
theorem dX12_back_32 : decode cX12_back 32 = .ok (.aload_n 0, 1) := by decide +kernel
theorem dX12_back_33 : decode cX12_back 33 = .ok (.iload_n 1, 1) := by decide +kernel
theorem dX12_back_34 : decode cX12_back 34 = .ok (.invokevirtual 348, 3) := by decide +kernel
theorem dX12_back_37 : decode cX12_back 37 = .ok (.aload_n 0, 1) := by decide +kernel
theorem dX12_back_38 : decode cX12_back 38 = .ok (.getfield 103, 3) := by decide +kernel
theorem dX12_back_41 : decode cX12_back 41 = .ok (.iload_n 1, 1) := by decide +kernel
theorem dX12_back_42 : decode cX12_back 42 = .ok (.iload_n 2, 1) := by decide +kernel
theorem dX12_back_43 : decode cX12_back 43 = .ok (.iastore, 1) := by decide +kernel
theorem dX12_back_44 : decode cX12_back 44 = .ok (.aload_n 0, 1) := by decide +kernel
theorem dX12_back_45 : decode cX12_back 45 = .ok (.getfield 112, 3) := by decide +kernel
theorem dX12_back_48 : decode cX12_back 48 = .ok (.iload_n 1, 1) := by decide +kernel
theorem dX12_back_49 : decode cX12_back 49 = .ok (.iaload, 1) := by decide +kernel
theorem dX12_back_50 : decode cX12_back 50 = .ok (.ireturn, 1) := by decide +kernel
theorem dX12_lost_0 : decode cX12_lost 0 = .ok (.aload_n 0, 1) := by decide +kernel
theorem dX12_lost_1 : decode cX12_lost 1 = .ok (.iload_n 1, 1) := by decide +kernel
theorem dX12_lost_2 : decode cX12_lost 2 = .ok (.invokevirtual 345, 3) := by decide +kernel
theorem dX12_lost_5 : decode cX12_lost 5 = .ok (.ifCond .ne 5, 3) := by decide +kernel
theorem dX12_lost_8 : decode cX12_lost 8 = .ok (.iconst (-1), 1) := by decide +kernel
theorem dX12_lost_9 : decode cX12_lost 9 = .ok (.ireturn, 1) := by decide +kernel
theorem dX12_lost_10 : decode cX12_lost 10 = .ok (.aload_n 0, 1) := by decide +kernel
theorem dX12_lost_11 : decode cX12_lost 11 = .ok (.getfield 106, 3) := by decide +kernel
theorem dX12_lost_14 : decode cX12_lost 14 = .ok (.iload_n 1, 1) := by decide +kernel
theorem dX12_lost_15 : decode cX12_lost 15 = .ok (.iaload, 1) := by decide +kernel
theorem dX12_lost_16 : decode cX12_lost 16 = .ok (.istore_n 2, 1) := by decide +kernel
theorem dX12_lost_17 : decode cX12_lost 17 = .ok (.iload_n 2, 1) := by decide +kernel
theorem dX12_lost_18 : decode cX12_lost 18 = .ok (.bipush (-4), 2) := by decide +kernel
theorem dX12_lost_20 : decode cX12_lost 20 = .ok (.if_icmp .ne 6, 3) := by decide +kernel
theorem dX12_lost_23 : decode cX12_lost 23 = .ok (.bipush (-2), 2) := by decide +kernel
theorem dX12_lost_25 : decode cX12_lost 25 = .ok (.ireturn, 1) := by decide +kernel
theorem dX12_lost_26 : decode cX12_lost 26 = .ok (.aload_n 0, 1) := by decide +kernel
theorem dX12_lost_27 : decode cX12_lost 27 = .ok (.iload_n 1, 1) := by decide +kernel
theorem dX12_lost_28 : decode cX12_lost 28 = .ok (.invokevirtual 348, 3) := by decide +kernel
theorem dX12_lost_31 : decode cX12_lost 31 = .ok (.aload_n 0, 1) := by decide +kernel
theorem dX12_lost_32 : decode cX12_lost 32 = .ok (.aload_n 0, 1) := by decide +kernel
theorem dX12_lost_33 : decode cX12_lost 33 = .ok (.iload_n 1, 1) := by decide +kernel
theorem dX12_lost_34 : decode cX12_lost 34 = .ok (.invokevirtual 339, 3) := by decide +kernel
theorem dX12_lost_37 : decode cX12_lost 37 = .ok (.iconst 1, 1) := by decide +kernel
theorem dX12_lost_38 : decode cX12_lost 38 = .ok (.aload_n 0, 1) := by decide +kernel
theorem dX12_lost_39 : decode cX12_lost 39 = .ok (.getfield 187, 3) := by decide +kernel
theorem dX12_lost_42 : decode cX12_lost 42 = .ok (.invokevirtual 325, 3) := by decide +kernel
theorem dX12_lost_45 : decode cX12_lost 45 = .ok (.istore_n 3, 1) := by decide +kernel
theorem dX12_lost_46 : decode cX12_lost 46 = .ok (.iload_n 3, 1) := by decide +kernel
theorem dX12_lost_47 : decode cX12_lost 47 = .ok (.aload_n 0, 1) := by decide +kernel
theorem dX12_lost_48 : decode cX12_lost 48 = .ok (.getfield 112, 3) := by decide +kernel
theorem dX12_lost_51 : decode cX12_lost 51 = .ok (.iload_n 1, 1) := by decide +kernel
theorem dX12_lost_52 : decode cX12_lost 52 = .ok (.iaload, 1) := by decide +kernel
theorem dX12_lost_53 : decode cX12_lost 53 = .ok (.isub, 1) := by decide +kernel
theorem dX12_lost_54 : decode cX12_lost 54 = .ok (.istore 4, 2) := by decide +kernel
theorem dX12_lost_56 : decode cX12_lost 56 = .ok (.iload 4, 2) := by decide +kernel
theorem dX12_lost_58 : decode cX12_lost 58 = .ok (.ifCond .ge 7, 3) := by decide +kernel
theorem dX12_lost_61 : decode cX12_lost 61 = .ok (.iconst 0, 1) := by decide +kernel
theorem dX12_lost_62 : decode cX12_lost 62 = .ok (.goto 22, 3) := by decide +kernel
theorem dX12_lost_65 : decode cX12_lost 65 = .ok (.aload_n 0, 1) := by decide +kernel
theorem dX12_lost_66 : decode cX12_lost 66 = .ok (.aload_n 0, 1) := by decide +kernel
theorem dX12_lost_67 : decode cX12_lost 67 = .ok (.iload_n 1, 1) := by decide +kernel
theorem dX12_lost_68 : decode cX12_lost 68 = .ok (.invokevirtual 339, 3) := by decide +kernel
theorem dX12_lost_71 : decode cX12_lost 71 = .ok (.iconst 2, 1) := by decide +kernel
theorem dX12_lost_72 : decode cX12_lost 72 = .ok (.aload_n 0, 1) := by decide +kernel
theorem dX12_lost_73 : decode cX12_lost 73 = .ok (.getfield 187, 3) := by decide +kernel
theorem dX12_lost_76 : decode cX12_lost 76 = .ok (.invokevirtual 325, 3) := by decide +kernel
theorem dX12_lost_79 : decode cX12_lost 79 = .ok (.iload 4, 2) := by decide +kernel
theorem dX12_lost_81 : decode cX12_lost 81 = .ok (.imul, 1) := by decide +kernel
theorem dX12_lost_82 : decode cX12_lost 82 = .ok (.iload_n 3, 1) := by decide +kernel
theorem dX12_lost_83 : decode cX12_lost 83 = .ok (.idiv, 1) := by decide +kernel
theorem dX12_lost_84 : decode cX12_lost 84 = .ok (.istore 5, 2) := by decide +kernel
theorem dX12_lost_86 : decode cX12_lost 86 = .ok (.aload_n 0, 1) := by decide +kernel
theorem dX12_lost_87 : decode cX12_lost 87 = .ok (.getfield 19, 3) := by decide +kernel
theorem dX12_lost_90 : decode cX12_lost 90 = .ok (.iload_n 2, 1) := by decide +kernel
theorem dX12_lost_91 : decode cX12_lost 91 = .ok (.dup2, 1) := by decide +kernel
theorem dX12_lost_92 : decode cX12_lost 92 = .ok (.iaload, 1) := by decide +kernel
theorem dX12_lost_93 : decode cX12_lost 93 = .ok (.iload 5, 2) := by decide +kernel
theorem dX12_lost_95 : decode cX12_lost 95 = .ok (.iadd, 1) := by decide +kernel
theorem dX12_lost_96 : decode cX12_lost 96 = .ok (.iastore, 1) := by decide +kernel
theorem dX12_lost_97 : decode cX12_lost 97 = .ok (.iload 5, 2) := by decide +kernel
theorem dX12_lost_99 : decode cX12_lost 99 = .ok (.ireturn, 1) := by decide +kernel
theorem dX12_move_0 : decode cX12_move 0 = .ok (.aload_n 0, 1) := by decide +kernel
theorem dX12_move_1 : decode cX12_move 1 = .ok (.iload_n 1, 1) := by decide +kernel
theorem dX12_move_2 : decode cX12_move 2 = .ok (.invokevirtual 345, 3) := by decide +kernel
theorem dX12_move_5 : decode cX12_move 5 = .ok (.ifCond .eq 11, 3) := by decide +kernel
theorem dX12_move_8 : decode cX12_move 8 = .ok (.aload_n 0, 1) := by decide +kernel
theorem dX12_move_9 : decode cX12_move 9 = .ok (.iload_n 2, 1) := by decide +kernel
theorem dX12_move_10 : decode cX12_move 10 = .ok (.invokevirtual 331, 3) := by decide +kernel
theorem dX12_move_13 : decode cX12_move 13 = .ok (.ifCond .ne 5, 3) := by decide +kernel
theorem dX12_move_16 : decode cX12_move 16 = .ok (.iconst (-1), 1) := by decide +kernel
theorem dX12_move_17 : decode cX12_move 17 = .ok (.ireturn, 1) := by decide +kernel
theorem dX12_move_18 : decode cX12_move 18 = .ok (.aload_n 0, 1) := by decide +kernel
theorem dX12_move_19 : decode cX12_move 19 = .ok (.getfield 103, 3) := by decide +kernel
theorem dX12_move_22 : decode cX12_move 22 = .ok (.iload_n 1, 1) := by decide +kernel
theorem dX12_move_23 : decode cX12_move 23 = .ok (.iaload, 1) := by decide +kernel
theorem dX12_move_24 : decode cX12_move 24 = .ok (.bipush (-4), 2) := by decide +kernel
theorem dX12_move_26 : decode cX12_move 26 = .ok (.if_icmp .ne 6, 3) := by decide +kernel
theorem dX12_move_29 : decode cX12_move 29 = .ok (.bipush (-2), 2) := by decide +kernel
theorem dX12_move_31 : decode cX12_move 31 = .ok (.ireturn, 1) := by decide +kernel
theorem dX12_move_32 : decode cX12_move 32 = .ok (.aload_n 0, 1) := by decide +kernel
theorem dX12_move_33 : decode cX12_move 33 = .ok (.getfield 103, 3) := by decide +kernel
theorem dX12_move_36 : decode cX12_move 36 = .ok (.iload_n 1, 1) := by decide +kernel
theorem dX12_move_37 : decode cX12_move 37 = .ok (.iaload, 1) := by decide +kernel
theorem dX12_move_38 : decode cX12_move 38 = .ok (.iload_n 2, 1) := by decide +kernel
theorem dX12_move_39 : decode cX12_move 39 = .ok (.if_icmp .ne 5, 3) := by decide +kernel
theorem dX12_move_42 : decode cX12_move 42 = .ok (.iconst (-1), 1) := by decide +kernel
theorem dX12_move_43 : decode cX12_move 43 = .ok (.ireturn, 1) := by decide +kernel
theorem dX12_move_44 : decode cX12_move 44 = .ok (.aload_n 0, 1) := by decide +kernel
theorem dX12_move_45 : decode cX12_move 45 = .ok (.getfield 91, 3) := by decide +kernel
theorem dX12_move_48 : decode cX12_move 48 = .ok (.iconst 4, 1) := by decide +kernel
theorem dX12_move_49 : decode cX12_move 49 = .ok (.aload_n 0, 1) := by decide +kernel
theorem dX12_move_50 : decode cX12_move 50 = .ok (.getfield 103, 3) := by decide +kernel
theorem dX12_move_53 : decode cX12_move 53 = .ok (.iload_n 1, 1) := by decide +kernel
theorem dX12_move_54 : decode cX12_move 54 = .ok (.iaload, 1) := by decide +kernel
theorem dX12_move_55 : decode cX12_move 55 = .ok (.imul, 1) := by decide +kernel
theorem dX12_move_56 : decode cX12_move 56 = .ok (.iload_n 2, 1) := by decide +kernel
theorem dX12_move_57 : decode cX12_move 57 = .ok (.iadd, 1) := by decide +kernel
theorem dX12_move_58 : decode cX12_move 58 = .ok (.iaload, 1) := by decide +kernel
theorem dX12_move_59 : decode cX12_move 59 = .ok (.istore_n 3, 1) := by decide +kernel
theorem dX12_move_60 : decode cX12_move 60 = .ok (.aload_n 0, 1) := by decide +kernel
theorem dX12_move_61 : decode cX12_move 61 = .ok (.getfield 103, 3) := by decide +kernel
theorem dX12_move_64 : decode cX12_move 64 = .ok (.iload_n 1, 1) := by decide +kernel
theorem dX12_move_65 : decode cX12_move 65 = .ok (.iload_n 2, 1) := by decide +kernel
theorem dX12_move_66 : decode cX12_move 66 = .ok (.iastore, 1) := by decide +kernel
theorem dX12_move_67 : decode cX12_move 67 = .ok (.iload_n 3, 1) := by decide +kernel
theorem dX12_move_68 : decode cX12_move 68 = .ok (.ireturn, 1) := by decide +kernel
theorem dX12_isGone_0 : decode cX12_isGone 0 = .ok (.aload_n 0, 1) := by decide +kernel
theorem dX12_isGone_1 : decode cX12_isGone 1 = .ok (.getfield 103, 3) := by decide +kernel
theorem dX12_isGone_4 : decode cX12_isGone 4 = .ok (.iload_n 1, 1) := by decide +kernel
theorem dX12_isGone_5 : decode cX12_isGone 5 = .ok (.iaload, 1) := by decide +kernel
theorem dX12_isGone_6 : decode cX12_isGone 6 = .ok (.bipush (-4), 2) := by decide +kernel
theorem dX12_isGone_8 : decode cX12_isGone 8 = .ok (.if_icmp .ne 18, 3) := by decide +kernel
theorem dX12_isGone_11 : decode cX12_isGone 11 = .ok (.aload_n 0, 1) := by decide +kernel
theorem dX12_isGone_12 : decode cX12_isGone 12 = .ok (.getfield 106, 3) := by decide +kernel
theorem dX12_isGone_15 : decode cX12_isGone 15 = .ok (.iload_n 1, 1) := by decide +kernel
theorem dX12_isGone_16 : decode cX12_isGone 16 = .ok (.iaload, 1) := by decide +kernel
theorem dX12_isGone_17 : decode cX12_isGone 17 = .ok (.bipush (-4), 2) := by decide +kernel
theorem dX12_isGone_19 : decode cX12_isGone 19 = .ok (.if_icmp .ne 7, 3) := by decide +kernel
theorem dX12_isGone_22 : decode cX12_isGone 22 = .ok (.iconst 1, 1) := by decide +kernel
theorem dX12_isGone_23 : decode cX12_isGone 23 = .ok (.goto 4, 3) := by decide +kernel
theorem dX12_isGone_26 : decode cX12_isGone 26 = .ok (.iconst 0, 1) := by decide +kernel
theorem dX12_isGone_27 : decode cX12_isGone 27 = .ok (.ireturn, 1) := by decide +kernel
theorem dX12_fail_0 : decode cX12_fail 0 = .ok (.aload_n 0, 1) := by decide +kernel
theorem dX12_fail_1 : decode cX12_fail 1 = .ok (.iload_n 1, 1) := by decide +kernel
theorem dX12_fail_2 : decode cX12_fail 2 = .ok (.invokevirtual 345, 3) := by decide +kernel
theorem dX12_fail_5 : decode cX12_fail 5 = .ok (.ifCond .ne 5, 3) := by decide +kernel
theorem dX12_fail_8 : decode cX12_fail 8 = .ok (.iconst (-1), 1) := by decide +kernel
theorem dX12_fail_9 : decode cX12_fail 9 = .ok (.ireturn, 1) := by decide +kernel
theorem dX12_fail_10 : decode cX12_fail 10 = .ok (.aload_n 0, 1) := by decide +kernel
theorem dX12_fail_11 : decode cX12_fail 11 = .ok (.iload_n 1, 1) := by decide +kernel
theorem dX12_fail_12 : decode cX12_fail 12 = .ok (.invokevirtual 351, 3) := by decide +kernel
theorem dX12_fail_15 : decode cX12_fail 15 = .ok (.ifCond .eq 6, 3) := by decide +kernel
theorem dX12_fail_18 : decode cX12_fail 18 = .ok (.bipush (-2), 2) := by decide +kernel
theorem dX12_fail_20 : decode cX12_fail 20 = .ok (.ireturn, 1) := by decide +kernel
theorem dX12_fail_21 : decode cX12_fail 21 = .ok (.aload_n 0, 1) := by decide +kernel
theorem dX12_fail_22 : decode cX12_fail 22 = .ok (.iload_n 1, 1) := by decide +kernel
theorem dX12_fail_23 : decode cX12_fail 23 = .ok (.invokevirtual 348, 3) := by decide +kernel
theorem dX12_fail_26 : decode cX12_fail 26 = .ok (.aload_n 0, 1) := by decide +kernel
theorem dX12_fail_27 : decode cX12_fail 27 = .ok (.getfield 103, 3) := by decide +kernel
theorem dX12_fail_30 : decode cX12_fail 30 = .ok (.iload_n 1, 1) := by decide +kernel
theorem dX12_fail_31 : decode cX12_fail 31 = .ok (.bipush (-4), 2) := by decide +kernel
theorem dX12_fail_33 : decode cX12_fail 33 = .ok (.iastore, 1) := by decide +kernel
theorem dX12_fail_34 : decode cX12_fail 34 = .ok (.aload_n 0, 1) := by decide +kernel
theorem dX12_fail_35 : decode cX12_fail 35 = .ok (.getfield 118, 3) := by decide +kernel
theorem dX12_fail_38 : decode cX12_fail 38 = .ok (.iload_n 1, 1) := by decide +kernel
theorem dX12_fail_39 : decode cX12_fail 39 = .ok (.iconst 1, 1) := by decide +kernel
theorem dX12_fail_40 : decode cX12_fail 40 = .ok (.iastore, 1) := by decide +kernel
theorem dX12_fail_41 : decode cX12_fail 41 = .ok (.aload_n 0, 1) := by decide +kernel
theorem dX12_fail_42 : decode cX12_fail 42 = .ok (.getfield 112, 3) := by decide +kernel
theorem dX12_fail_45 : decode cX12_fail 45 = .ok (.iload_n 1, 1) := by decide +kernel
theorem dX12_fail_46 : decode cX12_fail 46 = .ok (.iaload, 1) := by decide +kernel
theorem dX12_fail_47 : decode cX12_fail 47 = .ok (.ireturn, 1) := by decide +kernel
theorem dX12_stockOf_0 : decode cX12_stockOf 0 = .ok (.iconst 0, 1) := by decide +kernel
theorem dX12_stockOf_1 : decode cX12_stockOf 1 = .ok (.istore_n 3, 1) := by decide +kernel
theorem dX12_stockOf_2 : decode cX12_stockOf 2 = .ok (.iconst 0, 1) := by decide +kernel
theorem dX12_stockOf_3 : decode cX12_stockOf 3 = .ok (.istore 4, 2) := by decide +kernel
theorem dX12_stockOf_5 : decode cX12_stockOf 5 = .ok (.iload 4, 2) := by decide +kernel
theorem dX12_stockOf_7 : decode cX12_stockOf 7 = .ok (.aload_n 0, 1) := by decide +kernel
theorem dX12_stockOf_8 : decode cX12_stockOf 8 = .ok (.getfield 232, 3) := by decide +kernel
theorem dX12_stockOf_11 : decode cX12_stockOf 11 = .ok (.if_icmp .ge 38, 3) := by decide +kernel
theorem dX12_stockOf_14 : decode cX12_stockOf 14 = .ok (.iload_n 3, 1) := by decide +kernel
theorem dX12_stockOf_15 : decode cX12_stockOf 15 = .ok (.aload_n 0, 1) := by decide +kernel
theorem dX12_stockOf_16 : decode cX12_stockOf 16 = .ok (.getfield 103, 3) := by decide +kernel
theorem dX12_stockOf_19 : decode cX12_stockOf 19 = .ok (.iload 4, 2) := by decide +kernel
theorem dX12_stockOf_21 : decode cX12_stockOf 21 = .ok (.iaload, 1) := by decide +kernel
theorem dX12_stockOf_22 : decode cX12_stockOf 22 = .ok (.iload_n 1, 1) := by decide +kernel
theorem dX12_stockOf_23 : decode cX12_stockOf 23 = .ok (.if_icmp .ne 17, 3) := by decide +kernel
theorem dX12_stockOf_26 : decode cX12_stockOf 26 = .ok (.aload_n 0, 1) := by decide +kernel
theorem dX12_stockOf_27 : decode cX12_stockOf 27 = .ok (.iload 4, 2) := by decide +kernel
theorem dX12_stockOf_29 : decode cX12_stockOf 29 = .ok (.invokevirtual 339, 3) := by decide +kernel
theorem dX12_stockOf_32 : decode cX12_stockOf 32 = .ok (.iload_n 2, 1) := by decide +kernel
theorem dX12_stockOf_33 : decode cX12_stockOf 33 = .ok (.if_icmp .ne 7, 3) := by decide +kernel
theorem dX12_stockOf_36 : decode cX12_stockOf 36 = .ok (.iconst 1, 1) := by decide +kernel
theorem dX12_stockOf_37 : decode cX12_stockOf 37 = .ok (.goto 4, 3) := by decide +kernel
theorem dX12_stockOf_40 : decode cX12_stockOf 40 = .ok (.iconst 0, 1) := by decide +kernel
theorem dX12_stockOf_41 : decode cX12_stockOf 41 = .ok (.iadd, 1) := by decide +kernel
theorem dX12_stockOf_42 : decode cX12_stockOf 42 = .ok (.istore_n 3, 1) := by decide +kernel
theorem dX12_stockOf_43 : decode cX12_stockOf 43 = .ok (.iinc 4 1, 3) := by decide +kernel
theorem dX12_stockOf_46 : decode cX12_stockOf 46 = .ok (.goto (-41), 3) := by decide +kernel
theorem dX12_stockOf_49 : decode cX12_stockOf 49 = .ok (.iload_n 3, 1) := by decide +kernel
theorem dX12_stockOf_50 : decode cX12_stockOf 50 = .ok (.ireturn, 1) := by decide +kernel
theorem dX12_stock_0 : decode cX12_stock 0 = .ok (.aload_n 0, 1) := by decide +kernel
theorem dX12_stock_1 : decode cX12_stock 1 = .ok (.iload_n 1, 1) := by decide +kernel
theorem dX12_stock_2 : decode cX12_stock 2 = .ok (.invokevirtual 331, 3) := by decide +kernel
theorem dX12_stock_5 : decode cX12_stock 5 = .ok (.ifCond .eq 24, 3) := by decide +kernel
theorem dX12_stock_8 : decode cX12_stock 8 = .ok (.iload_n 2, 1) := by decide +kernel
theorem dX12_stock_9 : decode cX12_stock 9 = .ok (.i2l, 1) := by decide +kernel
theorem dX12_stock_10 : decode cX12_stock 10 = .ok (.lconst 0, 1) := by decide +kernel
theorem dX12_stock_11 : decode cX12_stock 11 = .ok (.ldc2_w 192, 3) := by decide +kernel
theorem dX12_stock_14 : decode cX12_stock 14 = .ok (.invokestatic 181, 3) := by decide +kernel
theorem dX12_stock_17 : decode cX12_stock 17 = .ok (.ifCond .eq 12, 3) := by decide +kernel
theorem dX12_stock_20 : decode cX12_stock 20 = .ok (.aload_n 0, 1) := by decide +kernel
theorem dX12_stock_21 : decode cX12_stock 21 = .ok (.iload_n 1, 1) := by decide +kernel
theorem dX12_stock_22 : decode cX12_stock 22 = .ok (.iload_n 2, 1) := by decide +kernel
theorem dX12_stock_23 : decode cX12_stock 23 = .ok (.invokevirtual 354, 3) := by decide +kernel
theorem dX12_stock_26 : decode cX12_stock 26 = .ok (.goto 4, 3) := by decide +kernel
theorem dX12_stock_29 : decode cX12_stock 29 = .ok (.iconst (-1), 1) := by decide +kernel
theorem dX12_stock_30 : decode cX12_stock 30 = .ok (.ireturn, 1) := by decide +kernel
theorem dX12_isIn_0 : decode cX12_isIn 0 = .ok (.aload_n 0, 1) := by decide +kernel
theorem dX12_isIn_1 : decode cX12_isIn 1 = .ok (.getfield 100, 3) := by decide +kernel
theorem dX12_isIn_4 : decode cX12_isIn 4 = .ok (.iload_n 1, 1) := by decide +kernel
theorem dX12_isIn_5 : decode cX12_isIn 5 = .ok (.iaload, 1) := by decide +kernel
theorem dX12_isIn_6 : decode cX12_isIn 6 = .ok (.i2l, 1) := by decide +kernel
theorem dX12_isIn_7 : decode cX12_isIn 7 = .ok (.iload_n 2, 1) := by decide +kernel
theorem dX12_isIn_8 : decode cX12_isIn 8 = .ok (.i2l, 1) := by decide +kernel
theorem dX12_isIn_9 : decode cX12_isIn 9 = .ok (.iload_n 2, 1) := by decide +kernel
theorem dX12_isIn_10 : decode cX12_isIn 10 = .ok (.iload_n 3, 1) := by decide +kernel
theorem dX12_isIn_11 : decode cX12_isIn 11 = .ok (.iadd, 1) := by decide +kernel
theorem dX12_isIn_12 : decode cX12_isIn 12 = .ok (.i2l, 1) := by decide +kernel
theorem dX12_isIn_13 : decode cX12_isIn 13 = .ok (.invokestatic 181, 3) := by decide +kernel
theorem dX12_isIn_16 : decode cX12_isIn 16 = .ok (.ireturn, 1) := by decide +kernel
theorem dX12_joins_0 : decode cX12_joins 0 = .ok (.iconst 0, 1) := by decide +kernel
theorem dX12_joins_1 : decode cX12_joins 1 = .ok (.istore 4, 2) := by decide +kernel
theorem dX12_joins_3 : decode cX12_joins 3 = .ok (.iconst 0, 1) := by decide +kernel
theorem dX12_joins_4 : decode cX12_joins 4 = .ok (.istore 5, 2) := by decide +kernel
theorem dX12_joins_6 : decode cX12_joins 6 = .ok (.iconst 0, 1) := by decide +kernel
theorem dX12_joins_7 : decode cX12_joins 7 = .ok (.istore 6, 2) := by decide +kernel
theorem dX12_joins_9 : decode cX12_joins 9 = .ok (.iload 6, 2) := by decide +kernel
theorem dX12_joins_11 : decode cX12_joins 11 = .ok (.aload_n 0, 1) := by decide +kernel
theorem dX12_joins_12 : decode cX12_joins 12 = .ok (.getfield 232, 3) := by decide +kernel
theorem dX12_joins_15 : decode cX12_joins 15 = .ok (.if_icmp .ge 96, 3) := by decide +kernel
theorem dX12_joins_18 : decode cX12_joins 18 = .ok (.aload_n 0, 1) := by decide +kernel
theorem dX12_joins_19 : decode cX12_joins 19 = .ok (.getfield 137, 3) := by decide +kernel
theorem dX12_joins_22 : decode cX12_joins 22 = .ok (.iload 6, 2) := by decide +kernel
theorem dX12_joins_24 : decode cX12_joins 24 = .ok (.aload_n 0, 1) := by decide +kernel
theorem dX12_joins_25 : decode cX12_joins 25 = .ok (.getfield 140, 3) := by decide +kernel
theorem dX12_joins_28 : decode cX12_joins 28 = .ok (.iload 6, 2) := by decide +kernel
theorem dX12_joins_30 : decode cX12_joins 30 = .ok (.baload, 1) := by decide +kernel
theorem dX12_joins_31 : decode cX12_joins 31 = .ok (.ifCond .ne 14, 3) := by decide +kernel
theorem dX12_joins_34 : decode cX12_joins 34 = .ok (.aload_n 0, 1) := by decide +kernel
theorem dX12_joins_35 : decode cX12_joins 35 = .ok (.iload 6, 2) := by decide +kernel
theorem dX12_joins_37 : decode cX12_joins 37 = .ok (.iload_n 2, 1) := by decide +kernel
theorem dX12_joins_38 : decode cX12_joins 38 = .ok (.iload_n 3, 1) := by decide +kernel
theorem dX12_joins_39 : decode cX12_joins 39 = .ok (.invokevirtual 357, 3) := by decide +kernel
theorem dX12_joins_42 : decode cX12_joins 42 = .ok (.ifCond .ne 7, 3) := by decide +kernel
theorem dX12_joins_45 : decode cX12_joins 45 = .ok (.iconst 1, 1) := by decide +kernel
theorem dX12_joins_46 : decode cX12_joins 46 = .ok (.goto 4, 3) := by decide +kernel
theorem dX12_joins_49 : decode cX12_joins 49 = .ok (.iconst 0, 1) := by decide +kernel
theorem dX12_joins_50 : decode cX12_joins 50 = .ok (.bastore, 1) := by decide +kernel
theorem dX12_joins_51 : decode cX12_joins 51 = .ok (.aload_n 0, 1) := by decide +kernel
theorem dX12_joins_52 : decode cX12_joins 52 = .ok (.getfield 137, 3) := by decide +kernel
theorem dX12_joins_55 : decode cX12_joins 55 = .ok (.iload 6, 2) := by decide +kernel
theorem dX12_joins_57 : decode cX12_joins 57 = .ok (.baload, 1) := by decide +kernel
theorem dX12_joins_58 : decode cX12_joins 58 = .ok (.ifCond .ne 47, 3) := by decide +kernel
theorem dX12_joins_61 : decode cX12_joins 61 = .ok (.aload_n 0, 1) := by decide +kernel
theorem dX12_joins_62 : decode cX12_joins 62 = .ok (.getfield 124, 3) := by decide +kernel
theorem dX12_joins_65 : decode cX12_joins 65 = .ok (.bipush 36, 2) := by decide +kernel
theorem dX12_joins_67 : decode cX12_joins 67 = .ok (.iload_n 1, 1) := by decide +kernel
theorem dX12_joins_68 : decode cX12_joins 68 = .ok (.imul, 1) := by decide +kernel
theorem dX12_joins_69 : decode cX12_joins 69 = .ok (.iload 6, 2) := by decide +kernel
theorem dX12_joins_71 : decode cX12_joins 71 = .ok (.iadd, 1) := by decide +kernel
theorem dX12_joins_72 : decode cX12_joins 72 = .ok (.baload, 1) := by decide +kernel
theorem dX12_joins_73 : decode cX12_joins 73 = .ok (.ifCond .eq 32, 3) := by decide +kernel
theorem dX12_joins_76 : decode cX12_joins 76 = .ok (.aload_n 0, 1) := by decide +kernel
theorem dX12_joins_77 : decode cX12_joins 77 = .ok (.getfield 137, 3) := by decide +kernel
theorem dX12_joins_80 : decode cX12_joins 80 = .ok (.iload 6, 2) := by decide +kernel
theorem dX12_joins_82 : decode cX12_joins 82 = .ok (.iconst 1, 1) := by decide +kernel
theorem dX12_joins_83 : decode cX12_joins 83 = .ok (.bastore, 1) := by decide +kernel
theorem dX12_joins_84 : decode cX12_joins 84 = .ok (.aload_n 0, 1) := by decide +kernel
theorem dX12_joins_85 : decode cX12_joins 85 = .ok (.getfield 131, 3) := by decide +kernel
theorem dX12_joins_88 : decode cX12_joins 88 = .ok (.iload 6, 2) := by decide +kernel
theorem dX12_joins_90 : decode cX12_joins 90 = .ok (.bipush (-4), 2) := by decide +kernel
theorem dX12_joins_92 : decode cX12_joins 92 = .ok (.iastore, 1) := by decide +kernel
theorem dX12_joins_93 : decode cX12_joins 93 = .ok (.aload_n 0, 1) := by decide +kernel
theorem dX12_joins_94 : decode cX12_joins 94 = .ok (.getfield 134, 3) := by decide +kernel
theorem dX12_joins_97 : decode cX12_joins 97 = .ok (.iload 5, 2) := by decide +kernel
theorem dX12_joins_99 : decode cX12_joins 99 = .ok (.iload 6, 2) := by decide +kernel
theorem dX12_joins_101 : decode cX12_joins 101 = .ok (.iastore, 1) := by decide +kernel
theorem dX12_joins_102 : decode cX12_joins 102 = .ok (.iinc 5 1, 3) := by decide +kernel
theorem dX12_joins_105 : decode cX12_joins 105 = .ok (.iinc 6 1, 3) := by decide +kernel
theorem dX12_joins_108 : decode cX12_joins 108 = .ok (.goto (-99), 3) := by decide +kernel
theorem dX12_joins_111 : decode cX12_joins 111 = .ok (.iload 4, 2) := by decide +kernel
theorem dX12_joins_113 : decode cX12_joins 113 = .ok (.iload 5, 2) := by decide +kernel
theorem dX12_joins_115 : decode cX12_joins 115 = .ok (.if_icmp .ge 117, 3) := by decide +kernel
theorem dX12_joins_118 : decode cX12_joins 118 = .ok (.aload_n 0, 1) := by decide +kernel
theorem dX12_joins_119 : decode cX12_joins 119 = .ok (.getfield 134, 3) := by decide +kernel
theorem dX12_joins_122 : decode cX12_joins 122 = .ok (.iload 4, 2) := by decide +kernel
theorem dX12_joins_124 : decode cX12_joins 124 = .ok (.iaload, 1) := by decide +kernel
theorem dX12_joins_125 : decode cX12_joins 125 = .ok (.istore 6, 2) := by decide +kernel
theorem dX12_joins_127 : decode cX12_joins 127 = .ok (.iinc 4 1, 3) := by decide +kernel
theorem dX12_joins_130 : decode cX12_joins 130 = .ok (.aload_n 0, 1) := by decide +kernel
theorem dX12_joins_131 : decode cX12_joins 131 = .ok (.getfield 128, 3) := by decide +kernel
theorem dX12_joins_134 : decode cX12_joins 134 = .ok (.iload 6, 2) := by decide +kernel
theorem dX12_joins_136 : decode cX12_joins 136 = .ok (.iaload, 1) := by decide +kernel
theorem dX12_joins_137 : decode cX12_joins 137 = .ok (.bipush (-4), 2) := by decide +kernel
theorem dX12_joins_139 : decode cX12_joins 139 = .ok (.if_icmp .ne 12, 3) := by decide +kernel
theorem dX12_joins_142 : decode cX12_joins 142 = .ok (.aload_n 0, 1) := by decide +kernel
theorem dX12_joins_143 : decode cX12_joins 143 = .ok (.iload 6, 2) := by decide +kernel
theorem dX12_joins_145 : decode cX12_joins 145 = .ok (.iload_n 1, 1) := by decide +kernel
theorem dX12_joins_146 : decode cX12_joins 146 = .ok (.invokevirtual 360, 3) := by decide +kernel
theorem dX12_joins_149 : decode cX12_joins 149 = .ok (.iconst 1, 1) := by decide +kernel
theorem dX12_joins_150 : decode cX12_joins 150 = .ok (.ireturn, 1) := by decide +kernel
theorem dX12_joins_151 : decode cX12_joins 151 = .ok (.iconst 0, 1) := by decide +kernel
theorem dX12_joins_152 : decode cX12_joins 152 = .ok (.istore 7, 2) := by decide +kernel
theorem dX12_joins_154 : decode cX12_joins 154 = .ok (.iload 7, 2) := by decide +kernel
theorem dX12_joins_156 : decode cX12_joins 156 = .ok (.aload_n 0, 1) := by decide +kernel
theorem dX12_joins_157 : decode cX12_joins 157 = .ok (.getfield 232, 3) := by decide +kernel
theorem dX12_joins_160 : decode cX12_joins 160 = .ok (.if_icmp .ge 69, 3) := by decide +kernel
theorem dX12_joins_163 : decode cX12_joins 163 = .ok (.aload_n 0, 1) := by decide +kernel
theorem dX12_joins_164 : decode cX12_joins 164 = .ok (.getfield 137, 3) := by decide +kernel
theorem dX12_joins_167 : decode cX12_joins 167 = .ok (.iload 7, 2) := by decide +kernel
theorem dX12_joins_169 : decode cX12_joins 169 = .ok (.baload, 1) := by decide +kernel
theorem dX12_joins_170 : decode cX12_joins 170 = .ok (.ifCond .ne 53, 3) := by decide +kernel
theorem dX12_joins_173 : decode cX12_joins 173 = .ok (.aload_n 0, 1) := by decide +kernel
theorem dX12_joins_174 : decode cX12_joins 174 = .ok (.getfield 124, 3) := by decide +kernel
theorem dX12_joins_177 : decode cX12_joins 177 = .ok (.bipush 36, 2) := by decide +kernel
theorem dX12_joins_179 : decode cX12_joins 179 = .ok (.aload_n 0, 1) := by decide +kernel
theorem dX12_joins_180 : decode cX12_joins 180 = .ok (.getfield 128, 3) := by decide +kernel
theorem dX12_joins_183 : decode cX12_joins 183 = .ok (.iload 6, 2) := by decide +kernel
theorem dX12_joins_185 : decode cX12_joins 185 = .ok (.iaload, 1) := by decide +kernel
theorem dX12_joins_186 : decode cX12_joins 186 = .ok (.imul, 1) := by decide +kernel
theorem dX12_joins_187 : decode cX12_joins 187 = .ok (.iload 7, 2) := by decide +kernel
theorem dX12_joins_189 : decode cX12_joins 189 = .ok (.iadd, 1) := by decide +kernel
theorem dX12_joins_190 : decode cX12_joins 190 = .ok (.baload, 1) := by decide +kernel
theorem dX12_joins_191 : decode cX12_joins 191 = .ok (.ifCond .eq 32, 3) := by decide +kernel
theorem dX12_joins_194 : decode cX12_joins 194 = .ok (.aload_n 0, 1) := by decide +kernel
theorem dX12_joins_195 : decode cX12_joins 195 = .ok (.getfield 137, 3) := by decide +kernel
theorem dX12_joins_198 : decode cX12_joins 198 = .ok (.iload 7, 2) := by decide +kernel
theorem dX12_joins_200 : decode cX12_joins 200 = .ok (.iconst 1, 1) := by decide +kernel
theorem dX12_joins_201 : decode cX12_joins 201 = .ok (.bastore, 1) := by decide +kernel
theorem dX12_joins_202 : decode cX12_joins 202 = .ok (.aload_n 0, 1) := by decide +kernel
theorem dX12_joins_203 : decode cX12_joins 203 = .ok (.getfield 131, 3) := by decide +kernel
theorem dX12_joins_206 : decode cX12_joins 206 = .ok (.iload 7, 2) := by decide +kernel
theorem dX12_joins_208 : decode cX12_joins 208 = .ok (.iload 6, 2) := by decide +kernel
theorem dX12_joins_210 : decode cX12_joins 210 = .ok (.iastore, 1) := by decide +kernel
theorem dX12_joins_211 : decode cX12_joins 211 = .ok (.aload_n 0, 1) := by decide +kernel
theorem dX12_joins_212 : decode cX12_joins 212 = .ok (.getfield 134, 3) := by decide +kernel
theorem dX12_joins_215 : decode cX12_joins 215 = .ok (.iload 5, 2) := by decide +kernel
theorem dX12_joins_217 : decode cX12_joins 217 = .ok (.iload 7, 2) := by decide +kernel
theorem dX12_joins_219 : decode cX12_joins 219 = .ok (.iastore, 1) := by decide +kernel
theorem dX12_joins_220 : decode cX12_joins 220 = .ok (.iinc 5 1, 3) := by decide +kernel
theorem dX12_joins_223 : decode cX12_joins 223 = .ok (.iinc 7 1, 3) := by decide +kernel
theorem dX12_joins_226 : decode cX12_joins 226 = .ok (.goto (-72), 3) := by decide +kernel
theorem dX12_joins_229 : decode cX12_joins 229 = .ok (.goto (-118), 3) := by decide +kernel
theorem dX12_joins_232 : decode cX12_joins 232 = .ok (.iconst 0, 1) := by decide +kernel
theorem dX12_joins_233 : decode cX12_joins 233 = .ok (.ireturn, 1) := by decide +kernel
theorem dX12_shift_0 : decode cX12_shift 0 = .ok (.iload_n 1, 1) := by decide +kernel
theorem dX12_shift_1 : decode cX12_shift 1 = .ok (.istore_n 3, 1) := by decide +kernel
theorem dX12_shift_2 : decode cX12_shift 2 = .ok (.aload_n 0, 1) := by decide +kernel
theorem dX12_shift_3 : decode cX12_shift 3 = .ok (.getfield 131, 3) := by decide +kernel
theorem dX12_shift_6 : decode cX12_shift 6 = .ok (.iload_n 3, 1) := by decide +kernel
theorem dX12_shift_7 : decode cX12_shift 7 = .ok (.iaload, 1) := by decide +kernel
theorem dX12_shift_8 : decode cX12_shift 8 = .ok (.bipush (-4), 2) := by decide +kernel
theorem dX12_shift_10 : decode cX12_shift 10 = .ok (.if_icmp .eq 30, 3) := by decide +kernel
theorem dX12_shift_13 : decode cX12_shift 13 = .ok (.aload_n 0, 1) := by decide +kernel
theorem dX12_shift_14 : decode cX12_shift 14 = .ok (.getfield 128, 3) := by decide +kernel
theorem dX12_shift_17 : decode cX12_shift 17 = .ok (.iload_n 3, 1) := by decide +kernel
theorem dX12_shift_18 : decode cX12_shift 18 = .ok (.aload_n 0, 1) := by decide +kernel
theorem dX12_shift_19 : decode cX12_shift 19 = .ok (.getfield 128, 3) := by decide +kernel
theorem dX12_shift_22 : decode cX12_shift 22 = .ok (.aload_n 0, 1) := by decide +kernel
theorem dX12_shift_23 : decode cX12_shift 23 = .ok (.getfield 131, 3) := by decide +kernel
theorem dX12_shift_26 : decode cX12_shift 26 = .ok (.iload_n 3, 1) := by decide +kernel
theorem dX12_shift_27 : decode cX12_shift 27 = .ok (.iaload, 1) := by decide +kernel
theorem dX12_shift_28 : decode cX12_shift 28 = .ok (.iaload, 1) := by decide +kernel
theorem dX12_shift_29 : decode cX12_shift 29 = .ok (.iastore, 1) := by decide +kernel
theorem dX12_shift_30 : decode cX12_shift 30 = .ok (.aload_n 0, 1) := by decide +kernel
theorem dX12_shift_31 : decode cX12_shift 31 = .ok (.getfield 131, 3) := by decide +kernel
theorem dX12_shift_34 : decode cX12_shift 34 = .ok (.iload_n 3, 1) := by decide +kernel
theorem dX12_shift_35 : decode cX12_shift 35 = .ok (.iaload, 1) := by decide +kernel
theorem dX12_shift_36 : decode cX12_shift 36 = .ok (.istore_n 3, 1) := by decide +kernel
theorem dX12_shift_37 : decode cX12_shift 37 = .ok (.goto (-35), 3) := by decide +kernel
theorem dX12_shift_40 : decode cX12_shift 40 = .ok (.aload_n 0, 1) := by decide +kernel
theorem dX12_shift_41 : decode cX12_shift 41 = .ok (.getfield 128, 3) := by decide +kernel
theorem dX12_shift_44 : decode cX12_shift 44 = .ok (.iload_n 3, 1) := by decide +kernel
theorem dX12_shift_45 : decode cX12_shift 45 = .ok (.iload_n 2, 1) := by decide +kernel
theorem dX12_shift_46 : decode cX12_shift 46 = .ok (.iastore, 1) := by decide +kernel
theorem dX12_shift_47 : decode cX12_shift 47 = .ok (.return_, 1) := by decide +kernel
theorem dX12_most_0 : decode cX12_most 0 = .ok (.iconst 0, 1) := by decide +kernel
theorem dX12_most_1 : decode cX12_most 1 = .ok (.istore 4, 2) := by decide +kernel
theorem dX12_most_3 : decode cX12_most 3 = .ok (.iconst 0, 1) := by decide +kernel
theorem dX12_most_4 : decode cX12_most 4 = .ok (.istore 5, 2) := by decide +kernel
theorem dX12_most_6 : decode cX12_most 6 = .ok (.iload 5, 2) := by decide +kernel
theorem dX12_most_8 : decode cX12_most 8 = .ok (.aload_n 0, 1) := by decide +kernel
theorem dX12_most_9 : decode cX12_most 9 = .ok (.getfield 232, 3) := by decide +kernel
theorem dX12_most_12 : decode cX12_most 12 = .ok (.if_icmp .ge 18, 3) := by decide +kernel
theorem dX12_most_15 : decode cX12_most 15 = .ok (.aload_n 0, 1) := by decide +kernel
theorem dX12_most_16 : decode cX12_most 16 = .ok (.getfield 128, 3) := by decide +kernel
theorem dX12_most_19 : decode cX12_most 19 = .ok (.iload 5, 2) := by decide +kernel
theorem dX12_most_21 : decode cX12_most 21 = .ok (.bipush (-4), 2) := by decide +kernel
theorem dX12_most_23 : decode cX12_most 23 = .ok (.iastore, 1) := by decide +kernel
theorem dX12_most_24 : decode cX12_most 24 = .ok (.iinc 5 1, 3) := by decide +kernel
theorem dX12_most_27 : decode cX12_most 27 = .ok (.goto (-21), 3) := by decide +kernel
theorem dX12_most_30 : decode cX12_most 30 = .ok (.iconst 0, 1) := by decide +kernel
theorem dX12_most_31 : decode cX12_most 31 = .ok (.istore 5, 2) := by decide +kernel
theorem dX12_most_33 : decode cX12_most 33 = .ok (.iload 5, 2) := by decide +kernel
theorem dX12_most_35 : decode cX12_most 35 = .ok (.aload_n 0, 1) := by decide +kernel
theorem dX12_most_36 : decode cX12_most 36 = .ok (.getfield 177, 3) := by decide +kernel
theorem dX12_most_39 : decode cX12_most 39 = .ok (.if_icmp .ge 40, 3) := by decide +kernel
theorem dX12_most_42 : decode cX12_most 42 = .ok (.iload 4, 2) := by decide +kernel
theorem dX12_most_44 : decode cX12_most 44 = .ok (.iload_n 1, 1) := by decide +kernel
theorem dX12_most_45 : decode cX12_most 45 = .ok (.iload 5, 2) := by decide +kernel
theorem dX12_most_47 : decode cX12_most 47 = .ok (.ishr, 1) := by decide +kernel
theorem dX12_most_48 : decode cX12_most 48 = .ok (.iconst 1, 1) := by decide +kernel
theorem dX12_most_49 : decode cX12_most 49 = .ok (.iand, 1) := by decide +kernel
theorem dX12_most_50 : decode cX12_most 50 = .ok (.iconst 1, 1) := by decide +kernel
theorem dX12_most_51 : decode cX12_most 51 = .ok (.if_icmp .ne 18, 3) := by decide +kernel
theorem dX12_most_54 : decode cX12_most 54 = .ok (.aload_n 0, 1) := by decide +kernel
theorem dX12_most_55 : decode cX12_most 55 = .ok (.iload 5, 2) := by decide +kernel
theorem dX12_most_57 : decode cX12_most 57 = .ok (.iload_n 2, 1) := by decide +kernel
theorem dX12_most_58 : decode cX12_most 58 = .ok (.iload_n 3, 1) := by decide +kernel
theorem dX12_most_59 : decode cX12_most 59 = .ok (.invokevirtual 364, 3) := by decide +kernel
theorem dX12_most_62 : decode cX12_most 62 = .ok (.ifCond .eq 7, 3) := by decide +kernel
theorem dX12_most_65 : decode cX12_most 65 = .ok (.iconst 1, 1) := by decide +kernel
theorem dX12_most_66 : decode cX12_most 66 = .ok (.goto 4, 3) := by decide +kernel
theorem dX12_most_69 : decode cX12_most 69 = .ok (.iconst 0, 1) := by decide +kernel
theorem dX12_most_70 : decode cX12_most 70 = .ok (.iadd, 1) := by decide +kernel
theorem dX12_most_71 : decode cX12_most 71 = .ok (.istore 4, 2) := by decide +kernel
theorem dX12_most_73 : decode cX12_most 73 = .ok (.iinc 5 1, 3) := by decide +kernel
theorem dX12_most_76 : decode cX12_most 76 = .ok (.goto (-43), 3) := by decide +kernel
theorem dX12_most_79 : decode cX12_most 79 = .ok (.iload 4, 2) := by decide +kernel
theorem dX12_most_81 : decode cX12_most 81 = .ok (.ireturn, 1) := by decide +kernel
theorem dX12_layParade_0 : decode cX12_layParade 0 = .ok (.iload_n 3, 1) := by decide +kernel
theorem dX12_layParade_1 : decode cX12_layParade 1 = .ok (.istore 4, 2) := by decide +kernel
theorem dX12_layParade_3 : decode cX12_layParade 3 = .ok (.iconst 1, 1) := by decide +kernel
theorem dX12_layParade_4 : decode cX12_layParade 4 = .ok (.aload_n 0, 1) := by decide +kernel
theorem dX12_layParade_5 : decode cX12_layParade 5 = .ok (.getfield 177, 3) := by decide +kernel
theorem dX12_layParade_8 : decode cX12_layParade 8 = .ok (.ishl, 1) := by decide +kernel
theorem dX12_layParade_9 : decode cX12_layParade 9 = .ok (.iconst 1, 1) := by decide +kernel
theorem dX12_layParade_10 : decode cX12_layParade 10 = .ok (.isub, 1) := by decide +kernel
theorem dX12_layParade_11 : decode cX12_layParade 11 = .ok (.istore 5, 2) := by decide +kernel
theorem dX12_layParade_13 : decode cX12_layParade 13 = .ok (.iconst 0, 1) := by decide +kernel
theorem dX12_layParade_14 : decode cX12_layParade 14 = .ok (.istore 6, 2) := by decide +kernel
theorem dX12_layParade_16 : decode cX12_layParade 16 = .ok (.iload 6, 2) := by decide +kernel
theorem dX12_layParade_18 : decode cX12_layParade 18 = .ok (.aload_n 0, 1) := by decide +kernel
theorem dX12_layParade_19 : decode cX12_layParade 19 = .ok (.getfield 177, 3) := by decide +kernel
theorem dX12_layParade_22 : decode cX12_layParade 22 = .ok (.if_icmp .ge 161, 3) := by decide +kernel
theorem dX12_layParade_25 : decode cX12_layParade 25 = .ok (.iload 5, 2) := by decide +kernel
theorem dX12_layParade_27 : decode cX12_layParade 27 = .ok (.iconst 1, 1) := by decide +kernel
theorem dX12_layParade_28 : decode cX12_layParade 28 = .ok (.iload 6, 2) := by decide +kernel
theorem dX12_layParade_30 : decode cX12_layParade 30 = .ok (.ishl, 1) := by decide +kernel
theorem dX12_layParade_31 : decode cX12_layParade 31 = .ok (.iconst (-1), 1) := by decide +kernel
theorem dX12_layParade_32 : decode cX12_layParade 32 = .ok (.ixor, 1) := by decide +kernel
theorem dX12_layParade_33 : decode cX12_layParade 33 = .ok (.iand, 1) := by decide +kernel
theorem dX12_layParade_34 : decode cX12_layParade 34 = .ok (.istore 5, 2) := by decide +kernel
theorem dX12_layParade_36 : decode cX12_layParade 36 = .ok (.aload_n 0, 1) := by decide +kernel
theorem dX12_layParade_37 : decode cX12_layParade 37 = .ok (.getfield 143, 3) := by decide +kernel
theorem dX12_layParade_40 : decode cX12_layParade 40 = .ok (.iload 6, 2) := by decide +kernel
theorem dX12_layParade_42 : decode cX12_layParade 42 = .ok (.bipush (-4), 2) := by decide +kernel
theorem dX12_layParade_44 : decode cX12_layParade 44 = .ok (.iastore, 1) := by decide +kernel
theorem dX12_layParade_45 : decode cX12_layParade 45 = .ok (.iconst 0, 1) := by decide +kernel
theorem dX12_layParade_46 : decode cX12_layParade 46 = .ok (.istore 7, 2) := by decide +kernel
theorem dX12_layParade_48 : decode cX12_layParade 48 = .ok (.iload 7, 2) := by decide +kernel
theorem dX12_layParade_50 : decode cX12_layParade 50 = .ok (.aload_n 0, 1) := by decide +kernel
theorem dX12_layParade_51 : decode cX12_layParade 51 = .ok (.getfield 232, 3) := by decide +kernel
theorem dX12_layParade_54 : decode cX12_layParade 54 = .ok (.if_icmp .ge 101, 3) := by decide +kernel
theorem dX12_layParade_57 : decode cX12_layParade 57 = .ok (.aload_n 0, 1) := by decide +kernel
theorem dX12_layParade_58 : decode cX12_layParade 58 = .ok (.getfield 143, 3) := by decide +kernel
theorem dX12_layParade_61 : decode cX12_layParade 61 = .ok (.iload 6, 2) := by decide +kernel
theorem dX12_layParade_63 : decode cX12_layParade 63 = .ok (.iaload, 1) := by decide +kernel
theorem dX12_layParade_64 : decode cX12_layParade 64 = .ok (.bipush (-4), 2) := by decide +kernel
theorem dX12_layParade_66 : decode cX12_layParade 66 = .ok (.if_icmp .ne 89, 3) := by decide +kernel
theorem dX12_layParade_69 : decode cX12_layParade 69 = .ok (.aload_n 0, 1) := by decide +kernel
theorem dX12_layParade_70 : decode cX12_layParade 70 = .ok (.getfield 124, 3) := by decide +kernel
theorem dX12_layParade_73 : decode cX12_layParade 73 = .ok (.bipush 36, 2) := by decide +kernel
theorem dX12_layParade_75 : decode cX12_layParade 75 = .ok (.iload 6, 2) := by decide +kernel
theorem dX12_layParade_77 : decode cX12_layParade 77 = .ok (.imul, 1) := by decide +kernel
theorem dX12_layParade_78 : decode cX12_layParade 78 = .ok (.iload 7, 2) := by decide +kernel
theorem dX12_layParade_80 : decode cX12_layParade 80 = .ok (.iadd, 1) := by decide +kernel
theorem dX12_layParade_81 : decode cX12_layParade 81 = .ok (.baload, 1) := by decide +kernel
theorem dX12_layParade_82 : decode cX12_layParade 82 = .ok (.ifCond .eq 67, 3) := by decide +kernel
theorem dX12_layParade_85 : decode cX12_layParade 85 = .ok (.aload_n 0, 1) := by decide +kernel
theorem dX12_layParade_86 : decode cX12_layParade 86 = .ok (.getfield 140, 3) := by decide +kernel
theorem dX12_layParade_89 : decode cX12_layParade 89 = .ok (.iload 7, 2) := by decide +kernel
theorem dX12_layParade_91 : decode cX12_layParade 91 = .ok (.baload, 1) := by decide +kernel
theorem dX12_layParade_92 : decode cX12_layParade 92 = .ok (.ifCond .ne 57, 3) := by decide +kernel
theorem dX12_layParade_95 : decode cX12_layParade 95 = .ok (.aload_n 0, 1) := by decide +kernel
theorem dX12_layParade_96 : decode cX12_layParade 96 = .ok (.iload 7, 2) := by decide +kernel
theorem dX12_layParade_98 : decode cX12_layParade 98 = .ok (.iload_n 1, 1) := by decide +kernel
theorem dX12_layParade_99 : decode cX12_layParade 99 = .ok (.iload_n 2, 1) := by decide +kernel
theorem dX12_layParade_100 : decode cX12_layParade 100 = .ok (.invokevirtual 357, 3) := by decide +kernel
theorem dX12_layParade_103 : decode cX12_layParade 103 = .ok (.ifCond .eq 46, 3) := by decide +kernel
theorem dX12_layParade_106 : decode cX12_layParade 106 = .ok (.aload_n 0, 1) := by decide +kernel
theorem dX12_layParade_107 : decode cX12_layParade 107 = .ok (.getfield 140, 3) := by decide +kernel
theorem dX12_layParade_110 : decode cX12_layParade 110 = .ok (.iload 7, 2) := by decide +kernel
theorem dX12_layParade_112 : decode cX12_layParade 112 = .ok (.iconst 1, 1) := by decide +kernel
theorem dX12_layParade_113 : decode cX12_layParade 113 = .ok (.bastore, 1) := by decide +kernel
theorem dX12_layParade_114 : decode cX12_layParade 114 = .ok (.aload_n 0, 1) := by decide +kernel
theorem dX12_layParade_115 : decode cX12_layParade 115 = .ok (.iload 5, 2) := by decide +kernel
theorem dX12_layParade_117 : decode cX12_layParade 117 = .ok (.iload_n 1, 1) := by decide +kernel
theorem dX12_layParade_118 : decode cX12_layParade 118 = .ok (.iload_n 2, 1) := by decide +kernel
theorem dX12_layParade_119 : decode cX12_layParade 119 = .ok (.invokevirtual 367, 3) := by decide +kernel
theorem dX12_layParade_122 : decode cX12_layParade 122 = .ok (.iload 4, 2) := by decide +kernel
theorem dX12_layParade_124 : decode cX12_layParade 124 = .ok (.iconst 1, 1) := by decide +kernel
theorem dX12_layParade_125 : decode cX12_layParade 125 = .ok (.isub, 1) := by decide +kernel
theorem dX12_layParade_126 : decode cX12_layParade 126 = .ok (.if_icmp .ne 15, 3) := by decide +kernel
theorem dX12_layParade_129 : decode cX12_layParade 129 = .ok (.aload_n 0, 1) := by decide +kernel
theorem dX12_layParade_130 : decode cX12_layParade 130 = .ok (.getfield 143, 3) := by decide +kernel
theorem dX12_layParade_133 : decode cX12_layParade 133 = .ok (.iload 6, 2) := by decide +kernel
theorem dX12_layParade_135 : decode cX12_layParade 135 = .ok (.iload 7, 2) := by decide +kernel
theorem dX12_layParade_137 : decode cX12_layParade 137 = .ok (.iastore, 1) := by decide +kernel
theorem dX12_layParade_138 : decode cX12_layParade 138 = .ok (.goto 11, 3) := by decide +kernel
theorem dX12_layParade_141 : decode cX12_layParade 141 = .ok (.aload_n 0, 1) := by decide +kernel
theorem dX12_layParade_142 : decode cX12_layParade 142 = .ok (.getfield 140, 3) := by decide +kernel
theorem dX12_layParade_145 : decode cX12_layParade 145 = .ok (.iload 7, 2) := by decide +kernel
theorem dX12_layParade_147 : decode cX12_layParade 147 = .ok (.iconst 0, 1) := by decide +kernel
theorem dX12_layParade_148 : decode cX12_layParade 148 = .ok (.bastore, 1) := by decide +kernel
theorem dX12_layParade_149 : decode cX12_layParade 149 = .ok (.iinc 7 1, 3) := by decide +kernel
theorem dX12_layParade_152 : decode cX12_layParade 152 = .ok (.goto (-104), 3) := by decide +kernel
theorem dX12_layParade_155 : decode cX12_layParade 155 = .ok (.iload 4, 2) := by decide +kernel
theorem dX12_layParade_157 : decode cX12_layParade 157 = .ok (.aload_n 0, 1) := by decide +kernel
theorem dX12_layParade_158 : decode cX12_layParade 158 = .ok (.getfield 143, 3) := by decide +kernel
theorem dX12_layParade_161 : decode cX12_layParade 161 = .ok (.iload 6, 2) := by decide +kernel
theorem dX12_layParade_163 : decode cX12_layParade 163 = .ok (.iaload, 1) := by decide +kernel
theorem dX12_layParade_164 : decode cX12_layParade 164 = .ok (.bipush (-4), 2) := by decide +kernel
theorem dX12_layParade_166 : decode cX12_layParade 166 = .ok (.if_icmp .ne 7, 3) := by decide +kernel
theorem dX12_layParade_169 : decode cX12_layParade 169 = .ok (.iconst 0, 1) := by decide +kernel
theorem dX12_layParade_170 : decode cX12_layParade 170 = .ok (.goto 4, 3) := by decide +kernel
theorem dX12_layParade_173 : decode cX12_layParade 173 = .ok (.iconst 1, 1) := by decide +kernel
theorem dX12_layParade_174 : decode cX12_layParade 174 = .ok (.isub, 1) := by decide +kernel
theorem dX12_layParade_175 : decode cX12_layParade 175 = .ok (.istore 4, 2) := by decide +kernel
theorem dX12_layParade_177 : decode cX12_layParade 177 = .ok (.iinc 6 1, 3) := by decide +kernel
theorem dX12_layParade_180 : decode cX12_layParade 180 = .ok (.goto (-164), 3) := by decide +kernel
theorem dX12_layParade_183 : decode cX12_layParade 183 = .ok (.return_, 1) := by decide +kernel
theorem dX12_parade_0 : decode cX12_parade 0 = .ok (.iload_n 1, 1) := by decide +kernel
theorem dX12_parade_1 : decode cX12_parade 1 = .ok (.i2l, 1) := by decide +kernel
theorem dX12_parade_2 : decode cX12_parade 2 = .ok (.lconst 0, 1) := by decide +kernel
theorem dX12_parade_3 : decode cX12_parade 3 = .ok (.ldc2_w 192, 3) := by decide +kernel
theorem dX12_parade_6 : decode cX12_parade 6 = .ok (.invokestatic 181, 3) := by decide +kernel
theorem dX12_parade_9 : decode cX12_parade 9 = .ok (.ifCond .eq 44, 3) := by decide +kernel
theorem dX12_parade_12 : decode cX12_parade 12 = .ok (.iload_n 2, 1) := by decide +kernel
theorem dX12_parade_13 : decode cX12_parade 13 = .ok (.i2l, 1) := by decide +kernel
theorem dX12_parade_14 : decode cX12_parade 14 = .ok (.lconst 0, 1) := by decide +kernel
theorem dX12_parade_15 : decode cX12_parade 15 = .ok (.ldc2_w 334, 3) := by decide +kernel
theorem dX12_parade_18 : decode cX12_parade 18 = .ok (.invokestatic 181, 3) := by decide +kernel
theorem dX12_parade_21 : decode cX12_parade 21 = .ok (.ifCond .eq 32, 3) := by decide +kernel
theorem dX12_parade_24 : decode cX12_parade 24 = .ok (.iload_n 3, 1) := by decide +kernel
theorem dX12_parade_25 : decode cX12_parade 25 = .ok (.i2l, 1) := by decide +kernel
theorem dX12_parade_26 : decode cX12_parade 26 = .ok (.lconst 0, 1) := by decide +kernel
theorem dX12_parade_27 : decode cX12_parade 27 = .ok (.lconst 1, 1) := by decide +kernel
theorem dX12_parade_28 : decode cX12_parade 28 = .ok (.invokestatic 181, 3) := by decide +kernel
theorem dX12_parade_31 : decode cX12_parade 31 = .ok (.ifCond .ne 24, 3) := by decide +kernel
theorem dX12_parade_34 : decode cX12_parade 34 = .ok (.iload_n 3, 1) := by decide +kernel
theorem dX12_parade_35 : decode cX12_parade 35 = .ok (.i2l, 1) := by decide +kernel
theorem dX12_parade_36 : decode cX12_parade 36 = .ok (.ldc2_w 216, 3) := by decide +kernel
theorem dX12_parade_39 : decode cX12_parade 39 = .ok (.bipush 9, 2) := by decide +kernel
theorem dX12_parade_41 : decode cX12_parade 41 = .ok (.aload_n 0, 1) := by decide +kernel
theorem dX12_parade_42 : decode cX12_parade 42 = .ok (.getfield 177, 3) := by decide +kernel
theorem dX12_parade_45 : decode cX12_parade 45 = .ok (.iadd, 1) := by decide +kernel
theorem dX12_parade_46 : decode cX12_parade 46 = .ok (.i2l, 1) := by decide +kernel
theorem dX12_parade_47 : decode cX12_parade 47 = .ok (.invokestatic 181, 3) := by decide +kernel
theorem dX12_parade_50 : decode cX12_parade 50 = .ok (.ifCond .ne 5, 3) := by decide +kernel
theorem dX12_parade_53 : decode cX12_parade 53 = .ok (.iconst (-1), 1) := by decide +kernel
theorem dX12_parade_54 : decode cX12_parade 54 = .ok (.ireturn, 1) := by decide +kernel
theorem dX12_parade_55 : decode cX12_parade 55 = .ok (.iconst 0, 1) := by decide +kernel
theorem dX12_parade_56 : decode cX12_parade 56 = .ok (.istore 4, 2) := by decide +kernel
theorem dX12_parade_58 : decode cX12_parade 58 = .ok (.iload 4, 2) := by decide +kernel
theorem dX12_parade_60 : decode cX12_parade 60 = .ok (.aload_n 0, 1) := by decide +kernel
theorem dX12_parade_61 : decode cX12_parade 61 = .ok (.getfield 232, 3) := by decide +kernel
theorem dX12_parade_64 : decode cX12_parade 64 = .ok (.if_icmp .ge 92, 3) := by decide +kernel
theorem dX12_parade_67 : decode cX12_parade 67 = .ok (.aload_n 0, 1) := by decide +kernel
theorem dX12_parade_68 : decode cX12_parade 68 = .ok (.getfield 140, 3) := by decide +kernel
theorem dX12_parade_71 : decode cX12_parade 71 = .ok (.iload 4, 2) := by decide +kernel
theorem dX12_parade_73 : decode cX12_parade 73 = .ok (.iconst 0, 1) := by decide +kernel
theorem dX12_parade_74 : decode cX12_parade 74 = .ok (.bastore, 1) := by decide +kernel
theorem dX12_parade_75 : decode cX12_parade 75 = .ok (.iconst 0, 1) := by decide +kernel
theorem dX12_parade_76 : decode cX12_parade 76 = .ok (.istore 5, 2) := by decide +kernel
theorem dX12_parade_78 : decode cX12_parade 78 = .ok (.iload 5, 2) := by decide +kernel
theorem dX12_parade_80 : decode cX12_parade 80 = .ok (.aload_n 0, 1) := by decide +kernel
theorem dX12_parade_81 : decode cX12_parade 81 = .ok (.getfield 177, 3) := by decide +kernel
theorem dX12_parade_84 : decode cX12_parade 84 = .ok (.if_icmp .ge 66, 3) := by decide +kernel
theorem dX12_parade_87 : decode cX12_parade 87 = .ok (.aload_n 0, 1) := by decide +kernel
theorem dX12_parade_88 : decode cX12_parade 88 = .ok (.getfield 124, 3) := by decide +kernel
theorem dX12_parade_91 : decode cX12_parade 91 = .ok (.bipush 36, 2) := by decide +kernel
theorem dX12_parade_93 : decode cX12_parade 93 = .ok (.iload 5, 2) := by decide +kernel
theorem dX12_parade_95 : decode cX12_parade 95 = .ok (.imul, 1) := by decide +kernel
theorem dX12_parade_96 : decode cX12_parade 96 = .ok (.iload 4, 2) := by decide +kernel
theorem dX12_parade_98 : decode cX12_parade 98 = .ok (.iadd, 1) := by decide +kernel
theorem dX12_parade_99 : decode cX12_parade 99 = .ok (.aload_n 0, 1) := by decide +kernel
theorem dX12_parade_100 : decode cX12_parade 100 = .ok (.getfield 103, 3) := by decide +kernel
theorem dX12_parade_103 : decode cX12_parade 103 = .ok (.iload 4, 2) := by decide +kernel
theorem dX12_parade_105 : decode cX12_parade 105 = .ok (.iaload, 1) := by decide +kernel
theorem dX12_parade_106 : decode cX12_parade 106 = .ok (.bipush (-4), 2) := by decide +kernel
theorem dX12_parade_108 : decode cX12_parade 108 = .ok (.if_icmp .eq 34, 3) := by decide +kernel
theorem dX12_parade_111 : decode cX12_parade 111 = .ok (.aload_n 0, 1) := by decide +kernel
theorem dX12_parade_112 : decode cX12_parade 112 = .ok (.iload 4, 2) := by decide +kernel
theorem dX12_parade_114 : decode cX12_parade 114 = .ok (.invokevirtual 339, 3) := by decide +kernel
theorem dX12_parade_117 : decode cX12_parade 117 = .ok (.iload_n 1, 1) := by decide +kernel
theorem dX12_parade_118 : decode cX12_parade 118 = .ok (.if_icmp .ne 24, 3) := by decide +kernel
theorem dX12_parade_121 : decode cX12_parade 121 = .ok (.aload_n 0, 1) := by decide +kernel
theorem dX12_parade_122 : decode cX12_parade 122 = .ok (.aload_n 0, 1) := by decide +kernel
theorem dX12_parade_123 : decode cX12_parade 123 = .ok (.getfield 94, 3) := by decide +kernel
theorem dX12_parade_126 : decode cX12_parade 126 = .ok (.iload 4, 2) := by decide +kernel
theorem dX12_parade_128 : decode cX12_parade 128 = .ok (.iaload, 1) := by decide +kernel
theorem dX12_parade_129 : decode cX12_parade 129 = .ok (.iload 5, 2) := by decide +kernel
theorem dX12_parade_131 : decode cX12_parade 131 = .ok (.iconst 0, 1) := by decide +kernel
theorem dX12_parade_132 : decode cX12_parade 132 = .ok (.invokevirtual 240, 3) := by decide +kernel
theorem dX12_parade_135 : decode cX12_parade 135 = .ok (.ifCond .eq 7, 3) := by decide +kernel
theorem dX12_parade_138 : decode cX12_parade 138 = .ok (.iconst 1, 1) := by decide +kernel
theorem dX12_parade_139 : decode cX12_parade 139 = .ok (.goto 4, 3) := by decide +kernel
theorem dX12_parade_142 : decode cX12_parade 142 = .ok (.iconst 0, 1) := by decide +kernel
theorem dX12_parade_143 : decode cX12_parade 143 = .ok (.bastore, 1) := by decide +kernel
theorem dX12_parade_144 : decode cX12_parade 144 = .ok (.iinc 5 1, 3) := by decide +kernel
theorem dX12_parade_147 : decode cX12_parade 147 = .ok (.goto (-69), 3) := by decide +kernel
theorem dX12_parade_150 : decode cX12_parade 150 = .ok (.iinc 4 1, 3) := by decide +kernel
theorem dX12_parade_153 : decode cX12_parade 153 = .ok (.goto (-95), 3) := by decide +kernel
theorem dX12_parade_156 : decode cX12_parade 156 = .ok (.iconst 1, 1) := by decide +kernel
theorem dX12_parade_157 : decode cX12_parade 157 = .ok (.aload_n 0, 1) := by decide +kernel
theorem dX12_parade_158 : decode cX12_parade 158 = .ok (.getfield 177, 3) := by decide +kernel
theorem dX12_parade_161 : decode cX12_parade 161 = .ok (.ishl, 1) := by decide +kernel
theorem dX12_parade_162 : decode cX12_parade 162 = .ok (.iconst 1, 1) := by decide +kernel
theorem dX12_parade_163 : decode cX12_parade 163 = .ok (.isub, 1) := by decide +kernel
theorem dX12_parade_164 : decode cX12_parade 164 = .ok (.istore 4, 2) := by decide +kernel
theorem dX12_parade_166 : decode cX12_parade 166 = .ok (.iconst 0, 1) := by decide +kernel
theorem dX12_parade_167 : decode cX12_parade 167 = .ok (.istore 5, 2) := by decide +kernel
theorem dX12_parade_169 : decode cX12_parade 169 = .ok (.iconst 0, 1) := by decide +kernel
theorem dX12_parade_170 : decode cX12_parade 170 = .ok (.istore 6, 2) := by decide +kernel
theorem dX12_parade_172 : decode cX12_parade 172 = .ok (.iconst 0, 1) := by decide +kernel
theorem dX12_parade_173 : decode cX12_parade 173 = .ok (.istore 7, 2) := by decide +kernel
theorem dX12_parade_175 : decode cX12_parade 175 = .ok (.iload 7, 2) := by decide +kernel
theorem dX12_parade_177 : decode cX12_parade 177 = .ok (.bipush 100, 2) := by decide +kernel
theorem dX12_parade_179 : decode cX12_parade 179 = .ok (.if_icmp .ge 52, 3) := by decide +kernel
theorem dX12_parade_182 : decode cX12_parade 182 = .ok (.aload_n 0, 1) := by decide +kernel
theorem dX12_parade_183 : decode cX12_parade 183 = .ok (.iload 4, 2) := by decide +kernel
theorem dX12_parade_185 : decode cX12_parade 185 = .ok (.iload 7, 2) := by decide +kernel
theorem dX12_parade_187 : decode cX12_parade 187 = .ok (.iload_n 2, 1) := by decide +kernel
theorem dX12_parade_188 : decode cX12_parade 188 = .ok (.invokevirtual 367, 3) := by decide +kernel
theorem dX12_parade_191 : decode cX12_parade 191 = .ok (.istore 8, 2) := by decide +kernel
theorem dX12_parade_193 : decode cX12_parade 193 = .ok (.iload 8, 2) := by decide +kernel
theorem dX12_parade_195 : decode cX12_parade 195 = .ok (.iload 6, 2) := by decide +kernel
theorem dX12_parade_197 : decode cX12_parade 197 = .ok (.if_icmp .le 8, 3) := by decide +kernel
theorem dX12_parade_200 : decode cX12_parade 200 = .ok (.iload 7, 2) := by decide +kernel
theorem dX12_parade_202 : decode cX12_parade 202 = .ok (.goto 5, 3) := by decide +kernel
theorem dX12_parade_205 : decode cX12_parade 205 = .ok (.iload 5, 2) := by decide +kernel
theorem dX12_parade_207 : decode cX12_parade 207 = .ok (.istore 5, 2) := by decide +kernel
theorem dX12_parade_209 : decode cX12_parade 209 = .ok (.iload 8, 2) := by decide +kernel
theorem dX12_parade_211 : decode cX12_parade 211 = .ok (.iload 6, 2) := by decide +kernel
theorem dX12_parade_213 : decode cX12_parade 213 = .ok (.if_icmp .le 8, 3) := by decide +kernel
theorem dX12_parade_216 : decode cX12_parade 216 = .ok (.iload 8, 2) := by decide +kernel
theorem dX12_parade_218 : decode cX12_parade 218 = .ok (.goto 5, 3) := by decide +kernel
theorem dX12_parade_221 : decode cX12_parade 221 = .ok (.iload 6, 2) := by decide +kernel
theorem dX12_parade_223 : decode cX12_parade 223 = .ok (.istore 6, 2) := by decide +kernel
theorem dX12_parade_225 : decode cX12_parade 225 = .ok (.iinc 7 1, 3) := by decide +kernel
theorem dX12_parade_228 : decode cX12_parade 228 = .ok (.goto (-53), 3) := by decide +kernel
theorem dX12_parade_231 : decode cX12_parade 231 = .ok (.iload_n 3, 1) := by decide +kernel
theorem dX12_parade_232 : decode cX12_parade 232 = .ok (.ifCond .ne 6, 3) := by decide +kernel
theorem dX12_parade_235 : decode cX12_parade 235 = .ok (.iload 6, 2) := by decide +kernel
theorem dX12_parade_237 : decode cX12_parade 237 = .ok (.ireturn, 1) := by decide +kernel
theorem dX12_parade_238 : decode cX12_parade 238 = .ok (.iload_n 3, 1) := by decide +kernel
theorem dX12_parade_239 : decode cX12_parade 239 = .ok (.iconst 1, 1) := by decide +kernel
theorem dX12_parade_240 : decode cX12_parade 240 = .ok (.if_icmp .ne 16, 3) := by decide +kernel
theorem dX12_parade_243 : decode cX12_parade 243 = .ok (.iload 6, 2) := by decide +kernel
theorem dX12_parade_245 : decode cX12_parade 245 = .ok (.ifCond .ne 8, 3) := by decide +kernel
theorem dX12_parade_248 : decode cX12_parade 248 = .ok (.bipush (-4), 2) := by decide +kernel
theorem dX12_parade_250 : decode cX12_parade 250 = .ok (.goto 5, 3) := by decide +kernel
theorem dX12_parade_253 : decode cX12_parade 253 = .ok (.iload 5, 2) := by decide +kernel
theorem dX12_parade_255 : decode cX12_parade 255 = .ok (.ireturn, 1) := by decide +kernel
theorem dX12_parade_256 : decode cX12_parade 256 = .ok (.aload_n 0, 1) := by decide +kernel
theorem dX12_parade_257 : decode cX12_parade 257 = .ok (.iload 5, 2) := by decide +kernel
theorem dX12_parade_259 : decode cX12_parade 259 = .ok (.iload_n 2, 1) := by decide +kernel
theorem dX12_parade_260 : decode cX12_parade 260 = .ok (.iload 6, 2) := by decide +kernel
theorem dX12_parade_262 : decode cX12_parade 262 = .ok (.invokevirtual 370, 3) := by decide +kernel
theorem dX12_parade_265 : decode cX12_parade 265 = .ok (.aload_n 0, 1) := by decide +kernel
theorem dX12_parade_266 : decode cX12_parade 266 = .ok (.getfield 143, 3) := by decide +kernel
theorem dX12_parade_269 : decode cX12_parade 269 = .ok (.iload_n 3, 1) := by decide +kernel
theorem dX12_parade_270 : decode cX12_parade 270 = .ok (.bipush 10, 2) := by decide +kernel
theorem dX12_parade_272 : decode cX12_parade 272 = .ok (.isub, 1) := by decide +kernel
theorem dX12_parade_273 : decode cX12_parade 273 = .ok (.iaload, 1) := by decide +kernel
theorem dX12_parade_274 : decode cX12_parade 274 = .ok (.ireturn, 1) := by decide +kernel
theorem dX12_areDigits_0 : decode cX12_areDigits 0 = .ok (.iload_n 1, 1) := by decide +kernel
theorem dX12_areDigits_1 : decode cX12_areDigits 1 = .ok (.ifCond .lt 21, 3) := by decide +kernel
theorem dX12_areDigits_4 : decode cX12_areDigits 4 = .ok (.iload_n 1, 1) := by decide +kernel
theorem dX12_areDigits_5 : decode cX12_areDigits 5 = .ok (.i2l, 1) := by decide +kernel
theorem dX12_areDigits_6 : decode cX12_areDigits 6 = .ok (.lconst 1, 1) := by decide +kernel
theorem dX12_areDigits_7 : decode cX12_areDigits 7 = .ok (.iconst 4, 1) := by decide +kernel
theorem dX12_areDigits_8 : decode cX12_areDigits 8 = .ok (.aload_n 0, 1) := by decide +kernel
theorem dX12_areDigits_9 : decode cX12_areDigits 9 = .ok (.getfield 328, 3) := by decide +kernel
theorem dX12_areDigits_12 : decode cX12_areDigits 12 = .ok (.imul, 1) := by decide +kernel
theorem dX12_areDigits_13 : decode cX12_areDigits 13 = .ok (.lshl, 1) := by decide +kernel
theorem dX12_areDigits_14 : decode cX12_areDigits 14 = .ok (.lcmp, 1) := by decide +kernel
theorem dX12_areDigits_15 : decode cX12_areDigits 15 = .ok (.ifCond .ge 7, 3) := by decide +kernel
theorem dX12_areDigits_18 : decode cX12_areDigits 18 = .ok (.iconst 1, 1) := by decide +kernel
theorem dX12_areDigits_19 : decode cX12_areDigits 19 = .ok (.goto 4, 3) := by decide +kernel
theorem dX12_areDigits_22 : decode cX12_areDigits 22 = .ok (.iconst 0, 1) := by decide +kernel
theorem dX12_areDigits_23 : decode cX12_areDigits 23 = .ok (.ireturn, 1) := by decide +kernel
theorem dX12_layMore_0 : decode cX12_layMore 0 = .ok (.iconst 0, 1) := by decide +kernel
theorem dX12_layMore_1 : decode cX12_layMore 1 = .ok (.istore_n 3, 1) := by decide +kernel
theorem dX12_layMore_2 : decode cX12_layMore 2 = .ok (.iconst 0, 1) := by decide +kernel
theorem dX12_layMore_3 : decode cX12_layMore 3 = .ok (.istore 4, 2) := by decide +kernel
theorem dX12_layMore_5 : decode cX12_layMore 5 = .ok (.iload 4, 2) := by decide +kernel
theorem dX12_layMore_7 : decode cX12_layMore 7 = .ok (.aload_n 0, 1) := by decide +kernel
theorem dX12_layMore_8 : decode cX12_layMore 8 = .ok (.getfield 328, 3) := by decide +kernel
theorem dX12_layMore_11 : decode cX12_layMore 11 = .ok (.if_icmp .ge 43, 3) := by decide +kernel
theorem dX12_layMore_14 : decode cX12_layMore 14 = .ok (.aload_n 0, 1) := by decide +kernel
theorem dX12_layMore_15 : decode cX12_layMore 15 = .ok (.getfield 161, 3) := by decide +kernel
theorem dX12_layMore_18 : decode cX12_layMore 18 = .ok (.iload 4, 2) := by decide +kernel
theorem dX12_layMore_20 : decode cX12_layMore 20 = .ok (.aload_n 0, 1) := by decide +kernel
theorem dX12_layMore_21 : decode cX12_layMore 21 = .ok (.iload 4, 2) := by decide +kernel
theorem dX12_layMore_23 : decode cX12_layMore 23 = .ok (.iload_n 1, 1) := by decide +kernel
theorem dX12_layMore_24 : decode cX12_layMore 24 = .ok (.invokevirtual 354, 3) := by decide +kernel
theorem dX12_layMore_27 : decode cX12_layMore 27 = .ok (.iload_n 2, 1) := by decide +kernel
theorem dX12_layMore_28 : decode cX12_layMore 28 = .ok (.iconst 4, 1) := by decide +kernel
theorem dX12_layMore_29 : decode cX12_layMore 29 = .ok (.iload 4, 2) := by decide +kernel
theorem dX12_layMore_31 : decode cX12_layMore 31 = .ok (.imul, 1) := by decide +kernel
theorem dX12_layMore_32 : decode cX12_layMore 32 = .ok (.ishr, 1) := by decide +kernel
theorem dX12_layMore_33 : decode cX12_layMore 33 = .ok (.bipush 15, 2) := by decide +kernel
theorem dX12_layMore_35 : decode cX12_layMore 35 = .ok (.iand, 1) := by decide +kernel
theorem dX12_layMore_36 : decode cX12_layMore 36 = .ok (.isub, 1) := by decide +kernel
theorem dX12_layMore_37 : decode cX12_layMore 37 = .ok (.iastore, 1) := by decide +kernel
theorem dX12_layMore_38 : decode cX12_layMore 38 = .ok (.iload_n 3, 1) := by decide +kernel
theorem dX12_layMore_39 : decode cX12_layMore 39 = .ok (.aload_n 0, 1) := by decide +kernel
theorem dX12_layMore_40 : decode cX12_layMore 40 = .ok (.getfield 161, 3) := by decide +kernel
theorem dX12_layMore_43 : decode cX12_layMore 43 = .ok (.iload 4, 2) := by decide +kernel
theorem dX12_layMore_45 : decode cX12_layMore 45 = .ok (.iaload, 1) := by decide +kernel
theorem dX12_layMore_46 : decode cX12_layMore 46 = .ok (.iadd, 1) := by decide +kernel
theorem dX12_layMore_47 : decode cX12_layMore 47 = .ok (.istore_n 3, 1) := by decide +kernel
theorem dX12_layMore_48 : decode cX12_layMore 48 = .ok (.iinc 4 1, 3) := by decide +kernel
theorem dX12_layMore_51 : decode cX12_layMore 51 = .ok (.goto (-46), 3) := by decide +kernel
theorem dX12_layMore_54 : decode cX12_layMore 54 = .ok (.iload_n 3, 1) := by decide +kernel
theorem dX12_layMore_55 : decode cX12_layMore 55 = .ok (.ifCond .lt 7, 3) := by decide +kernel
theorem dX12_layMore_58 : decode cX12_layMore 58 = .ok (.iconst 1, 1) := by decide +kernel
theorem dX12_layMore_59 : decode cX12_layMore 59 = .ok (.goto 4, 3) := by decide +kernel
theorem dX12_layMore_62 : decode cX12_layMore 62 = .ok (.iconst 0, 1) := by decide +kernel
theorem dX12_layMore_63 : decode cX12_layMore 63 = .ok (.ireturn, 1) := by decide +kernel
theorem dX12_layPairs_0 : decode cX12_layPairs 0 = .ok (.aload_n 0, 1) := by decide +kernel
theorem dX12_layPairs_1 : decode cX12_layPairs 1 = .ok (.iconst 0, 1) := by decide +kernel
theorem dX12_layPairs_2 : decode cX12_layPairs 2 = .ok (.putfield 374, 3) := by decide +kernel
theorem dX12_layPairs_5 : decode cX12_layPairs 5 = .ok (.iconst 0, 1) := by decide +kernel
theorem dX12_layPairs_6 : decode cX12_layPairs 6 = .ok (.istore_n 1, 1) := by decide +kernel
theorem dX12_layPairs_7 : decode cX12_layPairs 7 = .ok (.iload_n 1, 1) := by decide +kernel
theorem dX12_layPairs_8 : decode cX12_layPairs 8 = .ok (.aload_n 0, 1) := by decide +kernel
theorem dX12_layPairs_9 : decode cX12_layPairs 9 = .ok (.getfield 328, 3) := by decide +kernel
theorem dX12_layPairs_12 : decode cX12_layPairs 12 = .ok (.if_icmp .ge 124, 3) := by decide +kernel
theorem dX12_layPairs_15 : decode cX12_layPairs 15 = .ok (.iconst 0, 1) := by decide +kernel
theorem dX12_layPairs_16 : decode cX12_layPairs 16 = .ok (.istore_n 2, 1) := by decide +kernel
theorem dX12_layPairs_17 : decode cX12_layPairs 17 = .ok (.iload_n 2, 1) := by decide +kernel
theorem dX12_layPairs_18 : decode cX12_layPairs 18 = .ok (.aload_n 0, 1) := by decide +kernel
theorem dX12_layPairs_19 : decode cX12_layPairs 19 = .ok (.getfield 328, 3) := by decide +kernel
theorem dX12_layPairs_22 : decode cX12_layPairs 22 = .ok (.if_icmp .ge 108, 3) := by decide +kernel
theorem dX12_layPairs_25 : decode cX12_layPairs 25 = .ok (.aload_n 0, 1) := by decide +kernel
theorem dX12_layPairs_26 : decode cX12_layPairs 26 = .ok (.getfield 161, 3) := by decide +kernel
theorem dX12_layPairs_29 : decode cX12_layPairs 29 = .ok (.iload_n 1, 1) := by decide +kernel
theorem dX12_layPairs_30 : decode cX12_layPairs 30 = .ok (.iaload, 1) := by decide +kernel
theorem dX12_layPairs_31 : decode cX12_layPairs 31 = .ok (.ifCond .le 93, 3) := by decide +kernel
theorem dX12_layPairs_34 : decode cX12_layPairs 34 = .ok (.aload_n 0, 1) := by decide +kernel
theorem dX12_layPairs_35 : decode cX12_layPairs 35 = .ok (.getfield 161, 3) := by decide +kernel
theorem dX12_layPairs_38 : decode cX12_layPairs 38 = .ok (.iload_n 2, 1) := by decide +kernel
theorem dX12_layPairs_39 : decode cX12_layPairs 39 = .ok (.iaload, 1) := by decide +kernel
theorem dX12_layPairs_40 : decode cX12_layPairs 40 = .ok (.ifCond .ge 84, 3) := by decide +kernel
theorem dX12_layPairs_43 : decode cX12_layPairs 43 = .ok (.aload_n 0, 1) := by decide +kernel
theorem dX12_layPairs_44 : decode cX12_layPairs 44 = .ok (.getfield 146, 3) := by decide +kernel
theorem dX12_layPairs_47 : decode cX12_layPairs 47 = .ok (.aload_n 0, 1) := by decide +kernel
theorem dX12_layPairs_48 : decode cX12_layPairs 48 = .ok (.getfield 374, 3) := by decide +kernel
theorem dX12_layPairs_51 : decode cX12_layPairs 51 = .ok (.iload_n 1, 1) := by decide +kernel
theorem dX12_layPairs_52 : decode cX12_layPairs 52 = .ok (.iastore, 1) := by decide +kernel
theorem dX12_layPairs_53 : decode cX12_layPairs 53 = .ok (.aload_n 0, 1) := by decide +kernel
theorem dX12_layPairs_54 : decode cX12_layPairs 54 = .ok (.getfield 149, 3) := by decide +kernel
theorem dX12_layPairs_57 : decode cX12_layPairs 57 = .ok (.aload_n 0, 1) := by decide +kernel
theorem dX12_layPairs_58 : decode cX12_layPairs 58 = .ok (.getfield 374, 3) := by decide +kernel
theorem dX12_layPairs_61 : decode cX12_layPairs 61 = .ok (.iload_n 2, 1) := by decide +kernel
theorem dX12_layPairs_62 : decode cX12_layPairs 62 = .ok (.iastore, 1) := by decide +kernel
theorem dX12_layPairs_63 : decode cX12_layPairs 63 = .ok (.aload_n 0, 1) := by decide +kernel
theorem dX12_layPairs_64 : decode cX12_layPairs 64 = .ok (.getfield 152, 3) := by decide +kernel
theorem dX12_layPairs_67 : decode cX12_layPairs 67 = .ok (.aload_n 0, 1) := by decide +kernel
theorem dX12_layPairs_68 : decode cX12_layPairs 68 = .ok (.getfield 374, 3) := by decide +kernel
theorem dX12_layPairs_71 : decode cX12_layPairs 71 = .ok (.aload_n 0, 1) := by decide +kernel
theorem dX12_layPairs_72 : decode cX12_layPairs 72 = .ok (.getfield 161, 3) := by decide +kernel
theorem dX12_layPairs_75 : decode cX12_layPairs 75 = .ok (.iload_n 1, 1) := by decide +kernel
theorem dX12_layPairs_76 : decode cX12_layPairs 76 = .ok (.iaload, 1) := by decide +kernel
theorem dX12_layPairs_77 : decode cX12_layPairs 77 = .ok (.aload_n 0, 1) := by decide +kernel
theorem dX12_layPairs_78 : decode cX12_layPairs 78 = .ok (.getfield 161, 3) := by decide +kernel
theorem dX12_layPairs_81 : decode cX12_layPairs 81 = .ok (.iload_n 2, 1) := by decide +kernel
theorem dX12_layPairs_82 : decode cX12_layPairs 82 = .ok (.iaload, 1) := by decide +kernel
theorem dX12_layPairs_83 : decode cX12_layPairs 83 = .ok (.ineg, 1) := by decide +kernel
theorem dX12_layPairs_84 : decode cX12_layPairs 84 = .ok (.if_icmp .ge 12, 3) := by decide +kernel
theorem dX12_layPairs_87 : decode cX12_layPairs 87 = .ok (.aload_n 0, 1) := by decide +kernel
theorem dX12_layPairs_88 : decode cX12_layPairs 88 = .ok (.getfield 161, 3) := by decide +kernel
theorem dX12_layPairs_91 : decode cX12_layPairs 91 = .ok (.iload_n 1, 1) := by decide +kernel
theorem dX12_layPairs_92 : decode cX12_layPairs 92 = .ok (.iaload, 1) := by decide +kernel
theorem dX12_layPairs_93 : decode cX12_layPairs 93 = .ok (.goto 10, 3) := by decide +kernel
theorem dX12_layPairs_96 : decode cX12_layPairs 96 = .ok (.aload_n 0, 1) := by decide +kernel
theorem dX12_layPairs_97 : decode cX12_layPairs 97 = .ok (.getfield 161, 3) := by decide +kernel
theorem dX12_layPairs_100 : decode cX12_layPairs 100 = .ok (.iload_n 2, 1) := by decide +kernel
theorem dX12_layPairs_101 : decode cX12_layPairs 101 = .ok (.iaload, 1) := by decide +kernel
theorem dX12_layPairs_102 : decode cX12_layPairs 102 = .ok (.ineg, 1) := by decide +kernel
theorem dX12_layPairs_103 : decode cX12_layPairs 103 = .ok (.iastore, 1) := by decide +kernel
theorem dX12_layPairs_104 : decode cX12_layPairs 104 = .ok (.aload_n 0, 1) := by decide +kernel
theorem dX12_layPairs_105 : decode cX12_layPairs 105 = .ok (.getfield 155, 3) := by decide +kernel
theorem dX12_layPairs_108 : decode cX12_layPairs 108 = .ok (.aload_n 0, 1) := by decide +kernel
theorem dX12_layPairs_109 : decode cX12_layPairs 109 = .ok (.getfield 374, 3) := by decide +kernel
theorem dX12_layPairs_112 : decode cX12_layPairs 112 = .ok (.iconst 0, 1) := by decide +kernel
theorem dX12_layPairs_113 : decode cX12_layPairs 113 = .ok (.iastore, 1) := by decide +kernel
theorem dX12_layPairs_114 : decode cX12_layPairs 114 = .ok (.aload_n 0, 1) := by decide +kernel
theorem dX12_layPairs_115 : decode cX12_layPairs 115 = .ok (.dup, 1) := by decide +kernel
theorem dX12_layPairs_116 : decode cX12_layPairs 116 = .ok (.getfield 374, 3) := by decide +kernel
theorem dX12_layPairs_119 : decode cX12_layPairs 119 = .ok (.iconst 1, 1) := by decide +kernel
theorem dX12_layPairs_120 : decode cX12_layPairs 120 = .ok (.iadd, 1) := by decide +kernel
theorem dX12_layPairs_121 : decode cX12_layPairs 121 = .ok (.putfield 374, 3) := by decide +kernel
theorem dX12_layPairs_124 : decode cX12_layPairs 124 = .ok (.iinc 2 1, 3) := by decide +kernel
theorem dX12_layPairs_127 : decode cX12_layPairs 127 = .ok (.goto (-110), 3) := by decide +kernel
theorem dX12_layPairs_130 : decode cX12_layPairs 130 = .ok (.iinc 1 1, 3) := by decide +kernel
theorem dX12_layPairs_133 : decode cX12_layPairs 133 = .ok (.goto (-126), 3) := by decide +kernel
theorem dX12_layPairs_136 : decode cX12_layPairs 136 = .ok (.return_, 1) := by decide +kernel
theorem dX12_costNow_0 : decode cX12_costNow 0 = .ok (.iconst 0, 1) := by decide +kernel
theorem dX12_costNow_1 : decode cX12_costNow 1 = .ok (.istore_n 1, 1) := by decide +kernel
theorem dX12_costNow_2 : decode cX12_costNow 2 = .ok (.iconst 0, 1) := by decide +kernel
theorem dX12_costNow_3 : decode cX12_costNow 3 = .ok (.istore_n 2, 1) := by decide +kernel
theorem dX12_costNow_4 : decode cX12_costNow 4 = .ok (.iload_n 2, 1) := by decide +kernel
theorem dX12_costNow_5 : decode cX12_costNow 5 = .ok (.aload_n 0, 1) := by decide +kernel
theorem dX12_costNow_6 : decode cX12_costNow 6 = .ok (.getfield 328, 3) := by decide +kernel
theorem dX12_costNow_9 : decode cX12_costNow 9 = .ok (.if_icmp .ge 113, 3) := by decide +kernel
theorem dX12_costNow_12 : decode cX12_costNow 12 = .ok (.iconst 0, 1) := by decide +kernel
theorem dX12_costNow_13 : decode cX12_costNow 13 = .ok (.istore_n 3, 1) := by decide +kernel
theorem dX12_costNow_14 : decode cX12_costNow 14 = .ok (.iconst 0, 1) := by decide +kernel
theorem dX12_costNow_15 : decode cX12_costNow 15 = .ok (.istore 4, 2) := by decide +kernel
theorem dX12_costNow_17 : decode cX12_costNow 17 = .ok (.iload 4, 2) := by decide +kernel
theorem dX12_costNow_19 : decode cX12_costNow 19 = .ok (.aload_n 0, 1) := by decide +kernel
theorem dX12_costNow_20 : decode cX12_costNow 20 = .ok (.getfield 374, 3) := by decide +kernel
theorem dX12_costNow_23 : decode cX12_costNow 23 = .ok (.if_icmp .ge 45, 3) := by decide +kernel
theorem dX12_costNow_26 : decode cX12_costNow 26 = .ok (.iload_n 3, 1) := by decide +kernel
theorem dX12_costNow_27 : decode cX12_costNow 27 = .ok (.aload_n 0, 1) := by decide +kernel
theorem dX12_costNow_28 : decode cX12_costNow 28 = .ok (.getfield 146, 3) := by decide +kernel
theorem dX12_costNow_31 : decode cX12_costNow 31 = .ok (.iload 4, 2) := by decide +kernel
theorem dX12_costNow_33 : decode cX12_costNow 33 = .ok (.iaload, 1) := by decide +kernel
theorem dX12_costNow_34 : decode cX12_costNow 34 = .ok (.iload_n 2, 1) := by decide +kernel
theorem dX12_costNow_35 : decode cX12_costNow 35 = .ok (.if_icmp .eq 14, 3) := by decide +kernel
theorem dX12_costNow_38 : decode cX12_costNow 38 = .ok (.aload_n 0, 1) := by decide +kernel
theorem dX12_costNow_39 : decode cX12_costNow 39 = .ok (.getfield 149, 3) := by decide +kernel
theorem dX12_costNow_42 : decode cX12_costNow 42 = .ok (.iload 4, 2) := by decide +kernel
theorem dX12_costNow_44 : decode cX12_costNow 44 = .ok (.iaload, 1) := by decide +kernel
theorem dX12_costNow_45 : decode cX12_costNow 45 = .ok (.iload_n 2, 1) := by decide +kernel
theorem dX12_costNow_46 : decode cX12_costNow 46 = .ok (.if_icmp .ne 13, 3) := by decide +kernel
theorem dX12_costNow_49 : decode cX12_costNow 49 = .ok (.aload_n 0, 1) := by decide +kernel
theorem dX12_costNow_50 : decode cX12_costNow 50 = .ok (.getfield 155, 3) := by decide +kernel
theorem dX12_costNow_53 : decode cX12_costNow 53 = .ok (.iload 4, 2) := by decide +kernel
theorem dX12_costNow_55 : decode cX12_costNow 55 = .ok (.iaload, 1) := by decide +kernel
theorem dX12_costNow_56 : decode cX12_costNow 56 = .ok (.goto 4, 3) := by decide +kernel
theorem dX12_costNow_59 : decode cX12_costNow 59 = .ok (.iconst 0, 1) := by decide +kernel
theorem dX12_costNow_60 : decode cX12_costNow 60 = .ok (.iadd, 1) := by decide +kernel
theorem dX12_costNow_61 : decode cX12_costNow 61 = .ok (.istore_n 3, 1) := by decide +kernel
theorem dX12_costNow_62 : decode cX12_costNow 62 = .ok (.iinc 4 1, 3) := by decide +kernel
theorem dX12_costNow_65 : decode cX12_costNow 65 = .ok (.goto (-48), 3) := by decide +kernel
theorem dX12_costNow_68 : decode cX12_costNow 68 = .ok (.aload_n 0, 1) := by decide +kernel
theorem dX12_costNow_69 : decode cX12_costNow 69 = .ok (.getfield 161, 3) := by decide +kernel
theorem dX12_costNow_72 : decode cX12_costNow 72 = .ok (.iload_n 2, 1) := by decide +kernel
theorem dX12_costNow_73 : decode cX12_costNow 73 = .ok (.iaload, 1) := by decide +kernel
theorem dX12_costNow_74 : decode cX12_costNow 74 = .ok (.ifCond .ge 17, 3) := by decide +kernel
theorem dX12_costNow_77 : decode cX12_costNow 77 = .ok (.iload_n 3, 1) := by decide +kernel
theorem dX12_costNow_78 : decode cX12_costNow 78 = .ok (.aload_n 0, 1) := by decide +kernel
theorem dX12_costNow_79 : decode cX12_costNow 79 = .ok (.getfield 161, 3) := by decide +kernel
theorem dX12_costNow_82 : decode cX12_costNow 82 = .ok (.iload_n 2, 1) := by decide +kernel
theorem dX12_costNow_83 : decode cX12_costNow 83 = .ok (.iaload, 1) := by decide +kernel
theorem dX12_costNow_84 : decode cX12_costNow 84 = .ok (.ineg, 1) := by decide +kernel
theorem dX12_costNow_85 : decode cX12_costNow 85 = .ok (.if_icmp .eq 31, 3) := by decide +kernel
theorem dX12_costNow_88 : decode cX12_costNow 88 = .ok (.goto 26, 3) := by decide +kernel
theorem dX12_costNow_91 : decode cX12_costNow 91 = .ok (.iload_n 3, 1) := by decide +kernel
theorem dX12_costNow_92 : decode cX12_costNow 92 = .ok (.aload_n 0, 1) := by decide +kernel
theorem dX12_costNow_93 : decode cX12_costNow 93 = .ok (.getfield 161, 3) := by decide +kernel
theorem dX12_costNow_96 : decode cX12_costNow 96 = .ok (.iload_n 2, 1) := by decide +kernel
theorem dX12_costNow_97 : decode cX12_costNow 97 = .ok (.iaload, 1) := by decide +kernel
theorem dX12_costNow_98 : decode cX12_costNow 98 = .ok (.ifCond .le 12, 3) := by decide +kernel
theorem dX12_costNow_101 : decode cX12_costNow 101 = .ok (.aload_n 0, 1) := by decide +kernel
theorem dX12_costNow_102 : decode cX12_costNow 102 = .ok (.getfield 161, 3) := by decide +kernel
theorem dX12_costNow_105 : decode cX12_costNow 105 = .ok (.iload_n 2, 1) := by decide +kernel
theorem dX12_costNow_106 : decode cX12_costNow 106 = .ok (.iaload, 1) := by decide +kernel
theorem dX12_costNow_107 : decode cX12_costNow 107 = .ok (.goto 4, 3) := by decide +kernel
theorem dX12_costNow_110 : decode cX12_costNow 110 = .ok (.iconst 0, 1) := by decide +kernel
theorem dX12_costNow_111 : decode cX12_costNow 111 = .ok (.if_icmp .le 5, 3) := by decide +kernel
theorem dX12_costNow_114 : decode cX12_costNow 114 = .ok (.iconst (-1), 1) := by decide +kernel
theorem dX12_costNow_115 : decode cX12_costNow 115 = .ok (.ireturn, 1) := by decide +kernel
theorem dX12_costNow_116 : decode cX12_costNow 116 = .ok (.iinc 2 1, 3) := by decide +kernel
theorem dX12_costNow_119 : decode cX12_costNow 119 = .ok (.goto (-115), 3) := by decide +kernel
theorem dX12_costNow_122 : decode cX12_costNow 122 = .ok (.iconst 0, 1) := by decide +kernel
theorem dX12_costNow_123 : decode cX12_costNow 123 = .ok (.istore_n 2, 1) := by decide +kernel
theorem dX12_costNow_124 : decode cX12_costNow 124 = .ok (.iload_n 2, 1) := by decide +kernel
theorem dX12_costNow_125 : decode cX12_costNow 125 = .ok (.aload_n 0, 1) := by decide +kernel
theorem dX12_costNow_126 : decode cX12_costNow 126 = .ok (.getfield 374, 3) := by decide +kernel
theorem dX12_costNow_129 : decode cX12_costNow 129 = .ok (.if_icmp .ge 39, 3) := by decide +kernel
theorem dX12_costNow_132 : decode cX12_costNow 132 = .ok (.iload_n 1, 1) := by decide +kernel
theorem dX12_costNow_133 : decode cX12_costNow 133 = .ok (.aload_n 0, 1) := by decide +kernel
theorem dX12_costNow_134 : decode cX12_costNow 134 = .ok (.getfield 155, 3) := by decide +kernel
theorem dX12_costNow_137 : decode cX12_costNow 137 = .ok (.iload_n 2, 1) := by decide +kernel
theorem dX12_costNow_138 : decode cX12_costNow 138 = .ok (.iaload, 1) := by decide +kernel
theorem dX12_costNow_139 : decode cX12_costNow 139 = .ok (.aload_n 0, 1) := by decide +kernel
theorem dX12_costNow_140 : decode cX12_costNow 140 = .ok (.getfield 91, 3) := by decide +kernel
theorem dX12_costNow_143 : decode cX12_costNow 143 = .ok (.iconst 4, 1) := by decide +kernel
theorem dX12_costNow_144 : decode cX12_costNow 144 = .ok (.aload_n 0, 1) := by decide +kernel
theorem dX12_costNow_145 : decode cX12_costNow 145 = .ok (.getfield 146, 3) := by decide +kernel
theorem dX12_costNow_148 : decode cX12_costNow 148 = .ok (.iload_n 2, 1) := by decide +kernel
theorem dX12_costNow_149 : decode cX12_costNow 149 = .ok (.iaload, 1) := by decide +kernel
theorem dX12_costNow_150 : decode cX12_costNow 150 = .ok (.imul, 1) := by decide +kernel
theorem dX12_costNow_151 : decode cX12_costNow 151 = .ok (.aload_n 0, 1) := by decide +kernel
theorem dX12_costNow_152 : decode cX12_costNow 152 = .ok (.getfield 149, 3) := by decide +kernel
theorem dX12_costNow_155 : decode cX12_costNow 155 = .ok (.iload_n 2, 1) := by decide +kernel
theorem dX12_costNow_156 : decode cX12_costNow 156 = .ok (.iaload, 1) := by decide +kernel
theorem dX12_costNow_157 : decode cX12_costNow 157 = .ok (.iadd, 1) := by decide +kernel
theorem dX12_costNow_158 : decode cX12_costNow 158 = .ok (.iaload, 1) := by decide +kernel
theorem dX12_costNow_159 : decode cX12_costNow 159 = .ok (.imul, 1) := by decide +kernel
theorem dX12_costNow_160 : decode cX12_costNow 160 = .ok (.iadd, 1) := by decide +kernel
theorem dX12_costNow_161 : decode cX12_costNow 161 = .ok (.istore_n 1, 1) := by decide +kernel
theorem dX12_costNow_162 : decode cX12_costNow 162 = .ok (.iinc 2 1, 3) := by decide +kernel
theorem dX12_costNow_165 : decode cX12_costNow 165 = .ok (.goto (-41), 3) := by decide +kernel
theorem dX12_costNow_168 : decode cX12_costNow 168 = .ok (.iload_n 1, 1) := by decide +kernel
theorem dX12_costNow_169 : decode cX12_costNow 169 = .ok (.ireturn, 1) := by decide +kernel
theorem dX12_leastCost_0 : decode cX12_leastCost 0 = .ok (.aload_n 0, 1) := by decide +kernel
theorem dX12_leastCost_1 : decode cX12_leastCost 1 = .ok (.invokevirtual 377, 3) := by decide +kernel
theorem dX12_leastCost_4 : decode cX12_leastCost 4 = .ok (.iconst (-1), 1) := by decide +kernel
theorem dX12_leastCost_5 : decode cX12_leastCost 5 = .ok (.istore_n 1, 1) := by decide +kernel
theorem dX12_leastCost_6 : decode cX12_leastCost 6 = .ok (.iconst 1, 1) := by decide +kernel
theorem dX12_leastCost_7 : decode cX12_leastCost 7 = .ok (.istore_n 2, 1) := by decide +kernel
theorem dX12_leastCost_8 : decode cX12_leastCost 8 = .ok (.iload_n 2, 1) := by decide +kernel
theorem dX12_leastCost_9 : decode cX12_leastCost 9 = .ok (.ifCond .eq 128, 3) := by decide +kernel
theorem dX12_leastCost_12 : decode cX12_leastCost 12 = .ok (.aload_n 0, 1) := by decide +kernel
theorem dX12_leastCost_13 : decode cX12_leastCost 13 = .ok (.invokevirtual 380, 3) := by decide +kernel
theorem dX12_leastCost_16 : decode cX12_leastCost 16 = .ok (.istore_n 3, 1) := by decide +kernel
theorem dX12_leastCost_17 : decode cX12_leastCost 17 = .ok (.iload_n 3, 1) := by decide +kernel
theorem dX12_leastCost_18 : decode cX12_leastCost 18 = .ok (.ifCond .lt 46, 3) := by decide +kernel
theorem dX12_leastCost_21 : decode cX12_leastCost 21 = .ok (.iload_n 1, 1) := by decide +kernel
theorem dX12_leastCost_22 : decode cX12_leastCost 22 = .ok (.ifCond .lt 8, 3) := by decide +kernel
theorem dX12_leastCost_25 : decode cX12_leastCost 25 = .ok (.iload_n 3, 1) := by decide +kernel
theorem dX12_leastCost_26 : decode cX12_leastCost 26 = .ok (.iload_n 1, 1) := by decide +kernel
theorem dX12_leastCost_27 : decode cX12_leastCost 27 = .ok (.if_icmp .ge 37, 3) := by decide +kernel
theorem dX12_leastCost_30 : decode cX12_leastCost 30 = .ok (.iload_n 3, 1) := by decide +kernel
theorem dX12_leastCost_31 : decode cX12_leastCost 31 = .ok (.istore_n 1, 1) := by decide +kernel
theorem dX12_leastCost_32 : decode cX12_leastCost 32 = .ok (.iconst 0, 1) := by decide +kernel
theorem dX12_leastCost_33 : decode cX12_leastCost 33 = .ok (.istore 4, 2) := by decide +kernel
theorem dX12_leastCost_35 : decode cX12_leastCost 35 = .ok (.iload 4, 2) := by decide +kernel
theorem dX12_leastCost_37 : decode cX12_leastCost 37 = .ok (.aload_n 0, 1) := by decide +kernel
theorem dX12_leastCost_38 : decode cX12_leastCost 38 = .ok (.getfield 374, 3) := by decide +kernel
theorem dX12_leastCost_41 : decode cX12_leastCost 41 = .ok (.if_icmp .ge 23, 3) := by decide +kernel
theorem dX12_leastCost_44 : decode cX12_leastCost 44 = .ok (.aload_n 0, 1) := by decide +kernel
theorem dX12_leastCost_45 : decode cX12_leastCost 45 = .ok (.getfield 158, 3) := by decide +kernel
theorem dX12_leastCost_48 : decode cX12_leastCost 48 = .ok (.iload 4, 2) := by decide +kernel
theorem dX12_leastCost_50 : decode cX12_leastCost 50 = .ok (.aload_n 0, 1) := by decide +kernel
theorem dX12_leastCost_51 : decode cX12_leastCost 51 = .ok (.getfield 155, 3) := by decide +kernel
theorem dX12_leastCost_54 : decode cX12_leastCost 54 = .ok (.iload 4, 2) := by decide +kernel
theorem dX12_leastCost_56 : decode cX12_leastCost 56 = .ok (.iaload, 1) := by decide +kernel
theorem dX12_leastCost_57 : decode cX12_leastCost 57 = .ok (.iastore, 1) := by decide +kernel
theorem dX12_leastCost_58 : decode cX12_leastCost 58 = .ok (.iinc 4 1, 3) := by decide +kernel
theorem dX12_leastCost_61 : decode cX12_leastCost 61 = .ok (.goto (-26), 3) := by decide +kernel
theorem dX12_leastCost_64 : decode cX12_leastCost 64 = .ok (.aload_n 0, 1) := by decide +kernel
theorem dX12_leastCost_65 : decode cX12_leastCost 65 = .ok (.getfield 374, 3) := by decide +kernel
theorem dX12_leastCost_68 : decode cX12_leastCost 68 = .ok (.iconst 1, 1) := by decide +kernel
theorem dX12_leastCost_69 : decode cX12_leastCost 69 = .ok (.isub, 1) := by decide +kernel
theorem dX12_leastCost_70 : decode cX12_leastCost 70 = .ok (.istore 4, 2) := by decide +kernel
theorem dX12_leastCost_72 : decode cX12_leastCost 72 = .ok (.iload 4, 2) := by decide +kernel
theorem dX12_leastCost_74 : decode cX12_leastCost 74 = .ok (.ifCond .lt 34, 3) := by decide +kernel
theorem dX12_leastCost_77 : decode cX12_leastCost 77 = .ok (.aload_n 0, 1) := by decide +kernel
theorem dX12_leastCost_78 : decode cX12_leastCost 78 = .ok (.getfield 155, 3) := by decide +kernel
theorem dX12_leastCost_81 : decode cX12_leastCost 81 = .ok (.iload 4, 2) := by decide +kernel
theorem dX12_leastCost_83 : decode cX12_leastCost 83 = .ok (.iaload, 1) := by decide +kernel
theorem dX12_leastCost_84 : decode cX12_leastCost 84 = .ok (.aload_n 0, 1) := by decide +kernel
theorem dX12_leastCost_85 : decode cX12_leastCost 85 = .ok (.getfield 152, 3) := by decide +kernel
theorem dX12_leastCost_88 : decode cX12_leastCost 88 = .ok (.iload 4, 2) := by decide +kernel
theorem dX12_leastCost_90 : decode cX12_leastCost 90 = .ok (.iaload, 1) := by decide +kernel
theorem dX12_leastCost_91 : decode cX12_leastCost 91 = .ok (.if_icmp .ne 17, 3) := by decide +kernel
theorem dX12_leastCost_94 : decode cX12_leastCost 94 = .ok (.aload_n 0, 1) := by decide +kernel
theorem dX12_leastCost_95 : decode cX12_leastCost 95 = .ok (.getfield 155, 3) := by decide +kernel
theorem dX12_leastCost_98 : decode cX12_leastCost 98 = .ok (.iload 4, 2) := by decide +kernel
theorem dX12_leastCost_100 : decode cX12_leastCost 100 = .ok (.iconst 0, 1) := by decide +kernel
theorem dX12_leastCost_101 : decode cX12_leastCost 101 = .ok (.iastore, 1) := by decide +kernel
theorem dX12_leastCost_102 : decode cX12_leastCost 102 = .ok (.iinc 4 (-1), 3) := by decide +kernel
theorem dX12_leastCost_105 : decode cX12_leastCost 105 = .ok (.goto (-33), 3) := by decide +kernel
theorem dX12_leastCost_108 : decode cX12_leastCost 108 = .ok (.iload 4, 2) := by decide +kernel
theorem dX12_leastCost_110 : decode cX12_leastCost 110 = .ok (.ifCond .lt 7, 3) := by decide +kernel
theorem dX12_leastCost_113 : decode cX12_leastCost 113 = .ok (.iconst 1, 1) := by decide +kernel
theorem dX12_leastCost_114 : decode cX12_leastCost 114 = .ok (.goto 4, 3) := by decide +kernel
theorem dX12_leastCost_117 : decode cX12_leastCost 117 = .ok (.iconst 0, 1) := by decide +kernel
theorem dX12_leastCost_118 : decode cX12_leastCost 118 = .ok (.istore_n 2, 1) := by decide +kernel
theorem dX12_leastCost_119 : decode cX12_leastCost 119 = .ok (.iload_n 2, 1) := by decide +kernel
theorem dX12_leastCost_120 : decode cX12_leastCost 120 = .ok (.ifCond .eq 14, 3) := by decide +kernel
theorem dX12_leastCost_123 : decode cX12_leastCost 123 = .ok (.aload_n 0, 1) := by decide +kernel
theorem dX12_leastCost_124 : decode cX12_leastCost 124 = .ok (.getfield 155, 3) := by decide +kernel
theorem dX12_leastCost_127 : decode cX12_leastCost 127 = .ok (.iload 4, 2) := by decide +kernel
theorem dX12_leastCost_129 : decode cX12_leastCost 129 = .ok (.dup2, 1) := by decide +kernel
theorem dX12_leastCost_130 : decode cX12_leastCost 130 = .ok (.iaload, 1) := by decide +kernel
theorem dX12_leastCost_131 : decode cX12_leastCost 131 = .ok (.iconst 1, 1) := by decide +kernel
theorem dX12_leastCost_132 : decode cX12_leastCost 132 = .ok (.iadd, 1) := by decide +kernel
theorem dX12_leastCost_133 : decode cX12_leastCost 133 = .ok (.iastore, 1) := by decide +kernel
theorem dX12_leastCost_134 : decode cX12_leastCost 134 = .ok (.goto (-126), 3) := by decide +kernel
theorem dX12_leastCost_137 : decode cX12_leastCost 137 = .ok (.iload_n 1, 1) := by decide +kernel
theorem dX12_leastCost_138 : decode cX12_leastCost 138 = .ok (.ireturn, 1) := by decide +kernel
theorem dX12_order_0 : decode cX12_order 0 = .ok (.iload_n 1, 1) := by decide +kernel
theorem dX12_order_1 : decode cX12_order 1 = .ok (.i2l, 1) := by decide +kernel
theorem dX12_order_2 : decode cX12_order 2 = .ok (.lconst 0, 1) := by decide +kernel
theorem dX12_order_3 : decode cX12_order 3 = .ok (.ldc2_w 192, 3) := by decide +kernel
theorem dX12_order_6 : decode cX12_order 6 = .ok (.invokestatic 181, 3) := by decide +kernel
theorem dX12_order_9 : decode cX12_order 9 = .ok (.ifCond .eq 11, 3) := by decide +kernel
theorem dX12_order_12 : decode cX12_order 12 = .ok (.aload_n 0, 1) := by decide +kernel
theorem dX12_order_13 : decode cX12_order 13 = .ok (.iload_n 2, 1) := by decide +kernel
theorem dX12_order_14 : decode cX12_order 14 = .ok (.invokevirtual 384, 3) := by decide +kernel
theorem dX12_order_17 : decode cX12_order 17 = .ok (.ifCond .ne 5, 3) := by decide +kernel
theorem dX12_order_20 : decode cX12_order 20 = .ok (.iconst (-1), 1) := by decide +kernel
theorem dX12_order_21 : decode cX12_order 21 = .ok (.ireturn, 1) := by decide +kernel
theorem dX12_order_22 : decode cX12_order 22 = .ok (.aload_n 0, 1) := by decide +kernel
theorem dX12_order_23 : decode cX12_order 23 = .ok (.iload_n 1, 1) := by decide +kernel
theorem dX12_order_24 : decode cX12_order 24 = .ok (.iload_n 2, 1) := by decide +kernel
theorem dX12_order_25 : decode cX12_order 25 = .ok (.invokevirtual 387, 3) := by decide +kernel
theorem dX12_order_28 : decode cX12_order 28 = .ok (.ifCond .eq 10, 3) := by decide +kernel
theorem dX12_order_31 : decode cX12_order 31 = .ok (.aload_n 0, 1) := by decide +kernel
theorem dX12_order_32 : decode cX12_order 32 = .ok (.invokevirtual 390, 3) := by decide +kernel
theorem dX12_order_35 : decode cX12_order 35 = .ok (.goto 5, 3) := by decide +kernel
theorem dX12_order_38 : decode cX12_order 38 = .ok (.bipush (-4), 2) := by decide +kernel
theorem dX12_order_40 : decode cX12_order 40 = .ok (.ireturn, 1) := by decide +kernel
theorem dX12_ordered_0 : decode cX12_ordered 0 = .ok (.iload_n 1, 1) := by decide +kernel
theorem dX12_ordered_1 : decode cX12_ordered 1 = .ok (.i2l, 1) := by decide +kernel
theorem dX12_ordered_2 : decode cX12_ordered 2 = .ok (.lconst 0, 1) := by decide +kernel
theorem dX12_ordered_3 : decode cX12_ordered 3 = .ok (.ldc2_w 192, 3) := by decide +kernel
theorem dX12_ordered_6 : decode cX12_ordered 6 = .ok (.invokestatic 181, 3) := by decide +kernel
theorem dX12_ordered_9 : decode cX12_ordered 9 = .ok (.ifCond .eq 28, 3) := by decide +kernel
theorem dX12_ordered_12 : decode cX12_ordered 12 = .ok (.aload_n 0, 1) := by decide +kernel
theorem dX12_ordered_13 : decode cX12_ordered 13 = .ok (.iload_n 2, 1) := by decide +kernel
theorem dX12_ordered_14 : decode cX12_ordered 14 = .ok (.invokevirtual 384, 3) := by decide +kernel
theorem dX12_ordered_17 : decode cX12_ordered 17 = .ok (.ifCond .eq 20, 3) := by decide +kernel
theorem dX12_ordered_20 : decode cX12_ordered 20 = .ok (.aload_n 0, 1) := by decide +kernel
theorem dX12_ordered_21 : decode cX12_ordered 21 = .ok (.iload_n 3, 1) := by decide +kernel
theorem dX12_ordered_22 : decode cX12_ordered 22 = .ok (.invokevirtual 331, 3) := by decide +kernel
theorem dX12_ordered_25 : decode cX12_ordered 25 = .ok (.ifCond .eq 12, 3) := by decide +kernel
theorem dX12_ordered_28 : decode cX12_ordered 28 = .ok (.aload_n 0, 1) := by decide +kernel
theorem dX12_ordered_29 : decode cX12_ordered 29 = .ok (.iload 4, 2) := by decide +kernel
theorem dX12_ordered_31 : decode cX12_ordered 31 = .ok (.invokevirtual 331, 3) := by decide +kernel
theorem dX12_ordered_34 : decode cX12_ordered 34 = .ok (.ifCond .ne 5, 3) := by decide +kernel
theorem dX12_ordered_37 : decode cX12_ordered 37 = .ok (.iconst (-1), 1) := by decide +kernel
theorem dX12_ordered_38 : decode cX12_ordered 38 = .ok (.ireturn, 1) := by decide +kernel
theorem dX12_ordered_39 : decode cX12_ordered 39 = .ok (.aload_n 0, 1) := by decide +kernel
theorem dX12_ordered_40 : decode cX12_ordered 40 = .ok (.iload_n 1, 1) := by decide +kernel
theorem dX12_ordered_41 : decode cX12_ordered 41 = .ok (.iload_n 2, 1) := by decide +kernel
theorem dX12_ordered_42 : decode cX12_ordered 42 = .ok (.invokevirtual 387, 3) := by decide +kernel
theorem dX12_ordered_45 : decode cX12_ordered 45 = .ok (.ifCond .ne 6, 3) := by decide +kernel
theorem dX12_ordered_48 : decode cX12_ordered 48 = .ok (.bipush (-4), 2) := by decide +kernel
theorem dX12_ordered_50 : decode cX12_ordered 50 = .ok (.ireturn, 1) := by decide +kernel
theorem dX12_ordered_51 : decode cX12_ordered 51 = .ok (.aload_n 0, 1) := by decide +kernel
theorem dX12_ordered_52 : decode cX12_ordered 52 = .ok (.invokevirtual 390, 3) := by decide +kernel
theorem dX12_ordered_55 : decode cX12_ordered 55 = .ok (.pop, 1) := by decide +kernel
theorem dX12_ordered_56 : decode cX12_ordered 56 = .ok (.iconst 0, 1) := by decide +kernel
theorem dX12_ordered_57 : decode cX12_ordered 57 = .ok (.istore 5, 2) := by decide +kernel
theorem dX12_ordered_59 : decode cX12_ordered 59 = .ok (.iconst 0, 1) := by decide +kernel
theorem dX12_ordered_60 : decode cX12_ordered 60 = .ok (.istore 6, 2) := by decide +kernel
theorem dX12_ordered_62 : decode cX12_ordered 62 = .ok (.iload 6, 2) := by decide +kernel
theorem dX12_ordered_64 : decode cX12_ordered 64 = .ok (.aload_n 0, 1) := by decide +kernel
theorem dX12_ordered_65 : decode cX12_ordered 65 = .ok (.getfield 374, 3) := by decide +kernel
theorem dX12_ordered_68 : decode cX12_ordered 68 = .ok (.if_icmp .ge 46, 3) := by decide +kernel
theorem dX12_ordered_71 : decode cX12_ordered 71 = .ok (.aload_n 0, 1) := by decide +kernel
theorem dX12_ordered_72 : decode cX12_ordered 72 = .ok (.getfield 146, 3) := by decide +kernel
theorem dX12_ordered_75 : decode cX12_ordered 75 = .ok (.iload 6, 2) := by decide +kernel
theorem dX12_ordered_77 : decode cX12_ordered 77 = .ok (.iaload, 1) := by decide +kernel
theorem dX12_ordered_78 : decode cX12_ordered 78 = .ok (.iload_n 3, 1) := by decide +kernel
theorem dX12_ordered_79 : decode cX12_ordered 79 = .ok (.if_icmp .ne 25, 3) := by decide +kernel
theorem dX12_ordered_82 : decode cX12_ordered 82 = .ok (.aload_n 0, 1) := by decide +kernel
theorem dX12_ordered_83 : decode cX12_ordered 83 = .ok (.getfield 149, 3) := by decide +kernel
theorem dX12_ordered_86 : decode cX12_ordered 86 = .ok (.iload 6, 2) := by decide +kernel
theorem dX12_ordered_88 : decode cX12_ordered 88 = .ok (.iaload, 1) := by decide +kernel
theorem dX12_ordered_89 : decode cX12_ordered 89 = .ok (.iload 4, 2) := by decide +kernel
theorem dX12_ordered_91 : decode cX12_ordered 91 = .ok (.if_icmp .ne 13, 3) := by decide +kernel
theorem dX12_ordered_94 : decode cX12_ordered 94 = .ok (.aload_n 0, 1) := by decide +kernel
theorem dX12_ordered_95 : decode cX12_ordered 95 = .ok (.getfield 158, 3) := by decide +kernel
theorem dX12_ordered_98 : decode cX12_ordered 98 = .ok (.iload 6, 2) := by decide +kernel
theorem dX12_ordered_100 : decode cX12_ordered 100 = .ok (.iaload, 1) := by decide +kernel
theorem dX12_ordered_101 : decode cX12_ordered 101 = .ok (.goto 5, 3) := by decide +kernel
theorem dX12_ordered_104 : decode cX12_ordered 104 = .ok (.iload 5, 2) := by decide +kernel
theorem dX12_ordered_106 : decode cX12_ordered 106 = .ok (.istore 5, 2) := by decide +kernel
theorem dX12_ordered_108 : decode cX12_ordered 108 = .ok (.iinc 6 1, 3) := by decide +kernel
theorem dX12_ordered_111 : decode cX12_ordered 111 = .ok (.goto (-49), 3) := by decide +kernel
theorem dX12_ordered_114 : decode cX12_ordered 114 = .ok (.iload 5, 2) := by decide +kernel
theorem dX12_ordered_116 : decode cX12_ordered 116 = .ok (.ireturn, 1) := by decide +kernel
theorem dX12_layChoices_0 : decode cX12_layChoices 0 = .ok (.iconst 0, 1) := by decide +kernel
theorem dX12_layChoices_1 : decode cX12_layChoices 1 = .ok (.istore_n 1, 1) := by decide +kernel
theorem dX12_layChoices_2 : decode cX12_layChoices 2 = .ok (.iload_n 1, 1) := by decide +kernel
theorem dX12_layChoices_3 : decode cX12_layChoices 3 = .ok (.bipush 37, 2) := by decide +kernel
theorem dX12_layChoices_5 : decode cX12_layChoices 5 = .ok (.if_icmp .ge 79, 3) := by decide +kernel
theorem dX12_layChoices_8 : decode cX12_layChoices 8 = .ok (.iconst 0, 1) := by decide +kernel
theorem dX12_layChoices_9 : decode cX12_layChoices 9 = .ok (.istore_n 2, 1) := by decide +kernel
theorem dX12_layChoices_10 : decode cX12_layChoices 10 = .ok (.iload_n 2, 1) := by decide +kernel
theorem dX12_layChoices_11 : decode cX12_layChoices 11 = .ok (.bipush 37, 2) := by decide +kernel
theorem dX12_layChoices_13 : decode cX12_layChoices 13 = .ok (.if_icmp .ge 65, 3) := by decide +kernel
theorem dX12_layChoices_16 : decode cX12_layChoices 16 = .ok (.aload_n 0, 1) := by decide +kernel
theorem dX12_layChoices_17 : decode cX12_layChoices 17 = .ok (.getfield 164, 3) := by decide +kernel
theorem dX12_layChoices_20 : decode cX12_layChoices 20 = .ok (.bipush 37, 2) := by decide +kernel
theorem dX12_layChoices_22 : decode cX12_layChoices 22 = .ok (.iload_n 1, 1) := by decide +kernel
theorem dX12_layChoices_23 : decode cX12_layChoices 23 = .ok (.imul, 1) := by decide +kernel
theorem dX12_layChoices_24 : decode cX12_layChoices 24 = .ok (.iload_n 2, 1) := by decide +kernel
theorem dX12_layChoices_25 : decode cX12_layChoices 25 = .ok (.iadd, 1) := by decide +kernel
theorem dX12_layChoices_26 : decode cX12_layChoices 26 = .ok (.iload_n 2, 1) := by decide +kernel
theorem dX12_layChoices_27 : decode cX12_layChoices 27 = .ok (.ifCond .ne 7, 3) := by decide +kernel
theorem dX12_layChoices_30 : decode cX12_layChoices 30 = .ok (.lconst 1, 1) := by decide +kernel
theorem dX12_layChoices_31 : decode cX12_layChoices 31 = .ok (.goto 40, 3) := by decide +kernel
theorem dX12_layChoices_34 : decode cX12_layChoices 34 = .ok (.iload_n 1, 1) := by decide +kernel
theorem dX12_layChoices_35 : decode cX12_layChoices 35 = .ok (.ifCond .ne 7, 3) := by decide +kernel
theorem dX12_layChoices_38 : decode cX12_layChoices 38 = .ok (.lconst 0, 1) := by decide +kernel
theorem dX12_layChoices_39 : decode cX12_layChoices 39 = .ok (.goto 32, 3) := by decide +kernel
theorem dX12_layChoices_42 : decode cX12_layChoices 42 = .ok (.aload_n 0, 1) := by decide +kernel
theorem dX12_layChoices_43 : decode cX12_layChoices 43 = .ok (.getfield 164, 3) := by decide +kernel
theorem dX12_layChoices_46 : decode cX12_layChoices 46 = .ok (.bipush 37, 2) := by decide +kernel
theorem dX12_layChoices_48 : decode cX12_layChoices 48 = .ok (.iload_n 1, 1) := by decide +kernel
theorem dX12_layChoices_49 : decode cX12_layChoices 49 = .ok (.iconst 1, 1) := by decide +kernel
theorem dX12_layChoices_50 : decode cX12_layChoices 50 = .ok (.isub, 1) := by decide +kernel
theorem dX12_layChoices_51 : decode cX12_layChoices 51 = .ok (.imul, 1) := by decide +kernel
theorem dX12_layChoices_52 : decode cX12_layChoices 52 = .ok (.iload_n 2, 1) := by decide +kernel
theorem dX12_layChoices_53 : decode cX12_layChoices 53 = .ok (.iadd, 1) := by decide +kernel
theorem dX12_layChoices_54 : decode cX12_layChoices 54 = .ok (.laload, 1) := by decide +kernel
theorem dX12_layChoices_55 : decode cX12_layChoices 55 = .ok (.aload_n 0, 1) := by decide +kernel
theorem dX12_layChoices_56 : decode cX12_layChoices 56 = .ok (.getfield 164, 3) := by decide +kernel
theorem dX12_layChoices_59 : decode cX12_layChoices 59 = .ok (.bipush 37, 2) := by decide +kernel
theorem dX12_layChoices_61 : decode cX12_layChoices 61 = .ok (.iload_n 1, 1) := by decide +kernel
theorem dX12_layChoices_62 : decode cX12_layChoices 62 = .ok (.iconst 1, 1) := by decide +kernel
theorem dX12_layChoices_63 : decode cX12_layChoices 63 = .ok (.isub, 1) := by decide +kernel
theorem dX12_layChoices_64 : decode cX12_layChoices 64 = .ok (.imul, 1) := by decide +kernel
theorem dX12_layChoices_65 : decode cX12_layChoices 65 = .ok (.iload_n 2, 1) := by decide +kernel
theorem dX12_layChoices_66 : decode cX12_layChoices 66 = .ok (.iadd, 1) := by decide +kernel
theorem dX12_layChoices_67 : decode cX12_layChoices 67 = .ok (.iconst 1, 1) := by decide +kernel
theorem dX12_layChoices_68 : decode cX12_layChoices 68 = .ok (.isub, 1) := by decide +kernel
theorem dX12_layChoices_69 : decode cX12_layChoices 69 = .ok (.laload, 1) := by decide +kernel
theorem dX12_layChoices_70 : decode cX12_layChoices 70 = .ok (.ladd, 1) := by decide +kernel
theorem dX12_layChoices_71 : decode cX12_layChoices 71 = .ok (.lastore, 1) := by decide +kernel
theorem dX12_layChoices_72 : decode cX12_layChoices 72 = .ok (.iinc 2 1, 3) := by decide +kernel
theorem dX12_layChoices_75 : decode cX12_layChoices 75 = .ok (.goto (-65), 3) := by decide +kernel
theorem dX12_layChoices_78 : decode cX12_layChoices 78 = .ok (.iinc 1 1, 3) := by decide +kernel
theorem dX12_layChoices_81 : decode cX12_layChoices 81 = .ok (.goto (-79), 3) := by decide +kernel
theorem dX12_layChoices_84 : decode cX12_layChoices 84 = .ok (.return_, 1) := by decide +kernel
theorem dX12_failedOf_0 : decode cX12_failedOf 0 = .ok (.iconst 0, 1) := by decide +kernel
theorem dX12_failedOf_1 : decode cX12_failedOf 1 = .ok (.istore_n 2, 1) := by decide +kernel
theorem dX12_failedOf_2 : decode cX12_failedOf 2 = .ok (.iconst 0, 1) := by decide +kernel
theorem dX12_failedOf_3 : decode cX12_failedOf 3 = .ok (.istore_n 3, 1) := by decide +kernel
theorem dX12_failedOf_4 : decode cX12_failedOf 4 = .ok (.iload_n 3, 1) := by decide +kernel
theorem dX12_failedOf_5 : decode cX12_failedOf 5 = .ok (.aload_n 0, 1) := by decide +kernel
theorem dX12_failedOf_6 : decode cX12_failedOf 6 = .ok (.getfield 232, 3) := by decide +kernel
theorem dX12_failedOf_9 : decode cX12_failedOf 9 = .ok (.if_icmp .ge 41, 3) := by decide +kernel
theorem dX12_failedOf_12 : decode cX12_failedOf 12 = .ok (.iload_n 2, 1) := by decide +kernel
theorem dX12_failedOf_13 : decode cX12_failedOf 13 = .ok (.iload_n 1, 1) := by decide +kernel
theorem dX12_failedOf_14 : decode cX12_failedOf 14 = .ok (.ifCond .lt 13, 3) := by decide +kernel
theorem dX12_failedOf_17 : decode cX12_failedOf 17 = .ok (.aload_n 0, 1) := by decide +kernel
theorem dX12_failedOf_18 : decode cX12_failedOf 18 = .ok (.getfield 97, 3) := by decide +kernel
theorem dX12_failedOf_21 : decode cX12_failedOf 21 = .ok (.iload_n 3, 1) := by decide +kernel
theorem dX12_failedOf_22 : decode cX12_failedOf 22 = .ok (.iaload, 1) := by decide +kernel
theorem dX12_failedOf_23 : decode cX12_failedOf 23 = .ok (.iload_n 1, 1) := by decide +kernel
theorem dX12_failedOf_24 : decode cX12_failedOf 24 = .ok (.if_icmp .ne 17, 3) := by decide +kernel
theorem dX12_failedOf_27 : decode cX12_failedOf 27 = .ok (.aload_n 0, 1) := by decide +kernel
theorem dX12_failedOf_28 : decode cX12_failedOf 28 = .ok (.getfield 118, 3) := by decide +kernel
theorem dX12_failedOf_31 : decode cX12_failedOf 31 = .ok (.iload_n 3, 1) := by decide +kernel
theorem dX12_failedOf_32 : decode cX12_failedOf 32 = .ok (.iaload, 1) := by decide +kernel
theorem dX12_failedOf_33 : decode cX12_failedOf 33 = .ok (.iconst 1, 1) := by decide +kernel
theorem dX12_failedOf_34 : decode cX12_failedOf 34 = .ok (.if_icmp .ne 7, 3) := by decide +kernel
theorem dX12_failedOf_37 : decode cX12_failedOf 37 = .ok (.iconst 1, 1) := by decide +kernel
theorem dX12_failedOf_38 : decode cX12_failedOf 38 = .ok (.goto 4, 3) := by decide +kernel
theorem dX12_failedOf_41 : decode cX12_failedOf 41 = .ok (.iconst 0, 1) := by decide +kernel
theorem dX12_failedOf_42 : decode cX12_failedOf 42 = .ok (.iadd, 1) := by decide +kernel
theorem dX12_failedOf_43 : decode cX12_failedOf 43 = .ok (.istore_n 2, 1) := by decide +kernel
theorem dX12_failedOf_44 : decode cX12_failedOf 44 = .ok (.iinc 3 1, 3) := by decide +kernel
theorem dX12_failedOf_47 : decode cX12_failedOf 47 = .ok (.goto (-43), 3) := by decide +kernel
theorem dX12_failedOf_50 : decode cX12_failedOf 50 = .ok (.iload_n 2, 1) := by decide +kernel
theorem dX12_failedOf_51 : decode cX12_failedOf 51 = .ok (.ireturn, 1) := by decide +kernel
theorem dX12_manyOf_0 : decode cX12_manyOf 0 = .ok (.iconst 0, 1) := by decide +kernel
theorem dX12_manyOf_1 : decode cX12_manyOf 1 = .ok (.istore_n 2, 1) := by decide +kernel
theorem dX12_manyOf_2 : decode cX12_manyOf 2 = .ok (.iconst 0, 1) := by decide +kernel
theorem dX12_manyOf_3 : decode cX12_manyOf 3 = .ok (.istore_n 3, 1) := by decide +kernel
theorem dX12_manyOf_4 : decode cX12_manyOf 4 = .ok (.iload_n 3, 1) := by decide +kernel
theorem dX12_manyOf_5 : decode cX12_manyOf 5 = .ok (.aload_n 0, 1) := by decide +kernel
theorem dX12_manyOf_6 : decode cX12_manyOf 6 = .ok (.getfield 232, 3) := by decide +kernel
theorem dX12_manyOf_9 : decode cX12_manyOf 9 = .ok (.if_icmp .ge 27, 3) := by decide +kernel
theorem dX12_manyOf_12 : decode cX12_manyOf 12 = .ok (.iload_n 2, 1) := by decide +kernel
theorem dX12_manyOf_13 : decode cX12_manyOf 13 = .ok (.aload_n 0, 1) := by decide +kernel
theorem dX12_manyOf_14 : decode cX12_manyOf 14 = .ok (.getfield 97, 3) := by decide +kernel
theorem dX12_manyOf_17 : decode cX12_manyOf 17 = .ok (.iload_n 3, 1) := by decide +kernel
theorem dX12_manyOf_18 : decode cX12_manyOf 18 = .ok (.iaload, 1) := by decide +kernel
theorem dX12_manyOf_19 : decode cX12_manyOf 19 = .ok (.iload_n 1, 1) := by decide +kernel
theorem dX12_manyOf_20 : decode cX12_manyOf 20 = .ok (.if_icmp .ne 7, 3) := by decide +kernel
theorem dX12_manyOf_23 : decode cX12_manyOf 23 = .ok (.iconst 1, 1) := by decide +kernel
theorem dX12_manyOf_24 : decode cX12_manyOf 24 = .ok (.goto 4, 3) := by decide +kernel
theorem dX12_manyOf_27 : decode cX12_manyOf 27 = .ok (.iconst 0, 1) := by decide +kernel
theorem dX12_manyOf_28 : decode cX12_manyOf 28 = .ok (.iadd, 1) := by decide +kernel
theorem dX12_manyOf_29 : decode cX12_manyOf 29 = .ok (.istore_n 2, 1) := by decide +kernel
theorem dX12_manyOf_30 : decode cX12_manyOf 30 = .ok (.iinc 3 1, 3) := by decide +kernel
theorem dX12_manyOf_33 : decode cX12_manyOf 33 = .ok (.goto (-29), 3) := by decide +kernel
theorem dX12_manyOf_36 : decode cX12_manyOf 36 = .ok (.iload_n 2, 1) := by decide +kernel
theorem dX12_manyOf_37 : decode cX12_manyOf 37 = .ok (.ireturn, 1) := by decide +kernel
theorem dX12_tail_0 : decode cX12_tail 0 = .ok (.aload_n 0, 1) := by decide +kernel
theorem dX12_tail_1 : decode cX12_tail 1 = .ok (.iconst (-1), 1) := by decide +kernel
theorem dX12_tail_2 : decode cX12_tail 2 = .ok (.invokevirtual 393, 3) := by decide +kernel
theorem dX12_tail_5 : decode cX12_tail 5 = .ok (.istore_n 2, 1) := by decide +kernel
theorem dX12_tail_6 : decode cX12_tail 6 = .ok (.aload_n 0, 1) := by decide +kernel
theorem dX12_tail_7 : decode cX12_tail 7 = .ok (.iload_n 1, 1) := by decide +kernel
theorem dX12_tail_8 : decode cX12_tail 8 = .ok (.invokevirtual 396, 3) := by decide +kernel
theorem dX12_tail_11 : decode cX12_tail 11 = .ok (.istore_n 3, 1) := by decide +kernel
theorem dX12_tail_12 : decode cX12_tail 12 = .ok (.lconst 0, 1) := by decide +kernel
theorem dX12_tail_13 : decode cX12_tail 13 = .ok (.lstore 4, 2) := by decide +kernel
theorem dX12_tail_15 : decode cX12_tail 15 = .ok (.aload_n 0, 1) := by decide +kernel
theorem dX12_tail_16 : decode cX12_tail 16 = .ok (.iload_n 1, 1) := by decide +kernel
theorem dX12_tail_17 : decode cX12_tail 17 = .ok (.invokevirtual 393, 3) := by decide +kernel
theorem dX12_tail_20 : decode cX12_tail 20 = .ok (.istore 6, 2) := by decide +kernel
theorem dX12_tail_22 : decode cX12_tail 22 = .ok (.iload 6, 2) := by decide +kernel
theorem dX12_tail_24 : decode cX12_tail 24 = .ok (.iload_n 2, 1) := by decide +kernel
theorem dX12_tail_25 : decode cX12_tail 25 = .ok (.if_icmp .gt 46, 3) := by decide +kernel
theorem dX12_tail_28 : decode cX12_tail 28 = .ok (.lload 4, 2) := by decide +kernel
theorem dX12_tail_30 : decode cX12_tail 30 = .ok (.aload_n 0, 1) := by decide +kernel
theorem dX12_tail_31 : decode cX12_tail 31 = .ok (.getfield 164, 3) := by decide +kernel
theorem dX12_tail_34 : decode cX12_tail 34 = .ok (.bipush 37, 2) := by decide +kernel
theorem dX12_tail_36 : decode cX12_tail 36 = .ok (.iload_n 3, 1) := by decide +kernel
theorem dX12_tail_37 : decode cX12_tail 37 = .ok (.imul, 1) := by decide +kernel
theorem dX12_tail_38 : decode cX12_tail 38 = .ok (.iload 6, 2) := by decide +kernel
theorem dX12_tail_40 : decode cX12_tail 40 = .ok (.iadd, 1) := by decide +kernel
theorem dX12_tail_41 : decode cX12_tail 41 = .ok (.laload, 1) := by decide +kernel
theorem dX12_tail_42 : decode cX12_tail 42 = .ok (.aload_n 0, 1) := by decide +kernel
theorem dX12_tail_43 : decode cX12_tail 43 = .ok (.getfield 164, 3) := by decide +kernel
theorem dX12_tail_46 : decode cX12_tail 46 = .ok (.bipush 37, 2) := by decide +kernel
theorem dX12_tail_48 : decode cX12_tail 48 = .ok (.aload_n 0, 1) := by decide +kernel
theorem dX12_tail_49 : decode cX12_tail 49 = .ok (.getfield 232, 3) := by decide +kernel
theorem dX12_tail_52 : decode cX12_tail 52 = .ok (.iload_n 3, 1) := by decide +kernel
theorem dX12_tail_53 : decode cX12_tail 53 = .ok (.isub, 1) := by decide +kernel
theorem dX12_tail_54 : decode cX12_tail 54 = .ok (.imul, 1) := by decide +kernel
theorem dX12_tail_55 : decode cX12_tail 55 = .ok (.iload_n 2, 1) := by decide +kernel
theorem dX12_tail_56 : decode cX12_tail 56 = .ok (.iadd, 1) := by decide +kernel
theorem dX12_tail_57 : decode cX12_tail 57 = .ok (.iload 6, 2) := by decide +kernel
theorem dX12_tail_59 : decode cX12_tail 59 = .ok (.isub, 1) := by decide +kernel
theorem dX12_tail_60 : decode cX12_tail 60 = .ok (.laload, 1) := by decide +kernel
theorem dX12_tail_61 : decode cX12_tail 61 = .ok (.lmul, 1) := by decide +kernel
theorem dX12_tail_62 : decode cX12_tail 62 = .ok (.ladd, 1) := by decide +kernel
theorem dX12_tail_63 : decode cX12_tail 63 = .ok (.lstore 4, 2) := by decide +kernel
theorem dX12_tail_65 : decode cX12_tail 65 = .ok (.iinc 6 1, 3) := by decide +kernel
theorem dX12_tail_68 : decode cX12_tail 68 = .ok (.goto (-46), 3) := by decide +kernel
theorem dX12_tail_71 : decode cX12_tail 71 = .ok (.lload 4, 2) := by decide +kernel
theorem dX12_tail_73 : decode cX12_tail 73 = .ok (.lreturn, 1) := by decide +kernel
theorem dX12_lot_0 : decode cX12_lot 0 = .ok (.iload_n 1, 1) := by decide +kernel
theorem dX12_lot_1 : decode cX12_lot 1 = .ok (.i2l, 1) := by decide +kernel
theorem dX12_lot_2 : decode cX12_lot 2 = .ok (.lconst 0, 1) := by decide +kernel
theorem dX12_lot_3 : decode cX12_lot 3 = .ok (.ldc2_w 190, 3) := by decide +kernel
theorem dX12_lot_6 : decode cX12_lot 6 = .ok (.invokestatic 181, 3) := by decide +kernel
theorem dX12_lot_9 : decode cX12_lot 9 = .ok (.ifCond .eq 15, 3) := by decide +kernel
theorem dX12_lot_12 : decode cX12_lot 12 = .ok (.iload_n 2, 1) := by decide +kernel
theorem dX12_lot_13 : decode cX12_lot 13 = .ok (.i2l, 1) := by decide +kernel
theorem dX12_lot_14 : decode cX12_lot 14 = .ok (.lconst 0, 1) := by decide +kernel
theorem dX12_lot_15 : decode cX12_lot 15 = .ok (.ldc2_w 192, 3) := by decide +kernel
theorem dX12_lot_18 : decode cX12_lot 18 = .ok (.invokestatic 181, 3) := by decide +kernel
theorem dX12_lot_21 : decode cX12_lot 21 = .ok (.ifCond .ne 7, 3) := by decide +kernel
theorem dX12_lot_24 : decode cX12_lot 24 = .ok (.ldc2_w 399, 3) := by decide +kernel
theorem dX12_lot_27 : decode cX12_lot 27 = .ok (.lreturn, 1) := by decide +kernel
theorem dX12_lot_28 : decode cX12_lot 28 = .ok (.iload_n 2, 1) := by decide +kernel
theorem dX12_lot_29 : decode cX12_lot 29 = .ok (.iconst 2, 1) := by decide +kernel
theorem dX12_lot_30 : decode cX12_lot 30 = .ok (.if_icmp .ge 23, 3) := by decide +kernel
theorem dX12_lot_33 : decode cX12_lot 33 = .ok (.iload_n 2, 1) := by decide +kernel
theorem dX12_lot_34 : decode cX12_lot 34 = .ok (.ifCond .ne 12, 3) := by decide +kernel
theorem dX12_lot_37 : decode cX12_lot 37 = .ok (.aload_n 0, 1) := by decide +kernel
theorem dX12_lot_38 : decode cX12_lot 38 = .ok (.iload_n 1, 1) := by decide +kernel
theorem dX12_lot_39 : decode cX12_lot 39 = .ok (.invokevirtual 396, 3) := by decide +kernel
theorem dX12_lot_42 : decode cX12_lot 42 = .ok (.i2l, 1) := by decide +kernel
theorem dX12_lot_43 : decode cX12_lot 43 = .ok (.goto 9, 3) := by decide +kernel
theorem dX12_lot_46 : decode cX12_lot 46 = .ok (.aload_n 0, 1) := by decide +kernel
theorem dX12_lot_47 : decode cX12_lot 47 = .ok (.iload_n 1, 1) := by decide +kernel
theorem dX12_lot_48 : decode cX12_lot 48 = .ok (.invokevirtual 393, 3) := by decide +kernel
theorem dX12_lot_51 : decode cX12_lot 51 = .ok (.i2l, 1) := by decide +kernel
theorem dX12_lot_52 : decode cX12_lot 52 = .ok (.lreturn, 1) := by decide +kernel
theorem dX12_lot_53 : decode cX12_lot 53 = .ok (.aload_n 0, 1) := by decide +kernel
theorem dX12_lot_54 : decode cX12_lot 54 = .ok (.invokevirtual 401, 3) := by decide +kernel
theorem dX12_lot_57 : decode cX12_lot 57 = .ok (.aload_n 0, 1) := by decide +kernel
theorem dX12_lot_58 : decode cX12_lot 58 = .ok (.iload_n 1, 1) := by decide +kernel
theorem dX12_lot_59 : decode cX12_lot 59 = .ok (.invokevirtual 404, 3) := by decide +kernel
theorem dX12_lot_62 : decode cX12_lot 62 = .ok (.lstore_n 3, 1) := by decide +kernel
theorem dX12_lot_63 : decode cX12_lot 63 = .ok (.aload_n 0, 1) := by decide +kernel
theorem dX12_lot_64 : decode cX12_lot 64 = .ok (.getfield 164, 3) := by decide +kernel
theorem dX12_lot_67 : decode cX12_lot 67 = .ok (.bipush 37, 2) := by decide +kernel
theorem dX12_lot_69 : decode cX12_lot 69 = .ok (.aload_n 0, 1) := by decide +kernel
theorem dX12_lot_70 : decode cX12_lot 70 = .ok (.getfield 232, 3) := by decide +kernel
theorem dX12_lot_73 : decode cX12_lot 73 = .ok (.imul, 1) := by decide +kernel
theorem dX12_lot_74 : decode cX12_lot 74 = .ok (.aload_n 0, 1) := by decide +kernel
theorem dX12_lot_75 : decode cX12_lot 75 = .ok (.iconst (-1), 1) := by decide +kernel
theorem dX12_lot_76 : decode cX12_lot 76 = .ok (.invokevirtual 393, 3) := by decide +kernel
theorem dX12_lot_79 : decode cX12_lot 79 = .ok (.iadd, 1) := by decide +kernel
theorem dX12_lot_80 : decode cX12_lot 80 = .ok (.laload, 1) := by decide +kernel
theorem dX12_lot_81 : decode cX12_lot 81 = .ok (.lstore 5, 2) := by decide +kernel
theorem dX12_lot_83 : decode cX12_lot 83 = .ok (.lload_n 3, 1) := by decide +kernel
theorem dX12_lot_84 : decode cX12_lot 84 = .ok (.lstore 7, 2) := by decide +kernel
theorem dX12_lot_86 : decode cX12_lot 86 = .ok (.lload 5, 2) := by decide +kernel
theorem dX12_lot_88 : decode cX12_lot 88 = .ok (.lstore 9, 2) := by decide +kernel
theorem dX12_lot_90 : decode cX12_lot 90 = .ok (.lload 9, 2) := by decide +kernel
theorem dX12_lot_92 : decode cX12_lot 92 = .ok (.lconst 0, 1) := by decide +kernel
theorem dX12_lot_93 : decode cX12_lot 93 = .ok (.lcmp, 1) := by decide +kernel
theorem dX12_lot_94 : decode cX12_lot 94 = .ok (.ifCond .eq 21, 3) := by decide +kernel
theorem dX12_lot_97 : decode cX12_lot 97 = .ok (.lload 7, 2) := by decide +kernel
theorem dX12_lot_99 : decode cX12_lot 99 = .ok (.lload 9, 2) := by decide +kernel
theorem dX12_lot_101 : decode cX12_lot 101 = .ok (.lrem, 1) := by decide +kernel
theorem dX12_lot_102 : decode cX12_lot 102 = .ok (.lstore 11, 2) := by decide +kernel
theorem dX12_lot_104 : decode cX12_lot 104 = .ok (.lload 9, 2) := by decide +kernel
theorem dX12_lot_106 : decode cX12_lot 106 = .ok (.lstore 7, 2) := by decide +kernel
theorem dX12_lot_108 : decode cX12_lot 108 = .ok (.lload 11, 2) := by decide +kernel
theorem dX12_lot_110 : decode cX12_lot 110 = .ok (.lstore 9, 2) := by decide +kernel
theorem dX12_lot_112 : decode cX12_lot 112 = .ok (.goto (-22), 3) := by decide +kernel
theorem dX12_lot_115 : decode cX12_lot 115 = .ok (.iload_n 2, 1) := by decide +kernel
theorem dX12_lot_116 : decode cX12_lot 116 = .ok (.iconst 2, 1) := by decide +kernel
theorem dX12_lot_117 : decode cX12_lot 117 = .ok (.if_icmp .ne 7, 3) := by decide +kernel
theorem dX12_lot_120 : decode cX12_lot 120 = .ok (.lload_n 3, 1) := by decide +kernel
theorem dX12_lot_121 : decode cX12_lot 121 = .ok (.goto 5, 3) := by decide +kernel
theorem dX12_lot_124 : decode cX12_lot 124 = .ok (.lload 5, 2) := by decide +kernel
theorem dX12_lot_126 : decode cX12_lot 126 = .ok (.lload 7, 2) := by decide +kernel
theorem dX12_lot_128 : decode cX12_lot 128 = .ok (.ldiv, 1) := by decide +kernel
theorem dX12_lot_129 : decode cX12_lot 129 = .ok (.lreturn, 1) := by decide +kernel
theorem dX12_worst_0 : decode cX12_worst 0 = .ok (.aload_n 0, 1) := by decide +kernel
theorem dX12_worst_1 : decode cX12_worst 1 = .ok (.iconst (-1), 1) := by decide +kernel
theorem dX12_worst_2 : decode cX12_worst 2 = .ok (.invokevirtual 393, 3) := by decide +kernel
theorem dX12_worst_5 : decode cX12_worst 5 = .ok (.ifCond .ne 6, 3) := by decide +kernel
theorem dX12_worst_8 : decode cX12_worst 8 = .ok (.bipush (-4), 2) := by decide +kernel
theorem dX12_worst_10 : decode cX12_worst 10 = .ok (.ireturn, 1) := by decide +kernel
theorem dX12_worst_11 : decode cX12_worst 11 = .ok (.aload_n 0, 1) := by decide +kernel
theorem dX12_worst_12 : decode cX12_worst 12 = .ok (.invokevirtual 401, 3) := by decide +kernel
theorem dX12_worst_15 : decode cX12_worst 15 = .ok (.iconst 0, 1) := by decide +kernel
theorem dX12_worst_16 : decode cX12_worst 16 = .ok (.istore_n 1, 1) := by decide +kernel
theorem dX12_worst_17 : decode cX12_worst 17 = .ok (.iconst 1, 1) := by decide +kernel
theorem dX12_worst_18 : decode cX12_worst 18 = .ok (.istore_n 2, 1) := by decide +kernel
theorem dX12_worst_19 : decode cX12_worst 19 = .ok (.iload_n 2, 1) := by decide +kernel
theorem dX12_worst_20 : decode cX12_worst 20 = .ok (.bipush 6, 2) := by decide +kernel
theorem dX12_worst_22 : decode cX12_worst 22 = .ok (.if_icmp .ge 29, 3) := by decide +kernel
theorem dX12_worst_25 : decode cX12_worst 25 = .ok (.aload_n 0, 1) := by decide +kernel
theorem dX12_worst_26 : decode cX12_worst 26 = .ok (.iload_n 2, 1) := by decide +kernel
theorem dX12_worst_27 : decode cX12_worst 27 = .ok (.invokevirtual 404, 3) := by decide +kernel
theorem dX12_worst_30 : decode cX12_worst 30 = .ok (.aload_n 0, 1) := by decide +kernel
theorem dX12_worst_31 : decode cX12_worst 31 = .ok (.iload_n 1, 1) := by decide +kernel
theorem dX12_worst_32 : decode cX12_worst 32 = .ok (.invokevirtual 404, 3) := by decide +kernel
theorem dX12_worst_35 : decode cX12_worst 35 = .ok (.lcmp, 1) := by decide +kernel
theorem dX12_worst_36 : decode cX12_worst 36 = .ok (.ifCond .ge 7, 3) := by decide +kernel
theorem dX12_worst_39 : decode cX12_worst 39 = .ok (.iload_n 2, 1) := by decide +kernel
theorem dX12_worst_40 : decode cX12_worst 40 = .ok (.goto 4, 3) := by decide +kernel
theorem dX12_worst_43 : decode cX12_worst 43 = .ok (.iload_n 1, 1) := by decide +kernel
theorem dX12_worst_44 : decode cX12_worst 44 = .ok (.istore_n 1, 1) := by decide +kernel
theorem dX12_worst_45 : decode cX12_worst 45 = .ok (.iinc 2 1, 3) := by decide +kernel
theorem dX12_worst_48 : decode cX12_worst 48 = .ok (.goto (-29), 3) := by decide +kernel
theorem dX12_worst_51 : decode cX12_worst 51 = .ok (.iload_n 1, 1) := by decide +kernel
theorem dX12_worst_52 : decode cX12_worst 52 = .ok (.ireturn, 1) := by decide +kernel
theorem dX12_sheet_0 : decode cX12_sheet 0 = .ok (.iload_n 1, 1) := by decide +kernel
theorem dX12_sheet_1 : decode cX12_sheet 1 = .ok (.i2l, 1) := by decide +kernel
theorem dX12_sheet_2 : decode cX12_sheet 2 = .ok (.lconst 0, 1) := by decide +kernel
theorem dX12_sheet_3 : decode cX12_sheet 3 = .ok (.ldc2_w 192, 3) := by decide +kernel
theorem dX12_sheet_6 : decode cX12_sheet 6 = .ok (.invokestatic 181, 3) := by decide +kernel
theorem dX12_sheet_9 : decode cX12_sheet 9 = .ok (.ifCond .eq 21, 3) := by decide +kernel
theorem dX12_sheet_12 : decode cX12_sheet 12 = .ok (.iload_n 2, 1) := by decide +kernel
theorem dX12_sheet_13 : decode cX12_sheet 13 = .ok (.i2l, 1) := by decide +kernel
theorem dX12_sheet_14 : decode cX12_sheet 14 = .ok (.lconst 0, 1) := by decide +kernel
theorem dX12_sheet_15 : decode cX12_sheet 15 = .ok (.ldc2_w 194, 3) := by decide +kernel
theorem dX12_sheet_18 : decode cX12_sheet 18 = .ok (.invokestatic 181, 3) := by decide +kernel
theorem dX12_sheet_21 : decode cX12_sheet 21 = .ok (.ifCond .eq 9, 3) := by decide +kernel
theorem dX12_sheet_24 : decode cX12_sheet 24 = .ok (.iload_n 3, 1) := by decide +kernel
theorem dX12_sheet_25 : decode cX12_sheet 25 = .ok (.bipush 60, 2) := by decide +kernel
theorem dX12_sheet_27 : decode cX12_sheet 27 = .ok (.if_icmp .le 5, 3) := by decide +kernel
theorem dX12_sheet_30 : decode cX12_sheet 30 = .ok (.iconst (-1), 1) := by decide +kernel
theorem dX12_sheet_31 : decode cX12_sheet 31 = .ok (.ireturn, 1) := by decide +kernel
theorem dX12_sheet_32 : decode cX12_sheet 32 = .ok (.iload_n 3, 1) := by decide +kernel
theorem dX12_sheet_33 : decode cX12_sheet 33 = .ok (.ifCond .ge 6, 3) := by decide +kernel
theorem dX12_sheet_36 : decode cX12_sheet 36 = .ok (.bipush (-14), 2) := by decide +kernel
theorem dX12_sheet_38 : decode cX12_sheet 38 = .ok (.ireturn, 1) := by decide +kernel
theorem dX12_sheet_39 : decode cX12_sheet 39 = .ok (.aload_n 0, 1) := by decide +kernel
theorem dX12_sheet_40 : decode cX12_sheet 40 = .ok (.getfield 168, 3) := by decide +kernel
theorem dX12_sheet_43 : decode cX12_sheet 43 = .ok (.iload_n 1, 1) := by decide +kernel
theorem dX12_sheet_44 : decode cX12_sheet 44 = .ok (.iload_n 2, 1) := by decide +kernel
theorem dX12_sheet_45 : decode cX12_sheet 45 = .ok (.iastore, 1) := by decide +kernel
theorem dX12_sheet_46 : decode cX12_sheet 46 = .ok (.aload_n 0, 1) := by decide +kernel
theorem dX12_sheet_47 : decode cX12_sheet 47 = .ok (.getfield 171, 3) := by decide +kernel
theorem dX12_sheet_50 : decode cX12_sheet 50 = .ok (.iload_n 1, 1) := by decide +kernel
theorem dX12_sheet_51 : decode cX12_sheet 51 = .ok (.iload_n 3, 1) := by decide +kernel
theorem dX12_sheet_52 : decode cX12_sheet 52 = .ok (.iastore, 1) := by decide +kernel
theorem dX12_sheet_53 : decode cX12_sheet 53 = .ok (.iconst 0, 1) := by decide +kernel
theorem dX12_sheet_54 : decode cX12_sheet 54 = .ok (.istore 4, 2) := by decide +kernel
theorem dX12_sheet_56 : decode cX12_sheet 56 = .ok (.iload 4, 2) := by decide +kernel
theorem dX12_sheet_58 : decode cX12_sheet 58 = .ok (.bipush 60, 2) := by decide +kernel
theorem dX12_sheet_60 : decode cX12_sheet 60 = .ok (.if_icmp .ge 22, 3) := by decide +kernel
theorem dX12_sheet_63 : decode cX12_sheet 63 = .ok (.aload_n 0, 1) := by decide +kernel
theorem dX12_sheet_64 : decode cX12_sheet 64 = .ok (.getfield 174, 3) := by decide +kernel
theorem dX12_sheet_67 : decode cX12_sheet 67 = .ok (.bipush 60, 2) := by decide +kernel
theorem dX12_sheet_69 : decode cX12_sheet 69 = .ok (.iload_n 1, 1) := by decide +kernel
theorem dX12_sheet_70 : decode cX12_sheet 70 = .ok (.imul, 1) := by decide +kernel
theorem dX12_sheet_71 : decode cX12_sheet 71 = .ok (.iload 4, 2) := by decide +kernel
theorem dX12_sheet_73 : decode cX12_sheet 73 = .ok (.iadd, 1) := by decide +kernel
theorem dX12_sheet_74 : decode cX12_sheet 74 = .ok (.iconst 0, 1) := by decide +kernel
theorem dX12_sheet_75 : decode cX12_sheet 75 = .ok (.iastore, 1) := by decide +kernel
theorem dX12_sheet_76 : decode cX12_sheet 76 = .ok (.iinc 4 1, 3) := by decide +kernel
theorem dX12_sheet_79 : decode cX12_sheet 79 = .ok (.goto (-23), 3) := by decide +kernel
theorem dX12_sheet_82 : decode cX12_sheet 82 = .ok (.iconst 1, 1) := by decide +kernel
theorem dX12_sheet_83 : decode cX12_sheet 83 = .ok (.ireturn, 1) := by decide +kernel
theorem dX12_lay_0 : decode cX12_lay 0 = .ok (.iload_n 1, 1) := by decide +kernel
theorem dX12_lay_1 : decode cX12_lay 1 = .ok (.i2l, 1) := by decide +kernel
theorem dX12_lay_2 : decode cX12_lay 2 = .ok (.lconst 0, 1) := by decide +kernel
theorem dX12_lay_3 : decode cX12_lay 3 = .ok (.ldc2_w 192, 3) := by decide +kernel
theorem dX12_lay_6 : decode cX12_lay 6 = .ok (.invokestatic 181, 3) := by decide +kernel
theorem dX12_lay_9 : decode cX12_lay 9 = .ok (.ifCond .ne 5, 3) := by decide +kernel
theorem dX12_lay_12 : decode cX12_lay 12 = .ok (.iconst (-1), 1) := by decide +kernel
theorem dX12_lay_13 : decode cX12_lay 13 = .ok (.ireturn, 1) := by decide +kernel
theorem dX12_lay_14 : decode cX12_lay 14 = .ok (.aload_n 0, 1) := by decide +kernel
theorem dX12_lay_15 : decode cX12_lay 15 = .ok (.getfield 168, 3) := by decide +kernel
theorem dX12_lay_18 : decode cX12_lay 18 = .ok (.iload_n 1, 1) := by decide +kernel
theorem dX12_lay_19 : decode cX12_lay 19 = .ok (.iaload, 1) := by decide +kernel
theorem dX12_lay_20 : decode cX12_lay 20 = .ok (.bipush (-4), 2) := by decide +kernel
theorem dX12_lay_22 : decode cX12_lay 22 = .ok (.if_icmp .ne 6, 3) := by decide +kernel
theorem dX12_lay_25 : decode cX12_lay 25 = .ok (.bipush (-11), 2) := by decide +kernel
theorem dX12_lay_27 : decode cX12_lay 27 = .ok (.ireturn, 1) := by decide +kernel
theorem dX12_lay_28 : decode cX12_lay 28 = .ok (.iload_n 2, 1) := by decide +kernel
theorem dX12_lay_29 : decode cX12_lay 29 = .ok (.i2l, 1) := by decide +kernel
theorem dX12_lay_30 : decode cX12_lay 30 = .ok (.lconst 0, 1) := by decide +kernel
theorem dX12_lay_31 : decode cX12_lay 31 = .ok (.aload_n 0, 1) := by decide +kernel
theorem dX12_lay_32 : decode cX12_lay 32 = .ok (.getfield 171, 3) := by decide +kernel
theorem dX12_lay_35 : decode cX12_lay 35 = .ok (.iload_n 1, 1) := by decide +kernel
theorem dX12_lay_36 : decode cX12_lay 36 = .ok (.iaload, 1) := by decide +kernel
theorem dX12_lay_37 : decode cX12_lay 37 = .ok (.iconst 1, 1) := by decide +kernel
theorem dX12_lay_38 : decode cX12_lay 38 = .ok (.isub, 1) := by decide +kernel
theorem dX12_lay_39 : decode cX12_lay 39 = .ok (.i2l, 1) := by decide +kernel
theorem dX12_lay_40 : decode cX12_lay 40 = .ok (.invokestatic 181, 3) := by decide +kernel
theorem dX12_lay_43 : decode cX12_lay 43 = .ok (.ifCond .ne 6, 3) := by decide +kernel
theorem dX12_lay_46 : decode cX12_lay 46 = .ok (.bipush (-12), 2) := by decide +kernel
theorem dX12_lay_48 : decode cX12_lay 48 = .ok (.ireturn, 1) := by decide +kernel
theorem dX12_lay_49 : decode cX12_lay 49 = .ok (.aload_n 0, 1) := by decide +kernel
theorem dX12_lay_50 : decode cX12_lay 50 = .ok (.getfield 174, 3) := by decide +kernel
theorem dX12_lay_53 : decode cX12_lay 53 = .ok (.bipush 60, 2) := by decide +kernel
theorem dX12_lay_55 : decode cX12_lay 55 = .ok (.iload_n 1, 1) := by decide +kernel
theorem dX12_lay_56 : decode cX12_lay 56 = .ok (.imul, 1) := by decide +kernel
theorem dX12_lay_57 : decode cX12_lay 57 = .ok (.iload_n 2, 1) := by decide +kernel
theorem dX12_lay_58 : decode cX12_lay 58 = .ok (.iadd, 1) := by decide +kernel
theorem dX12_lay_59 : decode cX12_lay 59 = .ok (.aload_n 0, 1) := by decide +kernel
theorem dX12_lay_60 : decode cX12_lay 60 = .ok (.getfield 168, 3) := by decide +kernel
theorem dX12_lay_63 : decode cX12_lay 63 = .ok (.iload_n 1, 1) := by decide +kernel
theorem dX12_lay_64 : decode cX12_lay 64 = .ok (.iaload, 1) := by decide +kernel
theorem dX12_lay_65 : decode cX12_lay 65 = .ok (.ifCond .ne 13, 3) := by decide +kernel
theorem dX12_lay_68 : decode cX12_lay 68 = .ok (.iload_n 3, 1) := by decide +kernel
theorem dX12_lay_69 : decode cX12_lay 69 = .ok (.bipush 24, 2) := by decide +kernel
theorem dX12_lay_71 : decode cX12_lay 71 = .ok (.ishl, 1) := by decide +kernel
theorem dX12_lay_72 : decode cX12_lay 72 = .ok (.bipush 24, 2) := by decide +kernel
theorem dX12_lay_74 : decode cX12_lay 74 = .ok (.ishr, 1) := by decide +kernel
theorem dX12_lay_75 : decode cX12_lay 75 = .ok (.goto 24, 3) := by decide +kernel
theorem dX12_lay_78 : decode cX12_lay 78 = .ok (.aload_n 0, 1) := by decide +kernel
theorem dX12_lay_79 : decode cX12_lay 79 = .ok (.getfield 168, 3) := by decide +kernel
theorem dX12_lay_82 : decode cX12_lay 82 = .ok (.iload_n 1, 1) := by decide +kernel
theorem dX12_lay_83 : decode cX12_lay 83 = .ok (.iaload, 1) := by decide +kernel
theorem dX12_lay_84 : decode cX12_lay 84 = .ok (.iconst 1, 1) := by decide +kernel
theorem dX12_lay_85 : decode cX12_lay 85 = .ok (.if_icmp .ne 13, 3) := by decide +kernel
theorem dX12_lay_88 : decode cX12_lay 88 = .ok (.iload_n 3, 1) := by decide +kernel
theorem dX12_lay_89 : decode cX12_lay 89 = .ok (.bipush 16, 2) := by decide +kernel
theorem dX12_lay_91 : decode cX12_lay 91 = .ok (.ishl, 1) := by decide +kernel
theorem dX12_lay_92 : decode cX12_lay 92 = .ok (.bipush 16, 2) := by decide +kernel
theorem dX12_lay_94 : decode cX12_lay 94 = .ok (.ishr, 1) := by decide +kernel
theorem dX12_lay_95 : decode cX12_lay 95 = .ok (.goto 4, 3) := by decide +kernel
theorem dX12_lay_98 : decode cX12_lay 98 = .ok (.iload_n 3, 1) := by decide +kernel
theorem dX12_lay_99 : decode cX12_lay 99 = .ok (.iastore, 1) := by decide +kernel
theorem dX12_lay_100 : decode cX12_lay 100 = .ok (.iconst 1, 1) := by decide +kernel
theorem dX12_lay_101 : decode cX12_lay 101 = .ok (.ireturn, 1) := by decide +kernel
theorem dX12_scan_0 : decode cX12_scan 0 = .ok (.iload_n 1, 1) := by decide +kernel
theorem dX12_scan_1 : decode cX12_scan 1 = .ok (.i2l, 1) := by decide +kernel
theorem dX12_scan_2 : decode cX12_scan 2 = .ok (.lconst 0, 1) := by decide +kernel
theorem dX12_scan_3 : decode cX12_scan 3 = .ok (.ldc2_w 192, 3) := by decide +kernel
theorem dX12_scan_6 : decode cX12_scan 6 = .ok (.invokestatic 181, 3) := by decide +kernel
theorem dX12_scan_9 : decode cX12_scan 9 = .ok (.ifCond .eq 15, 3) := by decide +kernel
theorem dX12_scan_12 : decode cX12_scan 12 = .ok (.iload_n 2, 1) := by decide +kernel
theorem dX12_scan_13 : decode cX12_scan 13 = .ok (.i2l, 1) := by decide +kernel
theorem dX12_scan_14 : decode cX12_scan 14 = .ok (.lconst 0, 1) := by decide +kernel
theorem dX12_scan_15 : decode cX12_scan 15 = .ok (.ldc2_w 194, 3) := by decide +kernel
theorem dX12_scan_18 : decode cX12_scan 18 = .ok (.invokestatic 181, 3) := by decide +kernel
theorem dX12_scan_21 : decode cX12_scan 21 = .ok (.ifCond .ne 5, 3) := by decide +kernel
theorem dX12_scan_24 : decode cX12_scan 24 = .ok (.iconst (-1), 1) := by decide +kernel
theorem dX12_scan_25 : decode cX12_scan 25 = .ok (.ireturn, 1) := by decide +kernel
theorem dX12_scan_26 : decode cX12_scan 26 = .ok (.aload_n 0, 1) := by decide +kernel
theorem dX12_scan_27 : decode cX12_scan 27 = .ok (.getfield 168, 3) := by decide +kernel
theorem dX12_scan_30 : decode cX12_scan 30 = .ok (.iload_n 1, 1) := by decide +kernel
theorem dX12_scan_31 : decode cX12_scan 31 = .ok (.iaload, 1) := by decide +kernel
theorem dX12_scan_32 : decode cX12_scan 32 = .ok (.iload_n 2, 1) := by decide +kernel
theorem dX12_scan_33 : decode cX12_scan 33 = .ok (.if_icmp .eq 22, 3) := by decide +kernel
theorem dX12_scan_36 : decode cX12_scan 36 = .ok (.aload_n 0, 1) := by decide +kernel
theorem dX12_scan_37 : decode cX12_scan 37 = .ok (.getfield 168, 3) := by decide +kernel
theorem dX12_scan_40 : decode cX12_scan 40 = .ok (.iload_n 1, 1) := by decide +kernel
theorem dX12_scan_41 : decode cX12_scan 41 = .ok (.iaload, 1) := by decide +kernel
theorem dX12_scan_42 : decode cX12_scan 42 = .ok (.bipush (-4), 2) := by decide +kernel
theorem dX12_scan_44 : decode cX12_scan 44 = .ok (.if_icmp .ne 8, 3) := by decide +kernel
theorem dX12_scan_47 : decode cX12_scan 47 = .ok (.bipush (-11), 2) := by decide +kernel
theorem dX12_scan_49 : decode cX12_scan 49 = .ok (.goto 5, 3) := by decide +kernel
theorem dX12_scan_52 : decode cX12_scan 52 = .ok (.bipush (-13), 2) := by decide +kernel
theorem dX12_scan_54 : decode cX12_scan 54 = .ok (.ireturn, 1) := by decide +kernel
theorem dX12_scan_55 : decode cX12_scan 55 = .ok (.iconst 0, 1) := by decide +kernel
theorem dX12_scan_56 : decode cX12_scan 56 = .ok (.istore 4, 2) := by decide +kernel
theorem dX12_scan_58 : decode cX12_scan 58 = .ok (.iload 4, 2) := by decide +kernel
theorem dX12_scan_60 : decode cX12_scan 60 = .ok (.iconst 3, 1) := by decide +kernel
theorem dX12_scan_61 : decode cX12_scan 61 = .ok (.aload_n 0, 1) := by decide +kernel
theorem dX12_scan_62 : decode cX12_scan 62 = .ok (.getfield 177, 3) := by decide +kernel
theorem dX12_scan_65 : decode cX12_scan 65 = .ok (.imul, 1) := by decide +kernel
theorem dX12_scan_66 : decode cX12_scan 66 = .ok (.if_icmp .ge 65, 3) := by decide +kernel
theorem dX12_scan_69 : decode cX12_scan 69 = .ok (.iload_n 3, 1) := by decide +kernel
theorem dX12_scan_70 : decode cX12_scan 70 = .ok (.i2l, 1) := by decide +kernel
theorem dX12_scan_71 : decode cX12_scan 71 = .ok (.iload 4, 2) := by decide +kernel
theorem dX12_scan_73 : decode cX12_scan 73 = .ok (.i2l, 1) := by decide +kernel
theorem dX12_scan_74 : decode cX12_scan 74 = .ok (.ladd, 1) := by decide +kernel
theorem dX12_scan_75 : decode cX12_scan 75 = .ok (.lconst 0, 1) := by decide +kernel
theorem dX12_scan_76 : decode cX12_scan 76 = .ok (.aload_n 0, 1) := by decide +kernel
theorem dX12_scan_77 : decode cX12_scan 77 = .ok (.getfield 171, 3) := by decide +kernel
theorem dX12_scan_80 : decode cX12_scan 80 = .ok (.iload_n 1, 1) := by decide +kernel
theorem dX12_scan_81 : decode cX12_scan 81 = .ok (.iaload, 1) := by decide +kernel
theorem dX12_scan_82 : decode cX12_scan 82 = .ok (.iconst 1, 1) := by decide +kernel
theorem dX12_scan_83 : decode cX12_scan 83 = .ok (.isub, 1) := by decide +kernel
theorem dX12_scan_84 : decode cX12_scan 84 = .ok (.i2l, 1) := by decide +kernel
theorem dX12_scan_85 : decode cX12_scan 85 = .ok (.invokestatic 181, 3) := by decide +kernel
theorem dX12_scan_88 : decode cX12_scan 88 = .ok (.ifCond .ne 6, 3) := by decide +kernel
theorem dX12_scan_91 : decode cX12_scan 91 = .ok (.bipush (-12), 2) := by decide +kernel
theorem dX12_scan_93 : decode cX12_scan 93 = .ok (.ireturn, 1) := by decide +kernel
theorem dX12_scan_94 : decode cX12_scan 94 = .ok (.aload_n 0, 1) := by decide +kernel
theorem dX12_scan_95 : decode cX12_scan 95 = .ok (.getfield 174, 3) := by decide +kernel
theorem dX12_scan_98 : decode cX12_scan 98 = .ok (.bipush 60, 2) := by decide +kernel
theorem dX12_scan_100 : decode cX12_scan 100 = .ok (.iload_n 1, 1) := by decide +kernel
theorem dX12_scan_101 : decode cX12_scan 101 = .ok (.imul, 1) := by decide +kernel
theorem dX12_scan_102 : decode cX12_scan 102 = .ok (.iload_n 3, 1) := by decide +kernel
theorem dX12_scan_103 : decode cX12_scan 103 = .ok (.iadd, 1) := by decide +kernel
theorem dX12_scan_104 : decode cX12_scan 104 = .ok (.iload 4, 2) := by decide +kernel
theorem dX12_scan_106 : decode cX12_scan 106 = .ok (.iadd, 1) := by decide +kernel
theorem dX12_scan_107 : decode cX12_scan 107 = .ok (.iaload, 1) := by decide +kernel
theorem dX12_scan_108 : decode cX12_scan 108 = .ok (.i2l, 1) := by decide +kernel
theorem dX12_scan_109 : decode cX12_scan 109 = .ok (.lconst 0, 1) := by decide +kernel
theorem dX12_scan_110 : decode cX12_scan 110 = .ok (.ldc2_w 203, 3) := by decide +kernel
theorem dX12_scan_113 : decode cX12_scan 113 = .ok (.invokestatic 181, 3) := by decide +kernel
theorem dX12_scan_116 : decode cX12_scan 116 = .ok (.ifCond .ne 9, 3) := by decide +kernel
theorem dX12_scan_119 : decode cX12_scan 119 = .ok (.bipush (-100), 2) := by decide +kernel
theorem dX12_scan_121 : decode cX12_scan 121 = .ok (.iload 4, 2) := by decide +kernel
theorem dX12_scan_123 : decode cX12_scan 123 = .ok (.isub, 1) := by decide +kernel
theorem dX12_scan_124 : decode cX12_scan 124 = .ok (.ireturn, 1) := by decide +kernel
theorem dX12_scan_125 : decode cX12_scan 125 = .ok (.iinc 4 1, 3) := by decide +kernel
theorem dX12_scan_128 : decode cX12_scan 128 = .ok (.goto (-70), 3) := by decide +kernel
theorem dX12_scan_131 : decode cX12_scan 131 = .ok (.aload_n 0, 1) := by decide +kernel
theorem dX12_scan_132 : decode cX12_scan 132 = .ok (.getfield 200, 3) := by decide +kernel
theorem dX12_scan_135 : decode cX12_scan 135 = .ok (.iconst 3, 1) := by decide +kernel
theorem dX12_scan_136 : decode cX12_scan 136 = .ok (.aload_n 0, 1) := by decide +kernel
theorem dX12_scan_137 : decode cX12_scan 137 = .ok (.getfield 177, 3) := by decide +kernel
theorem dX12_scan_140 : decode cX12_scan 140 = .ok (.imul, 1) := by decide +kernel
theorem dX12_scan_141 : decode cX12_scan 141 = .ok (.iadd, 1) := by decide +kernel
theorem dX12_scan_142 : decode cX12_scan 142 = .ok (.bipush 60, 2) := by decide +kernel
theorem dX12_scan_144 : decode cX12_scan 144 = .ok (.if_icmp .le 6, 3) := by decide +kernel
theorem dX12_scan_147 : decode cX12_scan 147 = .ok (.bipush (-3), 2) := by decide +kernel
theorem dX12_scan_149 : decode cX12_scan 149 = .ok (.ireturn, 1) := by decide +kernel
theorem dX12_scan_150 : decode cX12_scan 150 = .ok (.iconst 0, 1) := by decide +kernel
theorem dX12_scan_151 : decode cX12_scan 151 = .ok (.istore 4, 2) := by decide +kernel
theorem dX12_scan_153 : decode cX12_scan 153 = .ok (.iload 4, 2) := by decide +kernel
theorem dX12_scan_155 : decode cX12_scan 155 = .ok (.iconst 3, 1) := by decide +kernel
theorem dX12_scan_156 : decode cX12_scan 156 = .ok (.aload_n 0, 1) := by decide +kernel
theorem dX12_scan_157 : decode cX12_scan 157 = .ok (.getfield 177, 3) := by decide +kernel
theorem dX12_scan_160 : decode cX12_scan 160 = .ok (.imul, 1) := by decide +kernel
theorem dX12_scan_161 : decode cX12_scan 161 = .ok (.if_icmp .ge 39, 3) := by decide +kernel
theorem dX12_scan_164 : decode cX12_scan 164 = .ok (.aload_n 0, 1) := by decide +kernel
theorem dX12_scan_165 : decode cX12_scan 165 = .ok (.iload 4, 2) := by decide +kernel
theorem dX12_scan_167 : decode cX12_scan 167 = .ok (.iconst 3, 1) := by decide +kernel
theorem dX12_scan_168 : decode cX12_scan 168 = .ok (.idiv, 1) := by decide +kernel
theorem dX12_scan_169 : decode cX12_scan 169 = .ok (.iload 4, 2) := by decide +kernel
theorem dX12_scan_171 : decode cX12_scan 171 = .ok (.iconst 3, 1) := by decide +kernel
theorem dX12_scan_172 : decode cX12_scan 172 = .ok (.irem, 1) := by decide +kernel
theorem dX12_scan_173 : decode cX12_scan 173 = .ok (.aload_n 0, 1) := by decide +kernel
theorem dX12_scan_174 : decode cX12_scan 174 = .ok (.getfield 174, 3) := by decide +kernel
theorem dX12_scan_177 : decode cX12_scan 177 = .ok (.bipush 60, 2) := by decide +kernel
theorem dX12_scan_179 : decode cX12_scan 179 = .ok (.iload_n 1, 1) := by decide +kernel
theorem dX12_scan_180 : decode cX12_scan 180 = .ok (.imul, 1) := by decide +kernel
theorem dX12_scan_181 : decode cX12_scan 181 = .ok (.iload_n 3, 1) := by decide +kernel
theorem dX12_scan_182 : decode cX12_scan 182 = .ok (.iadd, 1) := by decide +kernel
theorem dX12_scan_183 : decode cX12_scan 183 = .ok (.iload 4, 2) := by decide +kernel
theorem dX12_scan_185 : decode cX12_scan 185 = .ok (.iadd, 1) := by decide +kernel
theorem dX12_scan_186 : decode cX12_scan 186 = .ok (.iaload, 1) := by decide +kernel
theorem dX12_scan_187 : decode cX12_scan 187 = .ok (.aload_n 0, 1) := by decide +kernel
theorem dX12_scan_188 : decode cX12_scan 188 = .ok (.getfield 187, 3) := by decide +kernel
theorem dX12_scan_191 : decode cX12_scan 191 = .ok (.invokevirtual 208, 3) := by decide +kernel
theorem dX12_scan_194 : decode cX12_scan 194 = .ok (.iinc 4 1, 3) := by decide +kernel
theorem dX12_scan_197 : decode cX12_scan 197 = .ok (.goto (-44), 3) := by decide +kernel
theorem dX12_scan_200 : decode cX12_scan 200 = .ok (.aload_n 0, 1) := by decide +kernel
theorem dX12_scan_201 : decode cX12_scan 201 = .ok (.getfield 200, 3) := by decide +kernel
theorem dX12_scan_204 : decode cX12_scan 204 = .ok (.ireturn, 1) := by decide +kernel
theorem dX12_count_0 : decode cX12_count 0 = .ok (.iconst 0, 1) := by decide +kernel
theorem dX12_count_1 : decode cX12_count 1 = .ok (.istore_n 2, 1) := by decide +kernel
theorem dX12_count_2 : decode cX12_count 2 = .ok (.iconst 0, 1) := by decide +kernel
theorem dX12_count_3 : decode cX12_count 3 = .ok (.istore_n 3, 1) := by decide +kernel
theorem dX12_count_4 : decode cX12_count 4 = .ok (.iconst 0, 1) := by decide +kernel
theorem dX12_count_5 : decode cX12_count 5 = .ok (.istore 4, 2) := by decide +kernel
theorem dX12_count_7 : decode cX12_count 7 = .ok (.iload 4, 2) := by decide +kernel
theorem dX12_count_9 : decode cX12_count 9 = .ok (.aload_n 0, 1) := by decide +kernel
theorem dX12_count_10 : decode cX12_count 10 = .ok (.getfield 232, 3) := by decide +kernel
theorem dX12_count_13 : decode cX12_count 13 = .ok (.if_icmp .ge 49, 3) := by decide +kernel
theorem dX12_count_16 : decode cX12_count 16 = .ok (.iload_n 2, 1) := by decide +kernel
theorem dX12_count_17 : decode cX12_count 17 = .ok (.aload_n 0, 1) := by decide +kernel
theorem dX12_count_18 : decode cX12_count 18 = .ok (.getfield 103, 3) := by decide +kernel
theorem dX12_count_21 : decode cX12_count 21 = .ok (.iload 4, 2) := by decide +kernel
theorem dX12_count_23 : decode cX12_count 23 = .ok (.iaload, 1) := by decide +kernel
theorem dX12_count_24 : decode cX12_count 24 = .ok (.bipush (-4), 2) := by decide +kernel
theorem dX12_count_26 : decode cX12_count 26 = .ok (.if_icmp .eq 7, 3) := by decide +kernel
theorem dX12_count_29 : decode cX12_count 29 = .ok (.iconst 1, 1) := by decide +kernel
theorem dX12_count_30 : decode cX12_count 30 = .ok (.goto 4, 3) := by decide +kernel
theorem dX12_count_33 : decode cX12_count 33 = .ok (.iconst 0, 1) := by decide +kernel
theorem dX12_count_34 : decode cX12_count 34 = .ok (.iadd, 1) := by decide +kernel
theorem dX12_count_35 : decode cX12_count 35 = .ok (.istore_n 2, 1) := by decide +kernel
theorem dX12_count_36 : decode cX12_count 36 = .ok (.iload_n 3, 1) := by decide +kernel
theorem dX12_count_37 : decode cX12_count 37 = .ok (.aload_n 0, 1) := by decide +kernel
theorem dX12_count_38 : decode cX12_count 38 = .ok (.getfield 106, 3) := by decide +kernel
theorem dX12_count_41 : decode cX12_count 41 = .ok (.iload 4, 2) := by decide +kernel
theorem dX12_count_43 : decode cX12_count 43 = .ok (.iaload, 1) := by decide +kernel
theorem dX12_count_44 : decode cX12_count 44 = .ok (.bipush (-4), 2) := by decide +kernel
theorem dX12_count_46 : decode cX12_count 46 = .ok (.if_icmp .eq 7, 3) := by decide +kernel
theorem dX12_count_49 : decode cX12_count 49 = .ok (.iconst 1, 1) := by decide +kernel
theorem dX12_count_50 : decode cX12_count 50 = .ok (.goto 4, 3) := by decide +kernel
theorem dX12_count_53 : decode cX12_count 53 = .ok (.iconst 0, 1) := by decide +kernel
theorem dX12_count_54 : decode cX12_count 54 = .ok (.iadd, 1) := by decide +kernel
theorem dX12_count_55 : decode cX12_count 55 = .ok (.istore_n 3, 1) := by decide +kernel
theorem dX12_count_56 : decode cX12_count 56 = .ok (.iinc 4 1, 3) := by decide +kernel
theorem dX12_count_59 : decode cX12_count 59 = .ok (.goto (-52), 3) := by decide +kernel
theorem dX12_count_62 : decode cX12_count 62 = .ok (.iconst 0, 1) := by decide +kernel
theorem dX12_count_63 : decode cX12_count 63 = .ok (.istore 4, 2) := by decide +kernel
theorem dX12_count_65 : decode cX12_count 65 = .ok (.iconst 0, 1) := by decide +kernel
theorem dX12_count_66 : decode cX12_count 66 = .ok (.istore 5, 2) := by decide +kernel
theorem dX12_count_68 : decode cX12_count 68 = .ok (.iload 5, 2) := by decide +kernel
theorem dX12_count_70 : decode cX12_count 70 = .ok (.aload_n 0, 1) := by decide +kernel
theorem dX12_count_71 : decode cX12_count 71 = .ok (.getfield 177, 3) := by decide +kernel
theorem dX12_count_74 : decode cX12_count 74 = .ok (.if_icmp .ge 21, 3) := by decide +kernel
theorem dX12_count_77 : decode cX12_count 77 = .ok (.iload 4, 2) := by decide +kernel
theorem dX12_count_79 : decode cX12_count 79 = .ok (.aload_n 0, 1) := by decide +kernel
theorem dX12_count_80 : decode cX12_count 80 = .ok (.getfield 19, 3) := by decide +kernel
theorem dX12_count_83 : decode cX12_count 83 = .ok (.iload 5, 2) := by decide +kernel
theorem dX12_count_85 : decode cX12_count 85 = .ok (.iaload, 1) := by decide +kernel
theorem dX12_count_86 : decode cX12_count 86 = .ok (.iadd, 1) := by decide +kernel
theorem dX12_count_87 : decode cX12_count 87 = .ok (.istore 4, 2) := by decide +kernel
theorem dX12_count_89 : decode cX12_count 89 = .ok (.iinc 5 1, 3) := by decide +kernel
theorem dX12_count_92 : decode cX12_count 92 = .ok (.goto (-24), 3) := by decide +kernel
theorem dX12_count_95 : decode cX12_count 95 = .ok (.iload_n 1, 1) := by decide +kernel
theorem dX12_count_96 : decode cX12_count 96 = .ok (.tableswitch 147 0 12 #[68, 73, 78, 83, 88, 90, 92, 101, 106, 111, 116, 119, 124], 68) := by decide +kernel
theorem dX12_count_164 : decode cX12_count 164 = .ok (.aload_n 0, 1) := by decide +kernel
theorem dX12_count_165 : decode cX12_count 165 = .ok (.getfield 177, 3) := by decide +kernel
theorem dX12_count_168 : decode cX12_count 168 = .ok (.ireturn, 1) := by decide +kernel
theorem dX12_count_169 : decode cX12_count 169 = .ok (.aload_n 0, 1) := by decide +kernel
theorem dX12_count_170 : decode cX12_count 170 = .ok (.getfield 235, 3) := by decide +kernel
theorem dX12_count_173 : decode cX12_count 173 = .ok (.ireturn, 1) := by decide +kernel
theorem dX12_count_174 : decode cX12_count 174 = .ok (.aload_n 0, 1) := by decide +kernel
theorem dX12_count_175 : decode cX12_count 175 = .ok (.getfield 328, 3) := by decide +kernel
theorem dX12_count_178 : decode cX12_count 178 = .ok (.ireturn, 1) := by decide +kernel
theorem dX12_count_179 : decode cX12_count 179 = .ok (.aload_n 0, 1) := by decide +kernel
theorem dX12_count_180 : decode cX12_count 180 = .ok (.getfield 232, 3) := by decide +kernel
theorem dX12_count_183 : decode cX12_count 183 = .ok (.ireturn, 1) := by decide +kernel
theorem dX12_count_184 : decode cX12_count 184 = .ok (.iload_n 2, 1) := by decide +kernel
theorem dX12_count_185 : decode cX12_count 185 = .ok (.ireturn, 1) := by decide +kernel
theorem dX12_count_186 : decode cX12_count 186 = .ok (.iload_n 3, 1) := by decide +kernel
theorem dX12_count_187 : decode cX12_count 187 = .ok (.ireturn, 1) := by decide +kernel
theorem dX12_count_188 : decode cX12_count 188 = .ok (.aload_n 0, 1) := by decide +kernel
theorem dX12_count_189 : decode cX12_count 189 = .ok (.getfield 232, 3) := by decide +kernel
theorem dX12_count_192 : decode cX12_count 192 = .ok (.iload_n 2, 1) := by decide +kernel
theorem dX12_count_193 : decode cX12_count 193 = .ok (.isub, 1) := by decide +kernel
theorem dX12_count_194 : decode cX12_count 194 = .ok (.iload_n 3, 1) := by decide +kernel
theorem dX12_count_195 : decode cX12_count 195 = .ok (.isub, 1) := by decide +kernel
theorem dX12_count_196 : decode cX12_count 196 = .ok (.ireturn, 1) := by decide +kernel
theorem dX12_count_197 : decode cX12_count 197 = .ok (.aload_n 0, 1) := by decide +kernel
theorem dX12_count_198 : decode cX12_count 198 = .ok (.getfield 315, 3) := by decide +kernel
theorem dX12_count_201 : decode cX12_count 201 = .ok (.ireturn, 1) := by decide +kernel
theorem dX12_count_202 : decode cX12_count 202 = .ok (.aload_n 0, 1) := by decide +kernel
theorem dX12_count_203 : decode cX12_count 203 = .ok (.getfield 200, 3) := by decide +kernel
theorem dX12_count_206 : decode cX12_count 206 = .ok (.ireturn, 1) := by decide +kernel
theorem dX12_count_207 : decode cX12_count 207 = .ok (.aload_n 0, 1) := by decide +kernel
theorem dX12_count_208 : decode cX12_count 208 = .ok (.getfield 187, 3) := by decide +kernel
theorem dX12_count_211 : decode cX12_count 211 = .ok (.ireturn, 1) := by decide +kernel
theorem dX12_count_212 : decode cX12_count 212 = .ok (.iload 4, 2) := by decide +kernel
theorem dX12_count_214 : decode cX12_count 214 = .ok (.ireturn, 1) := by decide +kernel
theorem dX12_count_215 : decode cX12_count 215 = .ok (.aload_n 0, 1) := by decide +kernel
theorem dX12_count_216 : decode cX12_count 216 = .ok (.getfield 251, 3) := by decide +kernel
theorem dX12_count_219 : decode cX12_count 219 = .ok (.ireturn, 1) := by decide +kernel
theorem dX12_count_220 : decode cX12_count 220 = .ok (.aload_n 0, 1) := by decide +kernel
theorem dX12_count_221 : decode cX12_count 221 = .ok (.getfield 168, 3) := by decide +kernel
theorem dX12_count_224 : decode cX12_count 224 = .ok (.iconst 0, 1) := by decide +kernel
theorem dX12_count_225 : decode cX12_count 225 = .ok (.iaload, 1) := by decide +kernel
theorem dX12_count_226 : decode cX12_count 226 = .ok (.bipush (-4), 2) := by decide +kernel
theorem dX12_count_228 : decode cX12_count 228 = .ok (.if_icmp .ne 8, 3) := by decide +kernel
theorem dX12_count_231 : decode cX12_count 231 = .ok (.bipush (-4), 2) := by decide +kernel
theorem dX12_count_233 : decode cX12_count 233 = .ok (.goto 9, 3) := by decide +kernel
theorem dX12_count_236 : decode cX12_count 236 = .ok (.aload_n 0, 1) := by decide +kernel
theorem dX12_count_237 : decode cX12_count 237 = .ok (.getfield 171, 3) := by decide +kernel
theorem dX12_count_240 : decode cX12_count 240 = .ok (.iconst 0, 1) := by decide +kernel
theorem dX12_count_241 : decode cX12_count 241 = .ok (.iaload, 1) := by decide +kernel
theorem dX12_count_242 : decode cX12_count 242 = .ok (.ireturn, 1) := by decide +kernel
theorem dX12_count_243 : decode cX12_count 243 = .ok (.iconst (-1), 1) := by decide +kernel
theorem dX12_count_244 : decode cX12_count 244 = .ok (.ireturn, 1) := by decide +kernel
theorem dJ6_bitCount_0f7a4_0 : decode cJ6_bitCount_0f7a4 0 = .ok (.iload_n 0, 1) := by decide +kernel
theorem dJ6_bitCount_0f7a4_1 : decode cJ6_bitCount_0f7a4 1 = .ok (.iload_n 0, 1) := by decide +kernel
theorem dJ6_bitCount_0f7a4_2 : decode cJ6_bitCount_0f7a4 2 = .ok (.iconst 1, 1) := by decide +kernel
theorem dJ6_bitCount_0f7a4_3 : decode cJ6_bitCount_0f7a4 3 = .ok (.iushr, 1) := by decide +kernel
theorem dJ6_bitCount_0f7a4_4 : decode cJ6_bitCount_0f7a4 4 = .ok (.ldc_w 265, 3) := by decide +kernel
theorem dJ6_bitCount_0f7a4_7 : decode cJ6_bitCount_0f7a4 7 = .ok (.iand, 1) := by decide +kernel
theorem dJ6_bitCount_0f7a4_8 : decode cJ6_bitCount_0f7a4 8 = .ok (.isub, 1) := by decide +kernel
theorem dJ6_bitCount_0f7a4_9 : decode cJ6_bitCount_0f7a4 9 = .ok (.istore_n 0, 1) := by decide +kernel
theorem dJ6_bitCount_0f7a4_10 : decode cJ6_bitCount_0f7a4 10 = .ok (.iload_n 0, 1) := by decide +kernel
theorem dJ6_bitCount_0f7a4_11 : decode cJ6_bitCount_0f7a4 11 = .ok (.ldc_w 266, 3) := by decide +kernel
theorem dJ6_bitCount_0f7a4_14 : decode cJ6_bitCount_0f7a4 14 = .ok (.iand, 1) := by decide +kernel
theorem dJ6_bitCount_0f7a4_15 : decode cJ6_bitCount_0f7a4 15 = .ok (.iload_n 0, 1) := by decide +kernel
theorem dJ6_bitCount_0f7a4_16 : decode cJ6_bitCount_0f7a4 16 = .ok (.iconst 2, 1) := by decide +kernel
theorem dJ6_bitCount_0f7a4_17 : decode cJ6_bitCount_0f7a4 17 = .ok (.iushr, 1) := by decide +kernel
theorem dJ6_bitCount_0f7a4_18 : decode cJ6_bitCount_0f7a4 18 = .ok (.ldc_w 266, 3) := by decide +kernel
theorem dJ6_bitCount_0f7a4_21 : decode cJ6_bitCount_0f7a4 21 = .ok (.iand, 1) := by decide +kernel
theorem dJ6_bitCount_0f7a4_22 : decode cJ6_bitCount_0f7a4 22 = .ok (.iadd, 1) := by decide +kernel
theorem dJ6_bitCount_0f7a4_23 : decode cJ6_bitCount_0f7a4 23 = .ok (.istore_n 0, 1) := by decide +kernel
theorem dJ6_bitCount_0f7a4_24 : decode cJ6_bitCount_0f7a4 24 = .ok (.iload_n 0, 1) := by decide +kernel
theorem dJ6_bitCount_0f7a4_25 : decode cJ6_bitCount_0f7a4 25 = .ok (.iload_n 0, 1) := by decide +kernel
theorem dJ6_bitCount_0f7a4_26 : decode cJ6_bitCount_0f7a4 26 = .ok (.iconst 4, 1) := by decide +kernel
theorem dJ6_bitCount_0f7a4_27 : decode cJ6_bitCount_0f7a4 27 = .ok (.iushr, 1) := by decide +kernel
theorem dJ6_bitCount_0f7a4_28 : decode cJ6_bitCount_0f7a4 28 = .ok (.iadd, 1) := by decide +kernel
theorem dJ6_bitCount_0f7a4_29 : decode cJ6_bitCount_0f7a4 29 = .ok (.ldc_w 267, 3) := by decide +kernel
theorem dJ6_bitCount_0f7a4_32 : decode cJ6_bitCount_0f7a4 32 = .ok (.iand, 1) := by decide +kernel
theorem dJ6_bitCount_0f7a4_33 : decode cJ6_bitCount_0f7a4 33 = .ok (.istore_n 0, 1) := by decide +kernel
theorem dJ6_bitCount_0f7a4_34 : decode cJ6_bitCount_0f7a4 34 = .ok (.iload_n 0, 1) := by decide +kernel
theorem dJ6_bitCount_0f7a4_35 : decode cJ6_bitCount_0f7a4 35 = .ok (.iload_n 0, 1) := by decide +kernel
theorem dJ6_bitCount_0f7a4_36 : decode cJ6_bitCount_0f7a4 36 = .ok (.bipush 8, 2) := by decide +kernel
theorem dJ6_bitCount_0f7a4_38 : decode cJ6_bitCount_0f7a4 38 = .ok (.iushr, 1) := by decide +kernel
theorem dJ6_bitCount_0f7a4_39 : decode cJ6_bitCount_0f7a4 39 = .ok (.iadd, 1) := by decide +kernel
theorem dJ6_bitCount_0f7a4_40 : decode cJ6_bitCount_0f7a4 40 = .ok (.istore_n 0, 1) := by decide +kernel
theorem dJ6_bitCount_0f7a4_41 : decode cJ6_bitCount_0f7a4 41 = .ok (.iload_n 0, 1) := by decide +kernel
theorem dJ6_bitCount_0f7a4_42 : decode cJ6_bitCount_0f7a4 42 = .ok (.iload_n 0, 1) := by decide +kernel
theorem dJ6_bitCount_0f7a4_43 : decode cJ6_bitCount_0f7a4 43 = .ok (.bipush 16, 2) := by decide +kernel
theorem dJ6_bitCount_0f7a4_45 : decode cJ6_bitCount_0f7a4 45 = .ok (.iushr, 1) := by decide +kernel
theorem dJ6_bitCount_0f7a4_46 : decode cJ6_bitCount_0f7a4 46 = .ok (.iadd, 1) := by decide +kernel
theorem dJ6_bitCount_0f7a4_47 : decode cJ6_bitCount_0f7a4 47 = .ok (.istore_n 0, 1) := by decide +kernel
theorem dJ6_bitCount_0f7a4_48 : decode cJ6_bitCount_0f7a4 48 = .ok (.iload_n 0, 1) := by decide +kernel
theorem dJ6_bitCount_0f7a4_49 : decode cJ6_bitCount_0f7a4 49 = .ok (.bipush 63, 2) := by decide +kernel
theorem dJ6_bitCount_0f7a4_51 : decode cJ6_bitCount_0f7a4 51 = .ok (.iand, 1) := by decide +kernel
theorem dJ6_bitCount_0f7a4_52 : decode cJ6_bitCount_0f7a4 52 = .ok (.ireturn, 1) := by decide +kernel
theorem dJ13_bitCount_95d88_0 : decode cJ13_bitCount_95d88 0 = .ok (.lload_n 0, 1) := by decide +kernel
theorem dJ13_bitCount_95d88_1 : decode cJ13_bitCount_95d88 1 = .ok (.lload_n 0, 1) := by decide +kernel
theorem dJ13_bitCount_95d88_2 : decode cJ13_bitCount_95d88 2 = .ok (.iconst 1, 1) := by decide +kernel
theorem dJ13_bitCount_95d88_3 : decode cJ13_bitCount_95d88 3 = .ok (.lushr, 1) := by decide +kernel
theorem dJ13_bitCount_95d88_4 : decode cJ13_bitCount_95d88 4 = .ok (.ldc2_w 314, 3) := by decide +kernel
theorem dJ13_bitCount_95d88_7 : decode cJ13_bitCount_95d88 7 = .ok (.land, 1) := by decide +kernel
theorem dJ13_bitCount_95d88_8 : decode cJ13_bitCount_95d88 8 = .ok (.lsub, 1) := by decide +kernel
theorem dJ13_bitCount_95d88_9 : decode cJ13_bitCount_95d88 9 = .ok (.lstore_n 0, 1) := by decide +kernel
theorem dJ13_bitCount_95d88_10 : decode cJ13_bitCount_95d88 10 = .ok (.lload_n 0, 1) := by decide +kernel
theorem dJ13_bitCount_95d88_11 : decode cJ13_bitCount_95d88 11 = .ok (.ldc2_w 316, 3) := by decide +kernel
theorem dJ13_bitCount_95d88_14 : decode cJ13_bitCount_95d88 14 = .ok (.land, 1) := by decide +kernel
theorem dJ13_bitCount_95d88_15 : decode cJ13_bitCount_95d88 15 = .ok (.lload_n 0, 1) := by decide +kernel
theorem dJ13_bitCount_95d88_16 : decode cJ13_bitCount_95d88 16 = .ok (.iconst 2, 1) := by decide +kernel
theorem dJ13_bitCount_95d88_17 : decode cJ13_bitCount_95d88 17 = .ok (.lushr, 1) := by decide +kernel
theorem dJ13_bitCount_95d88_18 : decode cJ13_bitCount_95d88 18 = .ok (.ldc2_w 316, 3) := by decide +kernel
theorem dJ13_bitCount_95d88_21 : decode cJ13_bitCount_95d88 21 = .ok (.land, 1) := by decide +kernel
theorem dJ13_bitCount_95d88_22 : decode cJ13_bitCount_95d88 22 = .ok (.ladd, 1) := by decide +kernel
theorem dJ13_bitCount_95d88_23 : decode cJ13_bitCount_95d88 23 = .ok (.lstore_n 0, 1) := by decide +kernel
theorem dJ13_bitCount_95d88_24 : decode cJ13_bitCount_95d88 24 = .ok (.lload_n 0, 1) := by decide +kernel
theorem dJ13_bitCount_95d88_25 : decode cJ13_bitCount_95d88 25 = .ok (.lload_n 0, 1) := by decide +kernel
theorem dJ13_bitCount_95d88_26 : decode cJ13_bitCount_95d88 26 = .ok (.iconst 4, 1) := by decide +kernel
theorem dJ13_bitCount_95d88_27 : decode cJ13_bitCount_95d88 27 = .ok (.lushr, 1) := by decide +kernel
theorem dJ13_bitCount_95d88_28 : decode cJ13_bitCount_95d88 28 = .ok (.ladd, 1) := by decide +kernel
theorem dJ13_bitCount_95d88_29 : decode cJ13_bitCount_95d88 29 = .ok (.ldc2_w 318, 3) := by decide +kernel
theorem dJ13_bitCount_95d88_32 : decode cJ13_bitCount_95d88 32 = .ok (.land, 1) := by decide +kernel
theorem dJ13_bitCount_95d88_33 : decode cJ13_bitCount_95d88 33 = .ok (.lstore_n 0, 1) := by decide +kernel
theorem dJ13_bitCount_95d88_34 : decode cJ13_bitCount_95d88 34 = .ok (.lload_n 0, 1) := by decide +kernel
theorem dJ13_bitCount_95d88_35 : decode cJ13_bitCount_95d88 35 = .ok (.lload_n 0, 1) := by decide +kernel
theorem dJ13_bitCount_95d88_36 : decode cJ13_bitCount_95d88 36 = .ok (.bipush 8, 2) := by decide +kernel
theorem dJ13_bitCount_95d88_38 : decode cJ13_bitCount_95d88 38 = .ok (.lushr, 1) := by decide +kernel
theorem dJ13_bitCount_95d88_39 : decode cJ13_bitCount_95d88 39 = .ok (.ladd, 1) := by decide +kernel
theorem dJ13_bitCount_95d88_40 : decode cJ13_bitCount_95d88 40 = .ok (.lstore_n 0, 1) := by decide +kernel
theorem dJ13_bitCount_95d88_41 : decode cJ13_bitCount_95d88 41 = .ok (.lload_n 0, 1) := by decide +kernel
theorem dJ13_bitCount_95d88_42 : decode cJ13_bitCount_95d88 42 = .ok (.lload_n 0, 1) := by decide +kernel
theorem dJ13_bitCount_95d88_43 : decode cJ13_bitCount_95d88 43 = .ok (.bipush 16, 2) := by decide +kernel
theorem dJ13_bitCount_95d88_45 : decode cJ13_bitCount_95d88 45 = .ok (.lushr, 1) := by decide +kernel
theorem dJ13_bitCount_95d88_46 : decode cJ13_bitCount_95d88 46 = .ok (.ladd, 1) := by decide +kernel
theorem dJ13_bitCount_95d88_47 : decode cJ13_bitCount_95d88 47 = .ok (.lstore_n 0, 1) := by decide +kernel
theorem dJ13_bitCount_95d88_48 : decode cJ13_bitCount_95d88 48 = .ok (.lload_n 0, 1) := by decide +kernel
theorem dJ13_bitCount_95d88_49 : decode cJ13_bitCount_95d88 49 = .ok (.lload_n 0, 1) := by decide +kernel
theorem dJ13_bitCount_95d88_50 : decode cJ13_bitCount_95d88 50 = .ok (.bipush 32, 2) := by decide +kernel
theorem dJ13_bitCount_95d88_52 : decode cJ13_bitCount_95d88 52 = .ok (.lushr, 1) := by decide +kernel
theorem dJ13_bitCount_95d88_53 : decode cJ13_bitCount_95d88 53 = .ok (.ladd, 1) := by decide +kernel
theorem dJ13_bitCount_95d88_54 : decode cJ13_bitCount_95d88 54 = .ok (.lstore_n 0, 1) := by decide +kernel
theorem dJ13_bitCount_95d88_55 : decode cJ13_bitCount_95d88 55 = .ok (.lload_n 0, 1) := by decide +kernel
theorem dJ13_bitCount_95d88_56 : decode cJ13_bitCount_95d88 56 = .ok (.l2i, 1) := by decide +kernel
theorem dJ13_bitCount_95d88_57 : decode cJ13_bitCount_95d88 57 = .ok (.bipush 127, 2) := by decide +kernel
theorem dJ13_bitCount_95d88_59 : decode cJ13_bitCount_95d88 59 = .ok (.iand, 1) := by decide +kernel
theorem dJ13_bitCount_95d88_60 : decode cJ13_bitCount_95d88 60 = .ok (.ireturn, 1) := by decide +kernel
theorem dJ7_fill_d0a16_0 : decode cJ7_fill_d0a16 0 = .ok (.iconst 0, 1) := by decide +kernel
theorem dJ7_fill_d0a16_1 : decode cJ7_fill_d0a16 1 = .ok (.istore_n 3, 1) := by decide +kernel
theorem dJ7_fill_d0a16_2 : decode cJ7_fill_d0a16 2 = .ok (.aload_n 0, 1) := by decide +kernel
theorem dJ7_fill_d0a16_3 : decode cJ7_fill_d0a16 3 = .ok (.arraylength, 1) := by decide +kernel
theorem dJ7_fill_d0a16_4 : decode cJ7_fill_d0a16 4 = .ok (.istore 4, 2) := by decide +kernel
theorem dJ7_fill_d0a16_6 : decode cJ7_fill_d0a16 6 = .ok (.iload_n 3, 1) := by decide +kernel
theorem dJ7_fill_d0a16_7 : decode cJ7_fill_d0a16 7 = .ok (.iload 4, 2) := by decide +kernel
theorem dJ7_fill_d0a16_9 : decode cJ7_fill_d0a16 9 = .ok (.if_icmp .ge 13, 3) := by decide +kernel
theorem dJ7_fill_d0a16_12 : decode cJ7_fill_d0a16 12 = .ok (.aload_n 0, 1) := by decide +kernel
theorem dJ7_fill_d0a16_13 : decode cJ7_fill_d0a16 13 = .ok (.iload_n 3, 1) := by decide +kernel
theorem dJ7_fill_d0a16_14 : decode cJ7_fill_d0a16 14 = .ok (.lload_n 1, 1) := by decide +kernel
theorem dJ7_fill_d0a16_15 : decode cJ7_fill_d0a16 15 = .ok (.lastore, 1) := by decide +kernel
theorem dJ7_fill_d0a16_16 : decode cJ7_fill_d0a16 16 = .ok (.iinc 3 1, 3) := by decide +kernel
theorem dJ7_fill_d0a16_19 : decode cJ7_fill_d0a16 19 = .ok (.goto (-13), 3) := by decide +kernel
theorem dJ7_fill_d0a16_22 : decode cJ7_fill_d0a16 22 = .ok (.return_, 1) := by decide +kernel
theorem dJ7_fill_53178_0 : decode cJ7_fill_53178 0 = .ok (.iconst 0, 1) := by decide +kernel
theorem dJ7_fill_53178_1 : decode cJ7_fill_53178 1 = .ok (.istore_n 2, 1) := by decide +kernel
theorem dJ7_fill_53178_2 : decode cJ7_fill_53178 2 = .ok (.aload_n 0, 1) := by decide +kernel
theorem dJ7_fill_53178_3 : decode cJ7_fill_53178 3 = .ok (.arraylength, 1) := by decide +kernel
theorem dJ7_fill_53178_4 : decode cJ7_fill_53178 4 = .ok (.istore_n 3, 1) := by decide +kernel
theorem dJ7_fill_53178_5 : decode cJ7_fill_53178 5 = .ok (.iload_n 2, 1) := by decide +kernel
theorem dJ7_fill_53178_6 : decode cJ7_fill_53178 6 = .ok (.iload_n 3, 1) := by decide +kernel
theorem dJ7_fill_53178_7 : decode cJ7_fill_53178 7 = .ok (.if_icmp .ge 13, 3) := by decide +kernel
theorem dJ7_fill_53178_10 : decode cJ7_fill_53178 10 = .ok (.aload_n 0, 1) := by decide +kernel
theorem dJ7_fill_53178_11 : decode cJ7_fill_53178 11 = .ok (.iload_n 2, 1) := by decide +kernel
theorem dJ7_fill_53178_12 : decode cJ7_fill_53178 12 = .ok (.iload_n 1, 1) := by decide +kernel
theorem dJ7_fill_53178_13 : decode cJ7_fill_53178 13 = .ok (.iastore, 1) := by decide +kernel
theorem dJ7_fill_53178_14 : decode cJ7_fill_53178 14 = .ok (.iinc 2 1, 3) := by decide +kernel
theorem dJ7_fill_53178_17 : decode cJ7_fill_53178 17 = .ok (.goto (-12), 3) := by decide +kernel
theorem dJ7_fill_53178_20 : decode cJ7_fill_53178 20 = .ok (.return_, 1) := by decide +kernel
