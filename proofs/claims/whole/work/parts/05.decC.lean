theorem dX7_init_0 : decode cX7_init 0 = .ok (.aload_n 0, 1) := by decide +kernel
theorem dX7_init_1 : decode cX7_init 1 = .ok (.invokespecial 1, 3) := by decide +kernel
theorem dX7_init_4 : decode cX7_init 4 = .ok (.aload_n 0, 1) := by decide +kernel
theorem dX7_init_5 : decode cX7_init 5 = .ok (.bipush 32, 2) := by decide +kernel
theorem dX7_init_7 : decode cX7_init 7 = .ok (.newarray .int, 2) := by decide +kernel
theorem dX7_init_9 : decode cX7_init 9 = .ok (.putfield 7, 3) := by decide +kernel
theorem dX7_init_12 : decode cX7_init 12 = .ok (.aload_n 0, 1) := by decide +kernel
theorem dX7_init_13 : decode cX7_init 13 = .ok (.bipush 60, 2) := by decide +kernel
theorem dX7_init_15 : decode cX7_init 15 = .ok (.newarray .boolean, 2) := by decide +kernel
theorem dX7_init_17 : decode cX7_init 17 = .ok (.putfield 13, 3) := by decide +kernel
theorem dX7_init_20 : decode cX7_init 20 = .ok (.aload_n 0, 1) := by decide +kernel
theorem dX7_init_21 : decode cX7_init 21 = .ok (.bipush 12, 2) := by decide +kernel
theorem dX7_init_23 : decode cX7_init 23 = .ok (.newarray .int, 2) := by decide +kernel
theorem dX7_init_25 : decode cX7_init 25 = .ok (.putfield 17, 3) := by decide +kernel
theorem dX7_init_28 : decode cX7_init 28 = .ok (.aload_n 0, 1) := by decide +kernel
theorem dX7_init_29 : decode cX7_init 29 = .ok (.bipush 60, 2) := by decide +kernel
theorem dX7_init_31 : decode cX7_init 31 = .ok (.newarray .int, 2) := by decide +kernel
theorem dX7_init_33 : decode cX7_init 33 = .ok (.putfield 20, 3) := by decide +kernel
theorem dX7_init_36 : decode cX7_init 36 = .ok (.aload_n 0, 1) := by decide +kernel
theorem dX7_init_37 : decode cX7_init 37 = .ok (.bipush 14, 2) := by decide +kernel
theorem dX7_init_39 : decode cX7_init 39 = .ok (.newarray .int, 2) := by decide +kernel
theorem dX7_init_41 : decode cX7_init 41 = .ok (.putfield 23, 3) := by decide +kernel
theorem dX7_init_44 : decode cX7_init 44 = .ok (.aload_n 0, 1) := by decide +kernel
theorem dX7_init_45 : decode cX7_init 45 = .ok (.iconst 5, 1) := by decide +kernel
theorem dX7_init_46 : decode cX7_init 46 = .ok (.newarray .int, 2) := by decide +kernel
theorem dX7_init_48 : decode cX7_init 48 = .ok (.putfield 26, 3) := by decide +kernel
theorem dX7_init_51 : decode cX7_init 51 = .ok (.aload_n 0, 1) := by decide +kernel
theorem dX7_init_52 : decode cX7_init 52 = .ok (.bipush 32, 2) := by decide +kernel
theorem dX7_init_54 : decode cX7_init 54 = .ok (.newarray .long, 2) := by decide +kernel
theorem dX7_init_56 : decode cX7_init 56 = .ok (.putfield 29, 3) := by decide +kernel
theorem dX7_init_59 : decode cX7_init 59 = .ok (.aload_n 0, 1) := by decide +kernel
theorem dX7_init_60 : decode cX7_init 60 = .ok (.bipush 32, 2) := by decide +kernel
theorem dX7_init_62 : decode cX7_init 62 = .ok (.newarray .int, 2) := by decide +kernel
theorem dX7_init_64 : decode cX7_init 64 = .ok (.putfield 33, 3) := by decide +kernel
theorem dX7_init_67 : decode cX7_init 67 = .ok (.aload_n 0, 1) := by decide +kernel
theorem dX7_init_68 : decode cX7_init 68 = .ok (.bipush 32, 2) := by decide +kernel
theorem dX7_init_70 : decode cX7_init 70 = .ok (.newarray .int, 2) := by decide +kernel
theorem dX7_init_72 : decode cX7_init 72 = .ok (.putfield 36, 3) := by decide +kernel
theorem dX7_init_75 : decode cX7_init 75 = .ok (.aload_n 0, 1) := by decide +kernel
theorem dX7_init_76 : decode cX7_init 76 = .ok (.bipush 32, 2) := by decide +kernel
theorem dX7_init_78 : decode cX7_init 78 = .ok (.newarray .boolean, 2) := by decide +kernel
theorem dX7_init_80 : decode cX7_init 80 = .ok (.putfield 39, 3) := by decide +kernel
theorem dX7_init_83 : decode cX7_init 83 = .ok (.aload_n 0, 1) := by decide +kernel
theorem dX7_init_84 : decode cX7_init 84 = .ok (.bipush 32, 2) := by decide +kernel
theorem dX7_init_86 : decode cX7_init 86 = .ok (.newarray .long, 2) := by decide +kernel
theorem dX7_init_88 : decode cX7_init 88 = .ok (.putfield 42, 3) := by decide +kernel
theorem dX7_init_91 : decode cX7_init 91 = .ok (.aload_n 0, 1) := by decide +kernel
theorem dX7_init_92 : decode cX7_init 92 = .ok (.bipush 8, 2) := by decide +kernel
theorem dX7_init_94 : decode cX7_init 94 = .ok (.newarray .int, 2) := by decide +kernel
theorem dX7_init_96 : decode cX7_init 96 = .ok (.putfield 45, 3) := by decide +kernel
theorem dX7_init_99 : decode cX7_init 99 = .ok (.aload_n 0, 1) := by decide +kernel
theorem dX7_init_100 : decode cX7_init 100 = .ok (.bipush 8, 2) := by decide +kernel
theorem dX7_init_102 : decode cX7_init 102 = .ok (.newarray .int, 2) := by decide +kernel
theorem dX7_init_104 : decode cX7_init 104 = .ok (.putfield 48, 3) := by decide +kernel
theorem dX7_init_107 : decode cX7_init 107 = .ok (.aload_n 0, 1) := by decide +kernel
theorem dX7_init_108 : decode cX7_init 108 = .ok (.iconst 4, 1) := by decide +kernel
theorem dX7_init_109 : decode cX7_init 109 = .ok (.newarray .int, 2) := by decide +kernel
theorem dX7_init_111 : decode cX7_init 111 = .ok (.putfield 51, 3) := by decide +kernel
theorem dX7_init_114 : decode cX7_init 114 = .ok (.aload_n 0, 1) := by decide +kernel
theorem dX7_init_115 : decode cX7_init 115 = .ok (.iconst 4, 1) := by decide +kernel
theorem dX7_init_116 : decode cX7_init 116 = .ok (.newarray .int, 2) := by decide +kernel
theorem dX7_init_118 : decode cX7_init 118 = .ok (.putfield 54, 3) := by decide +kernel
theorem dX7_init_121 : decode cX7_init 121 = .ok (.aload_n 0, 1) := by decide +kernel
theorem dX7_init_122 : decode cX7_init 122 = .ok (.sipush 160, 3) := by decide +kernel
theorem dX7_init_125 : decode cX7_init 125 = .ok (.newarray .long, 2) := by decide +kernel
theorem dX7_init_127 : decode cX7_init 127 = .ok (.putfield 57, 3) := by decide +kernel
theorem dX7_init_130 : decode cX7_init 130 = .ok (.aload_n 0, 1) := by decide +kernel
theorem dX7_init_131 : decode cX7_init 131 = .ok (.sipush 160, 3) := by decide +kernel
theorem dX7_init_134 : decode cX7_init 134 = .ok (.newarray .double, 2) := by decide +kernel
theorem dX7_init_136 : decode cX7_init 136 = .ok (.putfield 60, 3) := by decide +kernel
theorem dX7_init_139 : decode cX7_init 139 = .ok (.aload_n 0, 1) := by decide +kernel
theorem dX7_init_140 : decode cX7_init 140 = .ok (.sipush 160, 3) := by decide +kernel
theorem dX7_init_143 : decode cX7_init 143 = .ok (.newarray .boolean, 2) := by decide +kernel
theorem dX7_init_145 : decode cX7_init 145 = .ok (.putfield 64, 3) := by decide +kernel
theorem dX7_init_148 : decode cX7_init 148 = .ok (.aload_n 0, 1) := by decide +kernel
theorem dX7_init_149 : decode cX7_init 149 = .ok (.bipush 40, 2) := by decide +kernel
theorem dX7_init_151 : decode cX7_init 151 = .ok (.newarray .long, 2) := by decide +kernel
theorem dX7_init_153 : decode cX7_init 153 = .ok (.putfield 67, 3) := by decide +kernel
theorem dX7_init_156 : decode cX7_init 156 = .ok (.aload_n 0, 1) := by decide +kernel
theorem dX7_init_157 : decode cX7_init 157 = .ok (.bipush 40, 2) := by decide +kernel
theorem dX7_init_159 : decode cX7_init 159 = .ok (.newarray .double, 2) := by decide +kernel
theorem dX7_init_161 : decode cX7_init 161 = .ok (.putfield 70, 3) := by decide +kernel
theorem dX7_init_164 : decode cX7_init 164 = .ok (.aload_n 0, 1) := by decide +kernel
theorem dX7_init_165 : decode cX7_init 165 = .ok (.bipush 40, 2) := by decide +kernel
theorem dX7_init_167 : decode cX7_init 167 = .ok (.newarray .boolean, 2) := by decide +kernel
theorem dX7_init_169 : decode cX7_init 169 = .ok (.putfield 73, 3) := by decide +kernel
theorem dX7_init_172 : decode cX7_init 172 = .ok (.iconst 0, 1) := by decide +kernel
theorem dX7_init_173 : decode cX7_init 173 = .ok (.istore_n 1, 1) := by decide +kernel
theorem dX7_init_174 : decode cX7_init 174 = .ok (.iload_n 1, 1) := by decide +kernel
theorem dX7_init_175 : decode cX7_init 175 = .ok (.iconst 4, 1) := by decide +kernel
theorem dX7_init_176 : decode cX7_init 176 = .ok (.if_icmp .ge 16, 3) := by decide +kernel
theorem dX7_init_179 : decode cX7_init 179 = .ok (.aload_n 0, 1) := by decide +kernel
theorem dX7_init_180 : decode cX7_init 180 = .ok (.getfield 51, 3) := by decide +kernel
theorem dX7_init_183 : decode cX7_init 183 = .ok (.iload_n 1, 1) := by decide +kernel
theorem dX7_init_184 : decode cX7_init 184 = .ok (.iconst (-1), 1) := by decide +kernel
theorem dX7_init_185 : decode cX7_init 185 = .ok (.iastore, 1) := by decide +kernel
theorem dX7_init_186 : decode cX7_init 186 = .ok (.iinc 1 1, 3) := by decide +kernel
theorem dX7_init_189 : decode cX7_init 189 = .ok (.goto (-15), 3) := by decide +kernel
theorem dX7_init_192 : decode cX7_init 192 = .ok (.aload_n 0, 1) := by decide +kernel
theorem dX7_init_193 : decode cX7_init 193 = .ok (.invokevirtual 76, 3) := by decide +kernel
theorem dX7_init_196 : decode cX7_init 196 = .ok (.return_, 1) := by decide +kernel
theorem dX7_in_0 : decode cX7_in 0 = .ok (.iload_n 0, 1) := by decide +kernel
theorem dX7_in_1 : decode cX7_in 1 = .ok (.iload_n 1, 1) := by decide +kernel
theorem dX7_in_2 : decode cX7_in 2 = .ok (.if_icmp .lt 12, 3) := by decide +kernel
theorem dX7_in_5 : decode cX7_in 5 = .ok (.iload_n 0, 1) := by decide +kernel
theorem dX7_in_6 : decode cX7_in 6 = .ok (.iload_n 2, 1) := by decide +kernel
theorem dX7_in_7 : decode cX7_in 7 = .ok (.if_icmp .gt 7, 3) := by decide +kernel
theorem dX7_in_10 : decode cX7_in 10 = .ok (.iconst 1, 1) := by decide +kernel
theorem dX7_in_11 : decode cX7_in 11 = .ok (.goto 4, 3) := by decide +kernel
theorem dX7_in_14 : decode cX7_in 14 = .ok (.iconst 0, 1) := by decide +kernel
theorem dX7_in_15 : decode cX7_in 15 = .ok (.ireturn, 1) := by decide +kernel
theorem dX7_no_0 : decode cX7_no 0 = .ok (.ldc2_w 79, 3) := by decide +kernel
theorem dX7_no_3 : decode cX7_no 3 = .ok (.iload_n 0, 1) := by decide +kernel
theorem dX7_no_4 : decode cX7_no 4 = .ok (.i2l, 1) := by decide +kernel
theorem dX7_no_5 : decode cX7_no 5 = .ok (.lsub, 1) := by decide +kernel
theorem dX7_no_6 : decode cX7_no 6 = .ok (.lreturn, 1) := by decide +kernel
theorem dX7_partOf_0 : decode cX7_partOf 0 = .ok (.lload_n 0, 1) := by decide +kernel
theorem dX7_partOf_1 : decode cX7_partOf 1 = .ok (.lconst 0, 1) := by decide +kernel
theorem dX7_partOf_2 : decode cX7_partOf 2 = .ok (.lcmp, 1) := by decide +kernel
theorem dX7_partOf_3 : decode cX7_partOf 3 = .ok (.ifCond .ge 8, 3) := by decide +kernel
theorem dX7_partOf_6 : decode cX7_partOf 6 = .ok (.lload_n 0, 1) := by decide +kernel
theorem dX7_partOf_7 : decode cX7_partOf 7 = .ok (.lneg, 1) := by decide +kernel
theorem dX7_partOf_8 : decode cX7_partOf 8 = .ok (.goto 4, 3) := by decide +kernel
theorem dX7_partOf_11 : decode cX7_partOf 11 = .ok (.lload_n 0, 1) := by decide +kernel
theorem dX7_partOf_12 : decode cX7_partOf 12 = .ok (.lstore 5, 2) := by decide +kernel
theorem dX7_partOf_14 : decode cX7_partOf 14 = .ok (.lload_n 2, 1) := by decide +kernel
theorem dX7_partOf_15 : decode cX7_partOf 15 = .ok (.lstore 7, 2) := by decide +kernel
theorem dX7_partOf_17 : decode cX7_partOf 17 = .ok (.lload 7, 2) := by decide +kernel
theorem dX7_partOf_19 : decode cX7_partOf 19 = .ok (.lconst 0, 1) := by decide +kernel
theorem dX7_partOf_20 : decode cX7_partOf 20 = .ok (.lcmp, 1) := by decide +kernel
theorem dX7_partOf_21 : decode cX7_partOf 21 = .ok (.ifCond .eq 21, 3) := by decide +kernel
theorem dX7_partOf_24 : decode cX7_partOf 24 = .ok (.lload 5, 2) := by decide +kernel
theorem dX7_partOf_26 : decode cX7_partOf 26 = .ok (.lload 7, 2) := by decide +kernel
theorem dX7_partOf_28 : decode cX7_partOf 28 = .ok (.lrem, 1) := by decide +kernel
theorem dX7_partOf_29 : decode cX7_partOf 29 = .ok (.lstore 9, 2) := by decide +kernel
theorem dX7_partOf_31 : decode cX7_partOf 31 = .ok (.lload 7, 2) := by decide +kernel
theorem dX7_partOf_33 : decode cX7_partOf 33 = .ok (.lstore 5, 2) := by decide +kernel
theorem dX7_partOf_35 : decode cX7_partOf 35 = .ok (.lload 9, 2) := by decide +kernel
theorem dX7_partOf_37 : decode cX7_partOf 37 = .ok (.lstore 7, 2) := by decide +kernel
theorem dX7_partOf_39 : decode cX7_partOf 39 = .ok (.goto (-22), 3) := by decide +kernel
theorem dX7_partOf_42 : decode cX7_partOf 42 = .ok (.iload 4, 2) := by decide +kernel
theorem dX7_partOf_44 : decode cX7_partOf 44 = .ok (.ifCond .ne 10, 3) := by decide +kernel
theorem dX7_partOf_47 : decode cX7_partOf 47 = .ok (.lload_n 0, 1) := by decide +kernel
theorem dX7_partOf_48 : decode cX7_partOf 48 = .ok (.lload 5, 2) := by decide +kernel
theorem dX7_partOf_50 : decode cX7_partOf 50 = .ok (.ldiv, 1) := by decide +kernel
theorem dX7_partOf_51 : decode cX7_partOf 51 = .ok (.goto 7, 3) := by decide +kernel
theorem dX7_partOf_54 : decode cX7_partOf 54 = .ok (.lload_n 2, 1) := by decide +kernel
theorem dX7_partOf_55 : decode cX7_partOf 55 = .ok (.lload 5, 2) := by decide +kernel
theorem dX7_partOf_57 : decode cX7_partOf 57 = .ok (.ldiv, 1) := by decide +kernel
theorem dX7_partOf_58 : decode cX7_partOf 58 = .ok (.lreturn, 1) := by decide +kernel
theorem dX7_placeFor_0 : decode cX7_placeFor 0 = .ok (.iconst 0, 1) := by decide +kernel
theorem dX7_placeFor_1 : decode cX7_placeFor 1 = .ok (.istore_n 2, 1) := by decide +kernel
theorem dX7_placeFor_2 : decode cX7_placeFor 2 = .ok (.iload_n 2, 1) := by decide +kernel
theorem dX7_placeFor_3 : decode cX7_placeFor 3 = .ok (.aload_n 0, 1) := by decide +kernel
theorem dX7_placeFor_4 : decode cX7_placeFor 4 = .ok (.getfield 81, 3) := by decide +kernel
theorem dX7_placeFor_7 : decode cX7_placeFor 7 = .ok (.if_icmp .ge 19, 3) := by decide +kernel
theorem dX7_placeFor_10 : decode cX7_placeFor 10 = .ok (.aload_n 0, 1) := by decide +kernel
theorem dX7_placeFor_11 : decode cX7_placeFor 11 = .ok (.getfield 7, 3) := by decide +kernel
theorem dX7_placeFor_14 : decode cX7_placeFor 14 = .ok (.iload_n 2, 1) := by decide +kernel
theorem dX7_placeFor_15 : decode cX7_placeFor 15 = .ok (.iaload, 1) := by decide +kernel
theorem dX7_placeFor_16 : decode cX7_placeFor 16 = .ok (.iload_n 1, 1) := by decide +kernel
theorem dX7_placeFor_17 : decode cX7_placeFor 17 = .ok (.if_icmp .ge 9, 3) := by decide +kernel
theorem dX7_placeFor_20 : decode cX7_placeFor 20 = .ok (.iinc 2 1, 3) := by decide +kernel
theorem dX7_placeFor_23 : decode cX7_placeFor 23 = .ok (.goto (-21), 3) := by decide +kernel
theorem dX7_placeFor_26 : decode cX7_placeFor 26 = .ok (.iload_n 2, 1) := by decide +kernel
theorem dX7_placeFor_27 : decode cX7_placeFor 27 = .ok (.ireturn, 1) := by decide +kernel
theorem dX7_adds_0 : decode cX7_adds 0 = .ok (.iload_n 1, 1) := by decide +kernel
theorem dX7_adds_1 : decode cX7_adds 1 = .ok (.iconst 0, 1) := by decide +kernel
theorem dX7_adds_2 : decode cX7_adds 2 = .ok (.sipush 5999, 3) := by decide +kernel
theorem dX7_adds_5 : decode cX7_adds 5 = .ok (.invokestatic 85, 3) := by decide +kernel
theorem dX7_adds_8 : decode cX7_adds 8 = .ok (.ifCond .ne 6, 3) := by decide +kernel
theorem dX7_adds_11 : decode cX7_adds 11 = .ok (.bipush (-2), 2) := by decide +kernel
theorem dX7_adds_13 : decode cX7_adds 13 = .ok (.ireturn, 1) := by decide +kernel
theorem dX7_adds_14 : decode cX7_adds 14 = .ok (.aload_n 0, 1) := by decide +kernel
theorem dX7_adds_15 : decode cX7_adds 15 = .ok (.iload_n 1, 1) := by decide +kernel
theorem dX7_adds_16 : decode cX7_adds 16 = .ok (.invokevirtual 89, 3) := by decide +kernel
theorem dX7_adds_19 : decode cX7_adds 19 = .ok (.istore_n 2, 1) := by decide +kernel
theorem dX7_adds_20 : decode cX7_adds 20 = .ok (.iload_n 2, 1) := by decide +kernel
theorem dX7_adds_21 : decode cX7_adds 21 = .ok (.aload_n 0, 1) := by decide +kernel
theorem dX7_adds_22 : decode cX7_adds 22 = .ok (.getfield 81, 3) := by decide +kernel
theorem dX7_adds_25 : decode cX7_adds 25 = .ok (.if_icmp .ge 16, 3) := by decide +kernel
theorem dX7_adds_28 : decode cX7_adds 28 = .ok (.aload_n 0, 1) := by decide +kernel
theorem dX7_adds_29 : decode cX7_adds 29 = .ok (.getfield 7, 3) := by decide +kernel
theorem dX7_adds_32 : decode cX7_adds 32 = .ok (.iload_n 2, 1) := by decide +kernel
theorem dX7_adds_33 : decode cX7_adds 33 = .ok (.iaload, 1) := by decide +kernel
theorem dX7_adds_34 : decode cX7_adds 34 = .ok (.iload_n 1, 1) := by decide +kernel
theorem dX7_adds_35 : decode cX7_adds 35 = .ok (.if_icmp .ne 6, 3) := by decide +kernel
theorem dX7_adds_38 : decode cX7_adds 38 = .ok (.bipush (-3), 2) := by decide +kernel
theorem dX7_adds_40 : decode cX7_adds 40 = .ok (.ireturn, 1) := by decide +kernel
theorem dX7_adds_41 : decode cX7_adds 41 = .ok (.aload_n 0, 1) := by decide +kernel
theorem dX7_adds_42 : decode cX7_adds 42 = .ok (.getfield 81, 3) := by decide +kernel
theorem dX7_adds_45 : decode cX7_adds 45 = .ok (.bipush 32, 2) := by decide +kernel
theorem dX7_adds_47 : decode cX7_adds 47 = .ok (.if_icmp .ne 6, 3) := by decide +kernel
theorem dX7_adds_50 : decode cX7_adds 50 = .ok (.bipush (-4), 2) := by decide +kernel
theorem dX7_adds_52 : decode cX7_adds 52 = .ok (.ireturn, 1) := by decide +kernel
theorem dX7_adds_53 : decode cX7_adds 53 = .ok (.aload_n 0, 1) := by decide +kernel
theorem dX7_adds_54 : decode cX7_adds 54 = .ok (.getfield 81, 3) := by decide +kernel
theorem dX7_adds_57 : decode cX7_adds 57 = .ok (.istore_n 3, 1) := by decide +kernel
theorem dX7_adds_58 : decode cX7_adds 58 = .ok (.iload_n 3, 1) := by decide +kernel
theorem dX7_adds_59 : decode cX7_adds 59 = .ok (.iload_n 2, 1) := by decide +kernel
theorem dX7_adds_60 : decode cX7_adds 60 = .ok (.if_icmp .le 23, 3) := by decide +kernel
theorem dX7_adds_63 : decode cX7_adds 63 = .ok (.aload_n 0, 1) := by decide +kernel
theorem dX7_adds_64 : decode cX7_adds 64 = .ok (.getfield 7, 3) := by decide +kernel
theorem dX7_adds_67 : decode cX7_adds 67 = .ok (.iload_n 3, 1) := by decide +kernel
theorem dX7_adds_68 : decode cX7_adds 68 = .ok (.aload_n 0, 1) := by decide +kernel
theorem dX7_adds_69 : decode cX7_adds 69 = .ok (.getfield 7, 3) := by decide +kernel
theorem dX7_adds_72 : decode cX7_adds 72 = .ok (.iload_n 3, 1) := by decide +kernel
theorem dX7_adds_73 : decode cX7_adds 73 = .ok (.iconst 1, 1) := by decide +kernel
theorem dX7_adds_74 : decode cX7_adds 74 = .ok (.isub, 1) := by decide +kernel
theorem dX7_adds_75 : decode cX7_adds 75 = .ok (.iaload, 1) := by decide +kernel
theorem dX7_adds_76 : decode cX7_adds 76 = .ok (.iastore, 1) := by decide +kernel
theorem dX7_adds_77 : decode cX7_adds 77 = .ok (.iinc 3 (-1), 3) := by decide +kernel
theorem dX7_adds_80 : decode cX7_adds 80 = .ok (.goto (-22), 3) := by decide +kernel
theorem dX7_adds_83 : decode cX7_adds 83 = .ok (.aload_n 0, 1) := by decide +kernel
theorem dX7_adds_84 : decode cX7_adds 84 = .ok (.getfield 7, 3) := by decide +kernel
theorem dX7_adds_87 : decode cX7_adds 87 = .ok (.iload_n 2, 1) := by decide +kernel
theorem dX7_adds_88 : decode cX7_adds 88 = .ok (.iload_n 1, 1) := by decide +kernel
theorem dX7_adds_89 : decode cX7_adds 89 = .ok (.iastore, 1) := by decide +kernel
theorem dX7_adds_90 : decode cX7_adds 90 = .ok (.aload_n 0, 1) := by decide +kernel
theorem dX7_adds_91 : decode cX7_adds 91 = .ok (.dup, 1) := by decide +kernel
theorem dX7_adds_92 : decode cX7_adds 92 = .ok (.getfield 81, 3) := by decide +kernel
theorem dX7_adds_95 : decode cX7_adds 95 = .ok (.iconst 1, 1) := by decide +kernel
theorem dX7_adds_96 : decode cX7_adds 96 = .ok (.iadd, 1) := by decide +kernel
theorem dX7_adds_97 : decode cX7_adds 97 = .ok (.putfield 81, 3) := by decide +kernel
theorem dX7_adds_100 : decode cX7_adds 100 = .ok (.iload_n 2, 1) := by decide +kernel
theorem dX7_adds_101 : decode cX7_adds 101 = .ok (.ireturn, 1) := by decide +kernel
theorem dX7_edge_0 : decode cX7_edge 0 = .ok (.aload_n 0, 1) := by decide +kernel
theorem dX7_edge_1 : decode cX7_edge 1 = .ok (.iload_n 1, 1) := by decide +kernel
theorem dX7_edge_2 : decode cX7_edge 2 = .ok (.invokevirtual 93, 3) := by decide +kernel
theorem dX7_edge_5 : decode cX7_edge 5 = .ok (.ireturn, 1) := by decide +kernel
theorem dX7_edges_0 : decode cX7_edges 0 = .ok (.iload_n 1, 1) := by decide +kernel
theorem dX7_edges_1 : decode cX7_edges 1 = .ok (.iconst 0, 1) := by decide +kernel
theorem dX7_edges_2 : decode cX7_edges 2 = .ok (.sipush 5999, 3) := by decide +kernel
theorem dX7_edges_5 : decode cX7_edges 5 = .ok (.invokestatic 85, 3) := by decide +kernel
theorem dX7_edges_8 : decode cX7_edges 8 = .ok (.ifCond .eq 24, 3) := by decide +kernel
theorem dX7_edges_11 : decode cX7_edges 11 = .ok (.iload_n 2, 1) := by decide +kernel
theorem dX7_edges_12 : decode cX7_edges 12 = .ok (.iconst 1, 1) := by decide +kernel
theorem dX7_edges_13 : decode cX7_edges 13 = .ok (.sipush 600, 3) := by decide +kernel
theorem dX7_edges_16 : decode cX7_edges 16 = .ok (.invokestatic 85, 3) := by decide +kernel
theorem dX7_edges_19 : decode cX7_edges 19 = .ok (.ifCond .eq 13, 3) := by decide +kernel
theorem dX7_edges_22 : decode cX7_edges 22 = .ok (.iload_n 3, 1) := by decide +kernel
theorem dX7_edges_23 : decode cX7_edges 23 = .ok (.iconst 1, 1) := by decide +kernel
theorem dX7_edges_24 : decode cX7_edges 24 = .ok (.bipush 32, 2) := by decide +kernel
theorem dX7_edges_26 : decode cX7_edges 26 = .ok (.invokestatic 85, 3) := by decide +kernel
theorem dX7_edges_29 : decode cX7_edges 29 = .ok (.ifCond .ne 6, 3) := by decide +kernel
theorem dX7_edges_32 : decode cX7_edges 32 = .ok (.bipush (-2), 2) := by decide +kernel
theorem dX7_edges_34 : decode cX7_edges 34 = .ok (.ireturn, 1) := by decide +kernel
theorem dX7_edges_35 : decode cX7_edges 35 = .ok (.iconst 0, 1) := by decide +kernel
theorem dX7_edges_36 : decode cX7_edges 36 = .ok (.istore 4, 2) := by decide +kernel
theorem dX7_edges_38 : decode cX7_edges 38 = .ok (.iload 4, 2) := by decide +kernel
theorem dX7_edges_40 : decode cX7_edges 40 = .ok (.iload_n 3, 1) := by decide +kernel
theorem dX7_edges_41 : decode cX7_edges 41 = .ok (.if_icmp .ge 22, 3) := by decide +kernel
theorem dX7_edges_44 : decode cX7_edges 44 = .ok (.aload_n 0, 1) := by decide +kernel
theorem dX7_edges_45 : decode cX7_edges 45 = .ok (.iload_n 1, 1) := by decide +kernel
theorem dX7_edges_46 : decode cX7_edges 46 = .ok (.iload_n 2, 1) := by decide +kernel
theorem dX7_edges_47 : decode cX7_edges 47 = .ok (.iload 4, 2) := by decide +kernel
theorem dX7_edges_49 : decode cX7_edges 49 = .ok (.imul, 1) := by decide +kernel
theorem dX7_edges_50 : decode cX7_edges 50 = .ok (.iadd, 1) := by decide +kernel
theorem dX7_edges_51 : decode cX7_edges 51 = .ok (.invokevirtual 93, 3) := by decide +kernel
theorem dX7_edges_54 : decode cX7_edges 54 = .ok (.ifCond .lt 9, 3) := by decide +kernel
theorem dX7_edges_57 : decode cX7_edges 57 = .ok (.iinc 4 1, 3) := by decide +kernel
theorem dX7_edges_60 : decode cX7_edges 60 = .ok (.goto (-22), 3) := by decide +kernel
theorem dX7_edges_63 : decode cX7_edges 63 = .ok (.iload 4, 2) := by decide +kernel
theorem dX7_edges_65 : decode cX7_edges 65 = .ok (.ireturn, 1) := by decide +kernel
theorem dX7_isEdge_0 : decode cX7_isEdge 0 = .ok (.iload_n 1, 1) := by decide +kernel
theorem dX7_isEdge_1 : decode cX7_isEdge 1 = .ok (.iconst 0, 1) := by decide +kernel
theorem dX7_isEdge_2 : decode cX7_isEdge 2 = .ok (.aload_n 0, 1) := by decide +kernel
theorem dX7_isEdge_3 : decode cX7_isEdge 3 = .ok (.getfield 81, 3) := by decide +kernel
theorem dX7_isEdge_6 : decode cX7_isEdge 6 = .ok (.iconst 1, 1) := by decide +kernel
theorem dX7_isEdge_7 : decode cX7_isEdge 7 = .ok (.isub, 1) := by decide +kernel
theorem dX7_isEdge_8 : decode cX7_isEdge 8 = .ok (.invokestatic 85, 3) := by decide +kernel
theorem dX7_isEdge_11 : decode cX7_isEdge 11 = .ok (.ireturn, 1) := by decide +kernel
theorem dX7_gone_0 : decode cX7_gone 0 = .ok (.aload_n 0, 1) := by decide +kernel
theorem dX7_gone_1 : decode cX7_gone 1 = .ok (.iload_n 1, 1) := by decide +kernel
theorem dX7_gone_2 : decode cX7_gone 2 = .ok (.invokevirtual 96, 3) := by decide +kernel
theorem dX7_gone_5 : decode cX7_gone 5 = .ok (.ifCond .ne 6, 3) := by decide +kernel
theorem dX7_gone_8 : decode cX7_gone 8 = .ok (.bipush (-2), 2) := by decide +kernel
theorem dX7_gone_10 : decode cX7_gone 10 = .ok (.ireturn, 1) := by decide +kernel
theorem dX7_gone_11 : decode cX7_gone 11 = .ok (.aload_n 0, 1) := by decide +kernel
theorem dX7_gone_12 : decode cX7_gone 12 = .ok (.getfield 7, 3) := by decide +kernel
theorem dX7_gone_15 : decode cX7_gone 15 = .ok (.iload_n 1, 1) := by decide +kernel
theorem dX7_gone_16 : decode cX7_gone 16 = .ok (.iaload, 1) := by decide +kernel
theorem dX7_gone_17 : decode cX7_gone 17 = .ok (.istore_n 2, 1) := by decide +kernel
theorem dX7_gone_18 : decode cX7_gone 18 = .ok (.aload_n 0, 1) := by decide +kernel
theorem dX7_gone_19 : decode cX7_gone 19 = .ok (.dup, 1) := by decide +kernel
theorem dX7_gone_20 : decode cX7_gone 20 = .ok (.getfield 81, 3) := by decide +kernel
theorem dX7_gone_23 : decode cX7_gone 23 = .ok (.iconst 1, 1) := by decide +kernel
theorem dX7_gone_24 : decode cX7_gone 24 = .ok (.isub, 1) := by decide +kernel
theorem dX7_gone_25 : decode cX7_gone 25 = .ok (.putfield 81, 3) := by decide +kernel
theorem dX7_gone_28 : decode cX7_gone 28 = .ok (.iload_n 1, 1) := by decide +kernel
theorem dX7_gone_29 : decode cX7_gone 29 = .ok (.istore_n 3, 1) := by decide +kernel
theorem dX7_gone_30 : decode cX7_gone 30 = .ok (.iload_n 3, 1) := by decide +kernel
theorem dX7_gone_31 : decode cX7_gone 31 = .ok (.aload_n 0, 1) := by decide +kernel
theorem dX7_gone_32 : decode cX7_gone 32 = .ok (.getfield 81, 3) := by decide +kernel
theorem dX7_gone_35 : decode cX7_gone 35 = .ok (.if_icmp .ge 23, 3) := by decide +kernel
theorem dX7_gone_38 : decode cX7_gone 38 = .ok (.aload_n 0, 1) := by decide +kernel
theorem dX7_gone_39 : decode cX7_gone 39 = .ok (.getfield 7, 3) := by decide +kernel
theorem dX7_gone_42 : decode cX7_gone 42 = .ok (.iload_n 3, 1) := by decide +kernel
theorem dX7_gone_43 : decode cX7_gone 43 = .ok (.aload_n 0, 1) := by decide +kernel
theorem dX7_gone_44 : decode cX7_gone 44 = .ok (.getfield 7, 3) := by decide +kernel
theorem dX7_gone_47 : decode cX7_gone 47 = .ok (.iload_n 3, 1) := by decide +kernel
theorem dX7_gone_48 : decode cX7_gone 48 = .ok (.iconst 1, 1) := by decide +kernel
theorem dX7_gone_49 : decode cX7_gone 49 = .ok (.iadd, 1) := by decide +kernel
theorem dX7_gone_50 : decode cX7_gone 50 = .ok (.iaload, 1) := by decide +kernel
theorem dX7_gone_51 : decode cX7_gone 51 = .ok (.iastore, 1) := by decide +kernel
theorem dX7_gone_52 : decode cX7_gone 52 = .ok (.iinc 3 1, 3) := by decide +kernel
theorem dX7_gone_55 : decode cX7_gone 55 = .ok (.goto (-25), 3) := by decide +kernel
theorem dX7_gone_58 : decode cX7_gone 58 = .ok (.iload_n 2, 1) := by decide +kernel
theorem dX7_gone_59 : decode cX7_gone 59 = .ok (.ireturn, 1) := by decide +kernel
theorem dX7_clear_0 : decode cX7_clear 0 = .ok (.aload_n 0, 1) := by decide +kernel
theorem dX7_clear_1 : decode cX7_clear 1 = .ok (.getfield 81, 3) := by decide +kernel
theorem dX7_clear_4 : decode cX7_clear 4 = .ok (.istore_n 1, 1) := by decide +kernel
theorem dX7_clear_5 : decode cX7_clear 5 = .ok (.aload_n 0, 1) := by decide +kernel
theorem dX7_clear_6 : decode cX7_clear 6 = .ok (.iconst 0, 1) := by decide +kernel
theorem dX7_clear_7 : decode cX7_clear 7 = .ok (.putfield 81, 3) := by decide +kernel
theorem dX7_clear_10 : decode cX7_clear 10 = .ok (.iload_n 1, 1) := by decide +kernel
theorem dX7_clear_11 : decode cX7_clear 11 = .ok (.ireturn, 1) := by decide +kernel
theorem dX7_learns_0 : decode cX7_learns 0 = .ok (.iconst 0, 1) := by decide +kernel
theorem dX7_learns_1 : decode cX7_learns 1 = .ok (.istore_n 1, 1) := by decide +kernel
theorem dX7_learns_2 : decode cX7_learns 2 = .ok (.iconst 0, 1) := by decide +kernel
theorem dX7_learns_3 : decode cX7_learns 3 = .ok (.istore_n 2, 1) := by decide +kernel
theorem dX7_learns_4 : decode cX7_learns 4 = .ok (.iload_n 2, 1) := by decide +kernel
theorem dX7_learns_5 : decode cX7_learns 5 = .ok (.bipush 60, 2) := by decide +kernel
theorem dX7_learns_7 : decode cX7_learns 7 = .ok (.if_icmp .ge 62, 3) := by decide +kernel
theorem dX7_learns_10 : decode cX7_learns 10 = .ok (.iload_n 1, 1) := by decide +kernel
theorem dX7_learns_11 : decode cX7_learns 11 = .ok (.aload_n 0, 1) := by decide +kernel
theorem dX7_learns_12 : decode cX7_learns 12 = .ok (.getfield 13, 3) := by decide +kernel
theorem dX7_learns_15 : decode cX7_learns 15 = .ok (.iload_n 2, 1) := by decide +kernel
theorem dX7_learns_16 : decode cX7_learns 16 = .ok (.baload, 1) := by decide +kernel
theorem dX7_learns_17 : decode cX7_learns 17 = .ok (.ifCond .eq 7, 3) := by decide +kernel
theorem dX7_learns_20 : decode cX7_learns 20 = .ok (.iconst 1, 1) := by decide +kernel
theorem dX7_learns_21 : decode cX7_learns 21 = .ok (.goto 4, 3) := by decide +kernel
theorem dX7_learns_24 : decode cX7_learns 24 = .ok (.iconst 0, 1) := by decide +kernel
theorem dX7_learns_25 : decode cX7_learns 25 = .ok (.iadd, 1) := by decide +kernel
theorem dX7_learns_26 : decode cX7_learns 26 = .ok (.istore_n 1, 1) := by decide +kernel
theorem dX7_learns_27 : decode cX7_learns 27 = .ok (.aload_n 0, 1) := by decide +kernel
theorem dX7_learns_28 : decode cX7_learns 28 = .ok (.getfield 20, 3) := by decide +kernel
theorem dX7_learns_31 : decode cX7_learns 31 = .ok (.iload_n 2, 1) := by decide +kernel
theorem dX7_learns_32 : decode cX7_learns 32 = .ok (.iload_n 1, 1) := by decide +kernel
theorem dX7_learns_33 : decode cX7_learns 33 = .ok (.iastore, 1) := by decide +kernel
theorem dX7_learns_34 : decode cX7_learns 34 = .ok (.aload_n 0, 1) := by decide +kernel
theorem dX7_learns_35 : decode cX7_learns 35 = .ok (.getfield 23, 3) := by decide +kernel
theorem dX7_learns_38 : decode cX7_learns 38 = .ok (.iload_n 1, 1) := by decide +kernel
theorem dX7_learns_39 : decode cX7_learns 39 = .ok (.iload_n 2, 1) := by decide +kernel
theorem dX7_learns_40 : decode cX7_learns 40 = .ok (.ifCond .eq 12, 3) := by decide +kernel
theorem dX7_learns_43 : decode cX7_learns 43 = .ok (.aload_n 0, 1) := by decide +kernel
theorem dX7_learns_44 : decode cX7_learns 44 = .ok (.getfield 13, 3) := by decide +kernel
theorem dX7_learns_47 : decode cX7_learns 47 = .ok (.iload_n 2, 1) := by decide +kernel
theorem dX7_learns_48 : decode cX7_learns 48 = .ok (.baload, 1) := by decide +kernel
theorem dX7_learns_49 : decode cX7_learns 49 = .ok (.ifCond .eq 7, 3) := by decide +kernel
theorem dX7_learns_52 : decode cX7_learns 52 = .ok (.iload_n 2, 1) := by decide +kernel
theorem dX7_learns_53 : decode cX7_learns 53 = .ok (.goto 9, 3) := by decide +kernel
theorem dX7_learns_56 : decode cX7_learns 56 = .ok (.aload_n 0, 1) := by decide +kernel
theorem dX7_learns_57 : decode cX7_learns 57 = .ok (.getfield 23, 3) := by decide +kernel
theorem dX7_learns_60 : decode cX7_learns 60 = .ok (.iload_n 1, 1) := by decide +kernel
theorem dX7_learns_61 : decode cX7_learns 61 = .ok (.iaload, 1) := by decide +kernel
theorem dX7_learns_62 : decode cX7_learns 62 = .ok (.iastore, 1) := by decide +kernel
theorem dX7_learns_63 : decode cX7_learns 63 = .ok (.iinc 2 1, 3) := by decide +kernel
theorem dX7_learns_66 : decode cX7_learns 66 = .ok (.goto (-62), 3) := by decide +kernel
theorem dX7_learns_69 : decode cX7_learns 69 = .ok (.aload_n 0, 1) := by decide +kernel
theorem dX7_learns_70 : decode cX7_learns 70 = .ok (.getfield 23, 3) := by decide +kernel
theorem dX7_learns_73 : decode cX7_learns 73 = .ok (.iload_n 1, 1) := by decide +kernel
theorem dX7_learns_74 : decode cX7_learns 74 = .ok (.iconst 1, 1) := by decide +kernel
theorem dX7_learns_75 : decode cX7_learns 75 = .ok (.iadd, 1) := by decide +kernel
theorem dX7_learns_76 : decode cX7_learns 76 = .ok (.bipush 60, 2) := by decide +kernel
theorem dX7_learns_78 : decode cX7_learns 78 = .ok (.iastore, 1) := by decide +kernel
theorem dX7_learns_79 : decode cX7_learns 79 = .ok (.return_, 1) := by decide +kernel
theorem dX7_codeOf_0 : decode cX7_codeOf 0 = .ok (.aload_n 0, 1) := by decide +kernel
theorem dX7_codeOf_1 : decode cX7_codeOf 1 = .ok (.getfield 20, 3) := by decide +kernel
theorem dX7_codeOf_4 : decode cX7_codeOf 4 = .ok (.iload_n 1, 1) := by decide +kernel
theorem dX7_codeOf_5 : decode cX7_codeOf 5 = .ok (.iaload, 1) := by decide +kernel
theorem dX7_codeOf_6 : decode cX7_codeOf 6 = .ok (.ireturn, 1) := by decide +kernel
theorem dX7_bins_0 : decode cX7_bins 0 = .ok (.aload_n 0, 1) := by decide +kernel
theorem dX7_bins_1 : decode cX7_bins 1 = .ok (.getfield 20, 3) := by decide +kernel
theorem dX7_bins_4 : decode cX7_bins 4 = .ok (.bipush 59, 2) := by decide +kernel
theorem dX7_bins_6 : decode cX7_bins 6 = .ok (.iaload, 1) := by decide +kernel
theorem dX7_bins_7 : decode cX7_bins 7 = .ok (.iconst 1, 1) := by decide +kernel
theorem dX7_bins_8 : decode cX7_bins 8 = .ok (.iadd, 1) := by decide +kernel
theorem dX7_bins_9 : decode cX7_bins 9 = .ok (.ireturn, 1) := by decide +kernel
theorem dX7_firstOf_0 : decode cX7_firstOf 0 = .ok (.aload_n 0, 1) := by decide +kernel
theorem dX7_firstOf_1 : decode cX7_firstOf 1 = .ok (.getfield 23, 3) := by decide +kernel
theorem dX7_firstOf_4 : decode cX7_firstOf 4 = .ok (.iload_n 1, 1) := by decide +kernel
theorem dX7_firstOf_5 : decode cX7_firstOf 5 = .ok (.iaload, 1) := by decide +kernel
theorem dX7_firstOf_6 : decode cX7_firstOf 6 = .ok (.ireturn, 1) := by decide +kernel
theorem dX7_widthOf_0 : decode cX7_widthOf 0 = .ok (.aload_n 0, 1) := by decide +kernel
theorem dX7_widthOf_1 : decode cX7_widthOf 1 = .ok (.iload_n 1, 1) := by decide +kernel
theorem dX7_widthOf_2 : decode cX7_widthOf 2 = .ok (.iconst 1, 1) := by decide +kernel
theorem dX7_widthOf_3 : decode cX7_widthOf 3 = .ok (.iadd, 1) := by decide +kernel
theorem dX7_widthOf_4 : decode cX7_widthOf 4 = .ok (.invokevirtual 100, 3) := by decide +kernel
theorem dX7_widthOf_7 : decode cX7_widthOf 7 = .ok (.aload_n 0, 1) := by decide +kernel
theorem dX7_widthOf_8 : decode cX7_widthOf 8 = .ok (.iload_n 1, 1) := by decide +kernel
theorem dX7_widthOf_9 : decode cX7_widthOf 9 = .ok (.invokevirtual 100, 3) := by decide +kernel
theorem dX7_widthOf_12 : decode cX7_widthOf 12 = .ok (.isub, 1) := by decide +kernel
theorem dX7_widthOf_13 : decode cX7_widthOf 13 = .ok (.ireturn, 1) := by decide +kernel
theorem dX7_allHits_0 : decode cX7_allHits 0 = .ok (.iconst 0, 1) := by decide +kernel
theorem dX7_allHits_1 : decode cX7_allHits 1 = .ok (.istore_n 1, 1) := by decide +kernel
theorem dX7_allHits_2 : decode cX7_allHits 2 = .ok (.iconst 0, 1) := by decide +kernel
theorem dX7_allHits_3 : decode cX7_allHits 3 = .ok (.istore_n 2, 1) := by decide +kernel
theorem dX7_allHits_4 : decode cX7_allHits 4 = .ok (.iload_n 2, 1) := by decide +kernel
theorem dX7_allHits_5 : decode cX7_allHits 5 = .ok (.bipush 12, 2) := by decide +kernel
theorem dX7_allHits_7 : decode cX7_allHits 7 = .ok (.if_icmp .ge 18, 3) := by decide +kernel
theorem dX7_allHits_10 : decode cX7_allHits 10 = .ok (.iload_n 1, 1) := by decide +kernel
theorem dX7_allHits_11 : decode cX7_allHits 11 = .ok (.aload_n 0, 1) := by decide +kernel
theorem dX7_allHits_12 : decode cX7_allHits 12 = .ok (.getfield 17, 3) := by decide +kernel
theorem dX7_allHits_15 : decode cX7_allHits 15 = .ok (.iload_n 2, 1) := by decide +kernel
theorem dX7_allHits_16 : decode cX7_allHits 16 = .ok (.iaload, 1) := by decide +kernel
theorem dX7_allHits_17 : decode cX7_allHits 17 = .ok (.iadd, 1) := by decide +kernel
theorem dX7_allHits_18 : decode cX7_allHits 18 = .ok (.istore_n 1, 1) := by decide +kernel
theorem dX7_allHits_19 : decode cX7_allHits 19 = .ok (.iinc 2 1, 3) := by decide +kernel
theorem dX7_allHits_22 : decode cX7_allHits 22 = .ok (.goto (-18), 3) := by decide +kernel
theorem dX7_allHits_25 : decode cX7_allHits 25 = .ok (.iload_n 1, 1) := by decide +kernel
theorem dX7_allHits_26 : decode cX7_allHits 26 = .ok (.ireturn, 1) := by decide +kernel
theorem dX7_forgets_0 : decode cX7_forgets 0 = .ok (.aload_n 0, 1) := by decide +kernel
theorem dX7_forgets_1 : decode cX7_forgets 1 = .ok (.invokevirtual 103, 3) := by decide +kernel
theorem dX7_forgets_4 : decode cX7_forgets 4 = .ok (.istore_n 1, 1) := by decide +kernel
theorem dX7_forgets_5 : decode cX7_forgets 5 = .ok (.iconst 0, 1) := by decide +kernel
theorem dX7_forgets_6 : decode cX7_forgets 6 = .ok (.istore_n 2, 1) := by decide +kernel
theorem dX7_forgets_7 : decode cX7_forgets 7 = .ok (.iload_n 2, 1) := by decide +kernel
theorem dX7_forgets_8 : decode cX7_forgets 8 = .ok (.bipush 12, 2) := by decide +kernel
theorem dX7_forgets_10 : decode cX7_forgets 10 = .ok (.if_icmp .ge 16, 3) := by decide +kernel
theorem dX7_forgets_13 : decode cX7_forgets 13 = .ok (.aload_n 0, 1) := by decide +kernel
theorem dX7_forgets_14 : decode cX7_forgets 14 = .ok (.getfield 17, 3) := by decide +kernel
theorem dX7_forgets_17 : decode cX7_forgets 17 = .ok (.iload_n 2, 1) := by decide +kernel
theorem dX7_forgets_18 : decode cX7_forgets 18 = .ok (.iconst 0, 1) := by decide +kernel
theorem dX7_forgets_19 : decode cX7_forgets 19 = .ok (.iastore, 1) := by decide +kernel
theorem dX7_forgets_20 : decode cX7_forgets 20 = .ok (.iinc 2 1, 3) := by decide +kernel
theorem dX7_forgets_23 : decode cX7_forgets 23 = .ok (.goto (-16), 3) := by decide +kernel
theorem dX7_forgets_26 : decode cX7_forgets 26 = .ok (.iload_n 1, 1) := by decide +kernel
theorem dX7_forgets_27 : decode cX7_forgets 27 = .ok (.ireturn, 1) := by decide +kernel
theorem dX7_cut_0 : decode cX7_cut 0 = .ok (.iload_n 1, 1) := by decide +kernel
theorem dX7_cut_1 : decode cX7_cut 1 = .ok (.iconst 1, 1) := by decide +kernel
theorem dX7_cut_2 : decode cX7_cut 2 = .ok (.bipush 59, 2) := by decide +kernel
theorem dX7_cut_4 : decode cX7_cut 4 = .ok (.invokestatic 85, 3) := by decide +kernel
theorem dX7_cut_7 : decode cX7_cut 7 = .ok (.ifCond .ne 6, 3) := by decide +kernel
theorem dX7_cut_10 : decode cX7_cut 10 = .ok (.bipush (-2), 2) := by decide +kernel
theorem dX7_cut_12 : decode cX7_cut 12 = .ok (.ireturn, 1) := by decide +kernel
theorem dX7_cut_13 : decode cX7_cut 13 = .ok (.aload_n 0, 1) := by decide +kernel
theorem dX7_cut_14 : decode cX7_cut 14 = .ok (.getfield 13, 3) := by decide +kernel
theorem dX7_cut_17 : decode cX7_cut 17 = .ok (.iload_n 1, 1) := by decide +kernel
theorem dX7_cut_18 : decode cX7_cut 18 = .ok (.baload, 1) := by decide +kernel
theorem dX7_cut_19 : decode cX7_cut 19 = .ok (.ifCond .ne 15, 3) := by decide +kernel
theorem dX7_cut_22 : decode cX7_cut 22 = .ok (.aload_n 0, 1) := by decide +kernel
theorem dX7_cut_23 : decode cX7_cut 23 = .ok (.invokevirtual 107, 3) := by decide +kernel
theorem dX7_cut_26 : decode cX7_cut 26 = .ok (.bipush 12, 2) := by decide +kernel
theorem dX7_cut_28 : decode cX7_cut 28 = .ok (.if_icmp .ne 6, 3) := by decide +kernel
theorem dX7_cut_31 : decode cX7_cut 31 = .ok (.bipush (-4), 2) := by decide +kernel
theorem dX7_cut_33 : decode cX7_cut 33 = .ok (.ireturn, 1) := by decide +kernel
theorem dX7_cut_34 : decode cX7_cut 34 = .ok (.aload_n 0, 1) := by decide +kernel
theorem dX7_cut_35 : decode cX7_cut 35 = .ok (.getfield 13, 3) := by decide +kernel
theorem dX7_cut_38 : decode cX7_cut 38 = .ok (.iload_n 1, 1) := by decide +kernel
theorem dX7_cut_39 : decode cX7_cut 39 = .ok (.aload_n 0, 1) := by decide +kernel
theorem dX7_cut_40 : decode cX7_cut 40 = .ok (.getfield 13, 3) := by decide +kernel
theorem dX7_cut_43 : decode cX7_cut 43 = .ok (.iload_n 1, 1) := by decide +kernel
theorem dX7_cut_44 : decode cX7_cut 44 = .ok (.baload, 1) := by decide +kernel
theorem dX7_cut_45 : decode cX7_cut 45 = .ok (.ifCond .ne 7, 3) := by decide +kernel
theorem dX7_cut_48 : decode cX7_cut 48 = .ok (.iconst 1, 1) := by decide +kernel
theorem dX7_cut_49 : decode cX7_cut 49 = .ok (.goto 4, 3) := by decide +kernel
theorem dX7_cut_52 : decode cX7_cut 52 = .ok (.iconst 0, 1) := by decide +kernel
theorem dX7_cut_53 : decode cX7_cut 53 = .ok (.bastore, 1) := by decide +kernel
theorem dX7_cut_54 : decode cX7_cut 54 = .ok (.aload_n 0, 1) := by decide +kernel
theorem dX7_cut_55 : decode cX7_cut 55 = .ok (.invokevirtual 76, 3) := by decide +kernel
theorem dX7_cut_58 : decode cX7_cut 58 = .ok (.aload_n 0, 1) := by decide +kernel
theorem dX7_cut_59 : decode cX7_cut 59 = .ok (.invokevirtual 110, 3) := by decide +kernel
theorem dX7_cut_62 : decode cX7_cut 62 = .ok (.pop, 1) := by decide +kernel
theorem dX7_cut_63 : decode cX7_cut 63 = .ok (.aload_n 0, 1) := by decide +kernel
theorem dX7_cut_64 : decode cX7_cut 64 = .ok (.invokevirtual 107, 3) := by decide +kernel
theorem dX7_cut_67 : decode cX7_cut 67 = .ok (.ireturn, 1) := by decide +kernel
theorem dX7_hit_0 : decode cX7_hit 0 = .ok (.iload_n 1, 1) := by decide +kernel
theorem dX7_hit_1 : decode cX7_hit 1 = .ok (.iconst 0, 1) := by decide +kernel
theorem dX7_hit_2 : decode cX7_hit 2 = .ok (.bipush 59, 2) := by decide +kernel
theorem dX7_hit_4 : decode cX7_hit 4 = .ok (.invokestatic 85, 3) := by decide +kernel
theorem dX7_hit_7 : decode cX7_hit 7 = .ok (.ifCond .eq 13, 3) := by decide +kernel
theorem dX7_hit_10 : decode cX7_hit 10 = .ok (.iload_n 2, 1) := by decide +kernel
theorem dX7_hit_11 : decode cX7_hit 11 = .ok (.iconst 1, 1) := by decide +kernel
theorem dX7_hit_12 : decode cX7_hit 12 = .ok (.bipush 99, 2) := by decide +kernel
theorem dX7_hit_14 : decode cX7_hit 14 = .ok (.invokestatic 85, 3) := by decide +kernel
theorem dX7_hit_17 : decode cX7_hit 17 = .ok (.ifCond .ne 6, 3) := by decide +kernel
theorem dX7_hit_20 : decode cX7_hit 20 = .ok (.bipush (-2), 2) := by decide +kernel
theorem dX7_hit_22 : decode cX7_hit 22 = .ok (.ireturn, 1) := by decide +kernel
theorem dX7_hit_23 : decode cX7_hit 23 = .ok (.aload_n 0, 1) := by decide +kernel
theorem dX7_hit_24 : decode cX7_hit 24 = .ok (.invokevirtual 103, 3) := by decide +kernel
theorem dX7_hit_27 : decode cX7_hit 27 = .ok (.iload_n 2, 1) := by decide +kernel
theorem dX7_hit_28 : decode cX7_hit 28 = .ok (.iadd, 1) := by decide +kernel
theorem dX7_hit_29 : decode cX7_hit 29 = .ok (.sipush 400, 3) := by decide +kernel
theorem dX7_hit_32 : decode cX7_hit 32 = .ok (.if_icmp .le 6, 3) := by decide +kernel
theorem dX7_hit_35 : decode cX7_hit 35 = .ok (.bipush (-4), 2) := by decide +kernel
theorem dX7_hit_37 : decode cX7_hit 37 = .ok (.ireturn, 1) := by decide +kernel
theorem dX7_hit_38 : decode cX7_hit 38 = .ok (.aload_n 0, 1) := by decide +kernel
theorem dX7_hit_39 : decode cX7_hit 39 = .ok (.getfield 17, 3) := by decide +kernel
theorem dX7_hit_42 : decode cX7_hit 42 = .ok (.aload_n 0, 1) := by decide +kernel
theorem dX7_hit_43 : decode cX7_hit 43 = .ok (.iload_n 1, 1) := by decide +kernel
theorem dX7_hit_44 : decode cX7_hit 44 = .ok (.invokevirtual 113, 3) := by decide +kernel
theorem dX7_hit_47 : decode cX7_hit 47 = .ok (.dup2, 1) := by decide +kernel
theorem dX7_hit_48 : decode cX7_hit 48 = .ok (.iaload, 1) := by decide +kernel
theorem dX7_hit_49 : decode cX7_hit 49 = .ok (.iload_n 2, 1) := by decide +kernel
theorem dX7_hit_50 : decode cX7_hit 50 = .ok (.iadd, 1) := by decide +kernel
theorem dX7_hit_51 : decode cX7_hit 51 = .ok (.iastore, 1) := by decide +kernel
theorem dX7_hit_52 : decode cX7_hit 52 = .ok (.aload_n 0, 1) := by decide +kernel
theorem dX7_hit_53 : decode cX7_hit 53 = .ok (.getfield 17, 3) := by decide +kernel
theorem dX7_hit_56 : decode cX7_hit 56 = .ok (.aload_n 0, 1) := by decide +kernel
theorem dX7_hit_57 : decode cX7_hit 57 = .ok (.iload_n 1, 1) := by decide +kernel
theorem dX7_hit_58 : decode cX7_hit 58 = .ok (.invokevirtual 113, 3) := by decide +kernel
theorem dX7_hit_61 : decode cX7_hit 61 = .ok (.iaload, 1) := by decide +kernel
theorem dX7_hit_62 : decode cX7_hit 62 = .ok (.ireturn, 1) := by decide +kernel
theorem dX7_sweep_0 : decode cX7_sweep 0 = .ok (.iload_n 1, 1) := by decide +kernel
theorem dX7_sweep_1 : decode cX7_sweep 1 = .ok (.iconst 1, 1) := by decide +kernel
theorem dX7_sweep_2 : decode cX7_sweep 2 = .ok (.bipush 59, 2) := by decide +kernel
theorem dX7_sweep_4 : decode cX7_sweep 4 = .ok (.invokestatic 85, 3) := by decide +kernel
theorem dX7_sweep_7 : decode cX7_sweep 7 = .ok (.ifCond .eq 14, 3) := by decide +kernel
theorem dX7_sweep_10 : decode cX7_sweep 10 = .ok (.iload_n 2, 1) := by decide +kernel
theorem dX7_sweep_11 : decode cX7_sweep 11 = .ok (.iconst 1, 1) := by decide +kernel
theorem dX7_sweep_12 : decode cX7_sweep 12 = .ok (.sipush 400, 3) := by decide +kernel
theorem dX7_sweep_15 : decode cX7_sweep 15 = .ok (.invokestatic 85, 3) := by decide +kernel
theorem dX7_sweep_18 : decode cX7_sweep 18 = .ok (.ifCond .ne 6, 3) := by decide +kernel
theorem dX7_sweep_21 : decode cX7_sweep 21 = .ok (.bipush (-2), 2) := by decide +kernel
theorem dX7_sweep_23 : decode cX7_sweep 23 = .ok (.ireturn, 1) := by decide +kernel
theorem dX7_sweep_24 : decode cX7_sweep 24 = .ok (.aload_n 0, 1) := by decide +kernel
theorem dX7_sweep_25 : decode cX7_sweep 25 = .ok (.invokevirtual 103, 3) := by decide +kernel
theorem dX7_sweep_28 : decode cX7_sweep 28 = .ok (.iload_n 2, 1) := by decide +kernel
theorem dX7_sweep_29 : decode cX7_sweep 29 = .ok (.iadd, 1) := by decide +kernel
theorem dX7_sweep_30 : decode cX7_sweep 30 = .ok (.sipush 400, 3) := by decide +kernel
theorem dX7_sweep_33 : decode cX7_sweep 33 = .ok (.if_icmp .le 6, 3) := by decide +kernel
theorem dX7_sweep_36 : decode cX7_sweep 36 = .ok (.bipush (-4), 2) := by decide +kernel
theorem dX7_sweep_38 : decode cX7_sweep 38 = .ok (.ireturn, 1) := by decide +kernel
theorem dX7_sweep_39 : decode cX7_sweep 39 = .ok (.iconst 0, 1) := by decide +kernel
theorem dX7_sweep_40 : decode cX7_sweep 40 = .ok (.istore_n 3, 1) := by decide +kernel
theorem dX7_sweep_41 : decode cX7_sweep 41 = .ok (.iload_n 3, 1) := by decide +kernel
theorem dX7_sweep_42 : decode cX7_sweep 42 = .ok (.iload_n 2, 1) := by decide +kernel
theorem dX7_sweep_43 : decode cX7_sweep 43 = .ok (.if_icmp .ge 28, 3) := by decide +kernel
theorem dX7_sweep_46 : decode cX7_sweep 46 = .ok (.aload_n 0, 1) := by decide +kernel
theorem dX7_sweep_47 : decode cX7_sweep 47 = .ok (.getfield 17, 3) := by decide +kernel
theorem dX7_sweep_50 : decode cX7_sweep 50 = .ok (.aload_n 0, 1) := by decide +kernel
theorem dX7_sweep_51 : decode cX7_sweep 51 = .ok (.iload_n 3, 1) := by decide +kernel
theorem dX7_sweep_52 : decode cX7_sweep 52 = .ok (.iload_n 1, 1) := by decide +kernel
theorem dX7_sweep_53 : decode cX7_sweep 53 = .ok (.imul, 1) := by decide +kernel
theorem dX7_sweep_54 : decode cX7_sweep 54 = .ok (.bipush 60, 2) := by decide +kernel
theorem dX7_sweep_56 : decode cX7_sweep 56 = .ok (.irem, 1) := by decide +kernel
theorem dX7_sweep_57 : decode cX7_sweep 57 = .ok (.invokevirtual 113, 3) := by decide +kernel
theorem dX7_sweep_60 : decode cX7_sweep 60 = .ok (.dup2, 1) := by decide +kernel
theorem dX7_sweep_61 : decode cX7_sweep 61 = .ok (.iaload, 1) := by decide +kernel
theorem dX7_sweep_62 : decode cX7_sweep 62 = .ok (.iconst 1, 1) := by decide +kernel
theorem dX7_sweep_63 : decode cX7_sweep 63 = .ok (.iadd, 1) := by decide +kernel
theorem dX7_sweep_64 : decode cX7_sweep 64 = .ok (.iastore, 1) := by decide +kernel
theorem dX7_sweep_65 : decode cX7_sweep 65 = .ok (.iinc 3 1, 3) := by decide +kernel
theorem dX7_sweep_68 : decode cX7_sweep 68 = .ok (.goto (-27), 3) := by decide +kernel
theorem dX7_sweep_71 : decode cX7_sweep 71 = .ok (.aload_n 0, 1) := by decide +kernel
theorem dX7_sweep_72 : decode cX7_sweep 72 = .ok (.invokevirtual 103, 3) := by decide +kernel
theorem dX7_sweep_75 : decode cX7_sweep 75 = .ok (.ireturn, 1) := by decide +kernel
theorem dX7_fresh_0 : decode cX7_fresh 0 = .ok (.aload_n 0, 1) := by decide +kernel
theorem dX7_fresh_1 : decode cX7_fresh 1 = .ok (.invokevirtual 110, 3) := by decide +kernel
theorem dX7_fresh_4 : decode cX7_fresh 4 = .ok (.ireturn, 1) := by decide +kernel
theorem dX7_isBin_0 : decode cX7_isBin 0 = .ok (.iload_n 1, 1) := by decide +kernel
theorem dX7_isBin_1 : decode cX7_isBin 1 = .ok (.iconst 0, 1) := by decide +kernel
theorem dX7_isBin_2 : decode cX7_isBin 2 = .ok (.aload_n 0, 1) := by decide +kernel
theorem dX7_isBin_3 : decode cX7_isBin 3 = .ok (.invokevirtual 107, 3) := by decide +kernel
theorem dX7_isBin_6 : decode cX7_isBin 6 = .ok (.iconst 1, 1) := by decide +kernel
theorem dX7_isBin_7 : decode cX7_isBin 7 = .ok (.isub, 1) := by decide +kernel
theorem dX7_isBin_8 : decode cX7_isBin 8 = .ok (.invokestatic 85, 3) := by decide +kernel
theorem dX7_isBin_11 : decode cX7_isBin 11 = .ok (.ireturn, 1) := by decide +kernel
theorem dX7_binOf_0 : decode cX7_binOf 0 = .ok (.iload_n 2, 1) := by decide +kernel
theorem dX7_binOf_1 : decode cX7_binOf 1 = .ok (.ifCond .ne 11, 3) := by decide +kernel
theorem dX7_binOf_4 : decode cX7_binOf 4 = .ok (.aload_n 0, 1) := by decide +kernel
theorem dX7_binOf_5 : decode cX7_binOf 5 = .ok (.iload_n 1, 1) := by decide +kernel
theorem dX7_binOf_6 : decode cX7_binOf 6 = .ok (.invokevirtual 100, 3) := by decide +kernel
theorem dX7_binOf_9 : decode cX7_binOf 9 = .ok (.goto 22, 3) := by decide +kernel
theorem dX7_binOf_12 : decode cX7_binOf 12 = .ok (.iload_n 2, 1) := by decide +kernel
theorem dX7_binOf_13 : decode cX7_binOf 13 = .ok (.iconst 1, 1) := by decide +kernel
theorem dX7_binOf_14 : decode cX7_binOf 14 = .ok (.if_icmp .ne 11, 3) := by decide +kernel
theorem dX7_binOf_17 : decode cX7_binOf 17 = .ok (.aload_n 0, 1) := by decide +kernel
theorem dX7_binOf_18 : decode cX7_binOf 18 = .ok (.iload_n 1, 1) := by decide +kernel
theorem dX7_binOf_19 : decode cX7_binOf 19 = .ok (.invokevirtual 116, 3) := by decide +kernel
theorem dX7_binOf_22 : decode cX7_binOf 22 = .ok (.goto 9, 3) := by decide +kernel
theorem dX7_binOf_25 : decode cX7_binOf 25 = .ok (.aload_n 0, 1) := by decide +kernel
theorem dX7_binOf_26 : decode cX7_binOf 26 = .ok (.getfield 17, 3) := by decide +kernel
theorem dX7_binOf_29 : decode cX7_binOf 29 = .ok (.iload_n 1, 1) := by decide +kernel
theorem dX7_binOf_30 : decode cX7_binOf 30 = .ok (.iaload, 1) := by decide +kernel
theorem dX7_binOf_31 : decode cX7_binOf 31 = .ok (.ireturn, 1) := by decide +kernel
theorem dX7_bin_0 : decode cX7_bin 0 = .ok (.aload_n 0, 1) := by decide +kernel
theorem dX7_bin_1 : decode cX7_bin 1 = .ok (.iload_n 1, 1) := by decide +kernel
theorem dX7_bin_2 : decode cX7_bin 2 = .ok (.invokevirtual 119, 3) := by decide +kernel
theorem dX7_bin_5 : decode cX7_bin 5 = .ok (.ifCond .eq 21, 3) := by decide +kernel
theorem dX7_bin_8 : decode cX7_bin 8 = .ok (.iload_n 2, 1) := by decide +kernel
theorem dX7_bin_9 : decode cX7_bin 9 = .ok (.iconst 0, 1) := by decide +kernel
theorem dX7_bin_10 : decode cX7_bin 10 = .ok (.iconst 2, 1) := by decide +kernel
theorem dX7_bin_11 : decode cX7_bin 11 = .ok (.invokestatic 85, 3) := by decide +kernel
theorem dX7_bin_14 : decode cX7_bin 14 = .ok (.ifCond .eq 12, 3) := by decide +kernel
theorem dX7_bin_17 : decode cX7_bin 17 = .ok (.aload_n 0, 1) := by decide +kernel
theorem dX7_bin_18 : decode cX7_bin 18 = .ok (.iload_n 1, 1) := by decide +kernel
theorem dX7_bin_19 : decode cX7_bin 19 = .ok (.iload_n 2, 1) := by decide +kernel
theorem dX7_bin_20 : decode cX7_bin 20 = .ok (.invokevirtual 122, 3) := by decide +kernel
theorem dX7_bin_23 : decode cX7_bin 23 = .ok (.goto 5, 3) := by decide +kernel
theorem dX7_bin_26 : decode cX7_bin 26 = .ok (.bipush (-2), 2) := by decide +kernel
theorem dX7_bin_28 : decode cX7_bin 28 = .ok (.ireturn, 1) := by decide +kernel
theorem dX7_denseOf_0 : decode cX7_denseOf 0 = .ok (.aload_n 0, 1) := by decide +kernel
theorem dX7_denseOf_1 : decode cX7_denseOf 1 = .ok (.invokevirtual 103, 3) := by decide +kernel
theorem dX7_denseOf_4 : decode cX7_denseOf 4 = .ok (.ifCond .ne 11, 3) := by decide +kernel
theorem dX7_denseOf_7 : decode cX7_denseOf 7 = .ok (.bipush (-3), 2) := by decide +kernel
theorem dX7_denseOf_9 : decode cX7_denseOf 9 = .ok (.invokestatic 126, 3) := by decide +kernel
theorem dX7_denseOf_12 : decode cX7_denseOf 12 = .ok (.goto 23, 3) := by decide +kernel
theorem dX7_denseOf_15 : decode cX7_denseOf 15 = .ok (.ldc2_w 130, 3) := by decide +kernel
theorem dX7_denseOf_18 : decode cX7_denseOf 18 = .ok (.aload_n 0, 1) := by decide +kernel
theorem dX7_denseOf_19 : decode cX7_denseOf 19 = .ok (.getfield 17, 3) := by decide +kernel
theorem dX7_denseOf_22 : decode cX7_denseOf 22 = .ok (.iload_n 1, 1) := by decide +kernel
theorem dX7_denseOf_23 : decode cX7_denseOf 23 = .ok (.iaload, 1) := by decide +kernel
theorem dX7_denseOf_24 : decode cX7_denseOf 24 = .ok (.i2l, 1) := by decide +kernel
theorem dX7_denseOf_25 : decode cX7_denseOf 25 = .ok (.lmul, 1) := by decide +kernel
theorem dX7_denseOf_26 : decode cX7_denseOf 26 = .ok (.aload_n 0, 1) := by decide +kernel
theorem dX7_denseOf_27 : decode cX7_denseOf 27 = .ok (.invokevirtual 103, 3) := by decide +kernel
theorem dX7_denseOf_30 : decode cX7_denseOf 30 = .ok (.i2l, 1) := by decide +kernel
theorem dX7_denseOf_31 : decode cX7_denseOf 31 = .ok (.iload_n 2, 1) := by decide +kernel
theorem dX7_denseOf_32 : decode cX7_denseOf 32 = .ok (.invokestatic 132, 3) := by decide +kernel
theorem dX7_denseOf_35 : decode cX7_denseOf 35 = .ok (.lreturn, 1) := by decide +kernel
theorem dX7_dense_0 : decode cX7_dense 0 = .ok (.aload_n 0, 1) := by decide +kernel
theorem dX7_dense_1 : decode cX7_dense 1 = .ok (.iload_n 1, 1) := by decide +kernel
theorem dX7_dense_2 : decode cX7_dense 2 = .ok (.invokevirtual 119, 3) := by decide +kernel
theorem dX7_dense_5 : decode cX7_dense 5 = .ok (.ifCond .eq 21, 3) := by decide +kernel
theorem dX7_dense_8 : decode cX7_dense 8 = .ok (.iload_n 2, 1) := by decide +kernel
theorem dX7_dense_9 : decode cX7_dense 9 = .ok (.iconst 0, 1) := by decide +kernel
theorem dX7_dense_10 : decode cX7_dense 10 = .ok (.iconst 1, 1) := by decide +kernel
theorem dX7_dense_11 : decode cX7_dense 11 = .ok (.invokestatic 85, 3) := by decide +kernel
theorem dX7_dense_14 : decode cX7_dense 14 = .ok (.ifCond .eq 12, 3) := by decide +kernel
theorem dX7_dense_17 : decode cX7_dense 17 = .ok (.aload_n 0, 1) := by decide +kernel
theorem dX7_dense_18 : decode cX7_dense 18 = .ok (.iload_n 1, 1) := by decide +kernel
theorem dX7_dense_19 : decode cX7_dense 19 = .ok (.iload_n 2, 1) := by decide +kernel
theorem dX7_dense_20 : decode cX7_dense 20 = .ok (.invokevirtual 136, 3) := by decide +kernel
theorem dX7_dense_23 : decode cX7_dense 23 = .ok (.goto 8, 3) := by decide +kernel
theorem dX7_dense_26 : decode cX7_dense 26 = .ok (.bipush (-2), 2) := by decide +kernel
theorem dX7_dense_28 : decode cX7_dense 28 = .ok (.invokestatic 126, 3) := by decide +kernel
theorem dX7_dense_31 : decode cX7_dense 31 = .ok (.lreturn, 1) := by decide +kernel
theorem dX7_worstNow_0 : decode cX7_worstNow 0 = .ok (.aload_n 0, 1) := by decide +kernel
theorem dX7_worstNow_1 : decode cX7_worstNow 1 = .ok (.invokevirtual 103, 3) := by decide +kernel
theorem dX7_worstNow_4 : decode cX7_worstNow 4 = .ok (.istore_n 1, 1) := by decide +kernel
theorem dX7_worstNow_5 : decode cX7_worstNow 5 = .ok (.bipush (-3), 2) := by decide +kernel
theorem dX7_worstNow_7 : decode cX7_worstNow 7 = .ok (.istore_n 2, 1) := by decide +kernel
theorem dX7_worstNow_8 : decode cX7_worstNow 8 = .ok (.iconst (-1), 1) := by decide +kernel
theorem dX7_worstNow_9 : decode cX7_worstNow 9 = .ok (.istore_n 3, 1) := by decide +kernel
theorem dX7_worstNow_10 : decode cX7_worstNow 10 = .ok (.iconst 0, 1) := by decide +kernel
theorem dX7_worstNow_11 : decode cX7_worstNow 11 = .ok (.istore 4, 2) := by decide +kernel
theorem dX7_worstNow_13 : decode cX7_worstNow 13 = .ok (.iload 4, 2) := by decide +kernel
theorem dX7_worstNow_15 : decode cX7_worstNow 15 = .ok (.aload_n 0, 1) := by decide +kernel
theorem dX7_worstNow_16 : decode cX7_worstNow 16 = .ok (.invokevirtual 107, 3) := by decide +kernel
theorem dX7_worstNow_19 : decode cX7_worstNow 19 = .ok (.if_icmp .ge 75, 3) := by decide +kernel
theorem dX7_worstNow_22 : decode cX7_worstNow 22 = .ok (.iload_n 1, 1) := by decide +kernel
theorem dX7_worstNow_23 : decode cX7_worstNow 23 = .ok (.ifCond .le 71, 3) := by decide +kernel
theorem dX7_worstNow_26 : decode cX7_worstNow 26 = .ok (.bipush 60, 2) := by decide +kernel
theorem dX7_worstNow_28 : decode cX7_worstNow 28 = .ok (.aload_n 0, 1) := by decide +kernel
theorem dX7_worstNow_29 : decode cX7_worstNow 29 = .ok (.getfield 17, 3) := by decide +kernel
theorem dX7_worstNow_32 : decode cX7_worstNow 32 = .ok (.iload 4, 2) := by decide +kernel
theorem dX7_worstNow_34 : decode cX7_worstNow 34 = .ok (.iaload, 1) := by decide +kernel
theorem dX7_worstNow_35 : decode cX7_worstNow 35 = .ok (.imul, 1) := by decide +kernel
theorem dX7_worstNow_36 : decode cX7_worstNow 36 = .ok (.aload_n 0, 1) := by decide +kernel
theorem dX7_worstNow_37 : decode cX7_worstNow 37 = .ok (.iload 4, 2) := by decide +kernel
theorem dX7_worstNow_39 : decode cX7_worstNow 39 = .ok (.invokevirtual 116, 3) := by decide +kernel
theorem dX7_worstNow_42 : decode cX7_worstNow 42 = .ok (.iload_n 1, 1) := by decide +kernel
theorem dX7_worstNow_43 : decode cX7_worstNow 43 = .ok (.imul, 1) := by decide +kernel
theorem dX7_worstNow_44 : decode cX7_worstNow 44 = .ok (.isub, 1) := by decide +kernel
theorem dX7_worstNow_45 : decode cX7_worstNow 45 = .ok (.istore 5, 2) := by decide +kernel
theorem dX7_worstNow_47 : decode cX7_worstNow 47 = .ok (.iload 5, 2) := by decide +kernel
theorem dX7_worstNow_49 : decode cX7_worstNow 49 = .ok (.ifCond .ge 9, 3) := by decide +kernel
theorem dX7_worstNow_52 : decode cX7_worstNow 52 = .ok (.iload 5, 2) := by decide +kernel
theorem dX7_worstNow_54 : decode cX7_worstNow 54 = .ok (.ineg, 1) := by decide +kernel
theorem dX7_worstNow_55 : decode cX7_worstNow 55 = .ok (.goto 5, 3) := by decide +kernel
theorem dX7_worstNow_58 : decode cX7_worstNow 58 = .ok (.iload 5, 2) := by decide +kernel
theorem dX7_worstNow_60 : decode cX7_worstNow 60 = .ok (.istore 5, 2) := by decide +kernel
theorem dX7_worstNow_62 : decode cX7_worstNow 62 = .ok (.iload 5, 2) := by decide +kernel
theorem dX7_worstNow_64 : decode cX7_worstNow 64 = .ok (.iload_n 3, 1) := by decide +kernel
theorem dX7_worstNow_65 : decode cX7_worstNow 65 = .ok (.if_icmp .le 8, 3) := by decide +kernel
theorem dX7_worstNow_68 : decode cX7_worstNow 68 = .ok (.iload 4, 2) := by decide +kernel
theorem dX7_worstNow_70 : decode cX7_worstNow 70 = .ok (.goto 4, 3) := by decide +kernel
theorem dX7_worstNow_73 : decode cX7_worstNow 73 = .ok (.iload_n 2, 1) := by decide +kernel
theorem dX7_worstNow_74 : decode cX7_worstNow 74 = .ok (.istore_n 2, 1) := by decide +kernel
theorem dX7_worstNow_75 : decode cX7_worstNow 75 = .ok (.iload 5, 2) := by decide +kernel
theorem dX7_worstNow_77 : decode cX7_worstNow 77 = .ok (.iload_n 3, 1) := by decide +kernel
theorem dX7_worstNow_78 : decode cX7_worstNow 78 = .ok (.if_icmp .le 8, 3) := by decide +kernel
theorem dX7_worstNow_81 : decode cX7_worstNow 81 = .ok (.iload 5, 2) := by decide +kernel
theorem dX7_worstNow_83 : decode cX7_worstNow 83 = .ok (.goto 4, 3) := by decide +kernel
theorem dX7_worstNow_86 : decode cX7_worstNow 86 = .ok (.iload_n 3, 1) := by decide +kernel
theorem dX7_worstNow_87 : decode cX7_worstNow 87 = .ok (.istore_n 3, 1) := by decide +kernel
theorem dX7_worstNow_88 : decode cX7_worstNow 88 = .ok (.iinc 4 1, 3) := by decide +kernel
theorem dX7_worstNow_91 : decode cX7_worstNow 91 = .ok (.goto (-78), 3) := by decide +kernel
theorem dX7_worstNow_94 : decode cX7_worstNow 94 = .ok (.iload_n 2, 1) := by decide +kernel
theorem dX7_worstNow_95 : decode cX7_worstNow 95 = .ok (.ireturn, 1) := by decide +kernel
theorem dX7_worst_0 : decode cX7_worst 0 = .ok (.aload_n 0, 1) := by decide +kernel
theorem dX7_worst_1 : decode cX7_worst 1 = .ok (.invokevirtual 140, 3) := by decide +kernel
theorem dX7_worst_4 : decode cX7_worst 4 = .ok (.ireturn, 1) := by decide +kernel
theorem dX7_type_0 : decode cX7_type 0 = .ok (.iload_n 1, 1) := by decide +kernel
theorem dX7_type_1 : decode cX7_type 1 = .ok (.iconst 0, 1) := by decide +kernel
theorem dX7_type_2 : decode cX7_type 2 = .ok (.sipush 255, 3) := by decide +kernel
theorem dX7_type_5 : decode cX7_type 5 = .ok (.invokestatic 85, 3) := by decide +kernel
theorem dX7_type_8 : decode cX7_type 8 = .ok (.ifCond .ne 6, 3) := by decide +kernel
theorem dX7_type_11 : decode cX7_type 11 = .ok (.bipush (-2), 2) := by decide +kernel
theorem dX7_type_13 : decode cX7_type 13 = .ok (.ireturn, 1) := by decide +kernel
theorem dX7_type_14 : decode cX7_type 14 = .ok (.aload_n 0, 1) := by decide +kernel
theorem dX7_type_15 : decode cX7_type 15 = .ok (.getfield 143, 3) := by decide +kernel
theorem dX7_type_18 : decode cX7_type 18 = .ok (.iconst 5, 1) := by decide +kernel
theorem dX7_type_19 : decode cX7_type 19 = .ok (.if_icmp .ne 6, 3) := by decide +kernel
theorem dX7_type_22 : decode cX7_type 22 = .ok (.bipush (-4), 2) := by decide +kernel
theorem dX7_type_24 : decode cX7_type 24 = .ok (.ireturn, 1) := by decide +kernel
theorem dX7_type_25 : decode cX7_type 25 = .ok (.aload_n 0, 1) := by decide +kernel
theorem dX7_type_26 : decode cX7_type 26 = .ok (.getfield 26, 3) := by decide +kernel
theorem dX7_type_29 : decode cX7_type 29 = .ok (.aload_n 0, 1) := by decide +kernel
theorem dX7_type_30 : decode cX7_type 30 = .ok (.getfield 143, 3) := by decide +kernel
theorem dX7_type_33 : decode cX7_type 33 = .ok (.iload_n 1, 1) := by decide +kernel
theorem dX7_type_34 : decode cX7_type 34 = .ok (.iastore, 1) := by decide +kernel
theorem dX7_type_35 : decode cX7_type 35 = .ok (.aload_n 0, 1) := by decide +kernel
theorem dX7_type_36 : decode cX7_type 36 = .ok (.dup, 1) := by decide +kernel
theorem dX7_type_37 : decode cX7_type 37 = .ok (.getfield 143, 3) := by decide +kernel
theorem dX7_type_40 : decode cX7_type 40 = .ok (.iconst 1, 1) := by decide +kernel
theorem dX7_type_41 : decode cX7_type 41 = .ok (.iadd, 1) := by decide +kernel
theorem dX7_type_42 : decode cX7_type 42 = .ok (.putfield 143, 3) := by decide +kernel
theorem dX7_type_45 : decode cX7_type 45 = .ok (.aload_n 0, 1) := by decide +kernel
theorem dX7_type_46 : decode cX7_type 46 = .ok (.getfield 143, 3) := by decide +kernel
theorem dX7_type_49 : decode cX7_type 49 = .ok (.ireturn, 1) := by decide +kernel
theorem dX7_wipe_0 : decode cX7_wipe 0 = .ok (.aload_n 0, 1) := by decide +kernel
theorem dX7_wipe_1 : decode cX7_wipe 1 = .ok (.getfield 143, 3) := by decide +kernel
theorem dX7_wipe_4 : decode cX7_wipe 4 = .ok (.istore_n 1, 1) := by decide +kernel
theorem dX7_wipe_5 : decode cX7_wipe 5 = .ok (.aload_n 0, 1) := by decide +kernel
theorem dX7_wipe_6 : decode cX7_wipe 6 = .ok (.iconst 0, 1) := by decide +kernel
theorem dX7_wipe_7 : decode cX7_wipe 7 = .ok (.putfield 143, 3) := by decide +kernel
theorem dX7_wipe_10 : decode cX7_wipe 10 = .ok (.iload_n 1, 1) := by decide +kernel
theorem dX7_wipe_11 : decode cX7_wipe 11 = .ok (.ireturn, 1) := by decide +kernel
theorem dX7_isTyped_0 : decode cX7_isTyped 0 = .ok (.aload_n 0, 1) := by decide +kernel
theorem dX7_isTyped_1 : decode cX7_isTyped 1 = .ok (.getfield 143, 3) := by decide +kernel
theorem dX7_isTyped_4 : decode cX7_isTyped 4 = .ok (.iconst 5, 1) := by decide +kernel
theorem dX7_isTyped_5 : decode cX7_isTyped 5 = .ok (.if_icmp .ne 59, 3) := by decide +kernel
theorem dX7_isTyped_8 : decode cX7_isTyped 8 = .ok (.aload_n 0, 1) := by decide +kernel
theorem dX7_isTyped_9 : decode cX7_isTyped 9 = .ok (.getfield 26, 3) := by decide +kernel
theorem dX7_isTyped_12 : decode cX7_isTyped 12 = .ok (.iconst 0, 1) := by decide +kernel
theorem dX7_isTyped_13 : decode cX7_isTyped 13 = .ok (.iaload, 1) := by decide +kernel
theorem dX7_isTyped_14 : decode cX7_isTyped 14 = .ok (.iload_n 1, 1) := by decide +kernel
theorem dX7_isTyped_15 : decode cX7_isTyped 15 = .ok (.if_icmp .ne 49, 3) := by decide +kernel
theorem dX7_isTyped_18 : decode cX7_isTyped 18 = .ok (.aload_n 0, 1) := by decide +kernel
theorem dX7_isTyped_19 : decode cX7_isTyped 19 = .ok (.getfield 26, 3) := by decide +kernel
theorem dX7_isTyped_22 : decode cX7_isTyped 22 = .ok (.iconst 1, 1) := by decide +kernel
theorem dX7_isTyped_23 : decode cX7_isTyped 23 = .ok (.iaload, 1) := by decide +kernel
theorem dX7_isTyped_24 : decode cX7_isTyped 24 = .ok (.iload_n 2, 1) := by decide +kernel
theorem dX7_isTyped_25 : decode cX7_isTyped 25 = .ok (.if_icmp .ne 39, 3) := by decide +kernel
theorem dX7_isTyped_28 : decode cX7_isTyped 28 = .ok (.aload_n 0, 1) := by decide +kernel
theorem dX7_isTyped_29 : decode cX7_isTyped 29 = .ok (.getfield 26, 3) := by decide +kernel
theorem dX7_isTyped_32 : decode cX7_isTyped 32 = .ok (.iconst 2, 1) := by decide +kernel
theorem dX7_isTyped_33 : decode cX7_isTyped 33 = .ok (.iaload, 1) := by decide +kernel
theorem dX7_isTyped_34 : decode cX7_isTyped 34 = .ok (.iload_n 3, 1) := by decide +kernel
theorem dX7_isTyped_35 : decode cX7_isTyped 35 = .ok (.if_icmp .ne 29, 3) := by decide +kernel
theorem dX7_isTyped_38 : decode cX7_isTyped 38 = .ok (.aload_n 0, 1) := by decide +kernel
theorem dX7_isTyped_39 : decode cX7_isTyped 39 = .ok (.getfield 26, 3) := by decide +kernel
theorem dX7_isTyped_42 : decode cX7_isTyped 42 = .ok (.iconst 3, 1) := by decide +kernel
theorem dX7_isTyped_43 : decode cX7_isTyped 43 = .ok (.iaload, 1) := by decide +kernel
theorem dX7_isTyped_44 : decode cX7_isTyped 44 = .ok (.iload 4, 2) := by decide +kernel
theorem dX7_isTyped_46 : decode cX7_isTyped 46 = .ok (.if_icmp .ne 18, 3) := by decide +kernel
theorem dX7_isTyped_49 : decode cX7_isTyped 49 = .ok (.aload_n 0, 1) := by decide +kernel
theorem dX7_isTyped_50 : decode cX7_isTyped 50 = .ok (.getfield 26, 3) := by decide +kernel
theorem dX7_isTyped_53 : decode cX7_isTyped 53 = .ok (.iconst 4, 1) := by decide +kernel
theorem dX7_isTyped_54 : decode cX7_isTyped 54 = .ok (.iaload, 1) := by decide +kernel
theorem dX7_isTyped_55 : decode cX7_isTyped 55 = .ok (.iload 5, 2) := by decide +kernel
theorem dX7_isTyped_57 : decode cX7_isTyped 57 = .ok (.if_icmp .ne 7, 3) := by decide +kernel
theorem dX7_isTyped_60 : decode cX7_isTyped 60 = .ok (.iconst 1, 1) := by decide +kernel
theorem dX7_isTyped_61 : decode cX7_isTyped 61 = .ok (.goto 4, 3) := by decide +kernel
theorem dX7_isTyped_64 : decode cX7_isTyped 64 = .ok (.iconst 0, 1) := by decide +kernel
theorem dX7_isTyped_65 : decode cX7_isTyped 65 = .ok (.ireturn, 1) := by decide +kernel
theorem dX7_modeNow_0 : decode cX7_modeNow 0 = .ok (.aload_n 0, 1) := by decide +kernel
theorem dX7_modeNow_1 : decode cX7_modeNow 1 = .ok (.bipush 100, 2) := by decide +kernel
theorem dX7_modeNow_3 : decode cX7_modeNow 3 = .ok (.bipush 101, 2) := by decide +kernel
theorem dX7_modeNow_5 : decode cX7_modeNow 5 = .ok (.bipush 110, 2) := by decide +kernel
theorem dX7_modeNow_7 : decode cX7_modeNow 7 = .ok (.bipush 115, 2) := by decide +kernel
theorem dX7_modeNow_9 : decode cX7_modeNow 9 = .ok (.bipush 101, 2) := by decide +kernel
theorem dX7_modeNow_11 : decode cX7_modeNow 11 = .ok (.invokevirtual 146, 3) := by decide +kernel
theorem dX7_modeNow_14 : decode cX7_modeNow 14 = .ok (.ifCond .eq 7, 3) := by decide +kernel
theorem dX7_modeNow_17 : decode cX7_modeNow 17 = .ok (.iconst 1, 1) := by decide +kernel
theorem dX7_modeNow_18 : decode cX7_modeNow 18 = .ok (.goto 25, 3) := by decide +kernel
theorem dX7_modeNow_21 : decode cX7_modeNow 21 = .ok (.aload_n 0, 1) := by decide +kernel
theorem dX7_modeNow_22 : decode cX7_modeNow 22 = .ok (.bipush 107, 2) := by decide +kernel
theorem dX7_modeNow_24 : decode cX7_modeNow 24 = .ok (.bipush 110, 2) := by decide +kernel
theorem dX7_modeNow_26 : decode cX7_modeNow 26 = .ok (.bipush 111, 2) := by decide +kernel
theorem dX7_modeNow_28 : decode cX7_modeNow 28 = .ok (.bipush 119, 2) := by decide +kernel
theorem dX7_modeNow_30 : decode cX7_modeNow 30 = .ok (.bipush 110, 2) := by decide +kernel
theorem dX7_modeNow_32 : decode cX7_modeNow 32 = .ok (.invokevirtual 146, 3) := by decide +kernel
theorem dX7_modeNow_35 : decode cX7_modeNow 35 = .ok (.ifCond .eq 7, 3) := by decide +kernel
theorem dX7_modeNow_38 : decode cX7_modeNow 38 = .ok (.iconst 2, 1) := by decide +kernel
theorem dX7_modeNow_39 : decode cX7_modeNow 39 = .ok (.goto 4, 3) := by decide +kernel
theorem dX7_modeNow_42 : decode cX7_modeNow 42 = .ok (.iconst 0, 1) := by decide +kernel
theorem dX7_modeNow_43 : decode cX7_modeNow 43 = .ok (.ireturn, 1) := by decide +kernel
theorem dX7_mode_0 : decode cX7_mode 0 = .ok (.aload_n 0, 1) := by decide +kernel
theorem dX7_mode_1 : decode cX7_mode 1 = .ok (.invokevirtual 150, 3) := by decide +kernel
theorem dX7_mode_4 : decode cX7_mode 4 = .ok (.ireturn, 1) := by decide +kernel
theorem dX7_nominal_0 : decode cX7_nominal 0 = .ok (.iload_n 1, 1) := by decide +kernel
theorem dX7_nominal_1 : decode cX7_nominal 1 = .ok (.iconst 0, 1) := by decide +kernel
theorem dX7_nominal_2 : decode cX7_nominal 2 = .ok (.sipush 600, 3) := by decide +kernel
theorem dX7_nominal_5 : decode cX7_nominal 5 = .ok (.invokestatic 85, 3) := by decide +kernel
theorem dX7_nominal_8 : decode cX7_nominal 8 = .ok (.ifCond .ne 6, 3) := by decide +kernel
theorem dX7_nominal_11 : decode cX7_nominal 11 = .ok (.bipush (-2), 2) := by decide +kernel
theorem dX7_nominal_13 : decode cX7_nominal 13 = .ok (.ireturn, 1) := by decide +kernel
theorem dX7_nominal_14 : decode cX7_nominal 14 = .ok (.aload_n 0, 1) := by decide +kernel
theorem dX7_nominal_15 : decode cX7_nominal 15 = .ok (.getfield 153, 3) := by decide +kernel
theorem dX7_nominal_18 : decode cX7_nominal 18 = .ok (.istore_n 2, 1) := by decide +kernel
theorem dX7_nominal_19 : decode cX7_nominal 19 = .ok (.aload_n 0, 1) := by decide +kernel
theorem dX7_nominal_20 : decode cX7_nominal 20 = .ok (.iload_n 1, 1) := by decide +kernel
theorem dX7_nominal_21 : decode cX7_nominal 21 = .ok (.putfield 153, 3) := by decide +kernel
theorem dX7_nominal_24 : decode cX7_nominal 24 = .ok (.iload_n 2, 1) := by decide +kernel
theorem dX7_nominal_25 : decode cX7_nominal 25 = .ok (.ireturn, 1) := by decide +kernel
theorem dX7_mend_0 : decode cX7_mend 0 = .ok (.iload_n 1, 1) := by decide +kernel
theorem dX7_mend_1 : decode cX7_mend 1 = .ok (.iconst 0, 1) := by decide +kernel
theorem dX7_mend_2 : decode cX7_mend 2 = .ok (.iconst 1, 1) := by decide +kernel
theorem dX7_mend_3 : decode cX7_mend 3 = .ok (.invokestatic 85, 3) := by decide +kernel
theorem dX7_mend_6 : decode cX7_mend 6 = .ok (.ifCond .ne 6, 3) := by decide +kernel
theorem dX7_mend_9 : decode cX7_mend 9 = .ok (.bipush (-2), 2) := by decide +kernel
theorem dX7_mend_11 : decode cX7_mend 11 = .ok (.ireturn, 1) := by decide +kernel
theorem dX7_mend_12 : decode cX7_mend 12 = .ok (.aload_n 0, 1) := by decide +kernel
theorem dX7_mend_13 : decode cX7_mend 13 = .ok (.getfield 156, 3) := by decide +kernel
theorem dX7_mend_16 : decode cX7_mend 16 = .ok (.istore_n 2, 1) := by decide +kernel
theorem dX7_mend_17 : decode cX7_mend 17 = .ok (.aload_n 0, 1) := by decide +kernel
theorem dX7_mend_18 : decode cX7_mend 18 = .ok (.iload_n 1, 1) := by decide +kernel
theorem dX7_mend_19 : decode cX7_mend 19 = .ok (.putfield 156, 3) := by decide +kernel
theorem dX7_mend_22 : decode cX7_mend 22 = .ok (.iload_n 2, 1) := by decide +kernel
theorem dX7_mend_23 : decode cX7_mend 23 = .ok (.ireturn, 1) := by decide +kernel
theorem dX7_partBy_0 : decode cX7_partBy 0 = .ok (.iconst 0, 1) := by decide +kernel
theorem dX7_partBy_1 : decode cX7_partBy 1 = .ok (.istore_n 3, 1) := by decide +kernel
theorem dX7_partBy_2 : decode cX7_partBy 2 = .ok (.iconst 0, 1) := by decide +kernel
theorem dX7_partBy_3 : decode cX7_partBy 3 = .ok (.istore 4, 2) := by decide +kernel
theorem dX7_partBy_5 : decode cX7_partBy 5 = .ok (.iload 4, 2) := by decide +kernel
theorem dX7_partBy_7 : decode cX7_partBy 7 = .ok (.iload_n 2, 1) := by decide +kernel
theorem dX7_partBy_8 : decode cX7_partBy 8 = .ok (.if_icmp .ge 19, 3) := by decide +kernel
theorem dX7_partBy_11 : decode cX7_partBy 11 = .ok (.iload_n 3, 1) := by decide +kernel
theorem dX7_partBy_12 : decode cX7_partBy 12 = .ok (.aload_n 0, 1) := by decide +kernel
theorem dX7_partBy_13 : decode cX7_partBy 13 = .ok (.getfield 17, 3) := by decide +kernel
theorem dX7_partBy_16 : decode cX7_partBy 16 = .ok (.iload 4, 2) := by decide +kernel
theorem dX7_partBy_18 : decode cX7_partBy 18 = .ok (.iaload, 1) := by decide +kernel
theorem dX7_partBy_19 : decode cX7_partBy 19 = .ok (.iadd, 1) := by decide +kernel
theorem dX7_partBy_20 : decode cX7_partBy 20 = .ok (.istore_n 3, 1) := by decide +kernel
theorem dX7_partBy_21 : decode cX7_partBy 21 = .ok (.iinc 4 1, 3) := by decide +kernel
theorem dX7_partBy_24 : decode cX7_partBy 24 = .ok (.goto (-19), 3) := by decide +kernel
theorem dX7_partBy_27 : decode cX7_partBy 27 = .ok (.iload_n 1, 1) := by decide +kernel
theorem dX7_partBy_28 : decode cX7_partBy 28 = .ok (.iconst 2, 1) := by decide +kernel
theorem dX7_partBy_29 : decode cX7_partBy 29 = .ok (.if_icmp .ne 20, 3) := by decide +kernel
theorem dX7_partBy_32 : decode cX7_partBy 32 = .ok (.aload_n 0, 1) := by decide +kernel
theorem dX7_partBy_33 : decode cX7_partBy 33 = .ok (.iload_n 2, 1) := by decide +kernel
theorem dX7_partBy_34 : decode cX7_partBy 34 = .ok (.invokevirtual 100, 3) := by decide +kernel
theorem dX7_partBy_37 : decode cX7_partBy 37 = .ok (.aload_n 0, 1) := by decide +kernel
theorem dX7_partBy_38 : decode cX7_partBy 38 = .ok (.iload_n 2, 1) := by decide +kernel
theorem dX7_partBy_39 : decode cX7_partBy 39 = .ok (.iconst 1, 1) := by decide +kernel
theorem dX7_partBy_40 : decode cX7_partBy 40 = .ok (.iadd, 1) := by decide +kernel
theorem dX7_partBy_41 : decode cX7_partBy 41 = .ok (.invokevirtual 100, 3) := by decide +kernel
theorem dX7_partBy_44 : decode cX7_partBy 44 = .ok (.iadd, 1) := by decide +kernel
theorem dX7_partBy_45 : decode cX7_partBy 45 = .ok (.i2l, 1) := by decide +kernel
theorem dX7_partBy_46 : decode cX7_partBy 46 = .ok (.goto 39, 3) := by decide +kernel
theorem dX7_partBy_49 : decode cX7_partBy 49 = .ok (.iload_n 1, 1) := by decide +kernel
theorem dX7_partBy_50 : decode cX7_partBy 50 = .ok (.iconst 1, 1) := by decide +kernel
theorem dX7_partBy_51 : decode cX7_partBy 51 = .ok (.if_icmp .ne 24, 3) := by decide +kernel
theorem dX7_partBy_54 : decode cX7_partBy 54 = .ok (.ldc2_w 130, 3) := by decide +kernel
theorem dX7_partBy_57 : decode cX7_partBy 57 = .ok (.iload_n 3, 1) := by decide +kernel
theorem dX7_partBy_58 : decode cX7_partBy 58 = .ok (.i2l, 1) := by decide +kernel
theorem dX7_partBy_59 : decode cX7_partBy 59 = .ok (.lmul, 1) := by decide +kernel
theorem dX7_partBy_60 : decode cX7_partBy 60 = .ok (.ldc2_w 159, 3) := by decide +kernel
theorem dX7_partBy_63 : decode cX7_partBy 63 = .ok (.aload_n 0, 1) := by decide +kernel
theorem dX7_partBy_64 : decode cX7_partBy 64 = .ok (.getfield 17, 3) := by decide +kernel
theorem dX7_partBy_67 : decode cX7_partBy 67 = .ok (.iload_n 2, 1) := by decide +kernel
theorem dX7_partBy_68 : decode cX7_partBy 68 = .ok (.iaload, 1) := by decide +kernel
theorem dX7_partBy_69 : decode cX7_partBy 69 = .ok (.i2l, 1) := by decide +kernel
theorem dX7_partBy_70 : decode cX7_partBy 70 = .ok (.lmul, 1) := by decide +kernel
theorem dX7_partBy_71 : decode cX7_partBy 71 = .ok (.ladd, 1) := by decide +kernel
theorem dX7_partBy_72 : decode cX7_partBy 72 = .ok (.goto 13, 3) := by decide +kernel
theorem dX7_partBy_75 : decode cX7_partBy 75 = .ok (.ldc2_w 130, 3) := by decide +kernel
theorem dX7_partBy_78 : decode cX7_partBy 78 = .ok (.iload_n 2, 1) := by decide +kernel
theorem dX7_partBy_79 : decode cX7_partBy 79 = .ok (.i2l, 1) := by decide +kernel
theorem dX7_partBy_80 : decode cX7_partBy 80 = .ok (.lmul, 1) := by decide +kernel
theorem dX7_partBy_81 : decode cX7_partBy 81 = .ok (.ldc2_w 159, 3) := by decide +kernel
theorem dX7_partBy_84 : decode cX7_partBy 84 = .ok (.ladd, 1) := by decide +kernel
theorem dX7_partBy_85 : decode cX7_partBy 85 = .ok (.lreturn, 1) := by decide +kernel
theorem dX7_findsGaps_0 : decode cX7_findsGaps 0 = .ok (.iconst 0, 1) := by decide +kernel
theorem dX7_findsGaps_1 : decode cX7_findsGaps 1 = .ok (.istore_n 1, 1) := by decide +kernel
theorem dX7_findsGaps_2 : decode cX7_findsGaps 2 = .ok (.iload_n 1, 1) := by decide +kernel
theorem dX7_findsGaps_3 : decode cX7_findsGaps 3 = .ok (.iconst 1, 1) := by decide +kernel
theorem dX7_findsGaps_4 : decode cX7_findsGaps 4 = .ok (.iadd, 1) := by decide +kernel
theorem dX7_findsGaps_5 : decode cX7_findsGaps 5 = .ok (.aload_n 0, 1) := by decide +kernel
theorem dX7_findsGaps_6 : decode cX7_findsGaps 6 = .ok (.getfield 81, 3) := by decide +kernel
theorem dX7_findsGaps_9 : decode cX7_findsGaps 9 = .ok (.if_icmp .ge 77, 3) := by decide +kernel
theorem dX7_findsGaps_12 : decode cX7_findsGaps 12 = .ok (.aload_n 0, 1) := by decide +kernel
theorem dX7_findsGaps_13 : decode cX7_findsGaps 13 = .ok (.getfield 29, 3) := by decide +kernel
theorem dX7_findsGaps_16 : decode cX7_findsGaps 16 = .ok (.iload_n 1, 1) := by decide +kernel
theorem dX7_findsGaps_17 : decode cX7_findsGaps 17 = .ok (.iconst 1, 1) := by decide +kernel
theorem dX7_findsGaps_18 : decode cX7_findsGaps 18 = .ok (.iadd, 1) := by decide +kernel
theorem dX7_findsGaps_19 : decode cX7_findsGaps 19 = .ok (.laload, 1) := by decide +kernel
theorem dX7_findsGaps_20 : decode cX7_findsGaps 20 = .ok (.aload_n 0, 1) := by decide +kernel
theorem dX7_findsGaps_21 : decode cX7_findsGaps 21 = .ok (.getfield 29, 3) := by decide +kernel
theorem dX7_findsGaps_24 : decode cX7_findsGaps 24 = .ok (.iload_n 1, 1) := by decide +kernel
theorem dX7_findsGaps_25 : decode cX7_findsGaps 25 = .ok (.laload, 1) := by decide +kernel
theorem dX7_findsGaps_26 : decode cX7_findsGaps 26 = .ok (.lsub, 1) := by decide +kernel
theorem dX7_findsGaps_27 : decode cX7_findsGaps 27 = .ok (.lstore_n 2, 1) := by decide +kernel
theorem dX7_findsGaps_28 : decode cX7_findsGaps 28 = .ok (.iload_n 1, 1) := by decide +kernel
theorem dX7_findsGaps_29 : decode cX7_findsGaps 29 = .ok (.istore 4, 2) := by decide +kernel
theorem dX7_findsGaps_31 : decode cX7_findsGaps 31 = .ok (.iload 4, 2) := by decide +kernel
theorem dX7_findsGaps_33 : decode cX7_findsGaps 33 = .ok (.ifCond .le 39, 3) := by decide +kernel
theorem dX7_findsGaps_36 : decode cX7_findsGaps 36 = .ok (.aload_n 0, 1) := by decide +kernel
theorem dX7_findsGaps_37 : decode cX7_findsGaps 37 = .ok (.getfield 42, 3) := by decide +kernel
theorem dX7_findsGaps_40 : decode cX7_findsGaps 40 = .ok (.iload 4, 2) := by decide +kernel
theorem dX7_findsGaps_42 : decode cX7_findsGaps 42 = .ok (.iconst 1, 1) := by decide +kernel
theorem dX7_findsGaps_43 : decode cX7_findsGaps 43 = .ok (.isub, 1) := by decide +kernel
theorem dX7_findsGaps_44 : decode cX7_findsGaps 44 = .ok (.laload, 1) := by decide +kernel
theorem dX7_findsGaps_45 : decode cX7_findsGaps 45 = .ok (.lload_n 2, 1) := by decide +kernel
theorem dX7_findsGaps_46 : decode cX7_findsGaps 46 = .ok (.lcmp, 1) := by decide +kernel
theorem dX7_findsGaps_47 : decode cX7_findsGaps 47 = .ok (.ifCond .le 25, 3) := by decide +kernel
theorem dX7_findsGaps_50 : decode cX7_findsGaps 50 = .ok (.aload_n 0, 1) := by decide +kernel
theorem dX7_findsGaps_51 : decode cX7_findsGaps 51 = .ok (.getfield 42, 3) := by decide +kernel
theorem dX7_findsGaps_54 : decode cX7_findsGaps 54 = .ok (.iload 4, 2) := by decide +kernel
theorem dX7_findsGaps_56 : decode cX7_findsGaps 56 = .ok (.aload_n 0, 1) := by decide +kernel
theorem dX7_findsGaps_57 : decode cX7_findsGaps 57 = .ok (.getfield 42, 3) := by decide +kernel
theorem dX7_findsGaps_60 : decode cX7_findsGaps 60 = .ok (.iload 4, 2) := by decide +kernel
theorem dX7_findsGaps_62 : decode cX7_findsGaps 62 = .ok (.iconst 1, 1) := by decide +kernel
theorem dX7_findsGaps_63 : decode cX7_findsGaps 63 = .ok (.isub, 1) := by decide +kernel
theorem dX7_findsGaps_64 : decode cX7_findsGaps 64 = .ok (.laload, 1) := by decide +kernel
theorem dX7_findsGaps_65 : decode cX7_findsGaps 65 = .ok (.lastore, 1) := by decide +kernel
theorem dX7_findsGaps_66 : decode cX7_findsGaps 66 = .ok (.iinc 4 (-1), 3) := by decide +kernel
theorem dX7_findsGaps_69 : decode cX7_findsGaps 69 = .ok (.goto (-38), 3) := by decide +kernel
theorem dX7_findsGaps_72 : decode cX7_findsGaps 72 = .ok (.aload_n 0, 1) := by decide +kernel
theorem dX7_findsGaps_73 : decode cX7_findsGaps 73 = .ok (.getfield 42, 3) := by decide +kernel
theorem dX7_findsGaps_76 : decode cX7_findsGaps 76 = .ok (.iload 4, 2) := by decide +kernel
theorem dX7_findsGaps_78 : decode cX7_findsGaps 78 = .ok (.lload_n 2, 1) := by decide +kernel
theorem dX7_findsGaps_79 : decode cX7_findsGaps 79 = .ok (.lastore, 1) := by decide +kernel
theorem dX7_findsGaps_80 : decode cX7_findsGaps 80 = .ok (.iinc 1 1, 3) := by decide +kernel
theorem dX7_findsGaps_83 : decode cX7_findsGaps 83 = .ok (.goto (-81), 3) := by decide +kernel
theorem dX7_findsGaps_86 : decode cX7_findsGaps 86 = .ok (.aload_n 0, 1) := by decide +kernel
theorem dX7_findsGaps_87 : decode cX7_findsGaps 87 = .ok (.aload_n 0, 1) := by decide +kernel
theorem dX7_findsGaps_88 : decode cX7_findsGaps 88 = .ok (.getfield 153, 3) := by decide +kernel
theorem dX7_findsGaps_91 : decode cX7_findsGaps 91 = .ok (.ifCond .le 16, 3) := by decide +kernel
theorem dX7_findsGaps_94 : decode cX7_findsGaps 94 = .ok (.aload_n 0, 1) := by decide +kernel
theorem dX7_findsGaps_95 : decode cX7_findsGaps 95 = .ok (.getfield 153, 3) := by decide +kernel
theorem dX7_findsGaps_98 : decode cX7_findsGaps 98 = .ok (.i2l, 1) := by decide +kernel
theorem dX7_findsGaps_99 : decode cX7_findsGaps 99 = .ok (.aload_n 0, 1) := by decide +kernel
theorem dX7_findsGaps_100 : decode cX7_findsGaps 100 = .ok (.getfield 161, 3) := by decide +kernel
theorem dX7_findsGaps_103 : decode cX7_findsGaps 103 = .ok (.lmul, 1) := by decide +kernel
theorem dX7_findsGaps_104 : decode cX7_findsGaps 104 = .ok (.goto 28, 3) := by decide +kernel
theorem dX7_findsGaps_107 : decode cX7_findsGaps 107 = .ok (.aload_n 0, 1) := by decide +kernel
theorem dX7_findsGaps_108 : decode cX7_findsGaps 108 = .ok (.getfield 81, 3) := by decide +kernel
theorem dX7_findsGaps_111 : decode cX7_findsGaps 111 = .ok (.iconst 1, 1) := by decide +kernel
theorem dX7_findsGaps_112 : decode cX7_findsGaps 112 = .ok (.if_icmp .le 19, 3) := by decide +kernel
theorem dX7_findsGaps_115 : decode cX7_findsGaps 115 = .ok (.aload_n 0, 1) := by decide +kernel
theorem dX7_findsGaps_116 : decode cX7_findsGaps 116 = .ok (.getfield 42, 3) := by decide +kernel
theorem dX7_findsGaps_119 : decode cX7_findsGaps 119 = .ok (.aload_n 0, 1) := by decide +kernel
theorem dX7_findsGaps_120 : decode cX7_findsGaps 120 = .ok (.getfield 81, 3) := by decide +kernel
theorem dX7_findsGaps_123 : decode cX7_findsGaps 123 = .ok (.iconst 2, 1) := by decide +kernel
theorem dX7_findsGaps_124 : decode cX7_findsGaps 124 = .ok (.isub, 1) := by decide +kernel
theorem dX7_findsGaps_125 : decode cX7_findsGaps 125 = .ok (.iconst 2, 1) := by decide +kernel
theorem dX7_findsGaps_126 : decode cX7_findsGaps 126 = .ok (.idiv, 1) := by decide +kernel
theorem dX7_findsGaps_127 : decode cX7_findsGaps 127 = .ok (.laload, 1) := by decide +kernel
theorem dX7_findsGaps_128 : decode cX7_findsGaps 128 = .ok (.goto 4, 3) := by decide +kernel
theorem dX7_findsGaps_131 : decode cX7_findsGaps 131 = .ok (.lconst 0, 1) := by decide +kernel
theorem dX7_findsGaps_132 : decode cX7_findsGaps 132 = .ok (.putfield 165, 3) := by decide +kernel
theorem dX7_findsGaps_135 : decode cX7_findsGaps 135 = .ok (.return_, 1) := by decide +kernel
theorem dX7_finds_0 : decode cX7_finds 0 = .ok (.aload_n 0, 1) := by decide +kernel
theorem dX7_finds_1 : decode cX7_finds 1 = .ok (.invokevirtual 150, 3) := by decide +kernel
theorem dX7_finds_4 : decode cX7_finds 4 = .ok (.iconst 1, 1) := by decide +kernel
theorem dX7_finds_5 : decode cX7_finds 5 = .ok (.if_icmp .ne 14, 3) := by decide +kernel
theorem dX7_finds_8 : decode cX7_finds 8 = .ok (.aload_n 0, 1) := by decide +kernel
theorem dX7_finds_9 : decode cX7_finds 9 = .ok (.invokevirtual 103, 3) := by decide +kernel
theorem dX7_finds_12 : decode cX7_finds 12 = .ok (.ifCond .ne 7, 3) := by decide +kernel
theorem dX7_finds_15 : decode cX7_finds 15 = .ok (.iconst 0, 1) := by decide +kernel
theorem dX7_finds_16 : decode cX7_finds 16 = .ok (.goto 7, 3) := by decide +kernel
theorem dX7_finds_19 : decode cX7_finds 19 = .ok (.aload_n 0, 1) := by decide +kernel
theorem dX7_finds_20 : decode cX7_finds 20 = .ok (.invokevirtual 150, 3) := by decide +kernel
theorem dX7_finds_23 : decode cX7_finds 23 = .ok (.istore_n 1, 1) := by decide +kernel
theorem dX7_finds_24 : decode cX7_finds 24 = .ok (.aload_n 0, 1) := by decide +kernel
theorem dX7_finds_25 : decode cX7_finds 25 = .ok (.iload_n 1, 1) := by decide +kernel
theorem dX7_finds_26 : decode cX7_finds 26 = .ok (.iconst 2, 1) := by decide +kernel
theorem dX7_finds_27 : decode cX7_finds 27 = .ok (.if_icmp .ne 9, 3) := by decide +kernel
theorem dX7_finds_30 : decode cX7_finds 30 = .ok (.ldc2_w 168, 3) := by decide +kernel
theorem dX7_finds_33 : decode cX7_finds 33 = .ok (.goto 21, 3) := by decide +kernel
theorem dX7_finds_36 : decode cX7_finds 36 = .ok (.iload_n 1, 1) := by decide +kernel
theorem dX7_finds_37 : decode cX7_finds 37 = .ok (.iconst 1, 1) := by decide +kernel
theorem dX7_finds_38 : decode cX7_finds 38 = .ok (.if_icmp .ne 11, 3) := by decide +kernel
theorem dX7_finds_41 : decode cX7_finds 41 = .ok (.aload_n 0, 1) := by decide +kernel
theorem dX7_finds_42 : decode cX7_finds 42 = .ok (.invokevirtual 103, 3) := by decide +kernel
theorem dX7_finds_45 : decode cX7_finds 45 = .ok (.i2l, 1) := by decide +kernel
theorem dX7_finds_46 : decode cX7_finds 46 = .ok (.goto 8, 3) := by decide +kernel
theorem dX7_finds_49 : decode cX7_finds 49 = .ok (.aload_n 0, 1) := by decide +kernel
theorem dX7_finds_50 : decode cX7_finds 50 = .ok (.invokevirtual 107, 3) := by decide +kernel
theorem dX7_finds_53 : decode cX7_finds 53 = .ok (.i2l, 1) := by decide +kernel
theorem dX7_finds_54 : decode cX7_finds 54 = .ok (.putfield 161, 3) := by decide +kernel
theorem dX7_finds_57 : decode cX7_finds 57 = .ok (.iconst 0, 1) := by decide +kernel
theorem dX7_finds_58 : decode cX7_finds 58 = .ok (.istore_n 2, 1) := by decide +kernel
theorem dX7_finds_59 : decode cX7_finds 59 = .ok (.iload_n 2, 1) := by decide +kernel
theorem dX7_finds_60 : decode cX7_finds 60 = .ok (.aload_n 0, 1) := by decide +kernel
theorem dX7_finds_61 : decode cX7_finds 61 = .ok (.getfield 81, 3) := by decide +kernel
theorem dX7_finds_64 : decode cX7_finds 64 = .ok (.if_icmp .ge 53, 3) := by decide +kernel
theorem dX7_finds_67 : decode cX7_finds 67 = .ok (.aload_n 0, 1) := by decide +kernel
theorem dX7_finds_68 : decode cX7_finds 68 = .ok (.getfield 29, 3) := by decide +kernel
theorem dX7_finds_71 : decode cX7_finds 71 = .ok (.iload_n 2, 1) := by decide +kernel
theorem dX7_finds_72 : decode cX7_finds 72 = .ok (.aload_n 0, 1) := by decide +kernel
theorem dX7_finds_73 : decode cX7_finds 73 = .ok (.getfield 7, 3) := by decide +kernel
theorem dX7_finds_76 : decode cX7_finds 76 = .ok (.iload_n 2, 1) := by decide +kernel
theorem dX7_finds_77 : decode cX7_finds 77 = .ok (.iaload, 1) := by decide +kernel
theorem dX7_finds_78 : decode cX7_finds 78 = .ok (.bipush 60, 2) := by decide +kernel
theorem dX7_finds_80 : decode cX7_finds 80 = .ok (.idiv, 1) := by decide +kernel
theorem dX7_finds_81 : decode cX7_finds 81 = .ok (.i2l, 1) := by decide +kernel
theorem dX7_finds_82 : decode cX7_finds 82 = .ok (.ldc2_w 130, 3) := by decide +kernel
theorem dX7_finds_85 : decode cX7_finds 85 = .ok (.lmul, 1) := by decide +kernel
theorem dX7_finds_86 : decode cX7_finds 86 = .ok (.aload_n 0, 1) := by decide +kernel
theorem dX7_finds_87 : decode cX7_finds 87 = .ok (.getfield 161, 3) := by decide +kernel
theorem dX7_finds_90 : decode cX7_finds 90 = .ok (.lmul, 1) := by decide +kernel
theorem dX7_finds_91 : decode cX7_finds 91 = .ok (.aload_n 0, 1) := by decide +kernel
theorem dX7_finds_92 : decode cX7_finds 92 = .ok (.iload_n 1, 1) := by decide +kernel
theorem dX7_finds_93 : decode cX7_finds 93 = .ok (.aload_n 0, 1) := by decide +kernel
theorem dX7_finds_94 : decode cX7_finds 94 = .ok (.aload_n 0, 1) := by decide +kernel
theorem dX7_finds_95 : decode cX7_finds 95 = .ok (.getfield 7, 3) := by decide +kernel
theorem dX7_finds_98 : decode cX7_finds 98 = .ok (.iload_n 2, 1) := by decide +kernel
theorem dX7_finds_99 : decode cX7_finds 99 = .ok (.iaload, 1) := by decide +kernel
theorem dX7_finds_100 : decode cX7_finds 100 = .ok (.bipush 60, 2) := by decide +kernel
theorem dX7_finds_102 : decode cX7_finds 102 = .ok (.irem, 1) := by decide +kernel
theorem dX7_finds_103 : decode cX7_finds 103 = .ok (.invokevirtual 113, 3) := by decide +kernel
theorem dX7_finds_106 : decode cX7_finds 106 = .ok (.invokevirtual 170, 3) := by decide +kernel
theorem dX7_finds_109 : decode cX7_finds 109 = .ok (.ladd, 1) := by decide +kernel
theorem dX7_finds_110 : decode cX7_finds 110 = .ok (.lastore, 1) := by decide +kernel
theorem dX7_finds_111 : decode cX7_finds 111 = .ok (.iinc 2 1, 3) := by decide +kernel
theorem dX7_finds_114 : decode cX7_finds 114 = .ok (.goto (-55), 3) := by decide +kernel
theorem dX7_finds_117 : decode cX7_finds 117 = .ok (.aload_n 0, 1) := by decide +kernel
theorem dX7_finds_118 : decode cX7_finds 118 = .ok (.invokevirtual 173, 3) := by decide +kernel
theorem dX7_finds_121 : decode cX7_finds 121 = .ok (.iconst 0, 1) := by decide +kernel
theorem dX7_finds_122 : decode cX7_finds 122 = .ok (.istore_n 2, 1) := by decide +kernel
theorem dX7_finds_123 : decode cX7_finds 123 = .ok (.iconst 0, 1) := by decide +kernel
theorem dX7_finds_124 : decode cX7_finds 124 = .ok (.istore_n 3, 1) := by decide +kernel
theorem dX7_finds_125 : decode cX7_finds 125 = .ok (.iload_n 3, 1) := by decide +kernel
theorem dX7_finds_126 : decode cX7_finds 126 = .ok (.aload_n 0, 1) := by decide +kernel
theorem dX7_finds_127 : decode cX7_finds 127 = .ok (.getfield 81, 3) := by decide +kernel
theorem dX7_finds_130 : decode cX7_finds 130 = .ok (.if_icmp .ge 171, 3) := by decide +kernel
theorem dX7_finds_133 : decode cX7_finds 133 = .ok (.aload_n 0, 1) := by decide +kernel
theorem dX7_finds_134 : decode cX7_finds 134 = .ok (.getfield 33, 3) := by decide +kernel
theorem dX7_finds_137 : decode cX7_finds 137 = .ok (.iload_n 3, 1) := by decide +kernel
theorem dX7_finds_138 : decode cX7_finds 138 = .ok (.iload_n 3, 1) := by decide +kernel
theorem dX7_finds_139 : decode cX7_finds 139 = .ok (.aload_n 0, 1) := by decide +kernel
theorem dX7_finds_140 : decode cX7_finds 140 = .ok (.getfield 156, 3) := by decide +kernel
theorem dX7_finds_143 : decode cX7_finds 143 = .ok (.iconst 1, 1) := by decide +kernel
theorem dX7_finds_144 : decode cX7_finds 144 = .ok (.if_icmp .ne 7, 3) := by decide +kernel
theorem dX7_finds_147 : decode cX7_finds 147 = .ok (.iload_n 2, 1) := by decide +kernel
theorem dX7_finds_148 : decode cX7_finds 148 = .ok (.goto 4, 3) := by decide +kernel
theorem dX7_finds_151 : decode cX7_finds 151 = .ok (.iconst 0, 1) := by decide +kernel
theorem dX7_finds_152 : decode cX7_finds 152 = .ok (.iadd, 1) := by decide +kernel
theorem dX7_finds_153 : decode cX7_finds 153 = .ok (.iastore, 1) := by decide +kernel
theorem dX7_finds_154 : decode cX7_finds 154 = .ok (.iload_n 3, 1) := by decide +kernel
theorem dX7_finds_155 : decode cX7_finds 155 = .ok (.iconst 1, 1) := by decide +kernel
theorem dX7_finds_156 : decode cX7_finds 156 = .ok (.iadd, 1) := by decide +kernel
theorem dX7_finds_157 : decode cX7_finds 157 = .ok (.aload_n 0, 1) := by decide +kernel
theorem dX7_finds_158 : decode cX7_finds 158 = .ok (.getfield 81, 3) := by decide +kernel
theorem dX7_finds_161 : decode cX7_finds 161 = .ok (.if_icmp .ge 21, 3) := by decide +kernel
theorem dX7_finds_164 : decode cX7_finds 164 = .ok (.aload_n 0, 1) := by decide +kernel
theorem dX7_finds_165 : decode cX7_finds 165 = .ok (.getfield 29, 3) := by decide +kernel
theorem dX7_finds_168 : decode cX7_finds 168 = .ok (.iload_n 3, 1) := by decide +kernel
theorem dX7_finds_169 : decode cX7_finds 169 = .ok (.iconst 1, 1) := by decide +kernel
theorem dX7_finds_170 : decode cX7_finds 170 = .ok (.iadd, 1) := by decide +kernel
theorem dX7_finds_171 : decode cX7_finds 171 = .ok (.laload, 1) := by decide +kernel
theorem dX7_finds_172 : decode cX7_finds 172 = .ok (.aload_n 0, 1) := by decide +kernel
theorem dX7_finds_173 : decode cX7_finds 173 = .ok (.getfield 29, 3) := by decide +kernel
theorem dX7_finds_176 : decode cX7_finds 176 = .ok (.iload_n 3, 1) := by decide +kernel
theorem dX7_finds_177 : decode cX7_finds 177 = .ok (.laload, 1) := by decide +kernel
theorem dX7_finds_178 : decode cX7_finds 178 = .ok (.lsub, 1) := by decide +kernel
theorem dX7_finds_179 : decode cX7_finds 179 = .ok (.goto 4, 3) := by decide +kernel
theorem dX7_finds_182 : decode cX7_finds 182 = .ok (.lconst 0, 1) := by decide +kernel
theorem dX7_finds_183 : decode cX7_finds 183 = .ok (.lstore 4, 2) := by decide +kernel
theorem dX7_finds_185 : decode cX7_finds 185 = .ok (.aload_n 0, 1) := by decide +kernel
theorem dX7_finds_186 : decode cX7_finds 186 = .ok (.getfield 165, 3) := by decide +kernel
theorem dX7_finds_189 : decode cX7_finds 189 = .ok (.lconst 0, 1) := by decide +kernel
theorem dX7_finds_190 : decode cX7_finds 190 = .ok (.lcmp, 1) := by decide +kernel
theorem dX7_finds_191 : decode cX7_finds 191 = .ok (.ifCond .le 38, 3) := by decide +kernel
theorem dX7_finds_194 : decode cX7_finds 194 = .ok (.iload_n 3, 1) := by decide +kernel
theorem dX7_finds_195 : decode cX7_finds 195 = .ok (.iconst 1, 1) := by decide +kernel
theorem dX7_finds_196 : decode cX7_finds 196 = .ok (.iadd, 1) := by decide +kernel
theorem dX7_finds_197 : decode cX7_finds 197 = .ok (.aload_n 0, 1) := by decide +kernel
theorem dX7_finds_198 : decode cX7_finds 198 = .ok (.getfield 81, 3) := by decide +kernel
theorem dX7_finds_201 : decode cX7_finds 201 = .ok (.if_icmp .ge 28, 3) := by decide +kernel
theorem dX7_finds_204 : decode cX7_finds 204 = .ok (.ldc2_w 168, 3) := by decide +kernel
theorem dX7_finds_207 : decode cX7_finds 207 = .ok (.lload 4, 2) := by decide +kernel
theorem dX7_finds_209 : decode cX7_finds 209 = .ok (.lmul, 1) := by decide +kernel
theorem dX7_finds_210 : decode cX7_finds 210 = .ok (.aload_n 0, 1) := by decide +kernel
theorem dX7_finds_211 : decode cX7_finds 211 = .ok (.getfield 165, 3) := by decide +kernel
theorem dX7_finds_214 : decode cX7_finds 214 = .ok (.ladd, 1) := by decide +kernel
theorem dX7_finds_215 : decode cX7_finds 215 = .ok (.ldc2_w 168, 3) := by decide +kernel
theorem dX7_finds_218 : decode cX7_finds 218 = .ok (.aload_n 0, 1) := by decide +kernel
theorem dX7_finds_219 : decode cX7_finds 219 = .ok (.getfield 165, 3) := by decide +kernel
theorem dX7_finds_222 : decode cX7_finds 222 = .ok (.lmul, 1) := by decide +kernel
theorem dX7_finds_223 : decode cX7_finds 223 = .ok (.ldiv, 1) := by decide +kernel
theorem dX7_finds_224 : decode cX7_finds 224 = .ok (.lconst 1, 1) := by decide +kernel
theorem dX7_finds_225 : decode cX7_finds 225 = .ok (.lsub, 1) := by decide +kernel
theorem dX7_finds_226 : decode cX7_finds 226 = .ok (.goto 4, 3) := by decide +kernel
theorem dX7_finds_229 : decode cX7_finds 229 = .ok (.lconst 0, 1) := by decide +kernel
theorem dX7_finds_230 : decode cX7_finds 230 = .ok (.lstore 6, 2) := by decide +kernel
theorem dX7_finds_232 : decode cX7_finds 232 = .ok (.aload_n 0, 1) := by decide +kernel
theorem dX7_finds_233 : decode cX7_finds 233 = .ok (.getfield 39, 3) := by decide +kernel
theorem dX7_finds_236 : decode cX7_finds 236 = .ok (.iload_n 3, 1) := by decide +kernel
theorem dX7_finds_237 : decode cX7_finds 237 = .ok (.lload 6, 2) := by decide +kernel
theorem dX7_finds_239 : decode cX7_finds 239 = .ok (.ldc2_w 176, 3) := by decide +kernel
theorem dX7_finds_242 : decode cX7_finds 242 = .ok (.lcmp, 1) := by decide +kernel
theorem dX7_finds_243 : decode cX7_finds 243 = .ok (.ifCond .le 7, 3) := by decide +kernel
theorem dX7_finds_246 : decode cX7_finds 246 = .ok (.iconst 1, 1) := by decide +kernel
theorem dX7_finds_247 : decode cX7_finds 247 = .ok (.goto 4, 3) := by decide +kernel
theorem dX7_finds_250 : decode cX7_finds 250 = .ok (.iconst 0, 1) := by decide +kernel
theorem dX7_finds_251 : decode cX7_finds 251 = .ok (.bastore, 1) := by decide +kernel
theorem dX7_finds_252 : decode cX7_finds 252 = .ok (.aload_n 0, 1) := by decide +kernel
theorem dX7_finds_253 : decode cX7_finds 253 = .ok (.getfield 36, 3) := by decide +kernel
theorem dX7_finds_256 : decode cX7_finds 256 = .ok (.iload_n 3, 1) := by decide +kernel
theorem dX7_finds_257 : decode cX7_finds 257 = .ok (.lload 6, 2) := by decide +kernel
theorem dX7_finds_259 : decode cX7_finds 259 = .ok (.lconst 0, 1) := by decide +kernel
theorem dX7_finds_260 : decode cX7_finds 260 = .ok (.lcmp, 1) := by decide +kernel
theorem dX7_finds_261 : decode cX7_finds 261 = .ok (.ifCond .ge 7, 3) := by decide +kernel
theorem dX7_finds_264 : decode cX7_finds 264 = .ok (.iconst 0, 1) := by decide +kernel
theorem dX7_finds_265 : decode cX7_finds 265 = .ok (.goto 20, 3) := by decide +kernel
theorem dX7_finds_268 : decode cX7_finds 268 = .ok (.lload 6, 2) := by decide +kernel
theorem dX7_finds_270 : decode cX7_finds 270 = .ok (.ldc2_w 176, 3) := by decide +kernel
theorem dX7_finds_273 : decode cX7_finds 273 = .ok (.lcmp, 1) := by decide +kernel
theorem dX7_finds_274 : decode cX7_finds 274 = .ok (.ifCond .le 8, 3) := by decide +kernel
theorem dX7_finds_277 : decode cX7_finds 277 = .ok (.bipush 9, 2) := by decide +kernel
theorem dX7_finds_279 : decode cX7_finds 279 = .ok (.goto 6, 3) := by decide +kernel
theorem dX7_finds_282 : decode cX7_finds 282 = .ok (.lload 6, 2) := by decide +kernel
theorem dX7_finds_284 : decode cX7_finds 284 = .ok (.l2i, 1) := by decide +kernel
theorem dX7_finds_285 : decode cX7_finds 285 = .ok (.iastore, 1) := by decide +kernel
theorem dX7_finds_286 : decode cX7_finds 286 = .ok (.iload_n 2, 1) := by decide +kernel
theorem dX7_finds_287 : decode cX7_finds 287 = .ok (.aload_n 0, 1) := by decide +kernel
theorem dX7_finds_288 : decode cX7_finds 288 = .ok (.getfield 36, 3) := by decide +kernel
theorem dX7_finds_291 : decode cX7_finds 291 = .ok (.iload_n 3, 1) := by decide +kernel
theorem dX7_finds_292 : decode cX7_finds 292 = .ok (.iaload, 1) := by decide +kernel
theorem dX7_finds_293 : decode cX7_finds 293 = .ok (.iadd, 1) := by decide +kernel
theorem dX7_finds_294 : decode cX7_finds 294 = .ok (.istore_n 2, 1) := by decide +kernel
theorem dX7_finds_295 : decode cX7_finds 295 = .ok (.iinc 3 1, 3) := by decide +kernel
theorem dX7_finds_298 : decode cX7_finds 298 = .ok (.goto (-173), 3) := by decide +kernel
theorem dX7_finds_301 : decode cX7_finds 301 = .ok (.return_, 1) := by decide +kernel
theorem dX7_boundOf_0 : decode cX7_boundOf 0 = .ok (.aload_n 0, 1) := by decide +kernel
theorem dX7_boundOf_1 : decode cX7_boundOf 1 = .ok (.aload_n 0, 1) := by decide +kernel
theorem dX7_boundOf_2 : decode cX7_boundOf 2 = .ok (.getfield 7, 3) := by decide +kernel
theorem dX7_boundOf_5 : decode cX7_boundOf 5 = .ok (.iload_n 1, 1) := by decide +kernel
theorem dX7_boundOf_6 : decode cX7_boundOf 6 = .ok (.iaload, 1) := by decide +kernel
theorem dX7_boundOf_7 : decode cX7_boundOf 7 = .ok (.bipush 60, 2) := by decide +kernel
theorem dX7_boundOf_9 : decode cX7_boundOf 9 = .ok (.irem, 1) := by decide +kernel
theorem dX7_boundOf_10 : decode cX7_boundOf 10 = .ok (.invokevirtual 113, 3) := by decide +kernel
theorem dX7_boundOf_13 : decode cX7_boundOf 13 = .ok (.istore_n 3, 1) := by decide +kernel
theorem dX7_boundOf_14 : decode cX7_boundOf 14 = .ok (.aload_n 0, 1) := by decide +kernel
theorem dX7_boundOf_15 : decode cX7_boundOf 15 = .ok (.getfield 7, 3) := by decide +kernel
theorem dX7_boundOf_18 : decode cX7_boundOf 18 = .ok (.iload_n 1, 1) := by decide +kernel
theorem dX7_boundOf_19 : decode cX7_boundOf 19 = .ok (.iaload, 1) := by decide +kernel
theorem dX7_boundOf_20 : decode cX7_boundOf 20 = .ok (.bipush 60, 2) := by decide +kernel
theorem dX7_boundOf_22 : decode cX7_boundOf 22 = .ok (.idiv, 1) := by decide +kernel
theorem dX7_boundOf_23 : decode cX7_boundOf 23 = .ok (.bipush 60, 2) := by decide +kernel
theorem dX7_boundOf_25 : decode cX7_boundOf 25 = .ok (.imul, 1) := by decide +kernel
theorem dX7_boundOf_26 : decode cX7_boundOf 26 = .ok (.iload_n 2, 1) := by decide +kernel
theorem dX7_boundOf_27 : decode cX7_boundOf 27 = .ok (.ifCond .eq 15, 3) := by decide +kernel
theorem dX7_boundOf_30 : decode cX7_boundOf 30 = .ok (.aload_n 0, 1) := by decide +kernel
theorem dX7_boundOf_31 : decode cX7_boundOf 31 = .ok (.iload_n 3, 1) := by decide +kernel
theorem dX7_boundOf_32 : decode cX7_boundOf 32 = .ok (.iconst 1, 1) := by decide +kernel
theorem dX7_boundOf_33 : decode cX7_boundOf 33 = .ok (.iadd, 1) := by decide +kernel
theorem dX7_boundOf_34 : decode cX7_boundOf 34 = .ok (.invokevirtual 100, 3) := by decide +kernel
theorem dX7_boundOf_37 : decode cX7_boundOf 37 = .ok (.iconst 1, 1) := by decide +kernel
theorem dX7_boundOf_38 : decode cX7_boundOf 38 = .ok (.isub, 1) := by decide +kernel
theorem dX7_boundOf_39 : decode cX7_boundOf 39 = .ok (.goto 8, 3) := by decide +kernel
theorem dX7_boundOf_42 : decode cX7_boundOf 42 = .ok (.aload_n 0, 1) := by decide +kernel
theorem dX7_boundOf_43 : decode cX7_boundOf 43 = .ok (.iload_n 3, 1) := by decide +kernel
theorem dX7_boundOf_44 : decode cX7_boundOf 44 = .ok (.invokevirtual 100, 3) := by decide +kernel
theorem dX7_boundOf_47 : decode cX7_boundOf 47 = .ok (.iadd, 1) := by decide +kernel
theorem dX7_boundOf_48 : decode cX7_boundOf 48 = .ok (.ireturn, 1) := by decide +kernel
theorem dX7_seenOf_0 : decode cX7_seenOf 0 = .ok (.aload_n 0, 1) := by decide +kernel
theorem dX7_seenOf_1 : decode cX7_seenOf 1 = .ok (.invokevirtual 178, 3) := by decide +kernel
theorem dX7_seenOf_4 : decode cX7_seenOf 4 = .ok (.iload_n 2, 1) := by decide +kernel
theorem dX7_seenOf_5 : decode cX7_seenOf 5 = .ok (.tableswitch 116 0 6 #[43, 50, 60, 74, 81, 88, 95], 43) := by decide +kernel
theorem dX7_seenOf_48 : decode cX7_seenOf 48 = .ok (.aload_n 0, 1) := by decide +kernel
theorem dX7_seenOf_49 : decode cX7_seenOf 49 = .ok (.getfield 7, 3) := by decide +kernel
theorem dX7_seenOf_52 : decode cX7_seenOf 52 = .ok (.iload_n 1, 1) := by decide +kernel
theorem dX7_seenOf_53 : decode cX7_seenOf 53 = .ok (.iaload, 1) := by decide +kernel
theorem dX7_seenOf_54 : decode cX7_seenOf 54 = .ok (.ireturn, 1) := by decide +kernel
theorem dX7_seenOf_55 : decode cX7_seenOf 55 = .ok (.aload_n 0, 1) := by decide +kernel
theorem dX7_seenOf_56 : decode cX7_seenOf 56 = .ok (.getfield 7, 3) := by decide +kernel
theorem dX7_seenOf_59 : decode cX7_seenOf 59 = .ok (.iload_n 1, 1) := by decide +kernel
theorem dX7_seenOf_60 : decode cX7_seenOf 60 = .ok (.iaload, 1) := by decide +kernel
theorem dX7_seenOf_61 : decode cX7_seenOf 61 = .ok (.bipush 60, 2) := by decide +kernel
theorem dX7_seenOf_63 : decode cX7_seenOf 63 = .ok (.idiv, 1) := by decide +kernel
theorem dX7_seenOf_64 : decode cX7_seenOf 64 = .ok (.ireturn, 1) := by decide +kernel
theorem dX7_seenOf_65 : decode cX7_seenOf 65 = .ok (.aload_n 0, 1) := by decide +kernel
theorem dX7_seenOf_66 : decode cX7_seenOf 66 = .ok (.aload_n 0, 1) := by decide +kernel
theorem dX7_seenOf_67 : decode cX7_seenOf 67 = .ok (.getfield 7, 3) := by decide +kernel
theorem dX7_seenOf_70 : decode cX7_seenOf 70 = .ok (.iload_n 1, 1) := by decide +kernel
theorem dX7_seenOf_71 : decode cX7_seenOf 71 = .ok (.iaload, 1) := by decide +kernel
theorem dX7_seenOf_72 : decode cX7_seenOf 72 = .ok (.bipush 60, 2) := by decide +kernel
theorem dX7_seenOf_74 : decode cX7_seenOf 74 = .ok (.irem, 1) := by decide +kernel
theorem dX7_seenOf_75 : decode cX7_seenOf 75 = .ok (.invokevirtual 113, 3) := by decide +kernel
theorem dX7_seenOf_78 : decode cX7_seenOf 78 = .ok (.ireturn, 1) := by decide +kernel
theorem dX7_seenOf_79 : decode cX7_seenOf 79 = .ok (.aload_n 0, 1) := by decide +kernel
theorem dX7_seenOf_80 : decode cX7_seenOf 80 = .ok (.iload_n 1, 1) := by decide +kernel
theorem dX7_seenOf_81 : decode cX7_seenOf 81 = .ok (.iconst 0, 1) := by decide +kernel
theorem dX7_seenOf_82 : decode cX7_seenOf 82 = .ok (.invokevirtual 181, 3) := by decide +kernel
theorem dX7_seenOf_85 : decode cX7_seenOf 85 = .ok (.ireturn, 1) := by decide +kernel
theorem dX7_seenOf_86 : decode cX7_seenOf 86 = .ok (.aload_n 0, 1) := by decide +kernel
theorem dX7_seenOf_87 : decode cX7_seenOf 87 = .ok (.iload_n 1, 1) := by decide +kernel
theorem dX7_seenOf_88 : decode cX7_seenOf 88 = .ok (.iconst 1, 1) := by decide +kernel
theorem dX7_seenOf_89 : decode cX7_seenOf 89 = .ok (.invokevirtual 181, 3) := by decide +kernel
theorem dX7_seenOf_92 : decode cX7_seenOf 92 = .ok (.ireturn, 1) := by decide +kernel
theorem dX7_seenOf_93 : decode cX7_seenOf 93 = .ok (.aload_n 0, 1) := by decide +kernel
theorem dX7_seenOf_94 : decode cX7_seenOf 94 = .ok (.getfield 33, 3) := by decide +kernel
theorem dX7_seenOf_97 : decode cX7_seenOf 97 = .ok (.iload_n 1, 1) := by decide +kernel
theorem dX7_seenOf_98 : decode cX7_seenOf 98 = .ok (.iaload, 1) := by decide +kernel
theorem dX7_seenOf_99 : decode cX7_seenOf 99 = .ok (.ireturn, 1) := by decide +kernel
theorem dX7_seenOf_100 : decode cX7_seenOf 100 = .ok (.iload_n 1, 1) := by decide +kernel
theorem dX7_seenOf_101 : decode cX7_seenOf 101 = .ok (.iconst 1, 1) := by decide +kernel
theorem dX7_seenOf_102 : decode cX7_seenOf 102 = .ok (.iadd, 1) := by decide +kernel
theorem dX7_seenOf_103 : decode cX7_seenOf 103 = .ok (.aload_n 0, 1) := by decide +kernel
theorem dX7_seenOf_104 : decode cX7_seenOf 104 = .ok (.getfield 81, 3) := by decide +kernel
theorem dX7_seenOf_107 : decode cX7_seenOf 107 = .ok (.if_icmp .ge 12, 3) := by decide +kernel
theorem dX7_seenOf_110 : decode cX7_seenOf 110 = .ok (.aload_n 0, 1) := by decide +kernel
theorem dX7_seenOf_111 : decode cX7_seenOf 111 = .ok (.getfield 36, 3) := by decide +kernel
theorem dX7_seenOf_114 : decode cX7_seenOf 114 = .ok (.iload_n 1, 1) := by decide +kernel
theorem dX7_seenOf_115 : decode cX7_seenOf 115 = .ok (.iaload, 1) := by decide +kernel
theorem dX7_seenOf_116 : decode cX7_seenOf 116 = .ok (.goto 4, 3) := by decide +kernel
theorem dX7_seenOf_119 : decode cX7_seenOf 119 = .ok (.iconst (-1), 1) := by decide +kernel
theorem dX7_seenOf_120 : decode cX7_seenOf 120 = .ok (.ireturn, 1) := by decide +kernel
theorem dX7_seenOf_121 : decode cX7_seenOf 121 = .ok (.aload_n 0, 1) := by decide +kernel
theorem dX7_seenOf_122 : decode cX7_seenOf 122 = .ok (.getfield 39, 3) := by decide +kernel
theorem dX7_seenOf_125 : decode cX7_seenOf 125 = .ok (.iload_n 1, 1) := by decide +kernel
theorem dX7_seenOf_126 : decode cX7_seenOf 126 = .ok (.baload, 1) := by decide +kernel
theorem dX7_seenOf_127 : decode cX7_seenOf 127 = .ok (.ifCond .eq 7, 3) := by decide +kernel
theorem dX7_seenOf_130 : decode cX7_seenOf 130 = .ok (.iconst 1, 1) := by decide +kernel
theorem dX7_seenOf_131 : decode cX7_seenOf 131 = .ok (.goto 4, 3) := by decide +kernel
theorem dX7_seenOf_134 : decode cX7_seenOf 134 = .ok (.iconst 0, 1) := by decide +kernel
theorem dX7_seenOf_135 : decode cX7_seenOf 135 = .ok (.ireturn, 1) := by decide +kernel
theorem dX7_seen_0 : decode cX7_seen 0 = .ok (.aload_n 0, 1) := by decide +kernel
theorem dX7_seen_1 : decode cX7_seen 1 = .ok (.iload_n 1, 1) := by decide +kernel
theorem dX7_seen_2 : decode cX7_seen 2 = .ok (.invokevirtual 96, 3) := by decide +kernel
theorem dX7_seen_5 : decode cX7_seen 5 = .ok (.ifCond .eq 22, 3) := by decide +kernel
theorem dX7_seen_8 : decode cX7_seen 8 = .ok (.iload_n 2, 1) := by decide +kernel
theorem dX7_seen_9 : decode cX7_seen 9 = .ok (.iconst 0, 1) := by decide +kernel
theorem dX7_seen_10 : decode cX7_seen 10 = .ok (.bipush 7, 2) := by decide +kernel
theorem dX7_seen_12 : decode cX7_seen 12 = .ok (.invokestatic 85, 3) := by decide +kernel
theorem dX7_seen_15 : decode cX7_seen 15 = .ok (.ifCond .eq 12, 3) := by decide +kernel
theorem dX7_seen_18 : decode cX7_seen 18 = .ok (.aload_n 0, 1) := by decide +kernel
theorem dX7_seen_19 : decode cX7_seen 19 = .ok (.iload_n 1, 1) := by decide +kernel
theorem dX7_seen_20 : decode cX7_seen 20 = .ok (.iload_n 2, 1) := by decide +kernel
theorem dX7_seen_21 : decode cX7_seen 21 = .ok (.invokevirtual 185, 3) := by decide +kernel
theorem dX7_seen_24 : decode cX7_seen 24 = .ok (.goto 5, 3) := by decide +kernel
theorem dX7_seen_27 : decode cX7_seen 27 = .ok (.bipush (-2), 2) := by decide +kernel
theorem dX7_seen_29 : decode cX7_seen 29 = .ok (.ireturn, 1) := by decide +kernel
theorem dX7_stampOf_0 : decode cX7_stampOf 0 = .ok (.aload_n 0, 1) := by decide +kernel
theorem dX7_stampOf_1 : decode cX7_stampOf 1 = .ok (.invokevirtual 178, 3) := by decide +kernel
theorem dX7_stampOf_4 : decode cX7_stampOf 4 = .ok (.aload_n 0, 1) := by decide +kernel
theorem dX7_stampOf_5 : decode cX7_stampOf 5 = .ok (.getfield 29, 3) := by decide +kernel
theorem dX7_stampOf_8 : decode cX7_stampOf 8 = .ok (.iload_n 1, 1) := by decide +kernel
theorem dX7_stampOf_9 : decode cX7_stampOf 9 = .ok (.laload, 1) := by decide +kernel
theorem dX7_stampOf_10 : decode cX7_stampOf 10 = .ok (.aload_n 0, 1) := by decide +kernel
theorem dX7_stampOf_11 : decode cX7_stampOf 11 = .ok (.getfield 161, 3) := by decide +kernel
theorem dX7_stampOf_14 : decode cX7_stampOf 14 = .ok (.iload_n 2, 1) := by decide +kernel
theorem dX7_stampOf_15 : decode cX7_stampOf 15 = .ok (.invokestatic 132, 3) := by decide +kernel
theorem dX7_stampOf_18 : decode cX7_stampOf 18 = .ok (.lreturn, 1) := by decide +kernel
theorem dX7_stamp_0 : decode cX7_stamp 0 = .ok (.aload_n 0, 1) := by decide +kernel
theorem dX7_stamp_1 : decode cX7_stamp 1 = .ok (.iload_n 1, 1) := by decide +kernel
theorem dX7_stamp_2 : decode cX7_stamp 2 = .ok (.invokevirtual 96, 3) := by decide +kernel
theorem dX7_stamp_5 : decode cX7_stamp 5 = .ok (.ifCond .eq 21, 3) := by decide +kernel
theorem dX7_stamp_8 : decode cX7_stamp 8 = .ok (.iload_n 2, 1) := by decide +kernel
theorem dX7_stamp_9 : decode cX7_stamp 9 = .ok (.iconst 0, 1) := by decide +kernel
theorem dX7_stamp_10 : decode cX7_stamp 10 = .ok (.iconst 1, 1) := by decide +kernel
theorem dX7_stamp_11 : decode cX7_stamp 11 = .ok (.invokestatic 85, 3) := by decide +kernel
theorem dX7_stamp_14 : decode cX7_stamp 14 = .ok (.ifCond .eq 12, 3) := by decide +kernel
theorem dX7_stamp_17 : decode cX7_stamp 17 = .ok (.aload_n 0, 1) := by decide +kernel
theorem dX7_stamp_18 : decode cX7_stamp 18 = .ok (.iload_n 1, 1) := by decide +kernel
theorem dX7_stamp_19 : decode cX7_stamp 19 = .ok (.iload_n 2, 1) := by decide +kernel
theorem dX7_stamp_20 : decode cX7_stamp 20 = .ok (.invokevirtual 188, 3) := by decide +kernel
theorem dX7_stamp_23 : decode cX7_stamp 23 = .ok (.goto 8, 3) := by decide +kernel
theorem dX7_stamp_26 : decode cX7_stamp 26 = .ok (.bipush (-2), 2) := by decide +kernel
theorem dX7_stamp_28 : decode cX7_stamp 28 = .ok (.invokestatic 126, 3) := by decide +kernel
theorem dX7_stamp_31 : decode cX7_stamp 31 = .ok (.lreturn, 1) := by decide +kernel
theorem dX7_referenceOf_0 : decode cX7_referenceOf 0 = .ok (.aload_n 0, 1) := by decide +kernel
theorem dX7_referenceOf_1 : decode cX7_referenceOf 1 = .ok (.invokevirtual 178, 3) := by decide +kernel
theorem dX7_referenceOf_4 : decode cX7_referenceOf 4 = .ok (.aload_n 0, 1) := by decide +kernel
theorem dX7_referenceOf_5 : decode cX7_referenceOf 5 = .ok (.getfield 153, 3) := by decide +kernel
theorem dX7_referenceOf_8 : decode cX7_referenceOf 8 = .ok (.ifCond .ne 19, 3) := by decide +kernel
theorem dX7_referenceOf_11 : decode cX7_referenceOf 11 = .ok (.aload_n 0, 1) := by decide +kernel
theorem dX7_referenceOf_12 : decode cX7_referenceOf 12 = .ok (.getfield 81, 3) := by decide +kernel
theorem dX7_referenceOf_15 : decode cX7_referenceOf 15 = .ok (.iconst 2, 1) := by decide +kernel
theorem dX7_referenceOf_16 : decode cX7_referenceOf 16 = .ok (.if_icmp .ge 11, 3) := by decide +kernel
theorem dX7_referenceOf_19 : decode cX7_referenceOf 19 = .ok (.bipush (-3), 2) := by decide +kernel
theorem dX7_referenceOf_21 : decode cX7_referenceOf 21 = .ok (.invokestatic 126, 3) := by decide +kernel
theorem dX7_referenceOf_24 : decode cX7_referenceOf 24 = .ok (.goto 15, 3) := by decide +kernel
theorem dX7_referenceOf_27 : decode cX7_referenceOf 27 = .ok (.aload_n 0, 1) := by decide +kernel
theorem dX7_referenceOf_28 : decode cX7_referenceOf 28 = .ok (.getfield 165, 3) := by decide +kernel
theorem dX7_referenceOf_31 : decode cX7_referenceOf 31 = .ok (.aload_n 0, 1) := by decide +kernel
theorem dX7_referenceOf_32 : decode cX7_referenceOf 32 = .ok (.getfield 161, 3) := by decide +kernel
theorem dX7_referenceOf_35 : decode cX7_referenceOf 35 = .ok (.iload_n 1, 1) := by decide +kernel
theorem dX7_referenceOf_36 : decode cX7_referenceOf 36 = .ok (.invokestatic 132, 3) := by decide +kernel
theorem dX7_referenceOf_39 : decode cX7_referenceOf 39 = .ok (.lreturn, 1) := by decide +kernel
theorem dX7_reference_0 : decode cX7_reference 0 = .ok (.iload_n 1, 1) := by decide +kernel
theorem dX7_reference_1 : decode cX7_reference 1 = .ok (.iconst 0, 1) := by decide +kernel
theorem dX7_reference_2 : decode cX7_reference 2 = .ok (.iconst 1, 1) := by decide +kernel
theorem dX7_reference_3 : decode cX7_reference 3 = .ok (.invokestatic 85, 3) := by decide +kernel
theorem dX7_reference_6 : decode cX7_reference 6 = .ok (.ifCond .eq 11, 3) := by decide +kernel
theorem dX7_reference_9 : decode cX7_reference 9 = .ok (.aload_n 0, 1) := by decide +kernel
theorem dX7_reference_10 : decode cX7_reference 10 = .ok (.iload_n 1, 1) := by decide +kernel
theorem dX7_reference_11 : decode cX7_reference 11 = .ok (.invokevirtual 191, 3) := by decide +kernel
theorem dX7_reference_14 : decode cX7_reference 14 = .ok (.goto 8, 3) := by decide +kernel
theorem dX7_reference_17 : decode cX7_reference 17 = .ok (.bipush (-2), 2) := by decide +kernel
theorem dX7_reference_19 : decode cX7_reference 19 = .ok (.invokestatic 126, 3) := by decide +kernel
theorem dX7_reference_22 : decode cX7_reference 22 = .ok (.lreturn, 1) := by decide +kernel
theorem dX7_gate_0 : decode cX7_gate 0 = .ok (.iload_n 1, 1) := by decide +kernel
theorem dX7_gate_1 : decode cX7_gate 1 = .ok (.iconst 0, 1) := by decide +kernel
theorem dX7_gate_2 : decode cX7_gate 2 = .ok (.sipush 5999, 3) := by decide +kernel
theorem dX7_gate_5 : decode cX7_gate 5 = .ok (.invokestatic 85, 3) := by decide +kernel
theorem dX7_gate_8 : decode cX7_gate 8 = .ok (.ifCond .eq 19, 3) := by decide +kernel
theorem dX7_gate_11 : decode cX7_gate 11 = .ok (.iload_n 2, 1) := by decide +kernel
theorem dX7_gate_12 : decode cX7_gate 12 = .ok (.iconst 0, 1) := by decide +kernel
theorem dX7_gate_13 : decode cX7_gate 13 = .ok (.sipush 5999, 3) := by decide +kernel
theorem dX7_gate_16 : decode cX7_gate 16 = .ok (.invokestatic 85, 3) := by decide +kernel
theorem dX7_gate_19 : decode cX7_gate 19 = .ok (.ifCond .eq 8, 3) := by decide +kernel
theorem dX7_gate_22 : decode cX7_gate 22 = .ok (.iload_n 2, 1) := by decide +kernel
theorem dX7_gate_23 : decode cX7_gate 23 = .ok (.iload_n 1, 1) := by decide +kernel
theorem dX7_gate_24 : decode cX7_gate 24 = .ok (.if_icmp .gt 6, 3) := by decide +kernel
theorem dX7_gate_27 : decode cX7_gate 27 = .ok (.bipush (-2), 2) := by decide +kernel
theorem dX7_gate_29 : decode cX7_gate 29 = .ok (.ireturn, 1) := by decide +kernel
theorem dX7_gate_30 : decode cX7_gate 30 = .ok (.aload_n 0, 1) := by decide +kernel
theorem dX7_gate_31 : decode cX7_gate 31 = .ok (.getfield 194, 3) := by decide +kernel
theorem dX7_gate_34 : decode cX7_gate 34 = .ok (.bipush 8, 2) := by decide +kernel
theorem dX7_gate_36 : decode cX7_gate 36 = .ok (.if_icmp .ne 6, 3) := by decide +kernel
theorem dX7_gate_39 : decode cX7_gate 39 = .ok (.bipush (-4), 2) := by decide +kernel
theorem dX7_gate_41 : decode cX7_gate 41 = .ok (.ireturn, 1) := by decide +kernel
theorem dX7_gate_42 : decode cX7_gate 42 = .ok (.aload_n 0, 1) := by decide +kernel
theorem dX7_gate_43 : decode cX7_gate 43 = .ok (.getfield 45, 3) := by decide +kernel
theorem dX7_gate_46 : decode cX7_gate 46 = .ok (.aload_n 0, 1) := by decide +kernel
theorem dX7_gate_47 : decode cX7_gate 47 = .ok (.getfield 194, 3) := by decide +kernel
theorem dX7_gate_50 : decode cX7_gate 50 = .ok (.iload_n 1, 1) := by decide +kernel
theorem dX7_gate_51 : decode cX7_gate 51 = .ok (.iastore, 1) := by decide +kernel
theorem dX7_gate_52 : decode cX7_gate 52 = .ok (.aload_n 0, 1) := by decide +kernel
theorem dX7_gate_53 : decode cX7_gate 53 = .ok (.getfield 48, 3) := by decide +kernel
theorem dX7_gate_56 : decode cX7_gate 56 = .ok (.aload_n 0, 1) := by decide +kernel
theorem dX7_gate_57 : decode cX7_gate 57 = .ok (.getfield 194, 3) := by decide +kernel
theorem dX7_gate_60 : decode cX7_gate 60 = .ok (.iload_n 2, 1) := by decide +kernel
theorem dX7_gate_61 : decode cX7_gate 61 = .ok (.iastore, 1) := by decide +kernel
theorem dX7_gate_62 : decode cX7_gate 62 = .ok (.aload_n 0, 1) := by decide +kernel
theorem dX7_gate_63 : decode cX7_gate 63 = .ok (.dup, 1) := by decide +kernel
theorem dX7_gate_64 : decode cX7_gate 64 = .ok (.getfield 194, 3) := by decide +kernel
theorem dX7_gate_67 : decode cX7_gate 67 = .ok (.iconst 1, 1) := by decide +kernel
theorem dX7_gate_68 : decode cX7_gate 68 = .ok (.iadd, 1) := by decide +kernel
theorem dX7_gate_69 : decode cX7_gate 69 = .ok (.putfield 194, 3) := by decide +kernel
theorem dX7_gate_72 : decode cX7_gate 72 = .ok (.aload_n 0, 1) := by decide +kernel
theorem dX7_gate_73 : decode cX7_gate 73 = .ok (.getfield 194, 3) := by decide +kernel
theorem dX7_gate_76 : decode cX7_gate 76 = .ok (.iconst 1, 1) := by decide +kernel
theorem dX7_gate_77 : decode cX7_gate 77 = .ok (.isub, 1) := by decide +kernel
theorem dX7_gate_78 : decode cX7_gate 78 = .ok (.ireturn, 1) := by decide +kernel
theorem dX7_back_0 : decode cX7_back 0 = .ok (.aload_n 0, 1) := by decide +kernel
theorem dX7_back_1 : decode cX7_back 1 = .ok (.getfield 194, 3) := by decide +kernel
theorem dX7_back_4 : decode cX7_back 4 = .ok (.ifCond .ne 6, 3) := by decide +kernel
theorem dX7_back_7 : decode cX7_back 7 = .ok (.bipush (-3), 2) := by decide +kernel
theorem dX7_back_9 : decode cX7_back 9 = .ok (.ireturn, 1) := by decide +kernel
theorem dX7_back_10 : decode cX7_back 10 = .ok (.aload_n 0, 1) := by decide +kernel
theorem dX7_back_11 : decode cX7_back 11 = .ok (.dup, 1) := by decide +kernel
theorem dX7_back_12 : decode cX7_back 12 = .ok (.getfield 194, 3) := by decide +kernel
theorem dX7_back_15 : decode cX7_back 15 = .ok (.iconst 1, 1) := by decide +kernel
theorem dX7_back_16 : decode cX7_back 16 = .ok (.isub, 1) := by decide +kernel
theorem dX7_back_17 : decode cX7_back 17 = .ok (.putfield 194, 3) := by decide +kernel
theorem dX7_back_20 : decode cX7_back 20 = .ok (.aload_n 0, 1) := by decide +kernel
theorem dX7_back_21 : decode cX7_back 21 = .ok (.getfield 194, 3) := by decide +kernel
theorem dX7_back_24 : decode cX7_back 24 = .ok (.ireturn, 1) := by decide +kernel
theorem dX7_isGate_0 : decode cX7_isGate 0 = .ok (.iload_n 1, 1) := by decide +kernel
theorem dX7_isGate_1 : decode cX7_isGate 1 = .ok (.iconst 0, 1) := by decide +kernel
theorem dX7_isGate_2 : decode cX7_isGate 2 = .ok (.aload_n 0, 1) := by decide +kernel
theorem dX7_isGate_3 : decode cX7_isGate 3 = .ok (.getfield 194, 3) := by decide +kernel
theorem dX7_isGate_6 : decode cX7_isGate 6 = .ok (.iconst 1, 1) := by decide +kernel
theorem dX7_isGate_7 : decode cX7_isGate 7 = .ok (.isub, 1) := by decide +kernel
theorem dX7_isGate_8 : decode cX7_isGate 8 = .ok (.invokestatic 85, 3) := by decide +kernel
theorem dX7_isGate_11 : decode cX7_isGate 11 = .ok (.ireturn, 1) := by decide +kernel
theorem dX7_opens_0 : decode cX7_opens 0 = .ok (.aload_n 0, 1) := by decide +kernel
theorem dX7_opens_1 : decode cX7_opens 1 = .ok (.aload_n 0, 1) := by decide +kernel
theorem dX7_opens_2 : decode cX7_opens 2 = .ok (.getfield 45, 3) := by decide +kernel
theorem dX7_opens_5 : decode cX7_opens 5 = .ok (.iload_n 1, 1) := by decide +kernel
theorem dX7_opens_6 : decode cX7_opens 6 = .ok (.iaload, 1) := by decide +kernel
theorem dX7_opens_7 : decode cX7_opens 7 = .ok (.invokevirtual 89, 3) := by decide +kernel
theorem dX7_opens_10 : decode cX7_opens 10 = .ok (.istore_n 2, 1) := by decide +kernel
theorem dX7_opens_11 : decode cX7_opens 11 = .ok (.iload_n 2, 1) := by decide +kernel
theorem dX7_opens_12 : decode cX7_opens 12 = .ok (.aload_n 0, 1) := by decide +kernel
theorem dX7_opens_13 : decode cX7_opens 13 = .ok (.getfield 81, 3) := by decide +kernel
theorem dX7_opens_16 : decode cX7_opens 16 = .ok (.if_icmp .ge 7, 3) := by decide +kernel
theorem dX7_opens_19 : decode cX7_opens 19 = .ok (.iload_n 2, 1) := by decide +kernel
theorem dX7_opens_20 : decode cX7_opens 20 = .ok (.goto 4, 3) := by decide +kernel
theorem dX7_opens_23 : decode cX7_opens 23 = .ok (.iconst (-1), 1) := by decide +kernel
theorem dX7_opens_24 : decode cX7_opens 24 = .ok (.ireturn, 1) := by decide +kernel
theorem dX7_closes_0 : decode cX7_closes 0 = .ok (.aload_n 0, 1) := by decide +kernel
theorem dX7_closes_1 : decode cX7_closes 1 = .ok (.aload_n 0, 1) := by decide +kernel
theorem dX7_closes_2 : decode cX7_closes 2 = .ok (.getfield 48, 3) := by decide +kernel
theorem dX7_closes_5 : decode cX7_closes 5 = .ok (.iload_n 1, 1) := by decide +kernel
theorem dX7_closes_6 : decode cX7_closes 6 = .ok (.iaload, 1) := by decide +kernel
theorem dX7_closes_7 : decode cX7_closes 7 = .ok (.invokevirtual 89, 3) := by decide +kernel
theorem dX7_closes_10 : decode cX7_closes 10 = .ok (.istore_n 2, 1) := by decide +kernel
theorem dX7_closes_11 : decode cX7_closes 11 = .ok (.iload_n 2, 1) := by decide +kernel
theorem dX7_closes_12 : decode cX7_closes 12 = .ok (.aload_n 0, 1) := by decide +kernel
theorem dX7_closes_13 : decode cX7_closes 13 = .ok (.getfield 81, 3) := by decide +kernel
theorem dX7_closes_16 : decode cX7_closes 16 = .ok (.if_icmp .ge 16, 3) := by decide +kernel
theorem dX7_closes_19 : decode cX7_closes 19 = .ok (.iload_n 2, 1) := by decide +kernel
theorem dX7_closes_20 : decode cX7_closes 20 = .ok (.aload_n 0, 1) := by decide +kernel
theorem dX7_closes_21 : decode cX7_closes 21 = .ok (.iload_n 1, 1) := by decide +kernel
theorem dX7_closes_22 : decode cX7_closes 22 = .ok (.invokevirtual 197, 3) := by decide +kernel
theorem dX7_closes_25 : decode cX7_closes 25 = .ok (.if_icmp .eq 7, 3) := by decide +kernel
theorem dX7_closes_28 : decode cX7_closes 28 = .ok (.iload_n 2, 1) := by decide +kernel
theorem dX7_closes_29 : decode cX7_closes 29 = .ok (.goto 4, 3) := by decide +kernel
theorem dX7_closes_32 : decode cX7_closes 32 = .ok (.iconst (-1), 1) := by decide +kernel
theorem dX7_closes_33 : decode cX7_closes 33 = .ok (.ireturn, 1) := by decide +kernel
theorem dX7_periodsOf_0 : decode cX7_periodsOf 0 = .ok (.aload_n 0, 1) := by decide +kernel
theorem dX7_periodsOf_1 : decode cX7_periodsOf 1 = .ok (.invokevirtual 178, 3) := by decide +kernel
theorem dX7_periodsOf_4 : decode cX7_periodsOf 4 = .ok (.aload_n 0, 1) := by decide +kernel
theorem dX7_periodsOf_5 : decode cX7_periodsOf 5 = .ok (.iload_n 1, 1) := by decide +kernel
theorem dX7_periodsOf_6 : decode cX7_periodsOf 6 = .ok (.invokevirtual 200, 3) := by decide +kernel
theorem dX7_periodsOf_9 : decode cX7_periodsOf 9 = .ok (.iconst (-1), 1) := by decide +kernel
theorem dX7_periodsOf_10 : decode cX7_periodsOf 10 = .ok (.if_icmp .ne 7, 3) := by decide +kernel
theorem dX7_periodsOf_13 : decode cX7_periodsOf 13 = .ok (.iconst (-1), 1) := by decide +kernel
theorem dX7_periodsOf_14 : decode cX7_periodsOf 14 = .ok (.goto 24, 3) := by decide +kernel
theorem dX7_periodsOf_17 : decode cX7_periodsOf 17 = .ok (.aload_n 0, 1) := by decide +kernel
theorem dX7_periodsOf_18 : decode cX7_periodsOf 18 = .ok (.getfield 33, 3) := by decide +kernel
theorem dX7_periodsOf_21 : decode cX7_periodsOf 21 = .ok (.aload_n 0, 1) := by decide +kernel
theorem dX7_periodsOf_22 : decode cX7_periodsOf 22 = .ok (.iload_n 1, 1) := by decide +kernel
theorem dX7_periodsOf_23 : decode cX7_periodsOf 23 = .ok (.invokevirtual 200, 3) := by decide +kernel
theorem dX7_periodsOf_26 : decode cX7_periodsOf 26 = .ok (.iaload, 1) := by decide +kernel
theorem dX7_periodsOf_27 : decode cX7_periodsOf 27 = .ok (.aload_n 0, 1) := by decide +kernel
theorem dX7_periodsOf_28 : decode cX7_periodsOf 28 = .ok (.getfield 33, 3) := by decide +kernel
theorem dX7_periodsOf_31 : decode cX7_periodsOf 31 = .ok (.aload_n 0, 1) := by decide +kernel
theorem dX7_periodsOf_32 : decode cX7_periodsOf 32 = .ok (.iload_n 1, 1) := by decide +kernel
theorem dX7_periodsOf_33 : decode cX7_periodsOf 33 = .ok (.invokevirtual 197, 3) := by decide +kernel
theorem dX7_periodsOf_36 : decode cX7_periodsOf 36 = .ok (.iaload, 1) := by decide +kernel
theorem dX7_periodsOf_37 : decode cX7_periodsOf 37 = .ok (.isub, 1) := by decide +kernel
theorem dX7_periodsOf_38 : decode cX7_periodsOf 38 = .ok (.ireturn, 1) := by decide +kernel
theorem dX7_whereOf_0 : decode cX7_whereOf 0 = .ok (.iload_n 2, 1) := by decide +kernel
theorem dX7_whereOf_1 : decode cX7_whereOf 1 = .ok (.ifCond .ne 11, 3) := by decide +kernel
theorem dX7_whereOf_4 : decode cX7_whereOf 4 = .ok (.aload_n 0, 1) := by decide +kernel
theorem dX7_whereOf_5 : decode cX7_whereOf 5 = .ok (.iload_n 1, 1) := by decide +kernel
theorem dX7_whereOf_6 : decode cX7_whereOf 6 = .ok (.invokevirtual 197, 3) := by decide +kernel
theorem dX7_whereOf_9 : decode cX7_whereOf 9 = .ok (.goto 21, 3) := by decide +kernel
theorem dX7_whereOf_12 : decode cX7_whereOf 12 = .ok (.iload_n 2, 1) := by decide +kernel
theorem dX7_whereOf_13 : decode cX7_whereOf 13 = .ok (.iconst 1, 1) := by decide +kernel
theorem dX7_whereOf_14 : decode cX7_whereOf 14 = .ok (.if_icmp .ne 11, 3) := by decide +kernel
theorem dX7_whereOf_17 : decode cX7_whereOf 17 = .ok (.aload_n 0, 1) := by decide +kernel
theorem dX7_whereOf_18 : decode cX7_whereOf 18 = .ok (.iload_n 1, 1) := by decide +kernel
theorem dX7_whereOf_19 : decode cX7_whereOf 19 = .ok (.invokevirtual 200, 3) := by decide +kernel
theorem dX7_whereOf_22 : decode cX7_whereOf 22 = .ok (.goto 8, 3) := by decide +kernel
theorem dX7_whereOf_25 : decode cX7_whereOf 25 = .ok (.aload_n 0, 1) := by decide +kernel
theorem dX7_whereOf_26 : decode cX7_whereOf 26 = .ok (.iload_n 1, 1) := by decide +kernel
theorem dX7_whereOf_27 : decode cX7_whereOf 27 = .ok (.invokevirtual 203, 3) := by decide +kernel
theorem dX7_whereOf_30 : decode cX7_whereOf 30 = .ok (.ireturn, 1) := by decide +kernel
theorem dX7_where_0 : decode cX7_where 0 = .ok (.aload_n 0, 1) := by decide +kernel
theorem dX7_where_1 : decode cX7_where 1 = .ok (.iload_n 1, 1) := by decide +kernel
theorem dX7_where_2 : decode cX7_where 2 = .ok (.invokevirtual 206, 3) := by decide +kernel
theorem dX7_where_5 : decode cX7_where 5 = .ok (.ifCond .eq 21, 3) := by decide +kernel
theorem dX7_where_8 : decode cX7_where 8 = .ok (.iload_n 2, 1) := by decide +kernel
theorem dX7_where_9 : decode cX7_where 9 = .ok (.iconst 0, 1) := by decide +kernel
theorem dX7_where_10 : decode cX7_where 10 = .ok (.iconst 2, 1) := by decide +kernel
theorem dX7_where_11 : decode cX7_where 11 = .ok (.invokestatic 85, 3) := by decide +kernel
theorem dX7_where_14 : decode cX7_where 14 = .ok (.ifCond .eq 12, 3) := by decide +kernel
theorem dX7_where_17 : decode cX7_where 17 = .ok (.aload_n 0, 1) := by decide +kernel
theorem dX7_where_18 : decode cX7_where 18 = .ok (.iload_n 1, 1) := by decide +kernel
theorem dX7_where_19 : decode cX7_where 19 = .ok (.iload_n 2, 1) := by decide +kernel
theorem dX7_where_20 : decode cX7_where 20 = .ok (.invokevirtual 209, 3) := by decide +kernel
theorem dX7_where_23 : decode cX7_where 23 = .ok (.goto 5, 3) := by decide +kernel
theorem dX7_where_26 : decode cX7_where 26 = .ok (.bipush (-2), 2) := by decide +kernel
theorem dX7_where_28 : decode cX7_where 28 = .ok (.ireturn, 1) := by decide +kernel
theorem dX7_frequencyOf_0 : decode cX7_frequencyOf 0 = .ok (.aload_n 0, 1) := by decide +kernel
theorem dX7_frequencyOf_1 : decode cX7_frequencyOf 1 = .ok (.iload_n 1, 1) := by decide +kernel
theorem dX7_frequencyOf_2 : decode cX7_frequencyOf 2 = .ok (.invokevirtual 200, 3) := by decide +kernel
theorem dX7_frequencyOf_5 : decode cX7_frequencyOf 5 = .ok (.istore 4, 2) := by decide +kernel
theorem dX7_frequencyOf_7 : decode cX7_frequencyOf 7 = .ok (.aload_n 0, 1) := by decide +kernel
theorem dX7_frequencyOf_8 : decode cX7_frequencyOf 8 = .ok (.iload_n 1, 1) := by decide +kernel
theorem dX7_frequencyOf_9 : decode cX7_frequencyOf 9 = .ok (.invokevirtual 197, 3) := by decide +kernel
theorem dX7_frequencyOf_12 : decode cX7_frequencyOf 12 = .ok (.istore 5, 2) := by decide +kernel
theorem dX7_frequencyOf_14 : decode cX7_frequencyOf 14 = .ok (.iload 4, 2) := by decide +kernel
theorem dX7_frequencyOf_16 : decode cX7_frequencyOf 16 = .ok (.iconst (-1), 1) := by decide +kernel
theorem dX7_frequencyOf_17 : decode cX7_frequencyOf 17 = .ok (.if_icmp .ne 9, 3) := by decide +kernel
theorem dX7_frequencyOf_20 : decode cX7_frequencyOf 20 = .ok (.bipush (-3), 2) := by decide +kernel
theorem dX7_frequencyOf_22 : decode cX7_frequencyOf 22 = .ok (.invokestatic 126, 3) := by decide +kernel
theorem dX7_frequencyOf_25 : decode cX7_frequencyOf 25 = .ok (.lreturn, 1) := by decide +kernel
theorem dX7_frequencyOf_26 : decode cX7_frequencyOf 26 = .ok (.aload_n 0, 1) := by decide +kernel
theorem dX7_frequencyOf_27 : decode cX7_frequencyOf 27 = .ok (.invokevirtual 178, 3) := by decide +kernel
theorem dX7_frequencyOf_30 : decode cX7_frequencyOf 30 = .ok (.aload_n 0, 1) := by decide +kernel
theorem dX7_frequencyOf_31 : decode cX7_frequencyOf 31 = .ok (.getfield 33, 3) := by decide +kernel
theorem dX7_frequencyOf_34 : decode cX7_frequencyOf 34 = .ok (.iload 4, 2) := by decide +kernel
theorem dX7_frequencyOf_36 : decode cX7_frequencyOf 36 = .ok (.iaload, 1) := by decide +kernel
theorem dX7_frequencyOf_37 : decode cX7_frequencyOf 37 = .ok (.aload_n 0, 1) := by decide +kernel
theorem dX7_frequencyOf_38 : decode cX7_frequencyOf 38 = .ok (.getfield 33, 3) := by decide +kernel
theorem dX7_frequencyOf_41 : decode cX7_frequencyOf 41 = .ok (.iload 5, 2) := by decide +kernel
theorem dX7_frequencyOf_43 : decode cX7_frequencyOf 43 = .ok (.iaload, 1) := by decide +kernel
theorem dX7_frequencyOf_44 : decode cX7_frequencyOf 44 = .ok (.isub, 1) := by decide +kernel
theorem dX7_frequencyOf_45 : decode cX7_frequencyOf 45 = .ok (.i2l, 1) := by decide +kernel
theorem dX7_frequencyOf_46 : decode cX7_frequencyOf 46 = .ok (.lstore 6, 2) := by decide +kernel
theorem dX7_frequencyOf_48 : decode cX7_frequencyOf 48 = .ok (.iload_n 2, 1) := by decide +kernel
theorem dX7_frequencyOf_49 : decode cX7_frequencyOf 49 = .ok (.ifCond .ne 21, 3) := by decide +kernel
theorem dX7_frequencyOf_52 : decode cX7_frequencyOf 52 = .ok (.aload_n 0, 1) := by decide +kernel
theorem dX7_frequencyOf_53 : decode cX7_frequencyOf 53 = .ok (.getfield 29, 3) := by decide +kernel
theorem dX7_frequencyOf_56 : decode cX7_frequencyOf 56 = .ok (.iload 4, 2) := by decide +kernel
theorem dX7_frequencyOf_58 : decode cX7_frequencyOf 58 = .ok (.laload, 1) := by decide +kernel
theorem dX7_frequencyOf_59 : decode cX7_frequencyOf 59 = .ok (.aload_n 0, 1) := by decide +kernel
theorem dX7_frequencyOf_60 : decode cX7_frequencyOf 60 = .ok (.getfield 29, 3) := by decide +kernel
theorem dX7_frequencyOf_63 : decode cX7_frequencyOf 63 = .ok (.iload 5, 2) := by decide +kernel
theorem dX7_frequencyOf_65 : decode cX7_frequencyOf 65 = .ok (.laload, 1) := by decide +kernel
theorem dX7_frequencyOf_66 : decode cX7_frequencyOf 66 = .ok (.lsub, 1) := by decide +kernel
theorem dX7_frequencyOf_67 : decode cX7_frequencyOf 67 = .ok (.goto 67, 3) := by decide +kernel
theorem dX7_frequencyOf_70 : decode cX7_frequencyOf 70 = .ok (.iload_n 2, 1) := by decide +kernel
theorem dX7_frequencyOf_71 : decode cX7_frequencyOf 71 = .ok (.iconst 1, 1) := by decide +kernel
theorem dX7_frequencyOf_72 : decode cX7_frequencyOf 72 = .ok (.if_icmp .ne 22, 3) := by decide +kernel
theorem dX7_frequencyOf_75 : decode cX7_frequencyOf 75 = .ok (.aload_n 0, 1) := by decide +kernel
theorem dX7_frequencyOf_76 : decode cX7_frequencyOf 76 = .ok (.iload 4, 2) := by decide +kernel
theorem dX7_frequencyOf_78 : decode cX7_frequencyOf 78 = .ok (.iconst 1, 1) := by decide +kernel
theorem dX7_frequencyOf_79 : decode cX7_frequencyOf 79 = .ok (.invokevirtual 181, 3) := by decide +kernel
theorem dX7_frequencyOf_82 : decode cX7_frequencyOf 82 = .ok (.aload_n 0, 1) := by decide +kernel
theorem dX7_frequencyOf_83 : decode cX7_frequencyOf 83 = .ok (.iload 5, 2) := by decide +kernel
theorem dX7_frequencyOf_85 : decode cX7_frequencyOf 85 = .ok (.iconst 0, 1) := by decide +kernel
theorem dX7_frequencyOf_86 : decode cX7_frequencyOf 86 = .ok (.invokevirtual 181, 3) := by decide +kernel
theorem dX7_frequencyOf_89 : decode cX7_frequencyOf 89 = .ok (.isub, 1) := by decide +kernel
theorem dX7_frequencyOf_90 : decode cX7_frequencyOf 90 = .ok (.i2l, 1) := by decide +kernel
theorem dX7_frequencyOf_91 : decode cX7_frequencyOf 91 = .ok (.goto 43, 3) := by decide +kernel
theorem dX7_frequencyOf_94 : decode cX7_frequencyOf 94 = .ok (.iload_n 2, 1) := by decide +kernel
theorem dX7_frequencyOf_95 : decode cX7_frequencyOf 95 = .ok (.iconst 2, 1) := by decide +kernel
theorem dX7_frequencyOf_96 : decode cX7_frequencyOf 96 = .ok (.if_icmp .ne 22, 3) := by decide +kernel
theorem dX7_frequencyOf_99 : decode cX7_frequencyOf 99 = .ok (.aload_n 0, 1) := by decide +kernel
theorem dX7_frequencyOf_100 : decode cX7_frequencyOf 100 = .ok (.iload 4, 2) := by decide +kernel
theorem dX7_frequencyOf_102 : decode cX7_frequencyOf 102 = .ok (.iconst 0, 1) := by decide +kernel
theorem dX7_frequencyOf_103 : decode cX7_frequencyOf 103 = .ok (.invokevirtual 181, 3) := by decide +kernel
theorem dX7_frequencyOf_106 : decode cX7_frequencyOf 106 = .ok (.aload_n 0, 1) := by decide +kernel
theorem dX7_frequencyOf_107 : decode cX7_frequencyOf 107 = .ok (.iload 5, 2) := by decide +kernel
theorem dX7_frequencyOf_109 : decode cX7_frequencyOf 109 = .ok (.iconst 1, 1) := by decide +kernel
theorem dX7_frequencyOf_110 : decode cX7_frequencyOf 110 = .ok (.invokevirtual 181, 3) := by decide +kernel
theorem dX7_frequencyOf_113 : decode cX7_frequencyOf 113 = .ok (.isub, 1) := by decide +kernel
theorem dX7_frequencyOf_114 : decode cX7_frequencyOf 114 = .ok (.i2l, 1) := by decide +kernel
theorem dX7_frequencyOf_115 : decode cX7_frequencyOf 115 = .ok (.goto 19, 3) := by decide +kernel
theorem dX7_frequencyOf_118 : decode cX7_frequencyOf 118 = .ok (.aload_n 0, 1) := by decide +kernel
theorem dX7_frequencyOf_119 : decode cX7_frequencyOf 119 = .ok (.getfield 7, 3) := by decide +kernel
theorem dX7_frequencyOf_122 : decode cX7_frequencyOf 122 = .ok (.iload 4, 2) := by decide +kernel
theorem dX7_frequencyOf_124 : decode cX7_frequencyOf 124 = .ok (.iaload, 1) := by decide +kernel
theorem dX7_frequencyOf_125 : decode cX7_frequencyOf 125 = .ok (.aload_n 0, 1) := by decide +kernel
theorem dX7_frequencyOf_126 : decode cX7_frequencyOf 126 = .ok (.getfield 7, 3) := by decide +kernel
theorem dX7_frequencyOf_129 : decode cX7_frequencyOf 129 = .ok (.iload 5, 2) := by decide +kernel
theorem dX7_frequencyOf_131 : decode cX7_frequencyOf 131 = .ok (.iaload, 1) := by decide +kernel
theorem dX7_frequencyOf_132 : decode cX7_frequencyOf 132 = .ok (.isub, 1) := by decide +kernel
theorem dX7_frequencyOf_133 : decode cX7_frequencyOf 133 = .ok (.i2l, 1) := by decide +kernel
theorem dX7_frequencyOf_134 : decode cX7_frequencyOf 134 = .ok (.lstore 8, 2) := by decide +kernel
theorem dX7_frequencyOf_136 : decode cX7_frequencyOf 136 = .ok (.lload 6, 2) := by decide +kernel
theorem dX7_frequencyOf_138 : decode cX7_frequencyOf 138 = .ok (.iload_n 2, 1) := by decide +kernel
theorem dX7_frequencyOf_139 : decode cX7_frequencyOf 139 = .ok (.ifCond .ne 10, 3) := by decide +kernel
theorem dX7_frequencyOf_142 : decode cX7_frequencyOf 142 = .ok (.aload_n 0, 1) := by decide +kernel
theorem dX7_frequencyOf_143 : decode cX7_frequencyOf 143 = .ok (.getfield 161, 3) := by decide +kernel
theorem dX7_frequencyOf_146 : decode cX7_frequencyOf 146 = .ok (.goto 4, 3) := by decide +kernel
theorem dX7_frequencyOf_149 : decode cX7_frequencyOf 149 = .ok (.lconst 1, 1) := by decide +kernel
theorem dX7_frequencyOf_150 : decode cX7_frequencyOf 150 = .ok (.lmul, 1) := by decide +kernel
theorem dX7_frequencyOf_151 : decode cX7_frequencyOf 151 = .ok (.lstore 6, 2) := by decide +kernel
theorem dX7_frequencyOf_153 : decode cX7_frequencyOf 153 = .ok (.lload 8, 2) := by decide +kernel
theorem dX7_frequencyOf_155 : decode cX7_frequencyOf 155 = .ok (.lconst 0, 1) := by decide +kernel
theorem dX7_frequencyOf_156 : decode cX7_frequencyOf 156 = .ok (.lcmp, 1) := by decide +kernel
theorem dX7_frequencyOf_157 : decode cX7_frequencyOf 157 = .ok (.ifCond .gt 11, 3) := by decide +kernel
theorem dX7_frequencyOf_160 : decode cX7_frequencyOf 160 = .ok (.bipush (-3), 2) := by decide +kernel
theorem dX7_frequencyOf_162 : decode cX7_frequencyOf 162 = .ok (.invokestatic 126, 3) := by decide +kernel
theorem dX7_frequencyOf_165 : decode cX7_frequencyOf 165 = .ok (.goto 11, 3) := by decide +kernel
theorem dX7_frequencyOf_168 : decode cX7_frequencyOf 168 = .ok (.lload 6, 2) := by decide +kernel
theorem dX7_frequencyOf_170 : decode cX7_frequencyOf 170 = .ok (.lload 8, 2) := by decide +kernel
theorem dX7_frequencyOf_172 : decode cX7_frequencyOf 172 = .ok (.iload_n 3, 1) := by decide +kernel
theorem dX7_frequencyOf_173 : decode cX7_frequencyOf 173 = .ok (.invokestatic 132, 3) := by decide +kernel
theorem dX7_frequencyOf_176 : decode cX7_frequencyOf 176 = .ok (.lreturn, 1) := by decide +kernel
theorem dX7_frequency_0 : decode cX7_frequency 0 = .ok (.aload_n 0, 1) := by decide +kernel
theorem dX7_frequency_1 : decode cX7_frequency 1 = .ok (.iload_n 1, 1) := by decide +kernel
theorem dX7_frequency_2 : decode cX7_frequency 2 = .ok (.invokevirtual 206, 3) := by decide +kernel
theorem dX7_frequency_5 : decode cX7_frequency 5 = .ok (.ifCond .eq 31, 3) := by decide +kernel
theorem dX7_frequency_8 : decode cX7_frequency 8 = .ok (.iload_n 2, 1) := by decide +kernel
theorem dX7_frequency_9 : decode cX7_frequency 9 = .ok (.iconst 0, 1) := by decide +kernel
theorem dX7_frequency_10 : decode cX7_frequency 10 = .ok (.iconst 3, 1) := by decide +kernel
theorem dX7_frequency_11 : decode cX7_frequency 11 = .ok (.invokestatic 85, 3) := by decide +kernel
theorem dX7_frequency_14 : decode cX7_frequency 14 = .ok (.ifCond .eq 22, 3) := by decide +kernel
theorem dX7_frequency_17 : decode cX7_frequency 17 = .ok (.iload_n 3, 1) := by decide +kernel
theorem dX7_frequency_18 : decode cX7_frequency 18 = .ok (.iconst 0, 1) := by decide +kernel
theorem dX7_frequency_19 : decode cX7_frequency 19 = .ok (.iconst 1, 1) := by decide +kernel
theorem dX7_frequency_20 : decode cX7_frequency 20 = .ok (.invokestatic 85, 3) := by decide +kernel
theorem dX7_frequency_23 : decode cX7_frequency 23 = .ok (.ifCond .eq 13, 3) := by decide +kernel
theorem dX7_frequency_26 : decode cX7_frequency 26 = .ok (.aload_n 0, 1) := by decide +kernel
theorem dX7_frequency_27 : decode cX7_frequency 27 = .ok (.iload_n 1, 1) := by decide +kernel
theorem dX7_frequency_28 : decode cX7_frequency 28 = .ok (.iload_n 2, 1) := by decide +kernel
theorem dX7_frequency_29 : decode cX7_frequency 29 = .ok (.iload_n 3, 1) := by decide +kernel
theorem dX7_frequency_30 : decode cX7_frequency 30 = .ok (.invokevirtual 212, 3) := by decide +kernel
theorem dX7_frequency_33 : decode cX7_frequency 33 = .ok (.goto 8, 3) := by decide +kernel
theorem dX7_frequency_36 : decode cX7_frequency 36 = .ok (.bipush (-2), 2) := by decide +kernel
theorem dX7_frequency_38 : decode cX7_frequency 38 = .ok (.invokestatic 126, 3) := by decide +kernel
theorem dX7_frequency_41 : decode cX7_frequency 41 = .ok (.lreturn, 1) := by decide +kernel
theorem dX7_isAhead_0 : decode cX7_isAhead 0 = .ok (.aload_n 0, 1) := by decide +kernel
theorem dX7_isAhead_1 : decode cX7_isAhead 1 = .ok (.iload_n 1, 1) := by decide +kernel
theorem dX7_isAhead_2 : decode cX7_isAhead 2 = .ok (.invokevirtual 200, 3) := by decide +kernel
theorem dX7_isAhead_5 : decode cX7_isAhead 5 = .ok (.istore_n 3, 1) := by decide +kernel
theorem dX7_isAhead_6 : decode cX7_isAhead 6 = .ok (.aload_n 0, 1) := by decide +kernel
theorem dX7_isAhead_7 : decode cX7_isAhead 7 = .ok (.iload_n 2, 1) := by decide +kernel
theorem dX7_isAhead_8 : decode cX7_isAhead 8 = .ok (.invokevirtual 200, 3) := by decide +kernel
theorem dX7_isAhead_11 : decode cX7_isAhead 11 = .ok (.istore 4, 2) := by decide +kernel
theorem dX7_isAhead_13 : decode cX7_isAhead 13 = .ok (.iload_n 3, 1) := by decide +kernel
theorem dX7_isAhead_14 : decode cX7_isAhead 14 = .ok (.iconst (-1), 1) := by decide +kernel
theorem dX7_isAhead_15 : decode cX7_isAhead 15 = .ok (.if_icmp .eq 9, 3) := by decide +kernel
theorem dX7_isAhead_18 : decode cX7_isAhead 18 = .ok (.iload 4, 2) := by decide +kernel
theorem dX7_isAhead_20 : decode cX7_isAhead 20 = .ok (.iconst (-1), 1) := by decide +kernel
theorem dX7_isAhead_21 : decode cX7_isAhead 21 = .ok (.if_icmp .ne 25, 3) := by decide +kernel
theorem dX7_isAhead_24 : decode cX7_isAhead 24 = .ok (.iload_n 3, 1) := by decide +kernel
theorem dX7_isAhead_25 : decode cX7_isAhead 25 = .ok (.iconst (-1), 1) := by decide +kernel
theorem dX7_isAhead_26 : decode cX7_isAhead 26 = .ok (.if_icmp .ne 14, 3) := by decide +kernel
theorem dX7_isAhead_29 : decode cX7_isAhead 29 = .ok (.iload 4, 2) := by decide +kernel
theorem dX7_isAhead_31 : decode cX7_isAhead 31 = .ok (.iconst (-1), 1) := by decide +kernel
theorem dX7_isAhead_32 : decode cX7_isAhead 32 = .ok (.if_icmp .ne 12, 3) := by decide +kernel
theorem dX7_isAhead_35 : decode cX7_isAhead 35 = .ok (.iload_n 1, 1) := by decide +kernel
theorem dX7_isAhead_36 : decode cX7_isAhead 36 = .ok (.iload_n 2, 1) := by decide +kernel
theorem dX7_isAhead_37 : decode cX7_isAhead 37 = .ok (.if_icmp .ge 7, 3) := by decide +kernel
theorem dX7_isAhead_40 : decode cX7_isAhead 40 = .ok (.iconst 1, 1) := by decide +kernel
theorem dX7_isAhead_41 : decode cX7_isAhead 41 = .ok (.goto 4, 3) := by decide +kernel
theorem dX7_isAhead_44 : decode cX7_isAhead 44 = .ok (.iconst 0, 1) := by decide +kernel
theorem dX7_isAhead_45 : decode cX7_isAhead 45 = .ok (.ireturn, 1) := by decide +kernel
theorem dX7_isAhead_46 : decode cX7_isAhead 46 = .ok (.iload_n 3, 1) := by decide +kernel
theorem dX7_isAhead_47 : decode cX7_isAhead 47 = .ok (.iload 4, 2) := by decide +kernel
theorem dX7_isAhead_49 : decode cX7_isAhead 49 = .ok (.if_icmp .lt 40, 3) := by decide +kernel
theorem dX7_isAhead_52 : decode cX7_isAhead 52 = .ok (.iload_n 3, 1) := by decide +kernel
theorem dX7_isAhead_53 : decode cX7_isAhead 53 = .ok (.iload 4, 2) := by decide +kernel
theorem dX7_isAhead_55 : decode cX7_isAhead 55 = .ok (.if_icmp .ne 38, 3) := by decide +kernel
theorem dX7_isAhead_58 : decode cX7_isAhead 58 = .ok (.aload_n 0, 1) := by decide +kernel
theorem dX7_isAhead_59 : decode cX7_isAhead 59 = .ok (.iload_n 1, 1) := by decide +kernel
theorem dX7_isAhead_60 : decode cX7_isAhead 60 = .ok (.invokevirtual 197, 3) := by decide +kernel
theorem dX7_isAhead_63 : decode cX7_isAhead 63 = .ok (.aload_n 0, 1) := by decide +kernel
theorem dX7_isAhead_64 : decode cX7_isAhead 64 = .ok (.iload_n 2, 1) := by decide +kernel
theorem dX7_isAhead_65 : decode cX7_isAhead 65 = .ok (.invokevirtual 197, 3) := by decide +kernel
theorem dX7_isAhead_68 : decode cX7_isAhead 68 = .ok (.if_icmp .lt 21, 3) := by decide +kernel
theorem dX7_isAhead_71 : decode cX7_isAhead 71 = .ok (.aload_n 0, 1) := by decide +kernel
theorem dX7_isAhead_72 : decode cX7_isAhead 72 = .ok (.iload_n 1, 1) := by decide +kernel
theorem dX7_isAhead_73 : decode cX7_isAhead 73 = .ok (.invokevirtual 197, 3) := by decide +kernel
theorem dX7_isAhead_76 : decode cX7_isAhead 76 = .ok (.aload_n 0, 1) := by decide +kernel
theorem dX7_isAhead_77 : decode cX7_isAhead 77 = .ok (.iload_n 2, 1) := by decide +kernel
theorem dX7_isAhead_78 : decode cX7_isAhead 78 = .ok (.invokevirtual 197, 3) := by decide +kernel
theorem dX7_isAhead_81 : decode cX7_isAhead 81 = .ok (.if_icmp .ne 12, 3) := by decide +kernel
theorem dX7_isAhead_84 : decode cX7_isAhead 84 = .ok (.iload_n 1, 1) := by decide +kernel
theorem dX7_isAhead_85 : decode cX7_isAhead 85 = .ok (.iload_n 2, 1) := by decide +kernel
theorem dX7_isAhead_86 : decode cX7_isAhead 86 = .ok (.if_icmp .ge 7, 3) := by decide +kernel
theorem dX7_isAhead_89 : decode cX7_isAhead 89 = .ok (.iconst 1, 1) := by decide +kernel
theorem dX7_isAhead_90 : decode cX7_isAhead 90 = .ok (.goto 4, 3) := by decide +kernel
theorem dX7_isAhead_93 : decode cX7_isAhead 93 = .ok (.iconst 0, 1) := by decide +kernel
theorem dX7_isAhead_94 : decode cX7_isAhead 94 = .ok (.ireturn, 1) := by decide +kernel
theorem dX7_closingOf_0 : decode cX7_closingOf 0 = .ok (.iconst (-1), 1) := by decide +kernel
theorem dX7_closingOf_1 : decode cX7_closingOf 1 = .ok (.istore_n 2, 1) := by decide +kernel
theorem dX7_closingOf_2 : decode cX7_closingOf 2 = .ok (.iconst 0, 1) := by decide +kernel
theorem dX7_closingOf_3 : decode cX7_closingOf 3 = .ok (.istore_n 3, 1) := by decide +kernel
theorem dX7_closingOf_4 : decode cX7_closingOf 4 = .ok (.iload_n 3, 1) := by decide +kernel
theorem dX7_closingOf_5 : decode cX7_closingOf 5 = .ok (.aload_n 0, 1) := by decide +kernel
theorem dX7_closingOf_6 : decode cX7_closingOf 6 = .ok (.getfield 194, 3) := by decide +kernel
theorem dX7_closingOf_9 : decode cX7_closingOf 9 = .ok (.if_icmp .ge 68, 3) := by decide +kernel
theorem dX7_closingOf_12 : decode cX7_closingOf 12 = .ok (.iconst 0, 1) := by decide +kernel
theorem dX7_closingOf_13 : decode cX7_closingOf 13 = .ok (.istore 4, 2) := by decide +kernel
theorem dX7_closingOf_15 : decode cX7_closingOf 15 = .ok (.iconst 0, 1) := by decide +kernel
theorem dX7_closingOf_16 : decode cX7_closingOf 16 = .ok (.istore 5, 2) := by decide +kernel
theorem dX7_closingOf_18 : decode cX7_closingOf 18 = .ok (.iload 5, 2) := by decide +kernel
theorem dX7_closingOf_20 : decode cX7_closingOf 20 = .ok (.aload_n 0, 1) := by decide +kernel
theorem dX7_closingOf_21 : decode cX7_closingOf 21 = .ok (.getfield 194, 3) := by decide +kernel
theorem dX7_closingOf_24 : decode cX7_closingOf 24 = .ok (.if_icmp .ge 35, 3) := by decide +kernel
theorem dX7_closingOf_27 : decode cX7_closingOf 27 = .ok (.iload 4, 2) := by decide +kernel
theorem dX7_closingOf_29 : decode cX7_closingOf 29 = .ok (.iload 5, 2) := by decide +kernel
theorem dX7_closingOf_31 : decode cX7_closingOf 31 = .ok (.iload_n 3, 1) := by decide +kernel
theorem dX7_closingOf_32 : decode cX7_closingOf 32 = .ok (.if_icmp .eq 17, 3) := by decide +kernel
theorem dX7_closingOf_35 : decode cX7_closingOf 35 = .ok (.aload_n 0, 1) := by decide +kernel
theorem dX7_closingOf_36 : decode cX7_closingOf 36 = .ok (.iload 5, 2) := by decide +kernel
theorem dX7_closingOf_38 : decode cX7_closingOf 38 = .ok (.iload_n 3, 1) := by decide +kernel
theorem dX7_closingOf_39 : decode cX7_closingOf 39 = .ok (.invokevirtual 216, 3) := by decide +kernel
theorem dX7_closingOf_42 : decode cX7_closingOf 42 = .ok (.ifCond .eq 7, 3) := by decide +kernel
theorem dX7_closingOf_45 : decode cX7_closingOf 45 = .ok (.iconst 1, 1) := by decide +kernel
theorem dX7_closingOf_46 : decode cX7_closingOf 46 = .ok (.goto 4, 3) := by decide +kernel
theorem dX7_closingOf_49 : decode cX7_closingOf 49 = .ok (.iconst 0, 1) := by decide +kernel
theorem dX7_closingOf_50 : decode cX7_closingOf 50 = .ok (.iadd, 1) := by decide +kernel
theorem dX7_closingOf_51 : decode cX7_closingOf 51 = .ok (.istore 4, 2) := by decide +kernel
theorem dX7_closingOf_53 : decode cX7_closingOf 53 = .ok (.iinc 5 1, 3) := by decide +kernel
theorem dX7_closingOf_56 : decode cX7_closingOf 56 = .ok (.goto (-38), 3) := by decide +kernel
theorem dX7_closingOf_59 : decode cX7_closingOf 59 = .ok (.iload 4, 2) := by decide +kernel
theorem dX7_closingOf_61 : decode cX7_closingOf 61 = .ok (.iload_n 1, 1) := by decide +kernel
theorem dX7_closingOf_62 : decode cX7_closingOf 62 = .ok (.if_icmp .ne 7, 3) := by decide +kernel
theorem dX7_closingOf_65 : decode cX7_closingOf 65 = .ok (.iload_n 3, 1) := by decide +kernel
theorem dX7_closingOf_66 : decode cX7_closingOf 66 = .ok (.goto 4, 3) := by decide +kernel
theorem dX7_closingOf_69 : decode cX7_closingOf 69 = .ok (.iload_n 2, 1) := by decide +kernel
theorem dX7_closingOf_70 : decode cX7_closingOf 70 = .ok (.istore_n 2, 1) := by decide +kernel
theorem dX7_closingOf_71 : decode cX7_closingOf 71 = .ok (.iinc 3 1, 3) := by decide +kernel
theorem dX7_closingOf_74 : decode cX7_closingOf 74 = .ok (.goto (-70), 3) := by decide +kernel
theorem dX7_closingOf_77 : decode cX7_closingOf 77 = .ok (.iload_n 2, 1) := by decide +kernel
theorem dX7_closingOf_78 : decode cX7_closingOf 78 = .ok (.ireturn, 1) := by decide +kernel
theorem dX7_closing_0 : decode cX7_closing 0 = .ok (.aload_n 0, 1) := by decide +kernel
theorem dX7_closing_1 : decode cX7_closing 1 = .ok (.iload_n 1, 1) := by decide +kernel
theorem dX7_closing_2 : decode cX7_closing 2 = .ok (.invokevirtual 206, 3) := by decide +kernel
theorem dX7_closing_5 : decode cX7_closing 5 = .ok (.ifCond .eq 11, 3) := by decide +kernel
theorem dX7_closing_8 : decode cX7_closing 8 = .ok (.aload_n 0, 1) := by decide +kernel
theorem dX7_closing_9 : decode cX7_closing 9 = .ok (.iload_n 1, 1) := by decide +kernel
theorem dX7_closing_10 : decode cX7_closing 10 = .ok (.invokevirtual 220, 3) := by decide +kernel
theorem dX7_closing_13 : decode cX7_closing 13 = .ok (.goto 5, 3) := by decide +kernel
theorem dX7_closing_16 : decode cX7_closing 16 = .ok (.bipush (-2), 2) := by decide +kernel
theorem dX7_closing_18 : decode cX7_closing 18 = .ok (.ireturn, 1) := by decide +kernel
theorem dX7_nextBy_0 : decode cX7_nextBy 0 = .ok (.iconst (-1), 1) := by decide +kernel
theorem dX7_nextBy_1 : decode cX7_nextBy 1 = .ok (.istore_n 3, 1) := by decide +kernel
theorem dX7_nextBy_2 : decode cX7_nextBy 2 = .ok (.aload_n 0, 1) := by decide +kernel
theorem dX7_nextBy_3 : decode cX7_nextBy 3 = .ok (.getfield 81, 3) := by decide +kernel
theorem dX7_nextBy_6 : decode cX7_nextBy 6 = .ok (.iconst 1, 1) := by decide +kernel
theorem dX7_nextBy_7 : decode cX7_nextBy 7 = .ok (.isub, 1) := by decide +kernel
theorem dX7_nextBy_8 : decode cX7_nextBy 8 = .ok (.istore 4, 2) := by decide +kernel
theorem dX7_nextBy_10 : decode cX7_nextBy 10 = .ok (.iload 4, 2) := by decide +kernel
theorem dX7_nextBy_12 : decode cX7_nextBy 12 = .ok (.iload_n 1, 1) := by decide +kernel
theorem dX7_nextBy_13 : decode cX7_nextBy 13 = .ok (.if_icmp .le 40, 3) := by decide +kernel
theorem dX7_nextBy_16 : decode cX7_nextBy 16 = .ok (.aload_n 0, 1) := by decide +kernel
theorem dX7_nextBy_17 : decode cX7_nextBy 17 = .ok (.getfield 7, 3) := by decide +kernel
theorem dX7_nextBy_20 : decode cX7_nextBy 20 = .ok (.iload 4, 2) := by decide +kernel
theorem dX7_nextBy_22 : decode cX7_nextBy 22 = .ok (.iaload, 1) := by decide +kernel
theorem dX7_nextBy_23 : decode cX7_nextBy 23 = .ok (.bipush 60, 2) := by decide +kernel
theorem dX7_nextBy_25 : decode cX7_nextBy 25 = .ok (.idiv, 1) := by decide +kernel
theorem dX7_nextBy_26 : decode cX7_nextBy 26 = .ok (.aload_n 0, 1) := by decide +kernel
theorem dX7_nextBy_27 : decode cX7_nextBy 27 = .ok (.getfield 7, 3) := by decide +kernel
theorem dX7_nextBy_30 : decode cX7_nextBy 30 = .ok (.iload_n 1, 1) := by decide +kernel
theorem dX7_nextBy_31 : decode cX7_nextBy 31 = .ok (.iaload, 1) := by decide +kernel
theorem dX7_nextBy_32 : decode cX7_nextBy 32 = .ok (.bipush 60, 2) := by decide +kernel
theorem dX7_nextBy_34 : decode cX7_nextBy 34 = .ok (.idiv, 1) := by decide +kernel
theorem dX7_nextBy_35 : decode cX7_nextBy 35 = .ok (.isub, 1) := by decide +kernel
theorem dX7_nextBy_36 : decode cX7_nextBy 36 = .ok (.iload_n 2, 1) := by decide +kernel
theorem dX7_nextBy_37 : decode cX7_nextBy 37 = .ok (.if_icmp .lt 8, 3) := by decide +kernel
theorem dX7_nextBy_40 : decode cX7_nextBy 40 = .ok (.iload 4, 2) := by decide +kernel
theorem dX7_nextBy_42 : decode cX7_nextBy 42 = .ok (.goto 4, 3) := by decide +kernel
theorem dX7_nextBy_45 : decode cX7_nextBy 45 = .ok (.iload_n 3, 1) := by decide +kernel
theorem dX7_nextBy_46 : decode cX7_nextBy 46 = .ok (.istore_n 3, 1) := by decide +kernel
theorem dX7_nextBy_47 : decode cX7_nextBy 47 = .ok (.iinc 4 (-1), 3) := by decide +kernel
theorem dX7_nextBy_50 : decode cX7_nextBy 50 = .ok (.goto (-40), 3) := by decide +kernel
theorem dX7_nextBy_53 : decode cX7_nextBy 53 = .ok (.iload_n 3, 1) := by decide +kernel
theorem dX7_nextBy_54 : decode cX7_nextBy 54 = .ok (.ireturn, 1) := by decide +kernel
theorem dX7_chainOf_0 : decode cX7_chainOf 0 = .ok (.aload_n 0, 1) := by decide +kernel
theorem dX7_chainOf_1 : decode cX7_chainOf 1 = .ok (.invokevirtual 178, 3) := by decide +kernel
theorem dX7_chainOf_4 : decode cX7_chainOf 4 = .ok (.iconst 0, 1) := by decide +kernel
theorem dX7_chainOf_5 : decode cX7_chainOf 5 = .ok (.istore 4, 2) := by decide +kernel
theorem dX7_chainOf_7 : decode cX7_chainOf 7 = .ok (.aload_n 0, 1) := by decide +kernel
theorem dX7_chainOf_8 : decode cX7_chainOf 8 = .ok (.getfield 81, 3) := by decide +kernel
theorem dX7_chainOf_11 : decode cX7_chainOf 11 = .ok (.ifCond .ne 7, 3) := by decide +kernel
theorem dX7_chainOf_14 : decode cX7_chainOf 14 = .ok (.iconst (-1), 1) := by decide +kernel
theorem dX7_chainOf_15 : decode cX7_chainOf 15 = .ok (.goto 9, 3) := by decide +kernel
theorem dX7_chainOf_18 : decode cX7_chainOf 18 = .ok (.aload_n 0, 1) := by decide +kernel
theorem dX7_chainOf_19 : decode cX7_chainOf 19 = .ok (.iconst 0, 1) := by decide +kernel
theorem dX7_chainOf_20 : decode cX7_chainOf 20 = .ok (.iload_n 1, 1) := by decide +kernel
theorem dX7_chainOf_21 : decode cX7_chainOf 21 = .ok (.invokevirtual 223, 3) := by decide +kernel
theorem dX7_chainOf_24 : decode cX7_chainOf 24 = .ok (.istore 5, 2) := by decide +kernel
theorem dX7_chainOf_26 : decode cX7_chainOf 26 = .ok (.iconst 0, 1) := by decide +kernel
theorem dX7_chainOf_27 : decode cX7_chainOf 27 = .ok (.istore 6, 2) := by decide +kernel
theorem dX7_chainOf_29 : decode cX7_chainOf 29 = .ok (.iconst 0, 1) := by decide +kernel
theorem dX7_chainOf_30 : decode cX7_chainOf 30 = .ok (.istore 7, 2) := by decide +kernel
theorem dX7_chainOf_32 : decode cX7_chainOf 32 = .ok (.bipush (-2), 2) := by decide +kernel
theorem dX7_chainOf_34 : decode cX7_chainOf 34 = .ok (.istore 8, 2) := by decide +kernel
theorem dX7_chainOf_36 : decode cX7_chainOf 36 = .ok (.iload 5, 2) := by decide +kernel
theorem dX7_chainOf_38 : decode cX7_chainOf 38 = .ok (.iconst (-1), 1) := by decide +kernel
theorem dX7_chainOf_39 : decode cX7_chainOf 39 = .ok (.if_icmp .eq 89, 3) := by decide +kernel
theorem dX7_chainOf_42 : decode cX7_chainOf 42 = .ok (.iload 7, 2) := by decide +kernel
theorem dX7_chainOf_44 : decode cX7_chainOf 44 = .ok (.aload_n 0, 1) := by decide +kernel
theorem dX7_chainOf_45 : decode cX7_chainOf 45 = .ok (.getfield 33, 3) := by decide +kernel
theorem dX7_chainOf_48 : decode cX7_chainOf 48 = .ok (.iload 5, 2) := by decide +kernel
theorem dX7_chainOf_50 : decode cX7_chainOf 50 = .ok (.iaload, 1) := by decide +kernel
theorem dX7_chainOf_51 : decode cX7_chainOf 51 = .ok (.aload_n 0, 1) := by decide +kernel
theorem dX7_chainOf_52 : decode cX7_chainOf 52 = .ok (.getfield 33, 3) := by decide +kernel
theorem dX7_chainOf_55 : decode cX7_chainOf 55 = .ok (.iload 4, 2) := by decide +kernel
theorem dX7_chainOf_57 : decode cX7_chainOf 57 = .ok (.iaload, 1) := by decide +kernel
theorem dX7_chainOf_58 : decode cX7_chainOf 58 = .ok (.isub, 1) := by decide +kernel
theorem dX7_chainOf_59 : decode cX7_chainOf 59 = .ok (.iadd, 1) := by decide +kernel
theorem dX7_chainOf_60 : decode cX7_chainOf 60 = .ok (.istore 7, 2) := by decide +kernel
theorem dX7_chainOf_62 : decode cX7_chainOf 62 = .ok (.iload 6, 2) := by decide +kernel
theorem dX7_chainOf_64 : decode cX7_chainOf 64 = .ok (.iload_n 2, 1) := by decide +kernel
theorem dX7_chainOf_65 : decode cX7_chainOf 65 = .ok (.if_icmp .ne 40, 3) := by decide +kernel
theorem dX7_chainOf_68 : decode cX7_chainOf 68 = .ok (.iload_n 3, 1) := by decide +kernel
theorem dX7_chainOf_69 : decode cX7_chainOf 69 = .ok (.ifCond .ne 8, 3) := by decide +kernel
theorem dX7_chainOf_72 : decode cX7_chainOf 72 = .ok (.iload 4, 2) := by decide +kernel
theorem dX7_chainOf_74 : decode cX7_chainOf 74 = .ok (.goto 33, 3) := by decide +kernel
theorem dX7_chainOf_77 : decode cX7_chainOf 77 = .ok (.iload_n 3, 1) := by decide +kernel
theorem dX7_chainOf_78 : decode cX7_chainOf 78 = .ok (.iconst 1, 1) := by decide +kernel
theorem dX7_chainOf_79 : decode cX7_chainOf 79 = .ok (.if_icmp .ne 8, 3) := by decide +kernel
theorem dX7_chainOf_82 : decode cX7_chainOf 82 = .ok (.iload 5, 2) := by decide +kernel
theorem dX7_chainOf_84 : decode cX7_chainOf 84 = .ok (.goto 23, 3) := by decide +kernel
theorem dX7_chainOf_87 : decode cX7_chainOf 87 = .ok (.aload_n 0, 1) := by decide +kernel
theorem dX7_chainOf_88 : decode cX7_chainOf 88 = .ok (.getfield 33, 3) := by decide +kernel
theorem dX7_chainOf_91 : decode cX7_chainOf 91 = .ok (.iload 5, 2) := by decide +kernel
theorem dX7_chainOf_93 : decode cX7_chainOf 93 = .ok (.iaload, 1) := by decide +kernel
theorem dX7_chainOf_94 : decode cX7_chainOf 94 = .ok (.aload_n 0, 1) := by decide +kernel
theorem dX7_chainOf_95 : decode cX7_chainOf 95 = .ok (.getfield 33, 3) := by decide +kernel
theorem dX7_chainOf_98 : decode cX7_chainOf 98 = .ok (.iload 4, 2) := by decide +kernel
theorem dX7_chainOf_100 : decode cX7_chainOf 100 = .ok (.iaload, 1) := by decide +kernel
theorem dX7_chainOf_101 : decode cX7_chainOf 101 = .ok (.isub, 1) := by decide +kernel
theorem dX7_chainOf_102 : decode cX7_chainOf 102 = .ok (.goto 5, 3) := by decide +kernel
theorem dX7_chainOf_105 : decode cX7_chainOf 105 = .ok (.iload 8, 2) := by decide +kernel
theorem dX7_chainOf_107 : decode cX7_chainOf 107 = .ok (.istore 8, 2) := by decide +kernel
theorem dX7_chainOf_109 : decode cX7_chainOf 109 = .ok (.iinc 6 1, 3) := by decide +kernel
theorem dX7_chainOf_112 : decode cX7_chainOf 112 = .ok (.iload 5, 2) := by decide +kernel
theorem dX7_chainOf_114 : decode cX7_chainOf 114 = .ok (.istore 4, 2) := by decide +kernel
theorem dX7_chainOf_116 : decode cX7_chainOf 116 = .ok (.aload_n 0, 1) := by decide +kernel
theorem dX7_chainOf_117 : decode cX7_chainOf 117 = .ok (.iload 4, 2) := by decide +kernel
theorem dX7_chainOf_119 : decode cX7_chainOf 119 = .ok (.iload_n 1, 1) := by decide +kernel
theorem dX7_chainOf_120 : decode cX7_chainOf 120 = .ok (.invokevirtual 223, 3) := by decide +kernel
theorem dX7_chainOf_123 : decode cX7_chainOf 123 = .ok (.istore 5, 2) := by decide +kernel
theorem dX7_chainOf_125 : decode cX7_chainOf 125 = .ok (.goto (-89), 3) := by decide +kernel
theorem dX7_chainOf_128 : decode cX7_chainOf 128 = .ok (.iload_n 3, 1) := by decide +kernel
theorem dX7_chainOf_129 : decode cX7_chainOf 129 = .ok (.iconst 3, 1) := by decide +kernel
theorem dX7_chainOf_130 : decode cX7_chainOf 130 = .ok (.if_icmp .ne 8, 3) := by decide +kernel
theorem dX7_chainOf_133 : decode cX7_chainOf 133 = .ok (.iload 6, 2) := by decide +kernel
theorem dX7_chainOf_135 : decode cX7_chainOf 135 = .ok (.goto 15, 3) := by decide +kernel
theorem dX7_chainOf_138 : decode cX7_chainOf 138 = .ok (.iload_n 3, 1) := by decide +kernel
theorem dX7_chainOf_139 : decode cX7_chainOf 139 = .ok (.iconst 4, 1) := by decide +kernel
theorem dX7_chainOf_140 : decode cX7_chainOf 140 = .ok (.if_icmp .ne 8, 3) := by decide +kernel
theorem dX7_chainOf_143 : decode cX7_chainOf 143 = .ok (.iload 7, 2) := by decide +kernel
theorem dX7_chainOf_145 : decode cX7_chainOf 145 = .ok (.goto 5, 3) := by decide +kernel
theorem dX7_chainOf_148 : decode cX7_chainOf 148 = .ok (.iload 8, 2) := by decide +kernel
theorem dX7_chainOf_150 : decode cX7_chainOf 150 = .ok (.ireturn, 1) := by decide +kernel
theorem dX7_chain_0 : decode cX7_chain 0 = .ok (.iload_n 1, 1) := by decide +kernel
theorem dX7_chain_1 : decode cX7_chain 1 = .ok (.iconst 1, 1) := by decide +kernel
theorem dX7_chain_2 : decode cX7_chain 2 = .ok (.bipush 99, 2) := by decide +kernel
theorem dX7_chain_4 : decode cX7_chain 4 = .ok (.invokestatic 85, 3) := by decide +kernel
theorem dX7_chain_7 : decode cX7_chain 7 = .ok (.ifCond .eq 22, 3) := by decide +kernel
theorem dX7_chain_10 : decode cX7_chain 10 = .ok (.iload_n 3, 1) := by decide +kernel
theorem dX7_chain_11 : decode cX7_chain 11 = .ok (.iconst 0, 1) := by decide +kernel
theorem dX7_chain_12 : decode cX7_chain 12 = .ok (.iconst 4, 1) := by decide +kernel
theorem dX7_chain_13 : decode cX7_chain 13 = .ok (.invokestatic 85, 3) := by decide +kernel
theorem dX7_chain_16 : decode cX7_chain 16 = .ok (.ifCond .eq 13, 3) := by decide +kernel
theorem dX7_chain_19 : decode cX7_chain 19 = .ok (.aload_n 0, 1) := by decide +kernel
