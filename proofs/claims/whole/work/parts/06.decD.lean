theorem dX7_chain_20 : decode cX7_chain 20 = .ok (.iload_n 1, 1) := by decide +kernel
theorem dX7_chain_21 : decode cX7_chain 21 = .ok (.iload_n 2, 1) := by decide +kernel
theorem dX7_chain_22 : decode cX7_chain 22 = .ok (.iload_n 3, 1) := by decide +kernel
theorem dX7_chain_23 : decode cX7_chain 23 = .ok (.invokevirtual 226, 3) := by decide +kernel
theorem dX7_chain_26 : decode cX7_chain 26 = .ok (.goto 5, 3) := by decide +kernel
theorem dX7_chain_29 : decode cX7_chain 29 = .ok (.bipush (-2), 2) := by decide +kernel
theorem dX7_chain_31 : decode cX7_chain 31 = .ok (.ireturn, 1) := by decide +kernel
theorem dX7_sums_0 : decode cX7_sums 0 = .ok (.aload_n 0, 1) := by decide +kernel
theorem dX7_sums_1 : decode cX7_sums 1 = .ok (.invokevirtual 178, 3) := by decide +kernel
theorem dX7_sums_4 : decode cX7_sums 4 = .ok (.aload_n 0, 1) := by decide +kernel
theorem dX7_sums_5 : decode cX7_sums 5 = .ok (.lconst 0, 1) := by decide +kernel
theorem dX7_sums_6 : decode cX7_sums 6 = .ok (.putfield 230, 3) := by decide +kernel
theorem dX7_sums_9 : decode cX7_sums 9 = .ok (.aload_n 0, 1) := by decide +kernel
theorem dX7_sums_10 : decode cX7_sums 10 = .ok (.lconst 0, 1) := by decide +kernel
theorem dX7_sums_11 : decode cX7_sums 11 = .ok (.putfield 233, 3) := by decide +kernel
theorem dX7_sums_14 : decode cX7_sums 14 = .ok (.aload_n 0, 1) := by decide +kernel
theorem dX7_sums_15 : decode cX7_sums 15 = .ok (.lconst 0, 1) := by decide +kernel
theorem dX7_sums_16 : decode cX7_sums 16 = .ok (.putfield 236, 3) := by decide +kernel
theorem dX7_sums_19 : decode cX7_sums 19 = .ok (.aload_n 0, 1) := by decide +kernel
theorem dX7_sums_20 : decode cX7_sums 20 = .ok (.lconst 0, 1) := by decide +kernel
theorem dX7_sums_21 : decode cX7_sums 21 = .ok (.putfield 239, 3) := by decide +kernel
theorem dX7_sums_24 : decode cX7_sums 24 = .ok (.iload_n 1, 1) := by decide +kernel
theorem dX7_sums_25 : decode cX7_sums 25 = .ok (.istore_n 3, 1) := by decide +kernel
theorem dX7_sums_26 : decode cX7_sums 26 = .ok (.iload_n 3, 1) := by decide +kernel
theorem dX7_sums_27 : decode cX7_sums 27 = .ok (.iload_n 2, 1) := by decide +kernel
theorem dX7_sums_28 : decode cX7_sums 28 = .ok (.if_icmp .gt 87, 3) := by decide +kernel
theorem dX7_sums_31 : decode cX7_sums 31 = .ok (.aload_n 0, 1) := by decide +kernel
theorem dX7_sums_32 : decode cX7_sums 32 = .ok (.dup, 1) := by decide +kernel
theorem dX7_sums_33 : decode cX7_sums 33 = .ok (.getfield 230, 3) := by decide +kernel
theorem dX7_sums_36 : decode cX7_sums 36 = .ok (.aload_n 0, 1) := by decide +kernel
theorem dX7_sums_37 : decode cX7_sums 37 = .ok (.getfield 33, 3) := by decide +kernel
theorem dX7_sums_40 : decode cX7_sums 40 = .ok (.iload_n 3, 1) := by decide +kernel
theorem dX7_sums_41 : decode cX7_sums 41 = .ok (.iaload, 1) := by decide +kernel
theorem dX7_sums_42 : decode cX7_sums 42 = .ok (.i2l, 1) := by decide +kernel
theorem dX7_sums_43 : decode cX7_sums 43 = .ok (.ladd, 1) := by decide +kernel
theorem dX7_sums_44 : decode cX7_sums 44 = .ok (.putfield 230, 3) := by decide +kernel
theorem dX7_sums_47 : decode cX7_sums 47 = .ok (.aload_n 0, 1) := by decide +kernel
theorem dX7_sums_48 : decode cX7_sums 48 = .ok (.dup, 1) := by decide +kernel
theorem dX7_sums_49 : decode cX7_sums 49 = .ok (.getfield 233, 3) := by decide +kernel
theorem dX7_sums_52 : decode cX7_sums 52 = .ok (.aload_n 0, 1) := by decide +kernel
theorem dX7_sums_53 : decode cX7_sums 53 = .ok (.getfield 29, 3) := by decide +kernel
theorem dX7_sums_56 : decode cX7_sums 56 = .ok (.iload_n 3, 1) := by decide +kernel
theorem dX7_sums_57 : decode cX7_sums 57 = .ok (.laload, 1) := by decide +kernel
theorem dX7_sums_58 : decode cX7_sums 58 = .ok (.ladd, 1) := by decide +kernel
theorem dX7_sums_59 : decode cX7_sums 59 = .ok (.putfield 233, 3) := by decide +kernel
theorem dX7_sums_62 : decode cX7_sums 62 = .ok (.aload_n 0, 1) := by decide +kernel
theorem dX7_sums_63 : decode cX7_sums 63 = .ok (.dup, 1) := by decide +kernel
theorem dX7_sums_64 : decode cX7_sums 64 = .ok (.getfield 236, 3) := by decide +kernel
theorem dX7_sums_67 : decode cX7_sums 67 = .ok (.aload_n 0, 1) := by decide +kernel
theorem dX7_sums_68 : decode cX7_sums 68 = .ok (.getfield 33, 3) := by decide +kernel
theorem dX7_sums_71 : decode cX7_sums 71 = .ok (.iload_n 3, 1) := by decide +kernel
theorem dX7_sums_72 : decode cX7_sums 72 = .ok (.iaload, 1) := by decide +kernel
theorem dX7_sums_73 : decode cX7_sums 73 = .ok (.i2l, 1) := by decide +kernel
theorem dX7_sums_74 : decode cX7_sums 74 = .ok (.aload_n 0, 1) := by decide +kernel
theorem dX7_sums_75 : decode cX7_sums 75 = .ok (.getfield 29, 3) := by decide +kernel
theorem dX7_sums_78 : decode cX7_sums 78 = .ok (.iload_n 3, 1) := by decide +kernel
theorem dX7_sums_79 : decode cX7_sums 79 = .ok (.laload, 1) := by decide +kernel
theorem dX7_sums_80 : decode cX7_sums 80 = .ok (.lmul, 1) := by decide +kernel
theorem dX7_sums_81 : decode cX7_sums 81 = .ok (.ladd, 1) := by decide +kernel
theorem dX7_sums_82 : decode cX7_sums 82 = .ok (.putfield 236, 3) := by decide +kernel
theorem dX7_sums_85 : decode cX7_sums 85 = .ok (.aload_n 0, 1) := by decide +kernel
theorem dX7_sums_86 : decode cX7_sums 86 = .ok (.dup, 1) := by decide +kernel
theorem dX7_sums_87 : decode cX7_sums 87 = .ok (.getfield 239, 3) := by decide +kernel
theorem dX7_sums_90 : decode cX7_sums 90 = .ok (.aload_n 0, 1) := by decide +kernel
theorem dX7_sums_91 : decode cX7_sums 91 = .ok (.getfield 33, 3) := by decide +kernel
theorem dX7_sums_94 : decode cX7_sums 94 = .ok (.iload_n 3, 1) := by decide +kernel
theorem dX7_sums_95 : decode cX7_sums 95 = .ok (.iaload, 1) := by decide +kernel
theorem dX7_sums_96 : decode cX7_sums 96 = .ok (.i2l, 1) := by decide +kernel
theorem dX7_sums_97 : decode cX7_sums 97 = .ok (.aload_n 0, 1) := by decide +kernel
theorem dX7_sums_98 : decode cX7_sums 98 = .ok (.getfield 33, 3) := by decide +kernel
theorem dX7_sums_101 : decode cX7_sums 101 = .ok (.iload_n 3, 1) := by decide +kernel
theorem dX7_sums_102 : decode cX7_sums 102 = .ok (.iaload, 1) := by decide +kernel
theorem dX7_sums_103 : decode cX7_sums 103 = .ok (.i2l, 1) := by decide +kernel
theorem dX7_sums_104 : decode cX7_sums 104 = .ok (.lmul, 1) := by decide +kernel
theorem dX7_sums_105 : decode cX7_sums 105 = .ok (.ladd, 1) := by decide +kernel
theorem dX7_sums_106 : decode cX7_sums 106 = .ok (.putfield 239, 3) := by decide +kernel
theorem dX7_sums_109 : decode cX7_sums 109 = .ok (.iinc 3 1, 3) := by decide +kernel
theorem dX7_sums_112 : decode cX7_sums 112 = .ok (.goto (-86), 3) := by decide +kernel
theorem dX7_sums_115 : decode cX7_sums 115 = .ok (.return_, 1) := by decide +kernel
theorem dX7_isFit_0 : decode cX7_isFit 0 = .ok (.iload_n 1, 1) := by decide +kernel
theorem dX7_isFit_1 : decode cX7_isFit 1 = .ok (.ifCond .lt 20, 3) := by decide +kernel
theorem dX7_isFit_4 : decode cX7_isFit 4 = .ok (.iload_n 1, 1) := by decide +kernel
theorem dX7_isFit_5 : decode cX7_isFit 5 = .ok (.iload_n 2, 1) := by decide +kernel
theorem dX7_isFit_6 : decode cX7_isFit 6 = .ok (.if_icmp .ge 15, 3) := by decide +kernel
theorem dX7_isFit_9 : decode cX7_isFit 9 = .ok (.iload_n 2, 1) := by decide +kernel
theorem dX7_isFit_10 : decode cX7_isFit 10 = .ok (.aload_n 0, 1) := by decide +kernel
theorem dX7_isFit_11 : decode cX7_isFit 11 = .ok (.getfield 81, 3) := by decide +kernel
theorem dX7_isFit_14 : decode cX7_isFit 14 = .ok (.if_icmp .ge 7, 3) := by decide +kernel
theorem dX7_isFit_17 : decode cX7_isFit 17 = .ok (.iconst 1, 1) := by decide +kernel
theorem dX7_isFit_18 : decode cX7_isFit 18 = .ok (.goto 4, 3) := by decide +kernel
theorem dX7_isFit_21 : decode cX7_isFit 21 = .ok (.iconst 0, 1) := by decide +kernel
theorem dX7_isFit_22 : decode cX7_isFit 22 = .ok (.ireturn, 1) := by decide +kernel
theorem dX7_fitOf_0 : decode cX7_fitOf 0 = .ok (.aload_n 0, 1) := by decide +kernel
theorem dX7_fitOf_1 : decode cX7_fitOf 1 = .ok (.iload_n 1, 1) := by decide +kernel
theorem dX7_fitOf_2 : decode cX7_fitOf 2 = .ok (.iload_n 2, 1) := by decide +kernel
theorem dX7_fitOf_3 : decode cX7_fitOf 3 = .ok (.invokevirtual 242, 3) := by decide +kernel
theorem dX7_fitOf_6 : decode cX7_fitOf 6 = .ok (.iload_n 2, 1) := by decide +kernel
theorem dX7_fitOf_7 : decode cX7_fitOf 7 = .ok (.iload_n 1, 1) := by decide +kernel
theorem dX7_fitOf_8 : decode cX7_fitOf 8 = .ok (.isub, 1) := by decide +kernel
theorem dX7_fitOf_9 : decode cX7_fitOf 9 = .ok (.iconst 1, 1) := by decide +kernel
theorem dX7_fitOf_10 : decode cX7_fitOf 10 = .ok (.iadd, 1) := by decide +kernel
theorem dX7_fitOf_11 : decode cX7_fitOf 11 = .ok (.i2l, 1) := by decide +kernel
theorem dX7_fitOf_12 : decode cX7_fitOf 12 = .ok (.lstore 4, 2) := by decide +kernel
theorem dX7_fitOf_14 : decode cX7_fitOf 14 = .ok (.lload 4, 2) := by decide +kernel
theorem dX7_fitOf_16 : decode cX7_fitOf 16 = .ok (.aload_n 0, 1) := by decide +kernel
theorem dX7_fitOf_17 : decode cX7_fitOf 17 = .ok (.getfield 236, 3) := by decide +kernel
theorem dX7_fitOf_20 : decode cX7_fitOf 20 = .ok (.lmul, 1) := by decide +kernel
theorem dX7_fitOf_21 : decode cX7_fitOf 21 = .ok (.aload_n 0, 1) := by decide +kernel
theorem dX7_fitOf_22 : decode cX7_fitOf 22 = .ok (.getfield 230, 3) := by decide +kernel
theorem dX7_fitOf_25 : decode cX7_fitOf 25 = .ok (.aload_n 0, 1) := by decide +kernel
theorem dX7_fitOf_26 : decode cX7_fitOf 26 = .ok (.getfield 233, 3) := by decide +kernel
theorem dX7_fitOf_29 : decode cX7_fitOf 29 = .ok (.lmul, 1) := by decide +kernel
theorem dX7_fitOf_30 : decode cX7_fitOf 30 = .ok (.lsub, 1) := by decide +kernel
theorem dX7_fitOf_31 : decode cX7_fitOf 31 = .ok (.lload 4, 2) := by decide +kernel
theorem dX7_fitOf_33 : decode cX7_fitOf 33 = .ok (.aload_n 0, 1) := by decide +kernel
theorem dX7_fitOf_34 : decode cX7_fitOf 34 = .ok (.getfield 239, 3) := by decide +kernel
theorem dX7_fitOf_37 : decode cX7_fitOf 37 = .ok (.lmul, 1) := by decide +kernel
theorem dX7_fitOf_38 : decode cX7_fitOf 38 = .ok (.aload_n 0, 1) := by decide +kernel
theorem dX7_fitOf_39 : decode cX7_fitOf 39 = .ok (.getfield 230, 3) := by decide +kernel
theorem dX7_fitOf_42 : decode cX7_fitOf 42 = .ok (.aload_n 0, 1) := by decide +kernel
theorem dX7_fitOf_43 : decode cX7_fitOf 43 = .ok (.getfield 230, 3) := by decide +kernel
theorem dX7_fitOf_46 : decode cX7_fitOf 46 = .ok (.lmul, 1) := by decide +kernel
theorem dX7_fitOf_47 : decode cX7_fitOf 47 = .ok (.lsub, 1) := by decide +kernel
theorem dX7_fitOf_48 : decode cX7_fitOf 48 = .ok (.aload_n 0, 1) := by decide +kernel
theorem dX7_fitOf_49 : decode cX7_fitOf 49 = .ok (.getfield 161, 3) := by decide +kernel
theorem dX7_fitOf_52 : decode cX7_fitOf 52 = .ok (.lmul, 1) := by decide +kernel
theorem dX7_fitOf_53 : decode cX7_fitOf 53 = .ok (.iload_n 3, 1) := by decide +kernel
theorem dX7_fitOf_54 : decode cX7_fitOf 54 = .ok (.invokestatic 132, 3) := by decide +kernel
theorem dX7_fitOf_57 : decode cX7_fitOf 57 = .ok (.lreturn, 1) := by decide +kernel
theorem dX7_fit_0 : decode cX7_fit 0 = .ok (.aload_n 0, 1) := by decide +kernel
theorem dX7_fit_1 : decode cX7_fit 1 = .ok (.iload_n 1, 1) := by decide +kernel
theorem dX7_fit_2 : decode cX7_fit 2 = .ok (.iload_n 2, 1) := by decide +kernel
theorem dX7_fit_3 : decode cX7_fit 3 = .ok (.invokevirtual 246, 3) := by decide +kernel
theorem dX7_fit_6 : decode cX7_fit 6 = .ok (.ifCond .eq 22, 3) := by decide +kernel
theorem dX7_fit_9 : decode cX7_fit 9 = .ok (.iload_n 3, 1) := by decide +kernel
theorem dX7_fit_10 : decode cX7_fit 10 = .ok (.iconst 0, 1) := by decide +kernel
theorem dX7_fit_11 : decode cX7_fit 11 = .ok (.iconst 1, 1) := by decide +kernel
theorem dX7_fit_12 : decode cX7_fit 12 = .ok (.invokestatic 85, 3) := by decide +kernel
theorem dX7_fit_15 : decode cX7_fit 15 = .ok (.ifCond .eq 13, 3) := by decide +kernel
theorem dX7_fit_18 : decode cX7_fit 18 = .ok (.aload_n 0, 1) := by decide +kernel
theorem dX7_fit_19 : decode cX7_fit 19 = .ok (.iload_n 1, 1) := by decide +kernel
theorem dX7_fit_20 : decode cX7_fit 20 = .ok (.iload_n 2, 1) := by decide +kernel
theorem dX7_fit_21 : decode cX7_fit 21 = .ok (.iload_n 3, 1) := by decide +kernel
theorem dX7_fit_22 : decode cX7_fit 22 = .ok (.invokevirtual 249, 3) := by decide +kernel
theorem dX7_fit_25 : decode cX7_fit 25 = .ok (.goto 8, 3) := by decide +kernel
theorem dX7_fit_28 : decode cX7_fit 28 = .ok (.bipush (-2), 2) := by decide +kernel
theorem dX7_fit_30 : decode cX7_fit 30 = .ok (.invokestatic 126, 3) := by decide +kernel
theorem dX7_fit_33 : decode cX7_fit 33 = .ok (.lreturn, 1) := by decide +kernel
theorem dX7_offOf_0 : decode cX7_offOf 0 = .ok (.aload_n 0, 1) := by decide +kernel
theorem dX7_offOf_1 : decode cX7_offOf 1 = .ok (.iload_n 1, 1) := by decide +kernel
theorem dX7_offOf_2 : decode cX7_offOf 2 = .ok (.iload_n 2, 1) := by decide +kernel
theorem dX7_offOf_3 : decode cX7_offOf 3 = .ok (.invokevirtual 242, 3) := by decide +kernel
theorem dX7_offOf_6 : decode cX7_offOf 6 = .ok (.iload_n 2, 1) := by decide +kernel
theorem dX7_offOf_7 : decode cX7_offOf 7 = .ok (.iload_n 1, 1) := by decide +kernel
theorem dX7_offOf_8 : decode cX7_offOf 8 = .ok (.isub, 1) := by decide +kernel
theorem dX7_offOf_9 : decode cX7_offOf 9 = .ok (.iconst 1, 1) := by decide +kernel
theorem dX7_offOf_10 : decode cX7_offOf 10 = .ok (.iadd, 1) := by decide +kernel
theorem dX7_offOf_11 : decode cX7_offOf 11 = .ok (.i2l, 1) := by decide +kernel
theorem dX7_offOf_12 : decode cX7_offOf 12 = .ok (.lstore_n 3, 1) := by decide +kernel
theorem dX7_offOf_13 : decode cX7_offOf 13 = .ok (.lload_n 3, 1) := by decide +kernel
theorem dX7_offOf_14 : decode cX7_offOf 14 = .ok (.aload_n 0, 1) := by decide +kernel
theorem dX7_offOf_15 : decode cX7_offOf 15 = .ok (.getfield 236, 3) := by decide +kernel
theorem dX7_offOf_18 : decode cX7_offOf 18 = .ok (.lmul, 1) := by decide +kernel
theorem dX7_offOf_19 : decode cX7_offOf 19 = .ok (.aload_n 0, 1) := by decide +kernel
theorem dX7_offOf_20 : decode cX7_offOf 20 = .ok (.getfield 230, 3) := by decide +kernel
theorem dX7_offOf_23 : decode cX7_offOf 23 = .ok (.aload_n 0, 1) := by decide +kernel
theorem dX7_offOf_24 : decode cX7_offOf 24 = .ok (.getfield 233, 3) := by decide +kernel
theorem dX7_offOf_27 : decode cX7_offOf 27 = .ok (.lmul, 1) := by decide +kernel
theorem dX7_offOf_28 : decode cX7_offOf 28 = .ok (.lsub, 1) := by decide +kernel
theorem dX7_offOf_29 : decode cX7_offOf 29 = .ok (.lstore 5, 2) := by decide +kernel
theorem dX7_offOf_31 : decode cX7_offOf 31 = .ok (.lload_n 3, 1) := by decide +kernel
theorem dX7_offOf_32 : decode cX7_offOf 32 = .ok (.aload_n 0, 1) := by decide +kernel
theorem dX7_offOf_33 : decode cX7_offOf 33 = .ok (.getfield 239, 3) := by decide +kernel
theorem dX7_offOf_36 : decode cX7_offOf 36 = .ok (.lmul, 1) := by decide +kernel
theorem dX7_offOf_37 : decode cX7_offOf 37 = .ok (.aload_n 0, 1) := by decide +kernel
theorem dX7_offOf_38 : decode cX7_offOf 38 = .ok (.getfield 230, 3) := by decide +kernel
theorem dX7_offOf_41 : decode cX7_offOf 41 = .ok (.aload_n 0, 1) := by decide +kernel
theorem dX7_offOf_42 : decode cX7_offOf 42 = .ok (.getfield 230, 3) := by decide +kernel
theorem dX7_offOf_45 : decode cX7_offOf 45 = .ok (.lmul, 1) := by decide +kernel
theorem dX7_offOf_46 : decode cX7_offOf 46 = .ok (.lsub, 1) := by decide +kernel
theorem dX7_offOf_47 : decode cX7_offOf 47 = .ok (.lstore 7, 2) := by decide +kernel
theorem dX7_offOf_49 : decode cX7_offOf 49 = .ok (.iconst (-1), 1) := by decide +kernel
theorem dX7_offOf_50 : decode cX7_offOf 50 = .ok (.istore 9, 2) := by decide +kernel
theorem dX7_offOf_52 : decode cX7_offOf 52 = .ok (.ldc2_w 252, 3) := by decide +kernel
theorem dX7_offOf_55 : decode cX7_offOf 55 = .ok (.lstore 10, 2) := by decide +kernel
theorem dX7_offOf_57 : decode cX7_offOf 57 = .ok (.iload_n 1, 1) := by decide +kernel
theorem dX7_offOf_58 : decode cX7_offOf 58 = .ok (.istore 12, 2) := by decide +kernel
theorem dX7_offOf_60 : decode cX7_offOf 60 = .ok (.iload 12, 2) := by decide +kernel
theorem dX7_offOf_62 : decode cX7_offOf 62 = .ok (.iload_n 2, 1) := by decide +kernel
theorem dX7_offOf_63 : decode cX7_offOf 63 = .ok (.if_icmp .gt 98, 3) := by decide +kernel
theorem dX7_offOf_66 : decode cX7_offOf 66 = .ok (.lload 7, 2) := by decide +kernel
theorem dX7_offOf_68 : decode cX7_offOf 68 = .ok (.lload_n 3, 1) := by decide +kernel
theorem dX7_offOf_69 : decode cX7_offOf 69 = .ok (.aload_n 0, 1) := by decide +kernel
theorem dX7_offOf_70 : decode cX7_offOf 70 = .ok (.getfield 29, 3) := by decide +kernel
theorem dX7_offOf_73 : decode cX7_offOf 73 = .ok (.iload 12, 2) := by decide +kernel
theorem dX7_offOf_75 : decode cX7_offOf 75 = .ok (.laload, 1) := by decide +kernel
theorem dX7_offOf_76 : decode cX7_offOf 76 = .ok (.lmul, 1) := by decide +kernel
theorem dX7_offOf_77 : decode cX7_offOf 77 = .ok (.aload_n 0, 1) := by decide +kernel
theorem dX7_offOf_78 : decode cX7_offOf 78 = .ok (.getfield 233, 3) := by decide +kernel
theorem dX7_offOf_81 : decode cX7_offOf 81 = .ok (.lsub, 1) := by decide +kernel
theorem dX7_offOf_82 : decode cX7_offOf 82 = .ok (.lmul, 1) := by decide +kernel
theorem dX7_offOf_83 : decode cX7_offOf 83 = .ok (.lload 5, 2) := by decide +kernel
theorem dX7_offOf_85 : decode cX7_offOf 85 = .ok (.lload_n 3, 1) := by decide +kernel
theorem dX7_offOf_86 : decode cX7_offOf 86 = .ok (.aload_n 0, 1) := by decide +kernel
theorem dX7_offOf_87 : decode cX7_offOf 87 = .ok (.getfield 33, 3) := by decide +kernel
theorem dX7_offOf_90 : decode cX7_offOf 90 = .ok (.iload 12, 2) := by decide +kernel
theorem dX7_offOf_92 : decode cX7_offOf 92 = .ok (.iaload, 1) := by decide +kernel
theorem dX7_offOf_93 : decode cX7_offOf 93 = .ok (.i2l, 1) := by decide +kernel
theorem dX7_offOf_94 : decode cX7_offOf 94 = .ok (.lmul, 1) := by decide +kernel
theorem dX7_offOf_95 : decode cX7_offOf 95 = .ok (.aload_n 0, 1) := by decide +kernel
theorem dX7_offOf_96 : decode cX7_offOf 96 = .ok (.getfield 230, 3) := by decide +kernel
theorem dX7_offOf_99 : decode cX7_offOf 99 = .ok (.lsub, 1) := by decide +kernel
theorem dX7_offOf_100 : decode cX7_offOf 100 = .ok (.lmul, 1) := by decide +kernel
theorem dX7_offOf_101 : decode cX7_offOf 101 = .ok (.lsub, 1) := by decide +kernel
theorem dX7_offOf_102 : decode cX7_offOf 102 = .ok (.lstore 13, 2) := by decide +kernel
theorem dX7_offOf_104 : decode cX7_offOf 104 = .ok (.lload 13, 2) := by decide +kernel
theorem dX7_offOf_106 : decode cX7_offOf 106 = .ok (.lconst 0, 1) := by decide +kernel
theorem dX7_offOf_107 : decode cX7_offOf 107 = .ok (.lcmp, 1) := by decide +kernel
theorem dX7_offOf_108 : decode cX7_offOf 108 = .ok (.ifCond .ge 9, 3) := by decide +kernel
theorem dX7_offOf_111 : decode cX7_offOf 111 = .ok (.lload 13, 2) := by decide +kernel
theorem dX7_offOf_113 : decode cX7_offOf 113 = .ok (.lneg, 1) := by decide +kernel
theorem dX7_offOf_114 : decode cX7_offOf 114 = .ok (.goto 5, 3) := by decide +kernel
theorem dX7_offOf_117 : decode cX7_offOf 117 = .ok (.lload 13, 2) := by decide +kernel
theorem dX7_offOf_119 : decode cX7_offOf 119 = .ok (.lstore 13, 2) := by decide +kernel
theorem dX7_offOf_121 : decode cX7_offOf 121 = .ok (.lload 13, 2) := by decide +kernel
theorem dX7_offOf_123 : decode cX7_offOf 123 = .ok (.lload 10, 2) := by decide +kernel
theorem dX7_offOf_125 : decode cX7_offOf 125 = .ok (.lcmp, 1) := by decide +kernel
theorem dX7_offOf_126 : decode cX7_offOf 126 = .ok (.ifCond .le 8, 3) := by decide +kernel
theorem dX7_offOf_129 : decode cX7_offOf 129 = .ok (.iload 12, 2) := by decide +kernel
theorem dX7_offOf_131 : decode cX7_offOf 131 = .ok (.goto 5, 3) := by decide +kernel
theorem dX7_offOf_134 : decode cX7_offOf 134 = .ok (.iload 9, 2) := by decide +kernel
theorem dX7_offOf_136 : decode cX7_offOf 136 = .ok (.istore 9, 2) := by decide +kernel
theorem dX7_offOf_138 : decode cX7_offOf 138 = .ok (.lload 13, 2) := by decide +kernel
theorem dX7_offOf_140 : decode cX7_offOf 140 = .ok (.lload 10, 2) := by decide +kernel
theorem dX7_offOf_142 : decode cX7_offOf 142 = .ok (.lcmp, 1) := by decide +kernel
theorem dX7_offOf_143 : decode cX7_offOf 143 = .ok (.ifCond .le 8, 3) := by decide +kernel
theorem dX7_offOf_146 : decode cX7_offOf 146 = .ok (.lload 13, 2) := by decide +kernel
theorem dX7_offOf_148 : decode cX7_offOf 148 = .ok (.goto 5, 3) := by decide +kernel
theorem dX7_offOf_151 : decode cX7_offOf 151 = .ok (.lload 10, 2) := by decide +kernel
theorem dX7_offOf_153 : decode cX7_offOf 153 = .ok (.lstore 10, 2) := by decide +kernel
theorem dX7_offOf_155 : decode cX7_offOf 155 = .ok (.iinc 12 1, 3) := by decide +kernel
theorem dX7_offOf_158 : decode cX7_offOf 158 = .ok (.goto (-98), 3) := by decide +kernel
theorem dX7_offOf_161 : decode cX7_offOf 161 = .ok (.iload 9, 2) := by decide +kernel
theorem dX7_offOf_163 : decode cX7_offOf 163 = .ok (.ireturn, 1) := by decide +kernel
theorem dX7_off_0 : decode cX7_off 0 = .ok (.aload_n 0, 1) := by decide +kernel
theorem dX7_off_1 : decode cX7_off 1 = .ok (.iload_n 1, 1) := by decide +kernel
theorem dX7_off_2 : decode cX7_off 2 = .ok (.iload_n 2, 1) := by decide +kernel
theorem dX7_off_3 : decode cX7_off 3 = .ok (.invokevirtual 246, 3) := by decide +kernel
theorem dX7_off_6 : decode cX7_off 6 = .ok (.ifCond .eq 12, 3) := by decide +kernel
theorem dX7_off_9 : decode cX7_off 9 = .ok (.aload_n 0, 1) := by decide +kernel
theorem dX7_off_10 : decode cX7_off 10 = .ok (.iload_n 1, 1) := by decide +kernel
theorem dX7_off_11 : decode cX7_off 11 = .ok (.iload_n 2, 1) := by decide +kernel
theorem dX7_off_12 : decode cX7_off 12 = .ok (.invokevirtual 254, 3) := by decide +kernel
theorem dX7_off_15 : decode cX7_off 15 = .ok (.goto 5, 3) := by decide +kernel
theorem dX7_off_18 : decode cX7_off 18 = .ok (.bipush (-2), 2) := by decide +kernel
theorem dX7_off_20 : decode cX7_off 20 = .ok (.ireturn, 1) := by decide +kernel
theorem dX7_gainOf_0 : decode cX7_gainOf 0 = .ok (.lconst 0, 1) := by decide +kernel
theorem dX7_gainOf_1 : decode cX7_gainOf 1 = .ok (.lstore_n 2, 1) := by decide +kernel
theorem dX7_gainOf_2 : decode cX7_gainOf 2 = .ok (.lconst 0, 1) := by decide +kernel
theorem dX7_gainOf_3 : decode cX7_gainOf 3 = .ok (.lstore 4, 2) := by decide +kernel
theorem dX7_gainOf_5 : decode cX7_gainOf 5 = .ok (.iconst 0, 1) := by decide +kernel
theorem dX7_gainOf_6 : decode cX7_gainOf 6 = .ok (.istore 6, 2) := by decide +kernel
theorem dX7_gainOf_8 : decode cX7_gainOf 8 = .ok (.iload 6, 2) := by decide +kernel
theorem dX7_gainOf_10 : decode cX7_gainOf 10 = .ok (.iload_n 0, 1) := by decide +kernel
theorem dX7_gainOf_11 : decode cX7_gainOf 11 = .ok (.if_icmp .ge 26, 3) := by decide +kernel
theorem dX7_gainOf_14 : decode cX7_gainOf 14 = .ok (.lload_n 2, 1) := by decide +kernel
theorem dX7_gainOf_15 : decode cX7_gainOf 15 = .ok (.iload 6, 2) := by decide +kernel
theorem dX7_gainOf_17 : decode cX7_gainOf 17 = .ok (.i2l, 1) := by decide +kernel
theorem dX7_gainOf_18 : decode cX7_gainOf 18 = .ok (.ladd, 1) := by decide +kernel
theorem dX7_gainOf_19 : decode cX7_gainOf 19 = .ok (.lstore_n 2, 1) := by decide +kernel
theorem dX7_gainOf_20 : decode cX7_gainOf 20 = .ok (.lload 4, 2) := by decide +kernel
theorem dX7_gainOf_22 : decode cX7_gainOf 22 = .ok (.iload 6, 2) := by decide +kernel
theorem dX7_gainOf_24 : decode cX7_gainOf 24 = .ok (.iload 6, 2) := by decide +kernel
theorem dX7_gainOf_26 : decode cX7_gainOf 26 = .ok (.imul, 1) := by decide +kernel
theorem dX7_gainOf_27 : decode cX7_gainOf 27 = .ok (.i2l, 1) := by decide +kernel
theorem dX7_gainOf_28 : decode cX7_gainOf 28 = .ok (.ladd, 1) := by decide +kernel
theorem dX7_gainOf_29 : decode cX7_gainOf 29 = .ok (.lstore 4, 2) := by decide +kernel
theorem dX7_gainOf_31 : decode cX7_gainOf 31 = .ok (.iinc 6 1, 3) := by decide +kernel
theorem dX7_gainOf_34 : decode cX7_gainOf 34 = .ok (.goto (-26), 3) := by decide +kernel
theorem dX7_gainOf_37 : decode cX7_gainOf 37 = .ok (.iload_n 0, 1) := by decide +kernel
theorem dX7_gainOf_38 : decode cX7_gainOf 38 = .ok (.i2l, 1) := by decide +kernel
theorem dX7_gainOf_39 : decode cX7_gainOf 39 = .ok (.lload 4, 2) := by decide +kernel
theorem dX7_gainOf_41 : decode cX7_gainOf 41 = .ok (.lmul, 1) := by decide +kernel
theorem dX7_gainOf_42 : decode cX7_gainOf 42 = .ok (.lload_n 2, 1) := by decide +kernel
theorem dX7_gainOf_43 : decode cX7_gainOf 43 = .ok (.lload_n 2, 1) := by decide +kernel
theorem dX7_gainOf_44 : decode cX7_gainOf 44 = .ok (.lmul, 1) := by decide +kernel
theorem dX7_gainOf_45 : decode cX7_gainOf 45 = .ok (.lsub, 1) := by decide +kernel
theorem dX7_gainOf_46 : decode cX7_gainOf 46 = .ok (.lstore 6, 2) := by decide +kernel
theorem dX7_gainOf_48 : decode cX7_gainOf 48 = .ok (.lconst 0, 1) := by decide +kernel
theorem dX7_gainOf_49 : decode cX7_gainOf 49 = .ok (.lstore 8, 2) := by decide +kernel
theorem dX7_gainOf_51 : decode cX7_gainOf 51 = .ok (.iconst 0, 1) := by decide +kernel
theorem dX7_gainOf_52 : decode cX7_gainOf 52 = .ok (.istore 10, 2) := by decide +kernel
theorem dX7_gainOf_54 : decode cX7_gainOf 54 = .ok (.iload 10, 2) := by decide +kernel
theorem dX7_gainOf_56 : decode cX7_gainOf 56 = .ok (.iload_n 0, 1) := by decide +kernel
theorem dX7_gainOf_57 : decode cX7_gainOf 57 = .ok (.if_icmp .ge 29, 3) := by decide +kernel
theorem dX7_gainOf_60 : decode cX7_gainOf 60 = .ok (.lload 8, 2) := by decide +kernel
theorem dX7_gainOf_62 : decode cX7_gainOf 62 = .ok (.iload_n 0, 1) := by decide +kernel
theorem dX7_gainOf_63 : decode cX7_gainOf 63 = .ok (.iload 10, 2) := by decide +kernel
theorem dX7_gainOf_65 : decode cX7_gainOf 65 = .ok (.imul, 1) := by decide +kernel
theorem dX7_gainOf_66 : decode cX7_gainOf 66 = .ok (.i2l, 1) := by decide +kernel
theorem dX7_gainOf_67 : decode cX7_gainOf 67 = .ok (.lload_n 2, 1) := by decide +kernel
theorem dX7_gainOf_68 : decode cX7_gainOf 68 = .ok (.lsub, 1) := by decide +kernel
theorem dX7_gainOf_69 : decode cX7_gainOf 69 = .ok (.iload_n 0, 1) := by decide +kernel
theorem dX7_gainOf_70 : decode cX7_gainOf 70 = .ok (.iload 10, 2) := by decide +kernel
theorem dX7_gainOf_72 : decode cX7_gainOf 72 = .ok (.imul, 1) := by decide +kernel
theorem dX7_gainOf_73 : decode cX7_gainOf 73 = .ok (.i2l, 1) := by decide +kernel
theorem dX7_gainOf_74 : decode cX7_gainOf 74 = .ok (.lload_n 2, 1) := by decide +kernel
theorem dX7_gainOf_75 : decode cX7_gainOf 75 = .ok (.lsub, 1) := by decide +kernel
theorem dX7_gainOf_76 : decode cX7_gainOf 76 = .ok (.lmul, 1) := by decide +kernel
theorem dX7_gainOf_77 : decode cX7_gainOf 77 = .ok (.ladd, 1) := by decide +kernel
theorem dX7_gainOf_78 : decode cX7_gainOf 78 = .ok (.lstore 8, 2) := by decide +kernel
theorem dX7_gainOf_80 : decode cX7_gainOf 80 = .ok (.iinc 10 1, 3) := by decide +kernel
theorem dX7_gainOf_83 : decode cX7_gainOf 83 = .ok (.goto (-29), 3) := by decide +kernel
theorem dX7_gainOf_86 : decode cX7_gainOf 86 = .ok (.ldc2_w 168, 3) := by decide +kernel
theorem dX7_gainOf_89 : decode cX7_gainOf 89 = .ok (.lload 6, 2) := by decide +kernel
theorem dX7_gainOf_91 : decode cX7_gainOf 91 = .ok (.lmul, 1) := by decide +kernel
theorem dX7_gainOf_92 : decode cX7_gainOf 92 = .ok (.lload 6, 2) := by decide +kernel
theorem dX7_gainOf_94 : decode cX7_gainOf 94 = .ok (.lmul, 1) := by decide +kernel
theorem dX7_gainOf_95 : decode cX7_gainOf 95 = .ok (.lload 8, 2) := by decide +kernel
theorem dX7_gainOf_97 : decode cX7_gainOf 97 = .ok (.iload_n 0, 1) := by decide +kernel
theorem dX7_gainOf_98 : decode cX7_gainOf 98 = .ok (.iconst 1, 1) := by decide +kernel
theorem dX7_gainOf_99 : decode cX7_gainOf 99 = .ok (.isub, 1) := by decide +kernel
theorem dX7_gainOf_100 : decode cX7_gainOf 100 = .ok (.i2l, 1) := by decide +kernel
theorem dX7_gainOf_101 : decode cX7_gainOf 101 = .ok (.lmul, 1) := by decide +kernel
theorem dX7_gainOf_102 : decode cX7_gainOf 102 = .ok (.iload_n 0, 1) := by decide +kernel
theorem dX7_gainOf_103 : decode cX7_gainOf 103 = .ok (.iconst 1, 1) := by decide +kernel
theorem dX7_gainOf_104 : decode cX7_gainOf 104 = .ok (.isub, 1) := by decide +kernel
theorem dX7_gainOf_105 : decode cX7_gainOf 105 = .ok (.i2l, 1) := by decide +kernel
theorem dX7_gainOf_106 : decode cX7_gainOf 106 = .ok (.lmul, 1) := by decide +kernel
theorem dX7_gainOf_107 : decode cX7_gainOf 107 = .ok (.iload_n 1, 1) := by decide +kernel
theorem dX7_gainOf_108 : decode cX7_gainOf 108 = .ok (.invokestatic 132, 3) := by decide +kernel
theorem dX7_gainOf_111 : decode cX7_gainOf 111 = .ok (.lreturn, 1) := by decide +kernel
theorem dX7_gain_0 : decode cX7_gain 0 = .ok (.iload_n 1, 1) := by decide +kernel
theorem dX7_gain_1 : decode cX7_gain 1 = .ok (.iconst 3, 1) := by decide +kernel
theorem dX7_gain_2 : decode cX7_gain 2 = .ok (.bipush 32, 2) := by decide +kernel
theorem dX7_gain_4 : decode cX7_gain 4 = .ok (.invokestatic 85, 3) := by decide +kernel
theorem dX7_gain_7 : decode cX7_gain 7 = .ok (.ifCond .eq 20, 3) := by decide +kernel
theorem dX7_gain_10 : decode cX7_gain 10 = .ok (.iload_n 2, 1) := by decide +kernel
theorem dX7_gain_11 : decode cX7_gain 11 = .ok (.iconst 0, 1) := by decide +kernel
theorem dX7_gain_12 : decode cX7_gain 12 = .ok (.iconst 1, 1) := by decide +kernel
theorem dX7_gain_13 : decode cX7_gain 13 = .ok (.invokestatic 85, 3) := by decide +kernel
theorem dX7_gain_16 : decode cX7_gain 16 = .ok (.ifCond .eq 11, 3) := by decide +kernel
theorem dX7_gain_19 : decode cX7_gain 19 = .ok (.iload_n 1, 1) := by decide +kernel
theorem dX7_gain_20 : decode cX7_gain 20 = .ok (.iload_n 2, 1) := by decide +kernel
theorem dX7_gain_21 : decode cX7_gain 21 = .ok (.invokestatic 257, 3) := by decide +kernel
theorem dX7_gain_24 : decode cX7_gain 24 = .ok (.goto 8, 3) := by decide +kernel
theorem dX7_gain_27 : decode cX7_gain 27 = .ok (.bipush (-2), 2) := by decide +kernel
theorem dX7_gain_29 : decode cX7_gain 29 = .ok (.invokestatic 126, 3) := by decide +kernel
theorem dX7_gain_32 : decode cX7_gain 32 = .ok (.lreturn, 1) := by decide +kernel
theorem dX7_squaresAt_0 : decode cX7_squaresAt 0 = .ok (.lconst 0, 1) := by decide +kernel
theorem dX7_squaresAt_1 : decode cX7_squaresAt 1 = .ok (.lstore_n 2, 1) := by decide +kernel
theorem dX7_squaresAt_2 : decode cX7_squaresAt 2 = .ok (.iconst 0, 1) := by decide +kernel
theorem dX7_squaresAt_3 : decode cX7_squaresAt 3 = .ok (.istore 4, 2) := by decide +kernel
theorem dX7_squaresAt_5 : decode cX7_squaresAt 5 = .ok (.iload 4, 2) := by decide +kernel
theorem dX7_squaresAt_7 : decode cX7_squaresAt 7 = .ok (.iconst 2, 1) := by decide +kernel
theorem dX7_squaresAt_8 : decode cX7_squaresAt 8 = .ok (.iload_n 1, 1) := by decide +kernel
theorem dX7_squaresAt_9 : decode cX7_squaresAt 9 = .ok (.imul, 1) := by decide +kernel
theorem dX7_squaresAt_10 : decode cX7_squaresAt 10 = .ok (.iadd, 1) := by decide +kernel
theorem dX7_squaresAt_11 : decode cX7_squaresAt 11 = .ok (.aload_n 0, 1) := by decide +kernel
theorem dX7_squaresAt_12 : decode cX7_squaresAt 12 = .ok (.getfield 81, 3) := by decide +kernel
theorem dX7_squaresAt_15 : decode cX7_squaresAt 15 = .ok (.if_icmp .ge 52, 3) := by decide +kernel
theorem dX7_squaresAt_18 : decode cX7_squaresAt 18 = .ok (.aload_n 0, 1) := by decide +kernel
theorem dX7_squaresAt_19 : decode cX7_squaresAt 19 = .ok (.getfield 29, 3) := by decide +kernel
theorem dX7_squaresAt_22 : decode cX7_squaresAt 22 = .ok (.iload 4, 2) := by decide +kernel
theorem dX7_squaresAt_24 : decode cX7_squaresAt 24 = .ok (.iconst 2, 1) := by decide +kernel
theorem dX7_squaresAt_25 : decode cX7_squaresAt 25 = .ok (.iload_n 1, 1) := by decide +kernel
theorem dX7_squaresAt_26 : decode cX7_squaresAt 26 = .ok (.imul, 1) := by decide +kernel
theorem dX7_squaresAt_27 : decode cX7_squaresAt 27 = .ok (.iadd, 1) := by decide +kernel
theorem dX7_squaresAt_28 : decode cX7_squaresAt 28 = .ok (.laload, 1) := by decide +kernel
theorem dX7_squaresAt_29 : decode cX7_squaresAt 29 = .ok (.ldc2_w 168, 3) := by decide +kernel
theorem dX7_squaresAt_32 : decode cX7_squaresAt 32 = .ok (.aload_n 0, 1) := by decide +kernel
theorem dX7_squaresAt_33 : decode cX7_squaresAt 33 = .ok (.getfield 29, 3) := by decide +kernel
theorem dX7_squaresAt_36 : decode cX7_squaresAt 36 = .ok (.iload 4, 2) := by decide +kernel
theorem dX7_squaresAt_38 : decode cX7_squaresAt 38 = .ok (.iload_n 1, 1) := by decide +kernel
theorem dX7_squaresAt_39 : decode cX7_squaresAt 39 = .ok (.iadd, 1) := by decide +kernel
theorem dX7_squaresAt_40 : decode cX7_squaresAt 40 = .ok (.laload, 1) := by decide +kernel
theorem dX7_squaresAt_41 : decode cX7_squaresAt 41 = .ok (.lmul, 1) := by decide +kernel
theorem dX7_squaresAt_42 : decode cX7_squaresAt 42 = .ok (.lsub, 1) := by decide +kernel
theorem dX7_squaresAt_43 : decode cX7_squaresAt 43 = .ok (.aload_n 0, 1) := by decide +kernel
theorem dX7_squaresAt_44 : decode cX7_squaresAt 44 = .ok (.getfield 29, 3) := by decide +kernel
theorem dX7_squaresAt_47 : decode cX7_squaresAt 47 = .ok (.iload 4, 2) := by decide +kernel
theorem dX7_squaresAt_49 : decode cX7_squaresAt 49 = .ok (.laload, 1) := by decide +kernel
theorem dX7_squaresAt_50 : decode cX7_squaresAt 50 = .ok (.ladd, 1) := by decide +kernel
theorem dX7_squaresAt_51 : decode cX7_squaresAt 51 = .ok (.lstore 5, 2) := by decide +kernel
theorem dX7_squaresAt_53 : decode cX7_squaresAt 53 = .ok (.lload_n 2, 1) := by decide +kernel
theorem dX7_squaresAt_54 : decode cX7_squaresAt 54 = .ok (.lload 5, 2) := by decide +kernel
theorem dX7_squaresAt_56 : decode cX7_squaresAt 56 = .ok (.lload 5, 2) := by decide +kernel
theorem dX7_squaresAt_58 : decode cX7_squaresAt 58 = .ok (.lmul, 1) := by decide +kernel
theorem dX7_squaresAt_59 : decode cX7_squaresAt 59 = .ok (.ladd, 1) := by decide +kernel
theorem dX7_squaresAt_60 : decode cX7_squaresAt 60 = .ok (.lstore_n 2, 1) := by decide +kernel
theorem dX7_squaresAt_61 : decode cX7_squaresAt 61 = .ok (.iinc 4 1, 3) := by decide +kernel
theorem dX7_squaresAt_64 : decode cX7_squaresAt 64 = .ok (.goto (-59), 3) := by decide +kernel
theorem dX7_squaresAt_67 : decode cX7_squaresAt 67 = .ok (.aload_n 0, 1) := by decide +kernel
theorem dX7_squaresAt_68 : decode cX7_squaresAt 68 = .ok (.getfield 81, 3) := by decide +kernel
theorem dX7_squaresAt_71 : decode cX7_squaresAt 71 = .ok (.iconst 2, 1) := by decide +kernel
theorem dX7_squaresAt_72 : decode cX7_squaresAt 72 = .ok (.iload_n 1, 1) := by decide +kernel
theorem dX7_squaresAt_73 : decode cX7_squaresAt 73 = .ok (.imul, 1) := by decide +kernel
theorem dX7_squaresAt_74 : decode cX7_squaresAt 74 = .ok (.if_icmp .le 7, 3) := by decide +kernel
theorem dX7_squaresAt_77 : decode cX7_squaresAt 77 = .ok (.lload_n 2, 1) := by decide +kernel
theorem dX7_squaresAt_78 : decode cX7_squaresAt 78 = .ok (.goto 6, 3) := by decide +kernel
theorem dX7_squaresAt_81 : decode cX7_squaresAt 81 = .ok (.ldc2_w 252, 3) := by decide +kernel
theorem dX7_squaresAt_84 : decode cX7_squaresAt 84 = .ok (.lreturn, 1) := by decide +kernel
theorem dX7_weightAt_0 : decode cX7_weightAt 0 = .ok (.ldc2_w 168, 3) := by decide +kernel
theorem dX7_weightAt_3 : decode cX7_weightAt 3 = .ok (.iload_n 1, 1) := by decide +kernel
theorem dX7_weightAt_4 : decode cX7_weightAt 4 = .ok (.i2l, 1) := by decide +kernel
theorem dX7_weightAt_5 : decode cX7_weightAt 5 = .ok (.lmul, 1) := by decide +kernel
theorem dX7_weightAt_6 : decode cX7_weightAt 6 = .ok (.iload_n 1, 1) := by decide +kernel
theorem dX7_weightAt_7 : decode cX7_weightAt 7 = .ok (.i2l, 1) := by decide +kernel
theorem dX7_weightAt_8 : decode cX7_weightAt 8 = .ok (.lmul, 1) := by decide +kernel
theorem dX7_weightAt_9 : decode cX7_weightAt 9 = .ok (.aload_n 0, 1) := by decide +kernel
theorem dX7_weightAt_10 : decode cX7_weightAt 10 = .ok (.getfield 81, 3) := by decide +kernel
theorem dX7_weightAt_13 : decode cX7_weightAt 13 = .ok (.iconst 2, 1) := by decide +kernel
theorem dX7_weightAt_14 : decode cX7_weightAt 14 = .ok (.iload_n 1, 1) := by decide +kernel
theorem dX7_weightAt_15 : decode cX7_weightAt 15 = .ok (.imul, 1) := by decide +kernel
theorem dX7_weightAt_16 : decode cX7_weightAt 16 = .ok (.isub, 1) := by decide +kernel
theorem dX7_weightAt_17 : decode cX7_weightAt 17 = .ok (.i2l, 1) := by decide +kernel
theorem dX7_weightAt_18 : decode cX7_weightAt 18 = .ok (.lmul, 1) := by decide +kernel
theorem dX7_weightAt_19 : decode cX7_weightAt 19 = .ok (.lreturn, 1) := by decide +kernel
theorem dX7_varianceOf_0 : decode cX7_varianceOf 0 = .ok (.aload_n 0, 1) := by decide +kernel
theorem dX7_varianceOf_1 : decode cX7_varianceOf 1 = .ok (.invokevirtual 178, 3) := by decide +kernel
theorem dX7_varianceOf_4 : decode cX7_varianceOf 4 = .ok (.aload_n 0, 1) := by decide +kernel
theorem dX7_varianceOf_5 : decode cX7_varianceOf 5 = .ok (.getfield 81, 3) := by decide +kernel
theorem dX7_varianceOf_8 : decode cX7_varianceOf 8 = .ok (.iconst 2, 1) := by decide +kernel
theorem dX7_varianceOf_9 : decode cX7_varianceOf 9 = .ok (.iload_n 1, 1) := by decide +kernel
theorem dX7_varianceOf_10 : decode cX7_varianceOf 10 = .ok (.imul, 1) := by decide +kernel
theorem dX7_varianceOf_11 : decode cX7_varianceOf 11 = .ok (.if_icmp .le 30, 3) := by decide +kernel
theorem dX7_varianceOf_14 : decode cX7_varianceOf 14 = .ok (.aload_n 0, 1) := by decide +kernel
theorem dX7_varianceOf_15 : decode cX7_varianceOf 15 = .ok (.iload_n 1, 1) := by decide +kernel
theorem dX7_varianceOf_16 : decode cX7_varianceOf 16 = .ok (.invokevirtual 260, 3) := by decide +kernel
theorem dX7_varianceOf_19 : decode cX7_varianceOf 19 = .ok (.aload_n 0, 1) := by decide +kernel
theorem dX7_varianceOf_20 : decode cX7_varianceOf 20 = .ok (.iload_n 1, 1) := by decide +kernel
theorem dX7_varianceOf_21 : decode cX7_varianceOf 21 = .ok (.invokevirtual 263, 3) := by decide +kernel
theorem dX7_varianceOf_24 : decode cX7_varianceOf 24 = .ok (.aload_n 0, 1) := by decide +kernel
theorem dX7_varianceOf_25 : decode cX7_varianceOf 25 = .ok (.getfield 161, 3) := by decide +kernel
theorem dX7_varianceOf_28 : decode cX7_varianceOf 28 = .ok (.lmul, 1) := by decide +kernel
theorem dX7_varianceOf_29 : decode cX7_varianceOf 29 = .ok (.aload_n 0, 1) := by decide +kernel
theorem dX7_varianceOf_30 : decode cX7_varianceOf 30 = .ok (.getfield 161, 3) := by decide +kernel
theorem dX7_varianceOf_33 : decode cX7_varianceOf 33 = .ok (.lmul, 1) := by decide +kernel
theorem dX7_varianceOf_34 : decode cX7_varianceOf 34 = .ok (.iload_n 2, 1) := by decide +kernel
theorem dX7_varianceOf_35 : decode cX7_varianceOf 35 = .ok (.invokestatic 132, 3) := by decide +kernel
theorem dX7_varianceOf_38 : decode cX7_varianceOf 38 = .ok (.goto 8, 3) := by decide +kernel
theorem dX7_varianceOf_41 : decode cX7_varianceOf 41 = .ok (.bipush (-3), 2) := by decide +kernel
theorem dX7_varianceOf_43 : decode cX7_varianceOf 43 = .ok (.invokestatic 126, 3) := by decide +kernel
theorem dX7_varianceOf_46 : decode cX7_varianceOf 46 = .ok (.lreturn, 1) := by decide +kernel
theorem dX7_variance_0 : decode cX7_variance 0 = .ok (.iload_n 1, 1) := by decide +kernel
theorem dX7_variance_1 : decode cX7_variance 1 = .ok (.iconst 1, 1) := by decide +kernel
theorem dX7_variance_2 : decode cX7_variance 2 = .ok (.bipush 15, 2) := by decide +kernel
theorem dX7_variance_4 : decode cX7_variance 4 = .ok (.invokestatic 85, 3) := by decide +kernel
theorem dX7_variance_7 : decode cX7_variance 7 = .ok (.ifCond .eq 21, 3) := by decide +kernel
theorem dX7_variance_10 : decode cX7_variance 10 = .ok (.iload_n 2, 1) := by decide +kernel
theorem dX7_variance_11 : decode cX7_variance 11 = .ok (.iconst 0, 1) := by decide +kernel
theorem dX7_variance_12 : decode cX7_variance 12 = .ok (.iconst 1, 1) := by decide +kernel
theorem dX7_variance_13 : decode cX7_variance 13 = .ok (.invokestatic 85, 3) := by decide +kernel
theorem dX7_variance_16 : decode cX7_variance 16 = .ok (.ifCond .eq 12, 3) := by decide +kernel
theorem dX7_variance_19 : decode cX7_variance 19 = .ok (.aload_n 0, 1) := by decide +kernel
theorem dX7_variance_20 : decode cX7_variance 20 = .ok (.iload_n 1, 1) := by decide +kernel
theorem dX7_variance_21 : decode cX7_variance 21 = .ok (.iload_n 2, 1) := by decide +kernel
theorem dX7_variance_22 : decode cX7_variance 22 = .ok (.invokevirtual 266, 3) := by decide +kernel
theorem dX7_variance_25 : decode cX7_variance 25 = .ok (.goto 8, 3) := by decide +kernel
theorem dX7_variance_28 : decode cX7_variance 28 = .ok (.bipush (-2), 2) := by decide +kernel
theorem dX7_variance_30 : decode cX7_variance 30 = .ok (.invokestatic 126, 3) := by decide +kernel
theorem dX7_variance_33 : decode cX7_variance 33 = .ok (.lreturn, 1) := by decide +kernel
theorem dX7_ranked_0 : decode cX7_ranked 0 = .ok (.aload_n 0, 1) := by decide +kernel
theorem dX7_ranked_1 : decode cX7_ranked 1 = .ok (.getfield 81, 3) := by decide +kernel
theorem dX7_ranked_4 : decode cX7_ranked 4 = .ok (.iconst 3, 1) := by decide +kernel
theorem dX7_ranked_5 : decode cX7_ranked 5 = .ok (.if_icmp .ge 7, 3) := by decide +kernel
theorem dX7_ranked_8 : decode cX7_ranked 8 = .ok (.iconst 0, 1) := by decide +kernel
theorem dX7_ranked_9 : decode cX7_ranked 9 = .ok (.goto 29, 3) := by decide +kernel
theorem dX7_ranked_12 : decode cX7_ranked 12 = .ok (.aload_n 0, 1) := by decide +kernel
theorem dX7_ranked_13 : decode cX7_ranked 13 = .ok (.getfield 81, 3) := by decide +kernel
theorem dX7_ranked_16 : decode cX7_ranked 16 = .ok (.iconst 1, 1) := by decide +kernel
theorem dX7_ranked_17 : decode cX7_ranked 17 = .ok (.isub, 1) := by decide +kernel
theorem dX7_ranked_18 : decode cX7_ranked 18 = .ok (.iconst 2, 1) := by decide +kernel
theorem dX7_ranked_19 : decode cX7_ranked 19 = .ok (.idiv, 1) := by decide +kernel
theorem dX7_ranked_20 : decode cX7_ranked 20 = .ok (.bipush 15, 2) := by decide +kernel
theorem dX7_ranked_22 : decode cX7_ranked 22 = .ok (.if_icmp .le 8, 3) := by decide +kernel
theorem dX7_ranked_25 : decode cX7_ranked 25 = .ok (.bipush 15, 2) := by decide +kernel
theorem dX7_ranked_27 : decode cX7_ranked 27 = .ok (.goto 11, 3) := by decide +kernel
theorem dX7_ranked_30 : decode cX7_ranked 30 = .ok (.aload_n 0, 1) := by decide +kernel
theorem dX7_ranked_31 : decode cX7_ranked 31 = .ok (.getfield 81, 3) := by decide +kernel
theorem dX7_ranked_34 : decode cX7_ranked 34 = .ok (.iconst 1, 1) := by decide +kernel
theorem dX7_ranked_35 : decode cX7_ranked 35 = .ok (.isub, 1) := by decide +kernel
theorem dX7_ranked_36 : decode cX7_ranked 36 = .ok (.iconst 2, 1) := by decide +kernel
theorem dX7_ranked_37 : decode cX7_ranked 37 = .ok (.idiv, 1) := by decide +kernel
theorem dX7_ranked_38 : decode cX7_ranked 38 = .ok (.ireturn, 1) := by decide +kernel
theorem dX7_isLess_0 : decode cX7_isLess 0 = .ok (.aload_n 0, 1) := by decide +kernel
theorem dX7_isLess_1 : decode cX7_isLess 1 = .ok (.iload_n 1, 1) := by decide +kernel
theorem dX7_isLess_2 : decode cX7_isLess 2 = .ok (.invokevirtual 260, 3) := by decide +kernel
theorem dX7_isLess_5 : decode cX7_isLess 5 = .ok (.aload_n 0, 1) := by decide +kernel
theorem dX7_isLess_6 : decode cX7_isLess 6 = .ok (.iload_n 2, 1) := by decide +kernel
theorem dX7_isLess_7 : decode cX7_isLess 7 = .ok (.invokevirtual 263, 3) := by decide +kernel
theorem dX7_isLess_10 : decode cX7_isLess 10 = .ok (.lmul, 1) := by decide +kernel
theorem dX7_isLess_11 : decode cX7_isLess 11 = .ok (.lstore_n 3, 1) := by decide +kernel
theorem dX7_isLess_12 : decode cX7_isLess 12 = .ok (.aload_n 0, 1) := by decide +kernel
theorem dX7_isLess_13 : decode cX7_isLess 13 = .ok (.iload_n 2, 1) := by decide +kernel
theorem dX7_isLess_14 : decode cX7_isLess 14 = .ok (.invokevirtual 260, 3) := by decide +kernel
theorem dX7_isLess_17 : decode cX7_isLess 17 = .ok (.aload_n 0, 1) := by decide +kernel
theorem dX7_isLess_18 : decode cX7_isLess 18 = .ok (.iload_n 1, 1) := by decide +kernel
theorem dX7_isLess_19 : decode cX7_isLess 19 = .ok (.invokevirtual 263, 3) := by decide +kernel
theorem dX7_isLess_22 : decode cX7_isLess 22 = .ok (.lmul, 1) := by decide +kernel
theorem dX7_isLess_23 : decode cX7_isLess 23 = .ok (.lstore 5, 2) := by decide +kernel
theorem dX7_isLess_25 : decode cX7_isLess 25 = .ok (.lload_n 3, 1) := by decide +kernel
theorem dX7_isLess_26 : decode cX7_isLess 26 = .ok (.lload 5, 2) := by decide +kernel
theorem dX7_isLess_28 : decode cX7_isLess 28 = .ok (.lcmp, 1) := by decide +kernel
theorem dX7_isLess_29 : decode cX7_isLess 29 = .ok (.ifCond .lt 15, 3) := by decide +kernel
theorem dX7_isLess_32 : decode cX7_isLess 32 = .ok (.lload_n 3, 1) := by decide +kernel
theorem dX7_isLess_33 : decode cX7_isLess 33 = .ok (.lload 5, 2) := by decide +kernel
theorem dX7_isLess_35 : decode cX7_isLess 35 = .ok (.lcmp, 1) := by decide +kernel
theorem dX7_isLess_36 : decode cX7_isLess 36 = .ok (.ifCond .ne 12, 3) := by decide +kernel
theorem dX7_isLess_39 : decode cX7_isLess 39 = .ok (.iload_n 1, 1) := by decide +kernel
theorem dX7_isLess_40 : decode cX7_isLess 40 = .ok (.iload_n 2, 1) := by decide +kernel
theorem dX7_isLess_41 : decode cX7_isLess 41 = .ok (.if_icmp .ge 7, 3) := by decide +kernel
theorem dX7_isLess_44 : decode cX7_isLess 44 = .ok (.iconst 1, 1) := by decide +kernel
theorem dX7_isLess_45 : decode cX7_isLess 45 = .ok (.goto 4, 3) := by decide +kernel
theorem dX7_isLess_48 : decode cX7_isLess 48 = .ok (.iconst 0, 1) := by decide +kernel
theorem dX7_isLess_49 : decode cX7_isLess 49 = .ok (.ireturn, 1) := by decide +kernel
theorem dX7_rankOf_0 : decode cX7_rankOf 0 = .ok (.aload_n 0, 1) := by decide +kernel
theorem dX7_rankOf_1 : decode cX7_rankOf 1 = .ok (.invokevirtual 178, 3) := by decide +kernel
theorem dX7_rankOf_4 : decode cX7_rankOf 4 = .ok (.bipush (-2), 2) := by decide +kernel
theorem dX7_rankOf_6 : decode cX7_rankOf 6 = .ok (.istore_n 2, 1) := by decide +kernel
theorem dX7_rankOf_7 : decode cX7_rankOf 7 = .ok (.iconst 1, 1) := by decide +kernel
theorem dX7_rankOf_8 : decode cX7_rankOf 8 = .ok (.istore_n 3, 1) := by decide +kernel
theorem dX7_rankOf_9 : decode cX7_rankOf 9 = .ok (.iload_n 3, 1) := by decide +kernel
theorem dX7_rankOf_10 : decode cX7_rankOf 10 = .ok (.aload_n 0, 1) := by decide +kernel
theorem dX7_rankOf_11 : decode cX7_rankOf 11 = .ok (.invokevirtual 269, 3) := by decide +kernel
theorem dX7_rankOf_14 : decode cX7_rankOf 14 = .ok (.if_icmp .gt 68, 3) := by decide +kernel
theorem dX7_rankOf_17 : decode cX7_rankOf 17 = .ok (.iconst 0, 1) := by decide +kernel
theorem dX7_rankOf_18 : decode cX7_rankOf 18 = .ok (.istore 4, 2) := by decide +kernel
theorem dX7_rankOf_20 : decode cX7_rankOf 20 = .ok (.iconst 1, 1) := by decide +kernel
theorem dX7_rankOf_21 : decode cX7_rankOf 21 = .ok (.istore 5, 2) := by decide +kernel
theorem dX7_rankOf_23 : decode cX7_rankOf 23 = .ok (.iload 5, 2) := by decide +kernel
theorem dX7_rankOf_25 : decode cX7_rankOf 25 = .ok (.aload_n 0, 1) := by decide +kernel
theorem dX7_rankOf_26 : decode cX7_rankOf 26 = .ok (.invokevirtual 269, 3) := by decide +kernel
theorem dX7_rankOf_29 : decode cX7_rankOf 29 = .ok (.if_icmp .gt 35, 3) := by decide +kernel
theorem dX7_rankOf_32 : decode cX7_rankOf 32 = .ok (.iload 4, 2) := by decide +kernel
theorem dX7_rankOf_34 : decode cX7_rankOf 34 = .ok (.iload 5, 2) := by decide +kernel
theorem dX7_rankOf_36 : decode cX7_rankOf 36 = .ok (.iload_n 3, 1) := by decide +kernel
theorem dX7_rankOf_37 : decode cX7_rankOf 37 = .ok (.if_icmp .eq 17, 3) := by decide +kernel
theorem dX7_rankOf_40 : decode cX7_rankOf 40 = .ok (.aload_n 0, 1) := by decide +kernel
theorem dX7_rankOf_41 : decode cX7_rankOf 41 = .ok (.iload 5, 2) := by decide +kernel
theorem dX7_rankOf_43 : decode cX7_rankOf 43 = .ok (.iload_n 3, 1) := by decide +kernel
theorem dX7_rankOf_44 : decode cX7_rankOf 44 = .ok (.invokevirtual 272, 3) := by decide +kernel
theorem dX7_rankOf_47 : decode cX7_rankOf 47 = .ok (.ifCond .eq 7, 3) := by decide +kernel
theorem dX7_rankOf_50 : decode cX7_rankOf 50 = .ok (.iconst 1, 1) := by decide +kernel
theorem dX7_rankOf_51 : decode cX7_rankOf 51 = .ok (.goto 4, 3) := by decide +kernel
theorem dX7_rankOf_54 : decode cX7_rankOf 54 = .ok (.iconst 0, 1) := by decide +kernel
theorem dX7_rankOf_55 : decode cX7_rankOf 55 = .ok (.iadd, 1) := by decide +kernel
theorem dX7_rankOf_56 : decode cX7_rankOf 56 = .ok (.istore 4, 2) := by decide +kernel
theorem dX7_rankOf_58 : decode cX7_rankOf 58 = .ok (.iinc 5 1, 3) := by decide +kernel
theorem dX7_rankOf_61 : decode cX7_rankOf 61 = .ok (.goto (-38), 3) := by decide +kernel
theorem dX7_rankOf_64 : decode cX7_rankOf 64 = .ok (.iload 4, 2) := by decide +kernel
theorem dX7_rankOf_66 : decode cX7_rankOf 66 = .ok (.iload_n 1, 1) := by decide +kernel
theorem dX7_rankOf_67 : decode cX7_rankOf 67 = .ok (.if_icmp .ne 7, 3) := by decide +kernel
theorem dX7_rankOf_70 : decode cX7_rankOf 70 = .ok (.iload_n 3, 1) := by decide +kernel
theorem dX7_rankOf_71 : decode cX7_rankOf 71 = .ok (.goto 4, 3) := by decide +kernel
theorem dX7_rankOf_74 : decode cX7_rankOf 74 = .ok (.iload_n 2, 1) := by decide +kernel
theorem dX7_rankOf_75 : decode cX7_rankOf 75 = .ok (.istore_n 2, 1) := by decide +kernel
theorem dX7_rankOf_76 : decode cX7_rankOf 76 = .ok (.iinc 3 1, 3) := by decide +kernel
theorem dX7_rankOf_79 : decode cX7_rankOf 79 = .ok (.goto (-70), 3) := by decide +kernel
theorem dX7_rankOf_82 : decode cX7_rankOf 82 = .ok (.iload_n 2, 1) := by decide +kernel
theorem dX7_rankOf_83 : decode cX7_rankOf 83 = .ok (.ireturn, 1) := by decide +kernel
theorem dX7_rank_0 : decode cX7_rank 0 = .ok (.aload_n 0, 1) := by decide +kernel
theorem dX7_rank_1 : decode cX7_rank 1 = .ok (.iload_n 1, 1) := by decide +kernel
theorem dX7_rank_2 : decode cX7_rank 2 = .ok (.invokevirtual 275, 3) := by decide +kernel
theorem dX7_rank_5 : decode cX7_rank 5 = .ok (.ireturn, 1) := by decide +kernel
theorem dX7_meets_0 : decode cX7_meets 0 = .ok (.aload_n 0, 1) := by decide +kernel
theorem dX7_meets_1 : decode cX7_meets 1 = .ok (.iload_n 1, 1) := by decide +kernel
theorem dX7_meets_2 : decode cX7_meets 2 = .ok (.putfield 278, 3) := by decide +kernel
theorem dX7_meets_5 : decode cX7_meets 5 = .ok (.bipush (-10), 2) := by decide +kernel
theorem dX7_meets_7 : decode cX7_meets 7 = .ok (.iload_n 1, 1) := by decide +kernel
theorem dX7_meets_8 : decode cX7_meets 8 = .ok (.isub, 1) := by decide +kernel
theorem dX7_meets_9 : decode cX7_meets 9 = .ok (.ireturn, 1) := by decide +kernel
theorem dX7_isSheet_0 : decode cX7_isSheet 0 = .ok (.iload_n 0, 1) := by decide +kernel
theorem dX7_isSheet_1 : decode cX7_isSheet 1 = .ok (.iconst 0, 1) := by decide +kernel
theorem dX7_isSheet_2 : decode cX7_isSheet 2 = .ok (.iconst 3, 1) := by decide +kernel
theorem dX7_isSheet_3 : decode cX7_isSheet 3 = .ok (.invokestatic 85, 3) := by decide +kernel
theorem dX7_isSheet_6 : decode cX7_isSheet 6 = .ok (.ireturn, 1) := by decide +kernel
theorem dX7_sheet_0 : decode cX7_sheet 0 = .ok (.iload_n 1, 1) := by decide +kernel
theorem dX7_sheet_1 : decode cX7_sheet 1 = .ok (.invokestatic 281, 3) := by decide +kernel
theorem dX7_sheet_4 : decode cX7_sheet 4 = .ok (.ifCond .eq 18, 3) := by decide +kernel
theorem dX7_sheet_7 : decode cX7_sheet 7 = .ok (.iload_n 2, 1) := by decide +kernel
theorem dX7_sheet_8 : decode cX7_sheet 8 = .ok (.iconst 0, 1) := by decide +kernel
theorem dX7_sheet_9 : decode cX7_sheet 9 = .ok (.iconst 3, 1) := by decide +kernel
theorem dX7_sheet_10 : decode cX7_sheet 10 = .ok (.invokestatic 85, 3) := by decide +kernel
theorem dX7_sheet_13 : decode cX7_sheet 13 = .ok (.ifCond .eq 9, 3) := by decide +kernel
theorem dX7_sheet_16 : decode cX7_sheet 16 = .ok (.iload_n 3, 1) := by decide +kernel
theorem dX7_sheet_17 : decode cX7_sheet 17 = .ok (.bipush 40, 2) := by decide +kernel
theorem dX7_sheet_19 : decode cX7_sheet 19 = .ok (.if_icmp .le 6, 3) := by decide +kernel
theorem dX7_sheet_22 : decode cX7_sheet 22 = .ok (.bipush (-2), 2) := by decide +kernel
theorem dX7_sheet_24 : decode cX7_sheet 24 = .ok (.ireturn, 1) := by decide +kernel
theorem dX7_sheet_25 : decode cX7_sheet 25 = .ok (.iload_n 3, 1) := by decide +kernel
theorem dX7_sheet_26 : decode cX7_sheet 26 = .ok (.ifCond .ge 9, 3) := by decide +kernel
theorem dX7_sheet_29 : decode cX7_sheet 29 = .ok (.aload_n 0, 1) := by decide +kernel
theorem dX7_sheet_30 : decode cX7_sheet 30 = .ok (.iconst 5, 1) := by decide +kernel
theorem dX7_sheet_31 : decode cX7_sheet 31 = .ok (.invokevirtual 284, 3) := by decide +kernel
theorem dX7_sheet_34 : decode cX7_sheet 34 = .ok (.ireturn, 1) := by decide +kernel
theorem dX7_sheet_35 : decode cX7_sheet 35 = .ok (.aload_n 0, 1) := by decide +kernel
theorem dX7_sheet_36 : decode cX7_sheet 36 = .ok (.getfield 51, 3) := by decide +kernel
theorem dX7_sheet_39 : decode cX7_sheet 39 = .ok (.iload_n 1, 1) := by decide +kernel
theorem dX7_sheet_40 : decode cX7_sheet 40 = .ok (.iload_n 2, 1) := by decide +kernel
theorem dX7_sheet_41 : decode cX7_sheet 41 = .ok (.iastore, 1) := by decide +kernel
theorem dX7_sheet_42 : decode cX7_sheet 42 = .ok (.aload_n 0, 1) := by decide +kernel
theorem dX7_sheet_43 : decode cX7_sheet 43 = .ok (.getfield 54, 3) := by decide +kernel
theorem dX7_sheet_46 : decode cX7_sheet 46 = .ok (.iload_n 1, 1) := by decide +kernel
theorem dX7_sheet_47 : decode cX7_sheet 47 = .ok (.iload_n 3, 1) := by decide +kernel
theorem dX7_sheet_48 : decode cX7_sheet 48 = .ok (.iastore, 1) := by decide +kernel
theorem dX7_sheet_49 : decode cX7_sheet 49 = .ok (.bipush 40, 2) := by decide +kernel
theorem dX7_sheet_51 : decode cX7_sheet 51 = .ok (.iload_n 1, 1) := by decide +kernel
theorem dX7_sheet_52 : decode cX7_sheet 52 = .ok (.imul, 1) := by decide +kernel
theorem dX7_sheet_53 : decode cX7_sheet 53 = .ok (.istore 4, 2) := by decide +kernel
theorem dX7_sheet_55 : decode cX7_sheet 55 = .ok (.iload 4, 2) := by decide +kernel
theorem dX7_sheet_57 : decode cX7_sheet 57 = .ok (.bipush 40, 2) := by decide +kernel
theorem dX7_sheet_59 : decode cX7_sheet 59 = .ok (.iload_n 1, 1) := by decide +kernel
theorem dX7_sheet_60 : decode cX7_sheet 60 = .ok (.imul, 1) := by decide +kernel
theorem dX7_sheet_61 : decode cX7_sheet 61 = .ok (.bipush 40, 2) := by decide +kernel
theorem dX7_sheet_63 : decode cX7_sheet 63 = .ok (.iadd, 1) := by decide +kernel
theorem dX7_sheet_64 : decode cX7_sheet 64 = .ok (.if_icmp .ge 33, 3) := by decide +kernel
theorem dX7_sheet_67 : decode cX7_sheet 67 = .ok (.aload_n 0, 1) := by decide +kernel
theorem dX7_sheet_68 : decode cX7_sheet 68 = .ok (.getfield 57, 3) := by decide +kernel
theorem dX7_sheet_71 : decode cX7_sheet 71 = .ok (.iload 4, 2) := by decide +kernel
theorem dX7_sheet_73 : decode cX7_sheet 73 = .ok (.lconst 0, 1) := by decide +kernel
theorem dX7_sheet_74 : decode cX7_sheet 74 = .ok (.lastore, 1) := by decide +kernel
theorem dX7_sheet_75 : decode cX7_sheet 75 = .ok (.aload_n 0, 1) := by decide +kernel
theorem dX7_sheet_76 : decode cX7_sheet 76 = .ok (.getfield 60, 3) := by decide +kernel
theorem dX7_sheet_79 : decode cX7_sheet 79 = .ok (.iload 4, 2) := by decide +kernel
theorem dX7_sheet_81 : decode cX7_sheet 81 = .ok (.dconst 0, 1) := by decide +kernel
theorem dX7_sheet_82 : decode cX7_sheet 82 = .ok (.dastore, 1) := by decide +kernel
theorem dX7_sheet_83 : decode cX7_sheet 83 = .ok (.aload_n 0, 1) := by decide +kernel
theorem dX7_sheet_84 : decode cX7_sheet 84 = .ok (.getfield 64, 3) := by decide +kernel
theorem dX7_sheet_87 : decode cX7_sheet 87 = .ok (.iload 4, 2) := by decide +kernel
theorem dX7_sheet_89 : decode cX7_sheet 89 = .ok (.iconst 0, 1) := by decide +kernel
theorem dX7_sheet_90 : decode cX7_sheet 90 = .ok (.bastore, 1) := by decide +kernel
theorem dX7_sheet_91 : decode cX7_sheet 91 = .ok (.iinc 4 1, 3) := by decide +kernel
theorem dX7_sheet_94 : decode cX7_sheet 94 = .ok (.goto (-39), 3) := by decide +kernel
theorem dX7_sheet_97 : decode cX7_sheet 97 = .ok (.iload_n 3, 1) := by decide +kernel
theorem dX7_sheet_98 : decode cX7_sheet 98 = .ok (.ireturn, 1) := by decide +kernel
theorem dX7_lose_0 : decode cX7_lose 0 = .ok (.iload_n 1, 1) := by decide +kernel
theorem dX7_lose_1 : decode cX7_lose 1 = .ok (.invokestatic 281, 3) := by decide +kernel
theorem dX7_lose_4 : decode cX7_lose 4 = .ok (.ifCond .ne 6, 3) := by decide +kernel
theorem dX7_lose_7 : decode cX7_lose 7 = .ok (.bipush (-2), 2) := by decide +kernel
theorem dX7_lose_9 : decode cX7_lose 9 = .ok (.ireturn, 1) := by decide +kernel
theorem dX7_lose_10 : decode cX7_lose 10 = .ok (.aload_n 0, 1) := by decide +kernel
theorem dX7_lose_11 : decode cX7_lose 11 = .ok (.getfield 51, 3) := by decide +kernel
theorem dX7_lose_14 : decode cX7_lose 14 = .ok (.iload_n 1, 1) := by decide +kernel
theorem dX7_lose_15 : decode cX7_lose 15 = .ok (.iaload, 1) := by decide +kernel
theorem dX7_lose_16 : decode cX7_lose 16 = .ok (.iconst (-1), 1) := by decide +kernel
theorem dX7_lose_17 : decode cX7_lose 17 = .ok (.if_icmp .ne 9, 3) := by decide +kernel
theorem dX7_lose_20 : decode cX7_lose 20 = .ok (.aload_n 0, 1) := by decide +kernel
theorem dX7_lose_21 : decode cX7_lose 21 = .ok (.iconst 1, 1) := by decide +kernel
theorem dX7_lose_22 : decode cX7_lose 22 = .ok (.invokevirtual 284, 3) := by decide +kernel
theorem dX7_lose_25 : decode cX7_lose 25 = .ok (.ireturn, 1) := by decide +kernel
theorem dX7_lose_26 : decode cX7_lose 26 = .ok (.aload_n 0, 1) := by decide +kernel
theorem dX7_lose_27 : decode cX7_lose 27 = .ok (.getfield 51, 3) := by decide +kernel
theorem dX7_lose_30 : decode cX7_lose 30 = .ok (.iload_n 1, 1) := by decide +kernel
theorem dX7_lose_31 : decode cX7_lose 31 = .ok (.iconst (-1), 1) := by decide +kernel
theorem dX7_lose_32 : decode cX7_lose 32 = .ok (.iastore, 1) := by decide +kernel
theorem dX7_lose_33 : decode cX7_lose 33 = .ok (.aload_n 0, 1) := by decide +kernel
theorem dX7_lose_34 : decode cX7_lose 34 = .ok (.getfield 54, 3) := by decide +kernel
theorem dX7_lose_37 : decode cX7_lose 37 = .ok (.iload_n 1, 1) := by decide +kernel
theorem dX7_lose_38 : decode cX7_lose 38 = .ok (.iaload, 1) := by decide +kernel
theorem dX7_lose_39 : decode cX7_lose 39 = .ok (.ireturn, 1) := by decide +kernel
theorem dX7_hasItem_0 : decode cX7_hasItem 0 = .ok (.iload_n 2, 1) := by decide +kernel
theorem dX7_hasItem_1 : decode cX7_hasItem 1 = .ok (.iconst 0, 1) := by decide +kernel
theorem dX7_hasItem_2 : decode cX7_hasItem 2 = .ok (.aload_n 0, 1) := by decide +kernel
theorem dX7_hasItem_3 : decode cX7_hasItem 3 = .ok (.getfield 54, 3) := by decide +kernel
theorem dX7_hasItem_6 : decode cX7_hasItem 6 = .ok (.iload_n 1, 1) := by decide +kernel
theorem dX7_hasItem_7 : decode cX7_hasItem 7 = .ok (.iaload, 1) := by decide +kernel
theorem dX7_hasItem_8 : decode cX7_hasItem 8 = .ok (.iconst 1, 1) := by decide +kernel
theorem dX7_hasItem_9 : decode cX7_hasItem 9 = .ok (.isub, 1) := by decide +kernel
theorem dX7_hasItem_10 : decode cX7_hasItem 10 = .ok (.invokestatic 85, 3) := by decide +kernel
theorem dX7_hasItem_13 : decode cX7_hasItem 13 = .ok (.ireturn, 1) := by decide +kernel
theorem dX7_keeps_0 : decode cX7_keeps 0 = .ok (.aload_n 0, 1) := by decide +kernel
theorem dX7_keeps_1 : decode cX7_keeps 1 = .ok (.getfield 60, 3) := by decide +kernel
theorem dX7_keeps_4 : decode cX7_keeps 4 = .ok (.iload_n 1, 1) := by decide +kernel
theorem dX7_keeps_5 : decode cX7_keeps 5 = .ok (.dload_n 2, 1) := by decide +kernel
theorem dX7_keeps_6 : decode cX7_keeps 6 = .ok (.dastore, 1) := by decide +kernel
theorem dX7_keeps_7 : decode cX7_keeps 7 = .ok (.aload_n 0, 1) := by decide +kernel
theorem dX7_keeps_8 : decode cX7_keeps 8 = .ok (.getfield 64, 3) := by decide +kernel
theorem dX7_keeps_11 : decode cX7_keeps 11 = .ok (.iload_n 1, 1) := by decide +kernel
theorem dX7_keeps_12 : decode cX7_keeps 12 = .ok (.iconst 0, 1) := by decide +kernel
theorem dX7_keeps_13 : decode cX7_keeps 13 = .ok (.bastore, 1) := by decide +kernel
theorem dX7_keeps_14 : decode cX7_keeps 14 = .ok (.return_, 1) := by decide +kernel
theorem dX7_put_0 : decode cX7_put 0 = .ok (.iload_n 1, 1) := by decide +kernel
theorem dX7_put_1 : decode cX7_put 1 = .ok (.invokestatic 281, 3) := by decide +kernel
theorem dX7_put_4 : decode cX7_put 4 = .ok (.ifCond .eq 12, 3) := by decide +kernel
theorem dX7_put_7 : decode cX7_put 7 = .ok (.iload_n 2, 1) := by decide +kernel
theorem dX7_put_8 : decode cX7_put 8 = .ok (.iconst 0, 1) := by decide +kernel
theorem dX7_put_9 : decode cX7_put 9 = .ok (.iconst 3, 1) := by decide +kernel
theorem dX7_put_10 : decode cX7_put 10 = .ok (.invokestatic 85, 3) := by decide +kernel
theorem dX7_put_13 : decode cX7_put 13 = .ok (.ifCond .ne 6, 3) := by decide +kernel
theorem dX7_put_16 : decode cX7_put 16 = .ok (.bipush (-2), 2) := by decide +kernel
theorem dX7_put_18 : decode cX7_put 18 = .ok (.ireturn, 1) := by decide +kernel
theorem dX7_put_19 : decode cX7_put 19 = .ok (.aload_n 0, 1) := by decide +kernel
theorem dX7_put_20 : decode cX7_put 20 = .ok (.getfield 51, 3) := by decide +kernel
theorem dX7_put_23 : decode cX7_put 23 = .ok (.iload_n 1, 1) := by decide +kernel
theorem dX7_put_24 : decode cX7_put 24 = .ok (.iaload, 1) := by decide +kernel
theorem dX7_put_25 : decode cX7_put 25 = .ok (.iconst (-1), 1) := by decide +kernel
theorem dX7_put_26 : decode cX7_put 26 = .ok (.if_icmp .ne 7, 3) := by decide +kernel
theorem dX7_put_29 : decode cX7_put 29 = .ok (.iconst 1, 1) := by decide +kernel
theorem dX7_put_30 : decode cX7_put 30 = .ok (.goto 31, 3) := by decide +kernel
theorem dX7_put_33 : decode cX7_put 33 = .ok (.aload_n 0, 1) := by decide +kernel
theorem dX7_put_34 : decode cX7_put 34 = .ok (.getfield 51, 3) := by decide +kernel
theorem dX7_put_37 : decode cX7_put 37 = .ok (.iload_n 1, 1) := by decide +kernel
theorem dX7_put_38 : decode cX7_put 38 = .ok (.iaload, 1) := by decide +kernel
theorem dX7_put_39 : decode cX7_put 39 = .ok (.iload_n 2, 1) := by decide +kernel
theorem dX7_put_40 : decode cX7_put 40 = .ok (.if_icmp .eq 7, 3) := by decide +kernel
theorem dX7_put_43 : decode cX7_put 43 = .ok (.iconst 3, 1) := by decide +kernel
theorem dX7_put_44 : decode cX7_put 44 = .ok (.goto 17, 3) := by decide +kernel
theorem dX7_put_47 : decode cX7_put 47 = .ok (.aload_n 0, 1) := by decide +kernel
theorem dX7_put_48 : decode cX7_put 48 = .ok (.iload_n 1, 1) := by decide +kernel
theorem dX7_put_49 : decode cX7_put 49 = .ok (.iload_n 3, 1) := by decide +kernel
theorem dX7_put_50 : decode cX7_put 50 = .ok (.invokevirtual 287, 3) := by decide +kernel
theorem dX7_put_53 : decode cX7_put 53 = .ok (.ifCond .eq 7, 3) := by decide +kernel
theorem dX7_put_56 : decode cX7_put 56 = .ok (.iconst 0, 1) := by decide +kernel
theorem dX7_put_57 : decode cX7_put 57 = .ok (.goto 4, 3) := by decide +kernel
theorem dX7_put_60 : decode cX7_put 60 = .ok (.iconst 2, 1) := by decide +kernel
theorem dX7_put_61 : decode cX7_put 61 = .ok (.istore 5, 2) := by decide +kernel
theorem dX7_put_63 : decode cX7_put 63 = .ok (.iload 5, 2) := by decide +kernel
theorem dX7_put_65 : decode cX7_put 65 = .ok (.ifCond .le 10, 3) := by decide +kernel
theorem dX7_put_68 : decode cX7_put 68 = .ok (.aload_n 0, 1) := by decide +kernel
theorem dX7_put_69 : decode cX7_put 69 = .ok (.iload 5, 2) := by decide +kernel
theorem dX7_put_71 : decode cX7_put 71 = .ok (.invokevirtual 284, 3) := by decide +kernel
theorem dX7_put_74 : decode cX7_put 74 = .ok (.ireturn, 1) := by decide +kernel
theorem dX7_put_75 : decode cX7_put 75 = .ok (.aload_n 0, 1) := by decide +kernel
theorem dX7_put_76 : decode cX7_put 76 = .ok (.getfield 57, 3) := by decide +kernel
theorem dX7_put_79 : decode cX7_put 79 = .ok (.bipush 40, 2) := by decide +kernel
theorem dX7_put_81 : decode cX7_put 81 = .ok (.iload_n 1, 1) := by decide +kernel
theorem dX7_put_82 : decode cX7_put 82 = .ok (.imul, 1) := by decide +kernel
theorem dX7_put_83 : decode cX7_put 83 = .ok (.iload_n 3, 1) := by decide +kernel
theorem dX7_put_84 : decode cX7_put 84 = .ok (.iadd, 1) := by decide +kernel
theorem dX7_put_85 : decode cX7_put 85 = .ok (.iload_n 2, 1) := by decide +kernel
theorem dX7_put_86 : decode cX7_put 86 = .ok (.iconst 1, 1) := by decide +kernel
theorem dX7_put_87 : decode cX7_put 87 = .ok (.if_icmp .ne 13, 3) := by decide +kernel
theorem dX7_put_90 : decode cX7_put 90 = .ok (.iload 4, 2) := by decide +kernel
theorem dX7_put_92 : decode cX7_put 92 = .ok (.i2l, 1) := by decide +kernel
theorem dX7_put_93 : decode cX7_put 93 = .ok (.ldc2_w 290, 3) := by decide +kernel
theorem dX7_put_96 : decode cX7_put 96 = .ok (.lmul, 1) := by decide +kernel
theorem dX7_put_97 : decode cX7_put 97 = .ok (.goto 6, 3) := by decide +kernel
theorem dX7_put_100 : decode cX7_put 100 = .ok (.iload 4, 2) := by decide +kernel
theorem dX7_put_102 : decode cX7_put 102 = .ok (.i2l, 1) := by decide +kernel
theorem dX7_put_103 : decode cX7_put 103 = .ok (.lastore, 1) := by decide +kernel
theorem dX7_put_104 : decode cX7_put 104 = .ok (.aload_n 0, 1) := by decide +kernel
theorem dX7_put_105 : decode cX7_put 105 = .ok (.bipush 40, 2) := by decide +kernel
theorem dX7_put_107 : decode cX7_put 107 = .ok (.iload_n 1, 1) := by decide +kernel
theorem dX7_put_108 : decode cX7_put 108 = .ok (.imul, 1) := by decide +kernel
theorem dX7_put_109 : decode cX7_put 109 = .ok (.iload_n 3, 1) := by decide +kernel
theorem dX7_put_110 : decode cX7_put 110 = .ok (.iadd, 1) := by decide +kernel
theorem dX7_put_111 : decode cX7_put 111 = .ok (.iload_n 2, 1) := by decide +kernel
theorem dX7_put_112 : decode cX7_put 112 = .ok (.iconst 2, 1) := by decide +kernel
theorem dX7_put_113 : decode cX7_put 113 = .ok (.if_icmp .ne 14, 3) := by decide +kernel
theorem dX7_put_116 : decode cX7_put 116 = .ok (.iload 4, 2) := by decide +kernel
theorem dX7_put_118 : decode cX7_put 118 = .ok (.i2f, 1) := by decide +kernel
theorem dX7_put_119 : decode cX7_put 119 = .ok (.ldc_w 292, 3) := by decide +kernel
theorem dX7_put_122 : decode cX7_put 122 = .ok (.fdiv, 1) := by decide +kernel
theorem dX7_put_123 : decode cX7_put 123 = .ok (.f2d, 1) := by decide +kernel
theorem dX7_put_124 : decode cX7_put 124 = .ok (.goto 10, 3) := by decide +kernel
theorem dX7_put_127 : decode cX7_put 127 = .ok (.iload 4, 2) := by decide +kernel
theorem dX7_put_129 : decode cX7_put 129 = .ok (.i2d, 1) := by decide +kernel
theorem dX7_put_130 : decode cX7_put 130 = .ok (.ldc2_w 293, 3) := by decide +kernel
theorem dX7_put_133 : decode cX7_put 133 = .ok (.ddiv, 1) := by decide +kernel
theorem dX7_put_134 : decode cX7_put 134 = .ok (.invokevirtual 295, 3) := by decide +kernel
theorem dX7_put_137 : decode cX7_put 137 = .ok (.iconst 1, 1) := by decide +kernel
theorem dX7_put_138 : decode cX7_put 138 = .ok (.ireturn, 1) := by decide +kernel
theorem dX7_blank_0 : decode cX7_blank 0 = .ok (.iload_n 1, 1) := by decide +kernel
theorem dX7_blank_1 : decode cX7_blank 1 = .ok (.invokestatic 281, 3) := by decide +kernel
theorem dX7_blank_4 : decode cX7_blank 4 = .ok (.ifCond .ne 6, 3) := by decide +kernel
theorem dX7_blank_7 : decode cX7_blank 7 = .ok (.bipush (-2), 2) := by decide +kernel
theorem dX7_blank_9 : decode cX7_blank 9 = .ok (.ireturn, 1) := by decide +kernel
theorem dX7_blank_10 : decode cX7_blank 10 = .ok (.aload_n 0, 1) := by decide +kernel
theorem dX7_blank_11 : decode cX7_blank 11 = .ok (.getfield 51, 3) := by decide +kernel
theorem dX7_blank_14 : decode cX7_blank 14 = .ok (.iload_n 1, 1) := by decide +kernel
theorem dX7_blank_15 : decode cX7_blank 15 = .ok (.iaload, 1) := by decide +kernel
theorem dX7_blank_16 : decode cX7_blank 16 = .ok (.iconst (-1), 1) := by decide +kernel
theorem dX7_blank_17 : decode cX7_blank 17 = .ok (.if_icmp .ne 7, 3) := by decide +kernel
theorem dX7_blank_20 : decode cX7_blank 20 = .ok (.iconst 1, 1) := by decide +kernel
theorem dX7_blank_21 : decode cX7_blank 21 = .ok (.goto 31, 3) := by decide +kernel
theorem dX7_blank_24 : decode cX7_blank 24 = .ok (.aload_n 0, 1) := by decide +kernel
theorem dX7_blank_25 : decode cX7_blank 25 = .ok (.getfield 51, 3) := by decide +kernel
theorem dX7_blank_28 : decode cX7_blank 28 = .ok (.iload_n 1, 1) := by decide +kernel
theorem dX7_blank_29 : decode cX7_blank 29 = .ok (.iaload, 1) := by decide +kernel
theorem dX7_blank_30 : decode cX7_blank 30 = .ok (.iconst 2, 1) := by decide +kernel
theorem dX7_blank_31 : decode cX7_blank 31 = .ok (.if_icmp .ge 7, 3) := by decide +kernel
theorem dX7_blank_34 : decode cX7_blank 34 = .ok (.iconst 3, 1) := by decide +kernel
theorem dX7_blank_35 : decode cX7_blank 35 = .ok (.goto 17, 3) := by decide +kernel
theorem dX7_blank_38 : decode cX7_blank 38 = .ok (.aload_n 0, 1) := by decide +kernel
theorem dX7_blank_39 : decode cX7_blank 39 = .ok (.iload_n 1, 1) := by decide +kernel
theorem dX7_blank_40 : decode cX7_blank 40 = .ok (.iload_n 2, 1) := by decide +kernel
theorem dX7_blank_41 : decode cX7_blank 41 = .ok (.invokevirtual 287, 3) := by decide +kernel
theorem dX7_blank_44 : decode cX7_blank 44 = .ok (.ifCond .eq 7, 3) := by decide +kernel
theorem dX7_blank_47 : decode cX7_blank 47 = .ok (.iconst 0, 1) := by decide +kernel
theorem dX7_blank_48 : decode cX7_blank 48 = .ok (.goto 4, 3) := by decide +kernel
theorem dX7_blank_51 : decode cX7_blank 51 = .ok (.iconst 2, 1) := by decide +kernel
theorem dX7_blank_52 : decode cX7_blank 52 = .ok (.istore_n 3, 1) := by decide +kernel
theorem dX7_blank_53 : decode cX7_blank 53 = .ok (.iload_n 3, 1) := by decide +kernel
theorem dX7_blank_54 : decode cX7_blank 54 = .ok (.ifCond .le 9, 3) := by decide +kernel
theorem dX7_blank_57 : decode cX7_blank 57 = .ok (.aload_n 0, 1) := by decide +kernel
theorem dX7_blank_58 : decode cX7_blank 58 = .ok (.iload_n 3, 1) := by decide +kernel
theorem dX7_blank_59 : decode cX7_blank 59 = .ok (.invokevirtual 284, 3) := by decide +kernel
theorem dX7_blank_62 : decode cX7_blank 62 = .ok (.ireturn, 1) := by decide +kernel
theorem dX7_blank_63 : decode cX7_blank 63 = .ok (.aload_n 0, 1) := by decide +kernel
theorem dX7_blank_64 : decode cX7_blank 64 = .ok (.getfield 64, 3) := by decide +kernel
theorem dX7_blank_67 : decode cX7_blank 67 = .ok (.bipush 40, 2) := by decide +kernel
theorem dX7_blank_69 : decode cX7_blank 69 = .ok (.iload_n 1, 1) := by decide +kernel
theorem dX7_blank_70 : decode cX7_blank 70 = .ok (.imul, 1) := by decide +kernel
theorem dX7_blank_71 : decode cX7_blank 71 = .ok (.iload_n 2, 1) := by decide +kernel
theorem dX7_blank_72 : decode cX7_blank 72 = .ok (.iadd, 1) := by decide +kernel
theorem dX7_blank_73 : decode cX7_blank 73 = .ok (.iconst 1, 1) := by decide +kernel
theorem dX7_blank_74 : decode cX7_blank 74 = .ok (.bastore, 1) := by decide +kernel
theorem dX7_blank_75 : decode cX7_blank 75 = .ok (.iconst 1, 1) := by decide +kernel
theorem dX7_blank_76 : decode cX7_blank 76 = .ok (.ireturn, 1) := by decide +kernel
theorem dX7_itemOf_0 : decode cX7_itemOf 0 = .ok (.bipush 40, 2) := by decide +kernel
theorem dX7_itemOf_2 : decode cX7_itemOf 2 = .ok (.iload_n 1, 1) := by decide +kernel
theorem dX7_itemOf_3 : decode cX7_itemOf 3 = .ok (.imul, 1) := by decide +kernel
theorem dX7_itemOf_4 : decode cX7_itemOf 4 = .ok (.iload_n 2, 1) := by decide +kernel
theorem dX7_itemOf_5 : decode cX7_itemOf 5 = .ok (.iadd, 1) := by decide +kernel
theorem dX7_itemOf_6 : decode cX7_itemOf 6 = .ok (.istore_n 3, 1) := by decide +kernel
theorem dX7_itemOf_7 : decode cX7_itemOf 7 = .ok (.aload_n 0, 1) := by decide +kernel
theorem dX7_itemOf_8 : decode cX7_itemOf 8 = .ok (.getfield 51, 3) := by decide +kernel
theorem dX7_itemOf_11 : decode cX7_itemOf 11 = .ok (.iload_n 1, 1) := by decide +kernel
theorem dX7_itemOf_12 : decode cX7_itemOf 12 = .ok (.iaload, 1) := by decide +kernel
theorem dX7_itemOf_13 : decode cX7_itemOf 13 = .ok (.iconst 2, 1) := by decide +kernel
theorem dX7_itemOf_14 : decode cX7_itemOf 14 = .ok (.if_icmp .ge 12, 3) := by decide +kernel
theorem dX7_itemOf_17 : decode cX7_itemOf 17 = .ok (.aload_n 0, 1) := by decide +kernel
theorem dX7_itemOf_18 : decode cX7_itemOf 18 = .ok (.getfield 57, 3) := by decide +kernel
theorem dX7_itemOf_21 : decode cX7_itemOf 21 = .ok (.iload_n 3, 1) := by decide +kernel
theorem dX7_itemOf_22 : decode cX7_itemOf 22 = .ok (.laload, 1) := by decide +kernel
theorem dX7_itemOf_23 : decode cX7_itemOf 23 = .ok (.goto 30, 3) := by decide +kernel
theorem dX7_itemOf_26 : decode cX7_itemOf 26 = .ok (.aload_n 0, 1) := by decide +kernel
theorem dX7_itemOf_27 : decode cX7_itemOf 27 = .ok (.getfield 64, 3) := by decide +kernel
theorem dX7_itemOf_30 : decode cX7_itemOf 30 = .ok (.iload_n 3, 1) := by decide +kernel
theorem dX7_itemOf_31 : decode cX7_itemOf 31 = .ok (.baload, 1) := by decide +kernel
theorem dX7_itemOf_32 : decode cX7_itemOf 32 = .ok (.ifCond .eq 10, 3) := by decide +kernel
theorem dX7_itemOf_35 : decode cX7_itemOf 35 = .ok (.iconst (-1), 1) := by decide +kernel
theorem dX7_itemOf_36 : decode cX7_itemOf 36 = .ok (.invokestatic 126, 3) := by decide +kernel
theorem dX7_itemOf_39 : decode cX7_itemOf 39 = .ok (.goto 14, 3) := by decide +kernel
theorem dX7_itemOf_42 : decode cX7_itemOf 42 = .ok (.ldc2_w 293, 3) := by decide +kernel
theorem dX7_itemOf_45 : decode cX7_itemOf 45 = .ok (.aload_n 0, 1) := by decide +kernel
theorem dX7_itemOf_46 : decode cX7_itemOf 46 = .ok (.getfield 60, 3) := by decide +kernel
theorem dX7_itemOf_49 : decode cX7_itemOf 49 = .ok (.iload_n 3, 1) := by decide +kernel
theorem dX7_itemOf_50 : decode cX7_itemOf 50 = .ok (.daload, 1) := by decide +kernel
theorem dX7_itemOf_51 : decode cX7_itemOf 51 = .ok (.dmul, 1) := by decide +kernel
theorem dX7_itemOf_52 : decode cX7_itemOf 52 = .ok (.d2l, 1) := by decide +kernel
theorem dX7_itemOf_53 : decode cX7_itemOf 53 = .ok (.lreturn, 1) := by decide +kernel
theorem dX7_get_0 : decode cX7_get 0 = .ok (.iload_n 1, 1) := by decide +kernel
theorem dX7_get_1 : decode cX7_get 1 = .ok (.invokestatic 281, 3) := by decide +kernel
theorem dX7_get_4 : decode cX7_get 4 = .ok (.ifCond .ne 9, 3) := by decide +kernel
theorem dX7_get_7 : decode cX7_get 7 = .ok (.bipush (-2), 2) := by decide +kernel
theorem dX7_get_9 : decode cX7_get 9 = .ok (.invokestatic 126, 3) := by decide +kernel
theorem dX7_get_12 : decode cX7_get 12 = .ok (.lreturn, 1) := by decide +kernel
theorem dX7_get_13 : decode cX7_get 13 = .ok (.aload_n 0, 1) := by decide +kernel
theorem dX7_get_14 : decode cX7_get 14 = .ok (.getfield 51, 3) := by decide +kernel
theorem dX7_get_17 : decode cX7_get 17 = .ok (.iload_n 1, 1) := by decide +kernel
theorem dX7_get_18 : decode cX7_get 18 = .ok (.iaload, 1) := by decide +kernel
theorem dX7_get_19 : decode cX7_get 19 = .ok (.iconst (-1), 1) := by decide +kernel
theorem dX7_get_20 : decode cX7_get 20 = .ok (.if_icmp .ne 7, 3) := by decide +kernel
theorem dX7_get_23 : decode cX7_get 23 = .ok (.iconst 1, 1) := by decide +kernel
theorem dX7_get_24 : decode cX7_get 24 = .ok (.goto 17, 3) := by decide +kernel
theorem dX7_get_27 : decode cX7_get 27 = .ok (.aload_n 0, 1) := by decide +kernel
theorem dX7_get_28 : decode cX7_get 28 = .ok (.iload_n 1, 1) := by decide +kernel
theorem dX7_get_29 : decode cX7_get 29 = .ok (.iload_n 2, 1) := by decide +kernel
theorem dX7_get_30 : decode cX7_get 30 = .ok (.invokevirtual 287, 3) := by decide +kernel
theorem dX7_get_33 : decode cX7_get 33 = .ok (.ifCond .eq 7, 3) := by decide +kernel
theorem dX7_get_36 : decode cX7_get 36 = .ok (.iconst 0, 1) := by decide +kernel
theorem dX7_get_37 : decode cX7_get 37 = .ok (.goto 4, 3) := by decide +kernel
theorem dX7_get_40 : decode cX7_get 40 = .ok (.iconst 2, 1) := by decide +kernel
theorem dX7_get_41 : decode cX7_get 41 = .ok (.istore_n 3, 1) := by decide +kernel
theorem dX7_get_42 : decode cX7_get 42 = .ok (.iload_n 3, 1) := by decide +kernel
theorem dX7_get_43 : decode cX7_get 43 = .ok (.ifCond .le 14, 3) := by decide +kernel
theorem dX7_get_46 : decode cX7_get 46 = .ok (.aload_n 0, 1) := by decide +kernel
theorem dX7_get_47 : decode cX7_get 47 = .ok (.iload_n 3, 1) := by decide +kernel
theorem dX7_get_48 : decode cX7_get 48 = .ok (.invokevirtual 284, 3) := by decide +kernel
theorem dX7_get_51 : decode cX7_get 51 = .ok (.invokestatic 126, 3) := by decide +kernel
theorem dX7_get_54 : decode cX7_get 54 = .ok (.goto 9, 3) := by decide +kernel
theorem dX7_get_57 : decode cX7_get 57 = .ok (.aload_n 0, 1) := by decide +kernel
theorem dX7_get_58 : decode cX7_get 58 = .ok (.iload_n 1, 1) := by decide +kernel
theorem dX7_get_59 : decode cX7_get 59 = .ok (.iload_n 2, 1) := by decide +kernel
theorem dX7_get_60 : decode cX7_get 60 = .ok (.invokevirtual 299, 3) := by decide +kernel
theorem dX7_get_63 : decode cX7_get 63 = .ok (.lreturn, 1) := by decide +kernel
theorem dX7_copy_0 : decode cX7_copy 0 = .ok (.iload_n 1, 1) := by decide +kernel
theorem dX7_copy_1 : decode cX7_copy 1 = .ok (.invokestatic 281, 3) := by decide +kernel
theorem dX7_copy_4 : decode cX7_copy 4 = .ok (.ifCond .eq 10, 3) := by decide +kernel
theorem dX7_copy_7 : decode cX7_copy 7 = .ok (.iload_n 3, 1) := by decide +kernel
theorem dX7_copy_8 : decode cX7_copy 8 = .ok (.invokestatic 281, 3) := by decide +kernel
theorem dX7_copy_11 : decode cX7_copy 11 = .ok (.ifCond .ne 6, 3) := by decide +kernel
theorem dX7_copy_14 : decode cX7_copy 14 = .ok (.bipush (-2), 2) := by decide +kernel
theorem dX7_copy_16 : decode cX7_copy 16 = .ok (.ireturn, 1) := by decide +kernel
theorem dX7_copy_17 : decode cX7_copy 17 = .ok (.aload_n 0, 1) := by decide +kernel
theorem dX7_copy_18 : decode cX7_copy 18 = .ok (.getfield 51, 3) := by decide +kernel
theorem dX7_copy_21 : decode cX7_copy 21 = .ok (.iload_n 1, 1) := by decide +kernel
theorem dX7_copy_22 : decode cX7_copy 22 = .ok (.iaload, 1) := by decide +kernel
theorem dX7_copy_23 : decode cX7_copy 23 = .ok (.iconst (-1), 1) := by decide +kernel
theorem dX7_copy_24 : decode cX7_copy 24 = .ok (.if_icmp .eq 13, 3) := by decide +kernel
theorem dX7_copy_27 : decode cX7_copy 27 = .ok (.aload_n 0, 1) := by decide +kernel
theorem dX7_copy_28 : decode cX7_copy 28 = .ok (.getfield 51, 3) := by decide +kernel
theorem dX7_copy_31 : decode cX7_copy 31 = .ok (.iload_n 3, 1) := by decide +kernel
theorem dX7_copy_32 : decode cX7_copy 32 = .ok (.iaload, 1) := by decide +kernel
theorem dX7_copy_33 : decode cX7_copy 33 = .ok (.iconst (-1), 1) := by decide +kernel
theorem dX7_copy_34 : decode cX7_copy 34 = .ok (.if_icmp .ne 9, 3) := by decide +kernel
theorem dX7_copy_37 : decode cX7_copy 37 = .ok (.aload_n 0, 1) := by decide +kernel
theorem dX7_copy_38 : decode cX7_copy 38 = .ok (.iconst 1, 1) := by decide +kernel
theorem dX7_copy_39 : decode cX7_copy 39 = .ok (.invokevirtual 284, 3) := by decide +kernel
theorem dX7_copy_42 : decode cX7_copy 42 = .ok (.ireturn, 1) := by decide +kernel
theorem dX7_copy_43 : decode cX7_copy 43 = .ok (.aload_n 0, 1) := by decide +kernel
theorem dX7_copy_44 : decode cX7_copy 44 = .ok (.getfield 51, 3) := by decide +kernel
theorem dX7_copy_47 : decode cX7_copy 47 = .ok (.iload_n 1, 1) := by decide +kernel
theorem dX7_copy_48 : decode cX7_copy 48 = .ok (.iaload, 1) := by decide +kernel
theorem dX7_copy_49 : decode cX7_copy 49 = .ok (.aload_n 0, 1) := by decide +kernel
theorem dX7_copy_50 : decode cX7_copy 50 = .ok (.getfield 51, 3) := by decide +kernel
theorem dX7_copy_53 : decode cX7_copy 53 = .ok (.iload_n 3, 1) := by decide +kernel
theorem dX7_copy_54 : decode cX7_copy 54 = .ok (.iaload, 1) := by decide +kernel
theorem dX7_copy_55 : decode cX7_copy 55 = .ok (.if_icmp .eq 9, 3) := by decide +kernel
theorem dX7_copy_58 : decode cX7_copy 58 = .ok (.aload_n 0, 1) := by decide +kernel
theorem dX7_copy_59 : decode cX7_copy 59 = .ok (.iconst 4, 1) := by decide +kernel
theorem dX7_copy_60 : decode cX7_copy 60 = .ok (.invokevirtual 284, 3) := by decide +kernel
theorem dX7_copy_63 : decode cX7_copy 63 = .ok (.ireturn, 1) := by decide +kernel
theorem dX7_copy_64 : decode cX7_copy 64 = .ok (.iload_n 2, 1) := by decide +kernel
theorem dX7_copy_65 : decode cX7_copy 65 = .ok (.ifCond .lt 48, 3) := by decide +kernel
theorem dX7_copy_68 : decode cX7_copy 68 = .ok (.iload 4, 2) := by decide +kernel
theorem dX7_copy_70 : decode cX7_copy 70 = .ok (.ifCond .lt 43, 3) := by decide +kernel
theorem dX7_copy_73 : decode cX7_copy 73 = .ok (.iload 5, 2) := by decide +kernel
theorem dX7_copy_75 : decode cX7_copy 75 = .ok (.ifCond .lt 38, 3) := by decide +kernel
theorem dX7_copy_78 : decode cX7_copy 78 = .ok (.iload_n 2, 1) := by decide +kernel
theorem dX7_copy_79 : decode cX7_copy 79 = .ok (.i2l, 1) := by decide +kernel
theorem dX7_copy_80 : decode cX7_copy 80 = .ok (.iload 5, 2) := by decide +kernel
theorem dX7_copy_82 : decode cX7_copy 82 = .ok (.i2l, 1) := by decide +kernel
theorem dX7_copy_83 : decode cX7_copy 83 = .ok (.ladd, 1) := by decide +kernel
theorem dX7_copy_84 : decode cX7_copy 84 = .ok (.aload_n 0, 1) := by decide +kernel
theorem dX7_copy_85 : decode cX7_copy 85 = .ok (.getfield 54, 3) := by decide +kernel
theorem dX7_copy_88 : decode cX7_copy 88 = .ok (.iload_n 1, 1) := by decide +kernel
theorem dX7_copy_89 : decode cX7_copy 89 = .ok (.iaload, 1) := by decide +kernel
theorem dX7_copy_90 : decode cX7_copy 90 = .ok (.i2l, 1) := by decide +kernel
theorem dX7_copy_91 : decode cX7_copy 91 = .ok (.lcmp, 1) := by decide +kernel
theorem dX7_copy_92 : decode cX7_copy 92 = .ok (.ifCond .gt 21, 3) := by decide +kernel
theorem dX7_copy_95 : decode cX7_copy 95 = .ok (.iload 4, 2) := by decide +kernel
theorem dX7_copy_97 : decode cX7_copy 97 = .ok (.i2l, 1) := by decide +kernel
theorem dX7_copy_98 : decode cX7_copy 98 = .ok (.iload 5, 2) := by decide +kernel
theorem dX7_copy_100 : decode cX7_copy 100 = .ok (.i2l, 1) := by decide +kernel
theorem dX7_copy_101 : decode cX7_copy 101 = .ok (.ladd, 1) := by decide +kernel
theorem dX7_copy_102 : decode cX7_copy 102 = .ok (.aload_n 0, 1) := by decide +kernel
theorem dX7_copy_103 : decode cX7_copy 103 = .ok (.getfield 54, 3) := by decide +kernel
theorem dX7_copy_106 : decode cX7_copy 106 = .ok (.iload_n 3, 1) := by decide +kernel
theorem dX7_copy_107 : decode cX7_copy 107 = .ok (.iaload, 1) := by decide +kernel
theorem dX7_copy_108 : decode cX7_copy 108 = .ok (.i2l, 1) := by decide +kernel
theorem dX7_copy_109 : decode cX7_copy 109 = .ok (.lcmp, 1) := by decide +kernel
theorem dX7_copy_110 : decode cX7_copy 110 = .ok (.ifCond .le 9, 3) := by decide +kernel
theorem dX7_copy_113 : decode cX7_copy 113 = .ok (.aload_n 0, 1) := by decide +kernel
theorem dX7_copy_114 : decode cX7_copy 114 = .ok (.iconst 2, 1) := by decide +kernel
theorem dX7_copy_115 : decode cX7_copy 115 = .ok (.invokevirtual 284, 3) := by decide +kernel
theorem dX7_copy_118 : decode cX7_copy 118 = .ok (.ireturn, 1) := by decide +kernel
theorem dX7_copy_119 : decode cX7_copy 119 = .ok (.iconst 0, 1) := by decide +kernel
theorem dX7_copy_120 : decode cX7_copy 120 = .ok (.istore 6, 2) := by decide +kernel
theorem dX7_copy_122 : decode cX7_copy 122 = .ok (.iload 6, 2) := by decide +kernel
theorem dX7_copy_124 : decode cX7_copy 124 = .ok (.iload 5, 2) := by decide +kernel
theorem dX7_copy_126 : decode cX7_copy 126 = .ok (.if_icmp .ge 72, 3) := by decide +kernel
theorem dX7_copy_129 : decode cX7_copy 129 = .ok (.aload_n 0, 1) := by decide +kernel
theorem dX7_copy_130 : decode cX7_copy 130 = .ok (.getfield 67, 3) := by decide +kernel
theorem dX7_copy_133 : decode cX7_copy 133 = .ok (.iload 6, 2) := by decide +kernel
theorem dX7_copy_135 : decode cX7_copy 135 = .ok (.aload_n 0, 1) := by decide +kernel
theorem dX7_copy_136 : decode cX7_copy 136 = .ok (.getfield 57, 3) := by decide +kernel
theorem dX7_copy_139 : decode cX7_copy 139 = .ok (.bipush 40, 2) := by decide +kernel
theorem dX7_copy_141 : decode cX7_copy 141 = .ok (.iload_n 1, 1) := by decide +kernel
theorem dX7_copy_142 : decode cX7_copy 142 = .ok (.imul, 1) := by decide +kernel
theorem dX7_copy_143 : decode cX7_copy 143 = .ok (.iload_n 2, 1) := by decide +kernel
theorem dX7_copy_144 : decode cX7_copy 144 = .ok (.iadd, 1) := by decide +kernel
theorem dX7_copy_145 : decode cX7_copy 145 = .ok (.iload 6, 2) := by decide +kernel
theorem dX7_copy_147 : decode cX7_copy 147 = .ok (.iadd, 1) := by decide +kernel
theorem dX7_copy_148 : decode cX7_copy 148 = .ok (.laload, 1) := by decide +kernel
theorem dX7_copy_149 : decode cX7_copy 149 = .ok (.lastore, 1) := by decide +kernel
theorem dX7_copy_150 : decode cX7_copy 150 = .ok (.aload_n 0, 1) := by decide +kernel
theorem dX7_copy_151 : decode cX7_copy 151 = .ok (.getfield 70, 3) := by decide +kernel
theorem dX7_copy_154 : decode cX7_copy 154 = .ok (.iload 6, 2) := by decide +kernel
theorem dX7_copy_156 : decode cX7_copy 156 = .ok (.aload_n 0, 1) := by decide +kernel
theorem dX7_copy_157 : decode cX7_copy 157 = .ok (.getfield 60, 3) := by decide +kernel
theorem dX7_copy_160 : decode cX7_copy 160 = .ok (.bipush 40, 2) := by decide +kernel
theorem dX7_copy_162 : decode cX7_copy 162 = .ok (.iload_n 1, 1) := by decide +kernel
theorem dX7_copy_163 : decode cX7_copy 163 = .ok (.imul, 1) := by decide +kernel
theorem dX7_copy_164 : decode cX7_copy 164 = .ok (.iload_n 2, 1) := by decide +kernel
theorem dX7_copy_165 : decode cX7_copy 165 = .ok (.iadd, 1) := by decide +kernel
theorem dX7_copy_166 : decode cX7_copy 166 = .ok (.iload 6, 2) := by decide +kernel
theorem dX7_copy_168 : decode cX7_copy 168 = .ok (.iadd, 1) := by decide +kernel
theorem dX7_copy_169 : decode cX7_copy 169 = .ok (.daload, 1) := by decide +kernel
theorem dX7_copy_170 : decode cX7_copy 170 = .ok (.dastore, 1) := by decide +kernel
theorem dX7_copy_171 : decode cX7_copy 171 = .ok (.aload_n 0, 1) := by decide +kernel
theorem dX7_copy_172 : decode cX7_copy 172 = .ok (.getfield 73, 3) := by decide +kernel
theorem dX7_copy_175 : decode cX7_copy 175 = .ok (.iload 6, 2) := by decide +kernel
theorem dX7_copy_177 : decode cX7_copy 177 = .ok (.aload_n 0, 1) := by decide +kernel
theorem dX7_copy_178 : decode cX7_copy 178 = .ok (.getfield 64, 3) := by decide +kernel
theorem dX7_copy_181 : decode cX7_copy 181 = .ok (.bipush 40, 2) := by decide +kernel
theorem dX7_copy_183 : decode cX7_copy 183 = .ok (.iload_n 1, 1) := by decide +kernel
theorem dX7_copy_184 : decode cX7_copy 184 = .ok (.imul, 1) := by decide +kernel
theorem dX7_copy_185 : decode cX7_copy 185 = .ok (.iload_n 2, 1) := by decide +kernel
theorem dX7_copy_186 : decode cX7_copy 186 = .ok (.iadd, 1) := by decide +kernel
theorem dX7_copy_187 : decode cX7_copy 187 = .ok (.iload 6, 2) := by decide +kernel
theorem dX7_copy_189 : decode cX7_copy 189 = .ok (.iadd, 1) := by decide +kernel
theorem dX7_copy_190 : decode cX7_copy 190 = .ok (.baload, 1) := by decide +kernel
theorem dX7_copy_191 : decode cX7_copy 191 = .ok (.bastore, 1) := by decide +kernel
theorem dX7_copy_192 : decode cX7_copy 192 = .ok (.iinc 6 1, 3) := by decide +kernel
theorem dX7_copy_195 : decode cX7_copy 195 = .ok (.goto (-73), 3) := by decide +kernel
theorem dX7_copy_198 : decode cX7_copy 198 = .ok (.iconst 0, 1) := by decide +kernel
theorem dX7_copy_199 : decode cX7_copy 199 = .ok (.istore 6, 2) := by decide +kernel
theorem dX7_copy_201 : decode cX7_copy 201 = .ok (.iload 6, 2) := by decide +kernel
theorem dX7_copy_203 : decode cX7_copy 203 = .ok (.iload 5, 2) := by decide +kernel
theorem dX7_copy_205 : decode cX7_copy 205 = .ok (.if_icmp .ge 75, 3) := by decide +kernel
theorem dX7_copy_208 : decode cX7_copy 208 = .ok (.aload_n 0, 1) := by decide +kernel
theorem dX7_copy_209 : decode cX7_copy 209 = .ok (.getfield 57, 3) := by decide +kernel
theorem dX7_copy_212 : decode cX7_copy 212 = .ok (.bipush 40, 2) := by decide +kernel
theorem dX7_copy_214 : decode cX7_copy 214 = .ok (.iload_n 3, 1) := by decide +kernel
theorem dX7_copy_215 : decode cX7_copy 215 = .ok (.imul, 1) := by decide +kernel
theorem dX7_copy_216 : decode cX7_copy 216 = .ok (.iload 4, 2) := by decide +kernel
theorem dX7_copy_218 : decode cX7_copy 218 = .ok (.iadd, 1) := by decide +kernel
theorem dX7_copy_219 : decode cX7_copy 219 = .ok (.iload 6, 2) := by decide +kernel
theorem dX7_copy_221 : decode cX7_copy 221 = .ok (.iadd, 1) := by decide +kernel
theorem dX7_copy_222 : decode cX7_copy 222 = .ok (.aload_n 0, 1) := by decide +kernel
theorem dX7_copy_223 : decode cX7_copy 223 = .ok (.getfield 67, 3) := by decide +kernel
theorem dX7_copy_226 : decode cX7_copy 226 = .ok (.iload 6, 2) := by decide +kernel
theorem dX7_copy_228 : decode cX7_copy 228 = .ok (.laload, 1) := by decide +kernel
theorem dX7_copy_229 : decode cX7_copy 229 = .ok (.lastore, 1) := by decide +kernel
theorem dX7_copy_230 : decode cX7_copy 230 = .ok (.aload_n 0, 1) := by decide +kernel
theorem dX7_copy_231 : decode cX7_copy 231 = .ok (.getfield 60, 3) := by decide +kernel
theorem dX7_copy_234 : decode cX7_copy 234 = .ok (.bipush 40, 2) := by decide +kernel
theorem dX7_copy_236 : decode cX7_copy 236 = .ok (.iload_n 3, 1) := by decide +kernel
theorem dX7_copy_237 : decode cX7_copy 237 = .ok (.imul, 1) := by decide +kernel
theorem dX7_copy_238 : decode cX7_copy 238 = .ok (.iload 4, 2) := by decide +kernel
theorem dX7_copy_240 : decode cX7_copy 240 = .ok (.iadd, 1) := by decide +kernel
theorem dX7_copy_241 : decode cX7_copy 241 = .ok (.iload 6, 2) := by decide +kernel
theorem dX7_copy_243 : decode cX7_copy 243 = .ok (.iadd, 1) := by decide +kernel
theorem dX7_copy_244 : decode cX7_copy 244 = .ok (.aload_n 0, 1) := by decide +kernel
theorem dX7_copy_245 : decode cX7_copy 245 = .ok (.getfield 70, 3) := by decide +kernel
theorem dX7_copy_248 : decode cX7_copy 248 = .ok (.iload 6, 2) := by decide +kernel
theorem dX7_copy_250 : decode cX7_copy 250 = .ok (.daload, 1) := by decide +kernel
theorem dX7_copy_251 : decode cX7_copy 251 = .ok (.dastore, 1) := by decide +kernel
theorem dX7_copy_252 : decode cX7_copy 252 = .ok (.aload_n 0, 1) := by decide +kernel
theorem dX7_copy_253 : decode cX7_copy 253 = .ok (.getfield 64, 3) := by decide +kernel
theorem dX7_copy_256 : decode cX7_copy 256 = .ok (.bipush 40, 2) := by decide +kernel
theorem dX7_copy_258 : decode cX7_copy 258 = .ok (.iload_n 3, 1) := by decide +kernel
theorem dX7_copy_259 : decode cX7_copy 259 = .ok (.imul, 1) := by decide +kernel
theorem dX7_copy_260 : decode cX7_copy 260 = .ok (.iload 4, 2) := by decide +kernel
theorem dX7_copy_262 : decode cX7_copy 262 = .ok (.iadd, 1) := by decide +kernel
theorem dX7_copy_263 : decode cX7_copy 263 = .ok (.iload 6, 2) := by decide +kernel
theorem dX7_copy_265 : decode cX7_copy 265 = .ok (.iadd, 1) := by decide +kernel
theorem dX7_copy_266 : decode cX7_copy 266 = .ok (.aload_n 0, 1) := by decide +kernel
theorem dX7_copy_267 : decode cX7_copy 267 = .ok (.getfield 73, 3) := by decide +kernel
theorem dX7_copy_270 : decode cX7_copy 270 = .ok (.iload 6, 2) := by decide +kernel
theorem dX7_copy_272 : decode cX7_copy 272 = .ok (.baload, 1) := by decide +kernel
theorem dX7_copy_273 : decode cX7_copy 273 = .ok (.bastore, 1) := by decide +kernel
theorem dX7_copy_274 : decode cX7_copy 274 = .ok (.iinc 6 1, 3) := by decide +kernel
theorem dX7_copy_277 : decode cX7_copy 277 = .ok (.goto (-76), 3) := by decide +kernel
theorem dX7_copy_280 : decode cX7_copy 280 = .ok (.iconst 1, 1) := by decide +kernel
theorem dX7_copy_281 : decode cX7_copy 281 = .ok (.ireturn, 1) := by decide +kernel
theorem dX7_write_0 : decode cX7_write 0 = .ok (.iload_n 1, 1) := by decide +kernel
theorem dX7_write_1 : decode cX7_write 1 = .ok (.invokestatic 281, 3) := by decide +kernel
theorem dX7_write_4 : decode cX7_write 4 = .ok (.ifCond .ne 6, 3) := by decide +kernel
theorem dX7_write_7 : decode cX7_write 7 = .ok (.bipush (-2), 2) := by decide +kernel
theorem dX7_write_9 : decode cX7_write 9 = .ok (.ireturn, 1) := by decide +kernel
theorem dX7_write_10 : decode cX7_write 10 = .ok (.aload_n 0, 1) := by decide +kernel
theorem dX7_write_11 : decode cX7_write 11 = .ok (.getfield 51, 3) := by decide +kernel
theorem dX7_write_14 : decode cX7_write 14 = .ok (.iload_n 1, 1) := by decide +kernel
theorem dX7_write_15 : decode cX7_write 15 = .ok (.iaload, 1) := by decide +kernel
theorem dX7_write_16 : decode cX7_write 16 = .ok (.iconst (-1), 1) := by decide +kernel
theorem dX7_write_17 : decode cX7_write 17 = .ok (.if_icmp .eq 13, 3) := by decide +kernel
theorem dX7_write_20 : decode cX7_write 20 = .ok (.aload_n 0, 1) := by decide +kernel
theorem dX7_write_21 : decode cX7_write 21 = .ok (.getfield 51, 3) := by decide +kernel
theorem dX7_write_24 : decode cX7_write 24 = .ok (.iload_n 1, 1) := by decide +kernel
theorem dX7_write_25 : decode cX7_write 25 = .ok (.iaload, 1) := by decide +kernel
theorem dX7_write_26 : decode cX7_write 26 = .ok (.iconst 3, 1) := by decide +kernel
theorem dX7_write_27 : decode cX7_write 27 = .ok (.if_icmp .eq 23, 3) := by decide +kernel
theorem dX7_write_30 : decode cX7_write 30 = .ok (.aload_n 0, 1) := by decide +kernel
theorem dX7_write_31 : decode cX7_write 31 = .ok (.aload_n 0, 1) := by decide +kernel
theorem dX7_write_32 : decode cX7_write 32 = .ok (.getfield 51, 3) := by decide +kernel
theorem dX7_write_35 : decode cX7_write 35 = .ok (.iload_n 1, 1) := by decide +kernel
theorem dX7_write_36 : decode cX7_write 36 = .ok (.iaload, 1) := by decide +kernel
theorem dX7_write_37 : decode cX7_write 37 = .ok (.iconst (-1), 1) := by decide +kernel
theorem dX7_write_38 : decode cX7_write 38 = .ok (.if_icmp .ne 7, 3) := by decide +kernel
theorem dX7_write_41 : decode cX7_write 41 = .ok (.iconst 1, 1) := by decide +kernel
theorem dX7_write_42 : decode cX7_write 42 = .ok (.goto 4, 3) := by decide +kernel
theorem dX7_write_45 : decode cX7_write 45 = .ok (.iconst 3, 1) := by decide +kernel
theorem dX7_write_46 : decode cX7_write 46 = .ok (.invokevirtual 284, 3) := by decide +kernel
theorem dX7_write_49 : decode cX7_write 49 = .ok (.ireturn, 1) := by decide +kernel
theorem dX7_write_50 : decode cX7_write 50 = .ok (.iconst 0, 1) := by decide +kernel
theorem dX7_write_51 : decode cX7_write 51 = .ok (.istore_n 2, 1) := by decide +kernel
theorem dX7_write_52 : decode cX7_write 52 = .ok (.iconst 1, 1) := by decide +kernel
theorem dX7_write_53 : decode cX7_write 53 = .ok (.istore_n 3, 1) := by decide +kernel
theorem dX7_write_54 : decode cX7_write 54 = .ok (.iload_n 3, 1) := by decide +kernel
theorem dX7_write_55 : decode cX7_write 55 = .ok (.bipush 15, 2) := by decide +kernel
theorem dX7_write_57 : decode cX7_write 57 = .ok (.if_icmp .gt 108, 3) := by decide +kernel
theorem dX7_write_60 : decode cX7_write 60 = .ok (.iload_n 3, 1) := by decide +kernel
theorem dX7_write_61 : decode cX7_write 61 = .ok (.aload_n 0, 1) := by decide +kernel
theorem dX7_write_62 : decode cX7_write 62 = .ok (.getfield 54, 3) := by decide +kernel
theorem dX7_write_65 : decode cX7_write 65 = .ok (.iload_n 1, 1) := by decide +kernel
theorem dX7_write_66 : decode cX7_write 66 = .ok (.iaload, 1) := by decide +kernel
theorem dX7_write_67 : decode cX7_write 67 = .ok (.if_icmp .gt 98, 3) := by decide +kernel
theorem dX7_write_70 : decode cX7_write 70 = .ok (.aload_n 0, 1) := by decide +kernel
theorem dX7_write_71 : decode cX7_write 71 = .ok (.getfield 81, 3) := by decide +kernel
theorem dX7_write_74 : decode cX7_write 74 = .ok (.iconst 2, 1) := by decide +kernel
theorem dX7_write_75 : decode cX7_write 75 = .ok (.iload_n 3, 1) := by decide +kernel
theorem dX7_write_76 : decode cX7_write 76 = .ok (.imul, 1) := by decide +kernel
theorem dX7_write_77 : decode cX7_write 77 = .ok (.if_icmp .le 7, 3) := by decide +kernel
theorem dX7_write_80 : decode cX7_write 80 = .ok (.iconst 1, 1) := by decide +kernel
theorem dX7_write_81 : decode cX7_write 81 = .ok (.goto 4, 3) := by decide +kernel
theorem dX7_write_84 : decode cX7_write 84 = .ok (.iconst 0, 1) := by decide +kernel
theorem dX7_write_85 : decode cX7_write 85 = .ok (.istore 4, 2) := by decide +kernel
theorem dX7_write_87 : decode cX7_write 87 = .ok (.aload_n 0, 1) := by decide +kernel
theorem dX7_write_88 : decode cX7_write 88 = .ok (.bipush 40, 2) := by decide +kernel
theorem dX7_write_90 : decode cX7_write 90 = .ok (.iload_n 1, 1) := by decide +kernel
theorem dX7_write_91 : decode cX7_write 91 = .ok (.imul, 1) := by decide +kernel
theorem dX7_write_92 : decode cX7_write 92 = .ok (.iload_n 3, 1) := by decide +kernel
theorem dX7_write_93 : decode cX7_write 93 = .ok (.iadd, 1) := by decide +kernel
theorem dX7_write_94 : decode cX7_write 94 = .ok (.iconst 1, 1) := by decide +kernel
theorem dX7_write_95 : decode cX7_write 95 = .ok (.isub, 1) := by decide +kernel
theorem dX7_write_96 : decode cX7_write 96 = .ok (.iload 4, 2) := by decide +kernel
theorem dX7_write_98 : decode cX7_write 98 = .ok (.ifCond .eq 21, 3) := by decide +kernel
theorem dX7_write_101 : decode cX7_write 101 = .ok (.aload_n 0, 1) := by decide +kernel
theorem dX7_write_102 : decode cX7_write 102 = .ok (.iload_n 3, 1) := by decide +kernel
theorem dX7_write_103 : decode cX7_write 103 = .ok (.iconst 0, 1) := by decide +kernel
theorem dX7_write_104 : decode cX7_write 104 = .ok (.invokevirtual 266, 3) := by decide +kernel
theorem dX7_write_107 : decode cX7_write 107 = .ok (.l2d, 1) := by decide +kernel
theorem dX7_write_108 : decode cX7_write 108 = .ok (.aload_n 0, 1) := by decide +kernel
theorem dX7_write_109 : decode cX7_write 109 = .ok (.iload_n 3, 1) := by decide +kernel
theorem dX7_write_110 : decode cX7_write 110 = .ok (.iconst 1, 1) := by decide +kernel
theorem dX7_write_111 : decode cX7_write 111 = .ok (.invokevirtual 266, 3) := by decide +kernel
theorem dX7_write_114 : decode cX7_write 114 = .ok (.l2d, 1) := by decide +kernel
theorem dX7_write_115 : decode cX7_write 115 = .ok (.ddiv, 1) := by decide +kernel
theorem dX7_write_116 : decode cX7_write 116 = .ok (.goto 4, 3) := by decide +kernel
theorem dX7_write_119 : decode cX7_write 119 = .ok (.dconst 0, 1) := by decide +kernel
theorem dX7_write_120 : decode cX7_write 120 = .ok (.invokevirtual 295, 3) := by decide +kernel
theorem dX7_write_123 : decode cX7_write 123 = .ok (.aload_n 0, 1) := by decide +kernel
theorem dX7_write_124 : decode cX7_write 124 = .ok (.getfield 64, 3) := by decide +kernel
theorem dX7_write_127 : decode cX7_write 127 = .ok (.bipush 40, 2) := by decide +kernel
theorem dX7_write_129 : decode cX7_write 129 = .ok (.iload_n 1, 1) := by decide +kernel
theorem dX7_write_130 : decode cX7_write 130 = .ok (.imul, 1) := by decide +kernel
theorem dX7_write_131 : decode cX7_write 131 = .ok (.iload_n 3, 1) := by decide +kernel
theorem dX7_write_132 : decode cX7_write 132 = .ok (.iadd, 1) := by decide +kernel
theorem dX7_write_133 : decode cX7_write 133 = .ok (.iconst 1, 1) := by decide +kernel
theorem dX7_write_134 : decode cX7_write 134 = .ok (.isub, 1) := by decide +kernel
theorem dX7_write_135 : decode cX7_write 135 = .ok (.iload 4, 2) := by decide +kernel
theorem dX7_write_137 : decode cX7_write 137 = .ok (.ifCond .ne 7, 3) := by decide +kernel
theorem dX7_write_140 : decode cX7_write 140 = .ok (.iconst 1, 1) := by decide +kernel
theorem dX7_write_141 : decode cX7_write 141 = .ok (.goto 4, 3) := by decide +kernel
theorem dX7_write_144 : decode cX7_write 144 = .ok (.iconst 0, 1) := by decide +kernel
theorem dX7_write_145 : decode cX7_write 145 = .ok (.bastore, 1) := by decide +kernel
theorem dX7_write_146 : decode cX7_write 146 = .ok (.iload_n 2, 1) := by decide +kernel
theorem dX7_write_147 : decode cX7_write 147 = .ok (.iload 4, 2) := by decide +kernel
theorem dX7_write_149 : decode cX7_write 149 = .ok (.ifCond .eq 7, 3) := by decide +kernel
theorem dX7_write_152 : decode cX7_write 152 = .ok (.iconst 1, 1) := by decide +kernel
theorem dX7_write_153 : decode cX7_write 153 = .ok (.goto 4, 3) := by decide +kernel
theorem dX7_write_156 : decode cX7_write 156 = .ok (.iconst 0, 1) := by decide +kernel
theorem dX7_write_157 : decode cX7_write 157 = .ok (.iadd, 1) := by decide +kernel
theorem dX7_write_158 : decode cX7_write 158 = .ok (.istore_n 2, 1) := by decide +kernel
theorem dX7_write_159 : decode cX7_write 159 = .ok (.iinc 3 1, 3) := by decide +kernel
theorem dX7_write_162 : decode cX7_write 162 = .ok (.goto (-108), 3) := by decide +kernel
theorem dX7_write_165 : decode cX7_write 165 = .ok (.iload_n 2, 1) := by decide +kernel
theorem dX7_write_166 : decode cX7_write 166 = .ok (.ireturn, 1) := by decide +kernel
theorem dX7_foundOf_0 : decode cX7_foundOf 0 = .ok (.iconst (-1), 1) := by decide +kernel
theorem dX7_foundOf_1 : decode cX7_foundOf 1 = .ok (.istore_n 3, 1) := by decide +kernel
theorem dX7_foundOf_2 : decode cX7_foundOf 2 = .ok (.iconst 0, 1) := by decide +kernel
theorem dX7_foundOf_3 : decode cX7_foundOf 3 = .ok (.istore 4, 2) := by decide +kernel
theorem dX7_foundOf_5 : decode cX7_foundOf 5 = .ok (.iconst 0, 1) := by decide +kernel
theorem dX7_foundOf_6 : decode cX7_foundOf 6 = .ok (.istore 5, 2) := by decide +kernel
theorem dX7_foundOf_8 : decode cX7_foundOf 8 = .ok (.iload 5, 2) := by decide +kernel
theorem dX7_foundOf_10 : decode cX7_foundOf 10 = .ok (.aload_n 0, 1) := by decide +kernel
theorem dX7_foundOf_11 : decode cX7_foundOf 11 = .ok (.getfield 54, 3) := by decide +kernel
theorem dX7_foundOf_14 : decode cX7_foundOf 14 = .ok (.iload_n 1, 1) := by decide +kernel
theorem dX7_foundOf_15 : decode cX7_foundOf 15 = .ok (.iaload, 1) := by decide +kernel
theorem dX7_foundOf_16 : decode cX7_foundOf 16 = .ok (.if_icmp .ge 123, 3) := by decide +kernel
theorem dX7_foundOf_19 : decode cX7_foundOf 19 = .ok (.bipush 40, 2) := by decide +kernel
theorem dX7_foundOf_21 : decode cX7_foundOf 21 = .ok (.iload_n 1, 1) := by decide +kernel
theorem dX7_foundOf_22 : decode cX7_foundOf 22 = .ok (.imul, 1) := by decide +kernel
theorem dX7_foundOf_23 : decode cX7_foundOf 23 = .ok (.iload 5, 2) := by decide +kernel
theorem dX7_foundOf_25 : decode cX7_foundOf 25 = .ok (.iadd, 1) := by decide +kernel
theorem dX7_foundOf_26 : decode cX7_foundOf 26 = .ok (.istore 6, 2) := by decide +kernel
theorem dX7_foundOf_28 : decode cX7_foundOf 28 = .ok (.iload 4, 2) := by decide +kernel
theorem dX7_foundOf_30 : decode cX7_foundOf 30 = .ok (.aload_n 0, 1) := by decide +kernel
theorem dX7_foundOf_31 : decode cX7_foundOf 31 = .ok (.getfield 64, 3) := by decide +kernel
theorem dX7_foundOf_34 : decode cX7_foundOf 34 = .ok (.iload 6, 2) := by decide +kernel
theorem dX7_foundOf_36 : decode cX7_foundOf 36 = .ok (.baload, 1) := by decide +kernel
theorem dX7_foundOf_37 : decode cX7_foundOf 37 = .ok (.ifCond .eq 7, 3) := by decide +kernel
theorem dX7_foundOf_40 : decode cX7_foundOf 40 = .ok (.iconst 1, 1) := by decide +kernel
theorem dX7_foundOf_41 : decode cX7_foundOf 41 = .ok (.goto 4, 3) := by decide +kernel
theorem dX7_foundOf_44 : decode cX7_foundOf 44 = .ok (.iconst 0, 1) := by decide +kernel
theorem dX7_foundOf_45 : decode cX7_foundOf 45 = .ok (.iadd, 1) := by decide +kernel
theorem dX7_foundOf_46 : decode cX7_foundOf 46 = .ok (.istore 4, 2) := by decide +kernel
theorem dX7_foundOf_48 : decode cX7_foundOf 48 = .ok (.aload_n 0, 1) := by decide +kernel
theorem dX7_foundOf_49 : decode cX7_foundOf 49 = .ok (.getfield 64, 3) := by decide +kernel
theorem dX7_foundOf_52 : decode cX7_foundOf 52 = .ok (.iload 6, 2) := by decide +kernel
theorem dX7_foundOf_54 : decode cX7_foundOf 54 = .ok (.baload, 1) := by decide +kernel
theorem dX7_foundOf_55 : decode cX7_foundOf 55 = .ok (.ifCond .ne 63, 3) := by decide +kernel
theorem dX7_foundOf_58 : decode cX7_foundOf 58 = .ok (.iload_n 3, 1) := by decide +kernel
theorem dX7_foundOf_59 : decode cX7_foundOf 59 = .ok (.iconst (-1), 1) := by decide +kernel
theorem dX7_foundOf_60 : decode cX7_foundOf 60 = .ok (.if_icmp .eq 54, 3) := by decide +kernel
theorem dX7_foundOf_63 : decode cX7_foundOf 63 = .ok (.iload_n 2, 1) := by decide +kernel
theorem dX7_foundOf_64 : decode cX7_foundOf 64 = .ok (.ifCond .ne 28, 3) := by decide +kernel
theorem dX7_foundOf_67 : decode cX7_foundOf 67 = .ok (.aload_n 0, 1) := by decide +kernel
theorem dX7_foundOf_68 : decode cX7_foundOf 68 = .ok (.getfield 60, 3) := by decide +kernel
theorem dX7_foundOf_71 : decode cX7_foundOf 71 = .ok (.iload 6, 2) := by decide +kernel
theorem dX7_foundOf_73 : decode cX7_foundOf 73 = .ok (.daload, 1) := by decide +kernel
theorem dX7_foundOf_74 : decode cX7_foundOf 74 = .ok (.aload_n 0, 1) := by decide +kernel
theorem dX7_foundOf_75 : decode cX7_foundOf 75 = .ok (.getfield 60, 3) := by decide +kernel
theorem dX7_foundOf_78 : decode cX7_foundOf 78 = .ok (.bipush 40, 2) := by decide +kernel
theorem dX7_foundOf_80 : decode cX7_foundOf 80 = .ok (.iload_n 1, 1) := by decide +kernel
theorem dX7_foundOf_81 : decode cX7_foundOf 81 = .ok (.imul, 1) := by decide +kernel
theorem dX7_foundOf_82 : decode cX7_foundOf 82 = .ok (.iload_n 3, 1) := by decide +kernel
theorem dX7_foundOf_83 : decode cX7_foundOf 83 = .ok (.iadd, 1) := by decide +kernel
theorem dX7_foundOf_84 : decode cX7_foundOf 84 = .ok (.daload, 1) := by decide +kernel
theorem dX7_foundOf_85 : decode cX7_foundOf 85 = .ok (.dcmp .g, 1) := by decide +kernel
theorem dX7_foundOf_86 : decode cX7_foundOf 86 = .ok (.ifCond .ge 32, 3) := by decide +kernel
theorem dX7_foundOf_89 : decode cX7_foundOf 89 = .ok (.goto 25, 3) := by decide +kernel
theorem dX7_foundOf_92 : decode cX7_foundOf 92 = .ok (.aload_n 0, 1) := by decide +kernel
theorem dX7_foundOf_93 : decode cX7_foundOf 93 = .ok (.getfield 60, 3) := by decide +kernel
theorem dX7_foundOf_96 : decode cX7_foundOf 96 = .ok (.iload 6, 2) := by decide +kernel
theorem dX7_foundOf_98 : decode cX7_foundOf 98 = .ok (.daload, 1) := by decide +kernel
theorem dX7_foundOf_99 : decode cX7_foundOf 99 = .ok (.aload_n 0, 1) := by decide +kernel
theorem dX7_foundOf_100 : decode cX7_foundOf 100 = .ok (.getfield 60, 3) := by decide +kernel
theorem dX7_foundOf_103 : decode cX7_foundOf 103 = .ok (.bipush 40, 2) := by decide +kernel
theorem dX7_foundOf_105 : decode cX7_foundOf 105 = .ok (.iload_n 1, 1) := by decide +kernel
theorem dX7_foundOf_106 : decode cX7_foundOf 106 = .ok (.imul, 1) := by decide +kernel
theorem dX7_foundOf_107 : decode cX7_foundOf 107 = .ok (.iload_n 3, 1) := by decide +kernel
theorem dX7_foundOf_108 : decode cX7_foundOf 108 = .ok (.iadd, 1) := by decide +kernel
theorem dX7_foundOf_109 : decode cX7_foundOf 109 = .ok (.daload, 1) := by decide +kernel
theorem dX7_foundOf_110 : decode cX7_foundOf 110 = .ok (.dcmp .l, 1) := by decide +kernel
theorem dX7_foundOf_111 : decode cX7_foundOf 111 = .ok (.ifCond .le 7, 3) := by decide +kernel
theorem dX7_foundOf_114 : decode cX7_foundOf 114 = .ok (.iconst 1, 1) := by decide +kernel
theorem dX7_foundOf_115 : decode cX7_foundOf 115 = .ok (.goto 4, 3) := by decide +kernel
theorem dX7_foundOf_118 : decode cX7_foundOf 118 = .ok (.iconst 0, 1) := by decide +kernel
theorem dX7_foundOf_119 : decode cX7_foundOf 119 = .ok (.istore 7, 2) := by decide +kernel
theorem dX7_foundOf_121 : decode cX7_foundOf 121 = .ok (.iload 7, 2) := by decide +kernel
theorem dX7_foundOf_123 : decode cX7_foundOf 123 = .ok (.ifCond .eq 8, 3) := by decide +kernel
theorem dX7_foundOf_126 : decode cX7_foundOf 126 = .ok (.iload 5, 2) := by decide +kernel
theorem dX7_foundOf_128 : decode cX7_foundOf 128 = .ok (.goto 4, 3) := by decide +kernel
theorem dX7_foundOf_131 : decode cX7_foundOf 131 = .ok (.iload_n 3, 1) := by decide +kernel
theorem dX7_foundOf_132 : decode cX7_foundOf 132 = .ok (.istore_n 3, 1) := by decide +kernel
theorem dX7_foundOf_133 : decode cX7_foundOf 133 = .ok (.iinc 5 1, 3) := by decide +kernel
theorem dX7_foundOf_136 : decode cX7_foundOf 136 = .ok (.goto (-128), 3) := by decide +kernel
theorem dX7_foundOf_139 : decode cX7_foundOf 139 = .ok (.iload_n 2, 1) := by decide +kernel
theorem dX7_foundOf_140 : decode cX7_foundOf 140 = .ok (.iconst 2, 1) := by decide +kernel
theorem dX7_foundOf_141 : decode cX7_foundOf 141 = .ok (.if_icmp .ne 8, 3) := by decide +kernel
theorem dX7_foundOf_144 : decode cX7_foundOf 144 = .ok (.iload 4, 2) := by decide +kernel
theorem dX7_foundOf_146 : decode cX7_foundOf 146 = .ok (.goto 4, 3) := by decide +kernel
theorem dX7_foundOf_149 : decode cX7_foundOf 149 = .ok (.iload_n 3, 1) := by decide +kernel
theorem dX7_foundOf_150 : decode cX7_foundOf 150 = .ok (.ireturn, 1) := by decide +kernel
theorem dX7_found_0 : decode cX7_found 0 = .ok (.iload_n 1, 1) := by decide +kernel
theorem dX7_found_1 : decode cX7_found 1 = .ok (.invokestatic 281, 3) := by decide +kernel
theorem dX7_found_4 : decode cX7_found 4 = .ok (.ifCond .eq 12, 3) := by decide +kernel
theorem dX7_found_7 : decode cX7_found 7 = .ok (.iload_n 2, 1) := by decide +kernel
theorem dX7_found_8 : decode cX7_found 8 = .ok (.iconst 0, 1) := by decide +kernel
theorem dX7_found_9 : decode cX7_found 9 = .ok (.iconst 2, 1) := by decide +kernel
theorem dX7_found_10 : decode cX7_found 10 = .ok (.invokestatic 85, 3) := by decide +kernel
theorem dX7_found_13 : decode cX7_found 13 = .ok (.ifCond .ne 6, 3) := by decide +kernel
theorem dX7_found_16 : decode cX7_found 16 = .ok (.bipush (-2), 2) := by decide +kernel
theorem dX7_found_18 : decode cX7_found 18 = .ok (.ireturn, 1) := by decide +kernel
theorem dX7_found_19 : decode cX7_found 19 = .ok (.aload_n 0, 1) := by decide +kernel
theorem dX7_found_20 : decode cX7_found 20 = .ok (.getfield 51, 3) := by decide +kernel
theorem dX7_found_23 : decode cX7_found 23 = .ok (.iload_n 1, 1) := by decide +kernel
theorem dX7_found_24 : decode cX7_found 24 = .ok (.iaload, 1) := by decide +kernel
theorem dX7_found_25 : decode cX7_found 25 = .ok (.iconst (-1), 1) := by decide +kernel
theorem dX7_found_26 : decode cX7_found 26 = .ok (.if_icmp .eq 13, 3) := by decide +kernel
theorem dX7_found_29 : decode cX7_found 29 = .ok (.aload_n 0, 1) := by decide +kernel
theorem dX7_found_30 : decode cX7_found 30 = .ok (.getfield 51, 3) := by decide +kernel
theorem dX7_found_33 : decode cX7_found 33 = .ok (.iload_n 1, 1) := by decide +kernel
theorem dX7_found_34 : decode cX7_found 34 = .ok (.iaload, 1) := by decide +kernel
theorem dX7_found_35 : decode cX7_found 35 = .ok (.iconst 2, 1) := by decide +kernel
theorem dX7_found_36 : decode cX7_found 36 = .ok (.if_icmp .ge 23, 3) := by decide +kernel
theorem dX7_found_39 : decode cX7_found 39 = .ok (.aload_n 0, 1) := by decide +kernel
theorem dX7_found_40 : decode cX7_found 40 = .ok (.aload_n 0, 1) := by decide +kernel
theorem dX7_found_41 : decode cX7_found 41 = .ok (.getfield 51, 3) := by decide +kernel
theorem dX7_found_44 : decode cX7_found 44 = .ok (.iload_n 1, 1) := by decide +kernel
theorem dX7_found_45 : decode cX7_found 45 = .ok (.iaload, 1) := by decide +kernel
theorem dX7_found_46 : decode cX7_found 46 = .ok (.iconst (-1), 1) := by decide +kernel
theorem dX7_found_47 : decode cX7_found 47 = .ok (.if_icmp .ne 7, 3) := by decide +kernel
theorem dX7_found_50 : decode cX7_found 50 = .ok (.iconst 1, 1) := by decide +kernel
theorem dX7_found_51 : decode cX7_found 51 = .ok (.goto 4, 3) := by decide +kernel
theorem dX7_found_54 : decode cX7_found 54 = .ok (.iconst 3, 1) := by decide +kernel
theorem dX7_found_55 : decode cX7_found 55 = .ok (.invokevirtual 284, 3) := by decide +kernel
theorem dX7_found_58 : decode cX7_found 58 = .ok (.ireturn, 1) := by decide +kernel
theorem dX7_found_59 : decode cX7_found 59 = .ok (.aload_n 0, 1) := by decide +kernel
theorem dX7_found_60 : decode cX7_found 60 = .ok (.iload_n 1, 1) := by decide +kernel
theorem dX7_found_61 : decode cX7_found 61 = .ok (.iload_n 2, 1) := by decide +kernel
theorem dX7_found_62 : decode cX7_found 62 = .ok (.invokevirtual 302, 3) := by decide +kernel
theorem dX7_found_65 : decode cX7_found 65 = .ok (.ireturn, 1) := by decide +kernel
theorem dX7_lostNow_0 : decode cX7_lostNow 0 = .ok (.aload_n 0, 1) := by decide +kernel
theorem dX7_lostNow_1 : decode cX7_lostNow 1 = .ok (.invokevirtual 178, 3) := by decide +kernel
theorem dX7_lostNow_4 : decode cX7_lostNow 4 = .ok (.iconst 0, 1) := by decide +kernel
theorem dX7_lostNow_5 : decode cX7_lostNow 5 = .ok (.istore_n 1, 1) := by decide +kernel
theorem dX7_lostNow_6 : decode cX7_lostNow 6 = .ok (.iconst 0, 1) := by decide +kernel
theorem dX7_lostNow_7 : decode cX7_lostNow 7 = .ok (.istore_n 2, 1) := by decide +kernel
theorem dX7_lostNow_8 : decode cX7_lostNow 8 = .ok (.iload_n 2, 1) := by decide +kernel
theorem dX7_lostNow_9 : decode cX7_lostNow 9 = .ok (.aload_n 0, 1) := by decide +kernel
theorem dX7_lostNow_10 : decode cX7_lostNow 10 = .ok (.getfield 81, 3) := by decide +kernel
theorem dX7_lostNow_13 : decode cX7_lostNow 13 = .ok (.if_icmp .ge 18, 3) := by decide +kernel
theorem dX7_lostNow_16 : decode cX7_lostNow 16 = .ok (.iload_n 1, 1) := by decide +kernel
theorem dX7_lostNow_17 : decode cX7_lostNow 17 = .ok (.aload_n 0, 1) := by decide +kernel
theorem dX7_lostNow_18 : decode cX7_lostNow 18 = .ok (.getfield 36, 3) := by decide +kernel
theorem dX7_lostNow_21 : decode cX7_lostNow 21 = .ok (.iload_n 2, 1) := by decide +kernel
theorem dX7_lostNow_22 : decode cX7_lostNow 22 = .ok (.iaload, 1) := by decide +kernel
theorem dX7_lostNow_23 : decode cX7_lostNow 23 = .ok (.iadd, 1) := by decide +kernel
theorem dX7_lostNow_24 : decode cX7_lostNow 24 = .ok (.istore_n 1, 1) := by decide +kernel
theorem dX7_lostNow_25 : decode cX7_lostNow 25 = .ok (.iinc 2 1, 3) := by decide +kernel
theorem dX7_lostNow_28 : decode cX7_lostNow 28 = .ok (.goto (-20), 3) := by decide +kernel
theorem dX7_lostNow_31 : decode cX7_lostNow 31 = .ok (.iload_n 1, 1) := by decide +kernel
theorem dX7_lostNow_32 : decode cX7_lostNow 32 = .ok (.ireturn, 1) := by decide +kernel
theorem dX7_breaksNow_0 : decode cX7_breaksNow 0 = .ok (.aload_n 0, 1) := by decide +kernel
theorem dX7_breaksNow_1 : decode cX7_breaksNow 1 = .ok (.invokevirtual 178, 3) := by decide +kernel
theorem dX7_breaksNow_4 : decode cX7_breaksNow 4 = .ok (.iconst 0, 1) := by decide +kernel
theorem dX7_breaksNow_5 : decode cX7_breaksNow 5 = .ok (.istore_n 1, 1) := by decide +kernel
theorem dX7_breaksNow_6 : decode cX7_breaksNow 6 = .ok (.iconst 0, 1) := by decide +kernel
theorem dX7_breaksNow_7 : decode cX7_breaksNow 7 = .ok (.istore_n 2, 1) := by decide +kernel
theorem dX7_breaksNow_8 : decode cX7_breaksNow 8 = .ok (.iload_n 2, 1) := by decide +kernel
theorem dX7_breaksNow_9 : decode cX7_breaksNow 9 = .ok (.aload_n 0, 1) := by decide +kernel
theorem dX7_breaksNow_10 : decode cX7_breaksNow 10 = .ok (.getfield 81, 3) := by decide +kernel
theorem dX7_breaksNow_13 : decode cX7_breaksNow 13 = .ok (.if_icmp .ge 26, 3) := by decide +kernel
theorem dX7_breaksNow_16 : decode cX7_breaksNow 16 = .ok (.iload_n 1, 1) := by decide +kernel
theorem dX7_breaksNow_17 : decode cX7_breaksNow 17 = .ok (.aload_n 0, 1) := by decide +kernel
theorem dX7_breaksNow_18 : decode cX7_breaksNow 18 = .ok (.getfield 39, 3) := by decide +kernel
theorem dX7_breaksNow_21 : decode cX7_breaksNow 21 = .ok (.iload_n 2, 1) := by decide +kernel
theorem dX7_breaksNow_22 : decode cX7_breaksNow 22 = .ok (.baload, 1) := by decide +kernel
theorem dX7_breaksNow_23 : decode cX7_breaksNow 23 = .ok (.ifCond .eq 7, 3) := by decide +kernel
theorem dX7_breaksNow_26 : decode cX7_breaksNow 26 = .ok (.iconst 1, 1) := by decide +kernel
theorem dX7_breaksNow_27 : decode cX7_breaksNow 27 = .ok (.goto 4, 3) := by decide +kernel
theorem dX7_breaksNow_30 : decode cX7_breaksNow 30 = .ok (.iconst 0, 1) := by decide +kernel
theorem dX7_breaksNow_31 : decode cX7_breaksNow 31 = .ok (.iadd, 1) := by decide +kernel
theorem dX7_breaksNow_32 : decode cX7_breaksNow 32 = .ok (.istore_n 1, 1) := by decide +kernel
theorem dX7_breaksNow_33 : decode cX7_breaksNow 33 = .ok (.iinc 2 1, 3) := by decide +kernel
theorem dX7_breaksNow_36 : decode cX7_breaksNow 36 = .ok (.goto (-28), 3) := by decide +kernel
theorem dX7_breaksNow_39 : decode cX7_breaksNow 39 = .ok (.iload_n 1, 1) := by decide +kernel
theorem dX7_breaksNow_40 : decode cX7_breaksNow 40 = .ok (.ireturn, 1) := by decide +kernel
theorem dX7_count_0 : decode cX7_count 0 = .ok (.iload_n 1, 1) := by decide +kernel
theorem dX7_count_1 : decode cX7_count 1 = .ok (.tableswitch 96 0 8 #[51, 56, 61, 66, 71, 76, 81, 86, 91], 51) := by decide +kernel
theorem dX7_count_52 : decode cX7_count 52 = .ok (.aload_n 0, 1) := by decide +kernel
theorem dX7_count_53 : decode cX7_count 53 = .ok (.getfield 81, 3) := by decide +kernel
theorem dX7_count_56 : decode cX7_count 56 = .ok (.ireturn, 1) := by decide +kernel
theorem dX7_count_57 : decode cX7_count 57 = .ok (.aload_n 0, 1) := by decide +kernel
theorem dX7_count_58 : decode cX7_count 58 = .ok (.invokevirtual 107, 3) := by decide +kernel
theorem dX7_count_61 : decode cX7_count 61 = .ok (.ireturn, 1) := by decide +kernel
theorem dX7_count_62 : decode cX7_count 62 = .ok (.aload_n 0, 1) := by decide +kernel
theorem dX7_count_63 : decode cX7_count 63 = .ok (.invokevirtual 103, 3) := by decide +kernel
theorem dX7_count_66 : decode cX7_count 66 = .ok (.ireturn, 1) := by decide +kernel
theorem dX7_count_67 : decode cX7_count 67 = .ok (.aload_n 0, 1) := by decide +kernel
theorem dX7_count_68 : decode cX7_count 68 = .ok (.getfield 194, 3) := by decide +kernel
theorem dX7_count_71 : decode cX7_count 71 = .ok (.ireturn, 1) := by decide +kernel
theorem dX7_count_72 : decode cX7_count 72 = .ok (.aload_n 0, 1) := by decide +kernel
theorem dX7_count_73 : decode cX7_count 73 = .ok (.invokevirtual 305, 3) := by decide +kernel
theorem dX7_count_76 : decode cX7_count 76 = .ok (.ireturn, 1) := by decide +kernel
theorem dX7_count_77 : decode cX7_count 77 = .ok (.aload_n 0, 1) := by decide +kernel
theorem dX7_count_78 : decode cX7_count 78 = .ok (.invokevirtual 308, 3) := by decide +kernel
theorem dX7_count_81 : decode cX7_count 81 = .ok (.ireturn, 1) := by decide +kernel
theorem dX7_count_82 : decode cX7_count 82 = .ok (.aload_n 0, 1) := by decide +kernel
theorem dX7_count_83 : decode cX7_count 83 = .ok (.invokevirtual 269, 3) := by decide +kernel
theorem dX7_count_86 : decode cX7_count 86 = .ok (.ireturn, 1) := by decide +kernel
theorem dX7_count_87 : decode cX7_count 87 = .ok (.aload_n 0, 1) := by decide +kernel
theorem dX7_count_88 : decode cX7_count 88 = .ok (.getfield 143, 3) := by decide +kernel
theorem dX7_count_91 : decode cX7_count 91 = .ok (.ireturn, 1) := by decide +kernel
theorem dX7_count_92 : decode cX7_count 92 = .ok (.aload_n 0, 1) := by decide +kernel
theorem dX7_count_93 : decode cX7_count 93 = .ok (.getfield 278, 3) := by decide +kernel
theorem dX7_count_96 : decode cX7_count 96 = .ok (.ireturn, 1) := by decide +kernel
theorem dX7_count_97 : decode cX7_count 97 = .ok (.bipush (-2), 2) := by decide +kernel
theorem dX7_count_99 : decode cX7_count 99 = .ok (.ireturn, 1) := by decide +kernel
theorem dX7_binDigest_0 : decode cX7_binDigest 0 = .ok (.lload_n 1, 1) := by decide +kernel
theorem dX7_binDigest_1 : decode cX7_binDigest 1 = .ok (.lstore 4, 2) := by decide +kernel
theorem dX7_binDigest_3 : decode cX7_binDigest 3 = .ok (.iconst 0, 1) := by decide +kernel
theorem dX7_binDigest_4 : decode cX7_binDigest 4 = .ok (.istore 6, 2) := by decide +kernel
theorem dX7_binDigest_6 : decode cX7_binDigest 6 = .ok (.iload 6, 2) := by decide +kernel
theorem dX7_binDigest_8 : decode cX7_binDigest 8 = .ok (.iconst 3, 1) := by decide +kernel
theorem dX7_binDigest_9 : decode cX7_binDigest 9 = .ok (.if_icmp .ge 26, 3) := by decide +kernel
theorem dX7_binDigest_12 : decode cX7_binDigest 12 = .ok (.ldc2_w 311, 3) := by decide +kernel
theorem dX7_binDigest_15 : decode cX7_binDigest 15 = .ok (.lload 4, 2) := by decide +kernel
theorem dX7_binDigest_17 : decode cX7_binDigest 17 = .ok (.lmul, 1) := by decide +kernel
theorem dX7_binDigest_18 : decode cX7_binDigest 18 = .ok (.aload_n 0, 1) := by decide +kernel
theorem dX7_binDigest_19 : decode cX7_binDigest 19 = .ok (.iload_n 3, 1) := by decide +kernel
theorem dX7_binDigest_20 : decode cX7_binDigest 20 = .ok (.iload 6, 2) := by decide +kernel
theorem dX7_binDigest_22 : decode cX7_binDigest 22 = .ok (.invokevirtual 122, 3) := by decide +kernel
theorem dX7_binDigest_25 : decode cX7_binDigest 25 = .ok (.i2l, 1) := by decide +kernel
theorem dX7_binDigest_26 : decode cX7_binDigest 26 = .ok (.ladd, 1) := by decide +kernel
theorem dX7_binDigest_27 : decode cX7_binDigest 27 = .ok (.lstore 4, 2) := by decide +kernel
theorem dX7_binDigest_29 : decode cX7_binDigest 29 = .ok (.iinc 6 1, 3) := by decide +kernel
theorem dX7_binDigest_32 : decode cX7_binDigest 32 = .ok (.goto (-26), 3) := by decide +kernel
theorem dX7_binDigest_35 : decode cX7_binDigest 35 = .ok (.ldc2_w 311, 3) := by decide +kernel
theorem dX7_binDigest_38 : decode cX7_binDigest 38 = .ok (.lload 4, 2) := by decide +kernel
theorem dX7_binDigest_40 : decode cX7_binDigest 40 = .ok (.lmul, 1) := by decide +kernel
theorem dX7_binDigest_41 : decode cX7_binDigest 41 = .ok (.aload_n 0, 1) := by decide +kernel
theorem dX7_binDigest_42 : decode cX7_binDigest 42 = .ok (.iload_n 3, 1) := by decide +kernel
theorem dX7_binDigest_43 : decode cX7_binDigest 43 = .ok (.iconst 0, 1) := by decide +kernel
theorem dX7_binDigest_44 : decode cX7_binDigest 44 = .ok (.invokevirtual 136, 3) := by decide +kernel
theorem dX7_binDigest_47 : decode cX7_binDigest 47 = .ok (.ladd, 1) := by decide +kernel
theorem dX7_binDigest_48 : decode cX7_binDigest 48 = .ok (.lstore 4, 2) := by decide +kernel
theorem dX7_binDigest_50 : decode cX7_binDigest 50 = .ok (.ldc2_w 311, 3) := by decide +kernel
theorem dX7_binDigest_53 : decode cX7_binDigest 53 = .ok (.lload 4, 2) := by decide +kernel
theorem dX7_binDigest_55 : decode cX7_binDigest 55 = .ok (.lmul, 1) := by decide +kernel
theorem dX7_binDigest_56 : decode cX7_binDigest 56 = .ok (.aload_n 0, 1) := by decide +kernel
theorem dX7_binDigest_57 : decode cX7_binDigest 57 = .ok (.iload_n 3, 1) := by decide +kernel
theorem dX7_binDigest_58 : decode cX7_binDigest 58 = .ok (.iconst 1, 1) := by decide +kernel
theorem dX7_binDigest_59 : decode cX7_binDigest 59 = .ok (.invokevirtual 136, 3) := by decide +kernel
theorem dX7_binDigest_62 : decode cX7_binDigest 62 = .ok (.ladd, 1) := by decide +kernel
theorem dX7_binDigest_63 : decode cX7_binDigest 63 = .ok (.lreturn, 1) := by decide +kernel
theorem dX7_edgeDigest_0 : decode cX7_edgeDigest 0 = .ok (.lload_n 1, 1) := by decide +kernel
theorem dX7_edgeDigest_1 : decode cX7_edgeDigest 1 = .ok (.lstore 4, 2) := by decide +kernel
theorem dX7_edgeDigest_3 : decode cX7_edgeDigest 3 = .ok (.iconst 0, 1) := by decide +kernel
theorem dX7_edgeDigest_4 : decode cX7_edgeDigest 4 = .ok (.istore 6, 2) := by decide +kernel
theorem dX7_edgeDigest_6 : decode cX7_edgeDigest 6 = .ok (.iload 6, 2) := by decide +kernel
theorem dX7_edgeDigest_8 : decode cX7_edgeDigest 8 = .ok (.bipush 8, 2) := by decide +kernel
theorem dX7_edgeDigest_10 : decode cX7_edgeDigest 10 = .ok (.if_icmp .ge 26, 3) := by decide +kernel
theorem dX7_edgeDigest_13 : decode cX7_edgeDigest 13 = .ok (.ldc2_w 311, 3) := by decide +kernel
theorem dX7_edgeDigest_16 : decode cX7_edgeDigest 16 = .ok (.lload 4, 2) := by decide +kernel
theorem dX7_edgeDigest_18 : decode cX7_edgeDigest 18 = .ok (.lmul, 1) := by decide +kernel
theorem dX7_edgeDigest_19 : decode cX7_edgeDigest 19 = .ok (.aload_n 0, 1) := by decide +kernel
theorem dX7_edgeDigest_20 : decode cX7_edgeDigest 20 = .ok (.iload_n 3, 1) := by decide +kernel
theorem dX7_edgeDigest_21 : decode cX7_edgeDigest 21 = .ok (.iload 6, 2) := by decide +kernel
theorem dX7_edgeDigest_23 : decode cX7_edgeDigest 23 = .ok (.invokevirtual 185, 3) := by decide +kernel
theorem dX7_edgeDigest_26 : decode cX7_edgeDigest 26 = .ok (.i2l, 1) := by decide +kernel
theorem dX7_edgeDigest_27 : decode cX7_edgeDigest 27 = .ok (.ladd, 1) := by decide +kernel
theorem dX7_edgeDigest_28 : decode cX7_edgeDigest 28 = .ok (.lstore 4, 2) := by decide +kernel
theorem dX7_edgeDigest_30 : decode cX7_edgeDigest 30 = .ok (.iinc 6 1, 3) := by decide +kernel
theorem dX7_edgeDigest_33 : decode cX7_edgeDigest 33 = .ok (.goto (-27), 3) := by decide +kernel
theorem dX7_edgeDigest_36 : decode cX7_edgeDigest 36 = .ok (.ldc2_w 311, 3) := by decide +kernel
theorem dX7_edgeDigest_39 : decode cX7_edgeDigest 39 = .ok (.lload 4, 2) := by decide +kernel
theorem dX7_edgeDigest_41 : decode cX7_edgeDigest 41 = .ok (.lmul, 1) := by decide +kernel
theorem dX7_edgeDigest_42 : decode cX7_edgeDigest 42 = .ok (.aload_n 0, 1) := by decide +kernel
theorem dX7_edgeDigest_43 : decode cX7_edgeDigest 43 = .ok (.iload_n 3, 1) := by decide +kernel
theorem dX7_edgeDigest_44 : decode cX7_edgeDigest 44 = .ok (.iconst 0, 1) := by decide +kernel
theorem dX7_edgeDigest_45 : decode cX7_edgeDigest 45 = .ok (.invokevirtual 188, 3) := by decide +kernel
theorem dX7_edgeDigest_48 : decode cX7_edgeDigest 48 = .ok (.ladd, 1) := by decide +kernel
theorem dX7_edgeDigest_49 : decode cX7_edgeDigest 49 = .ok (.lstore 4, 2) := by decide +kernel
theorem dX7_edgeDigest_51 : decode cX7_edgeDigest 51 = .ok (.ldc2_w 311, 3) := by decide +kernel
theorem dX7_edgeDigest_54 : decode cX7_edgeDigest 54 = .ok (.lload 4, 2) := by decide +kernel
theorem dX7_edgeDigest_56 : decode cX7_edgeDigest 56 = .ok (.lmul, 1) := by decide +kernel
theorem dX7_edgeDigest_57 : decode cX7_edgeDigest 57 = .ok (.aload_n 0, 1) := by decide +kernel
theorem dX7_edgeDigest_58 : decode cX7_edgeDigest 58 = .ok (.iload_n 3, 1) := by decide +kernel
theorem dX7_edgeDigest_59 : decode cX7_edgeDigest 59 = .ok (.iconst 1, 1) := by decide +kernel
theorem dX7_edgeDigest_60 : decode cX7_edgeDigest 60 = .ok (.invokevirtual 188, 3) := by decide +kernel
theorem dX7_edgeDigest_63 : decode cX7_edgeDigest 63 = .ok (.ladd, 1) := by decide +kernel
theorem dX7_edgeDigest_64 : decode cX7_edgeDigest 64 = .ok (.lreturn, 1) := by decide +kernel
theorem dX7_gateDigest_0 : decode cX7_gateDigest 0 = .ok (.lload_n 1, 1) := by decide +kernel
theorem dX7_gateDigest_1 : decode cX7_gateDigest 1 = .ok (.lstore 4, 2) := by decide +kernel
theorem dX7_gateDigest_3 : decode cX7_gateDigest 3 = .ok (.iconst 0, 1) := by decide +kernel
theorem dX7_gateDigest_4 : decode cX7_gateDigest 4 = .ok (.istore 6, 2) := by decide +kernel
theorem dX7_gateDigest_6 : decode cX7_gateDigest 6 = .ok (.iload 6, 2) := by decide +kernel
theorem dX7_gateDigest_8 : decode cX7_gateDigest 8 = .ok (.iconst 3, 1) := by decide +kernel
theorem dX7_gateDigest_9 : decode cX7_gateDigest 9 = .ok (.if_icmp .ge 26, 3) := by decide +kernel
theorem dX7_gateDigest_12 : decode cX7_gateDigest 12 = .ok (.ldc2_w 311, 3) := by decide +kernel
theorem dX7_gateDigest_15 : decode cX7_gateDigest 15 = .ok (.lload 4, 2) := by decide +kernel
theorem dX7_gateDigest_17 : decode cX7_gateDigest 17 = .ok (.lmul, 1) := by decide +kernel
theorem dX7_gateDigest_18 : decode cX7_gateDigest 18 = .ok (.aload_n 0, 1) := by decide +kernel
theorem dX7_gateDigest_19 : decode cX7_gateDigest 19 = .ok (.iload_n 3, 1) := by decide +kernel
theorem dX7_gateDigest_20 : decode cX7_gateDigest 20 = .ok (.iload 6, 2) := by decide +kernel
theorem dX7_gateDigest_22 : decode cX7_gateDigest 22 = .ok (.invokevirtual 209, 3) := by decide +kernel
theorem dX7_gateDigest_25 : decode cX7_gateDigest 25 = .ok (.i2l, 1) := by decide +kernel
theorem dX7_gateDigest_26 : decode cX7_gateDigest 26 = .ok (.ladd, 1) := by decide +kernel
theorem dX7_gateDigest_27 : decode cX7_gateDigest 27 = .ok (.lstore 4, 2) := by decide +kernel
theorem dX7_gateDigest_29 : decode cX7_gateDigest 29 = .ok (.iinc 6 1, 3) := by decide +kernel
theorem dX7_gateDigest_32 : decode cX7_gateDigest 32 = .ok (.goto (-26), 3) := by decide +kernel
theorem dX7_gateDigest_35 : decode cX7_gateDigest 35 = .ok (.iconst 0, 1) := by decide +kernel
theorem dX7_gateDigest_36 : decode cX7_gateDigest 36 = .ok (.istore 6, 2) := by decide +kernel
theorem dX7_gateDigest_38 : decode cX7_gateDigest 38 = .ok (.iload 6, 2) := by decide +kernel
theorem dX7_gateDigest_40 : decode cX7_gateDigest 40 = .ok (.iconst 4, 1) := by decide +kernel
theorem dX7_gateDigest_41 : decode cX7_gateDigest 41 = .ok (.if_icmp .ge 43, 3) := by decide +kernel
theorem dX7_gateDigest_44 : decode cX7_gateDigest 44 = .ok (.ldc2_w 311, 3) := by decide +kernel
theorem dX7_gateDigest_47 : decode cX7_gateDigest 47 = .ok (.lload 4, 2) := by decide +kernel
theorem dX7_gateDigest_49 : decode cX7_gateDigest 49 = .ok (.lmul, 1) := by decide +kernel
theorem dX7_gateDigest_50 : decode cX7_gateDigest 50 = .ok (.aload_n 0, 1) := by decide +kernel
theorem dX7_gateDigest_51 : decode cX7_gateDigest 51 = .ok (.iload_n 3, 1) := by decide +kernel
theorem dX7_gateDigest_52 : decode cX7_gateDigest 52 = .ok (.iload 6, 2) := by decide +kernel
theorem dX7_gateDigest_54 : decode cX7_gateDigest 54 = .ok (.iconst 0, 1) := by decide +kernel
theorem dX7_gateDigest_55 : decode cX7_gateDigest 55 = .ok (.invokevirtual 212, 3) := by decide +kernel
theorem dX7_gateDigest_58 : decode cX7_gateDigest 58 = .ok (.ladd, 1) := by decide +kernel
theorem dX7_gateDigest_59 : decode cX7_gateDigest 59 = .ok (.lstore 4, 2) := by decide +kernel
theorem dX7_gateDigest_61 : decode cX7_gateDigest 61 = .ok (.ldc2_w 311, 3) := by decide +kernel
theorem dX7_gateDigest_64 : decode cX7_gateDigest 64 = .ok (.lload 4, 2) := by decide +kernel
theorem dX7_gateDigest_66 : decode cX7_gateDigest 66 = .ok (.lmul, 1) := by decide +kernel
theorem dX7_gateDigest_67 : decode cX7_gateDigest 67 = .ok (.aload_n 0, 1) := by decide +kernel
theorem dX7_gateDigest_68 : decode cX7_gateDigest 68 = .ok (.iload_n 3, 1) := by decide +kernel
theorem dX7_gateDigest_69 : decode cX7_gateDigest 69 = .ok (.iload 6, 2) := by decide +kernel
theorem dX7_gateDigest_71 : decode cX7_gateDigest 71 = .ok (.iconst 1, 1) := by decide +kernel
theorem dX7_gateDigest_72 : decode cX7_gateDigest 72 = .ok (.invokevirtual 212, 3) := by decide +kernel
theorem dX7_gateDigest_75 : decode cX7_gateDigest 75 = .ok (.ladd, 1) := by decide +kernel
theorem dX7_gateDigest_76 : decode cX7_gateDigest 76 = .ok (.lstore 4, 2) := by decide +kernel
theorem dX7_gateDigest_78 : decode cX7_gateDigest 78 = .ok (.iinc 6 1, 3) := by decide +kernel
theorem dX7_gateDigest_81 : decode cX7_gateDigest 81 = .ok (.goto (-43), 3) := by decide +kernel
theorem dX7_gateDigest_84 : decode cX7_gateDigest 84 = .ok (.ldc2_w 311, 3) := by decide +kernel
theorem dX7_gateDigest_87 : decode cX7_gateDigest 87 = .ok (.lload 4, 2) := by decide +kernel
theorem dX7_gateDigest_89 : decode cX7_gateDigest 89 = .ok (.lmul, 1) := by decide +kernel
theorem dX7_gateDigest_90 : decode cX7_gateDigest 90 = .ok (.aload_n 0, 1) := by decide +kernel
theorem dX7_gateDigest_91 : decode cX7_gateDigest 91 = .ok (.iload_n 3, 1) := by decide +kernel
theorem dX7_gateDigest_92 : decode cX7_gateDigest 92 = .ok (.invokevirtual 220, 3) := by decide +kernel
theorem dX7_gateDigest_95 : decode cX7_gateDigest 95 = .ok (.i2l, 1) := by decide +kernel
theorem dX7_gateDigest_96 : decode cX7_gateDigest 96 = .ok (.ladd, 1) := by decide +kernel
theorem dX7_gateDigest_97 : decode cX7_gateDigest 97 = .ok (.lreturn, 1) := by decide +kernel
theorem dX7_chainDigest_0 : decode cX7_chainDigest 0 = .ok (.ldc2_w 311, 3) := by decide +kernel
theorem dX7_chainDigest_3 : decode cX7_chainDigest 3 = .ok (.lload_n 1, 1) := by decide +kernel
theorem dX7_chainDigest_4 : decode cX7_chainDigest 4 = .ok (.lmul, 1) := by decide +kernel
theorem dX7_chainDigest_5 : decode cX7_chainDigest 5 = .ok (.aload_n 0, 1) := by decide +kernel
theorem dX7_chainDigest_6 : decode cX7_chainDigest 6 = .ok (.iconst 3, 1) := by decide +kernel
theorem dX7_chainDigest_7 : decode cX7_chainDigest 7 = .ok (.iconst 0, 1) := by decide +kernel
theorem dX7_chainDigest_8 : decode cX7_chainDigest 8 = .ok (.iconst 3, 1) := by decide +kernel
theorem dX7_chainDigest_9 : decode cX7_chainDigest 9 = .ok (.invokevirtual 226, 3) := by decide +kernel
theorem dX7_chainDigest_12 : decode cX7_chainDigest 12 = .ok (.i2l, 1) := by decide +kernel
theorem dX7_chainDigest_13 : decode cX7_chainDigest 13 = .ok (.ladd, 1) := by decide +kernel
theorem dX7_chainDigest_14 : decode cX7_chainDigest 14 = .ok (.lstore_n 3, 1) := by decide +kernel
theorem dX7_chainDigest_15 : decode cX7_chainDigest 15 = .ok (.ldc2_w 311, 3) := by decide +kernel
theorem dX7_chainDigest_18 : decode cX7_chainDigest 18 = .ok (.lload_n 3, 1) := by decide +kernel
theorem dX7_chainDigest_19 : decode cX7_chainDigest 19 = .ok (.lmul, 1) := by decide +kernel
theorem dX7_chainDigest_20 : decode cX7_chainDigest 20 = .ok (.aload_n 0, 1) := by decide +kernel
theorem dX7_chainDigest_21 : decode cX7_chainDigest 21 = .ok (.iconst 3, 1) := by decide +kernel
theorem dX7_chainDigest_22 : decode cX7_chainDigest 22 = .ok (.iconst 0, 1) := by decide +kernel
theorem dX7_chainDigest_23 : decode cX7_chainDigest 23 = .ok (.iconst 4, 1) := by decide +kernel
theorem dX7_chainDigest_24 : decode cX7_chainDigest 24 = .ok (.invokevirtual 226, 3) := by decide +kernel
theorem dX7_chainDigest_27 : decode cX7_chainDigest 27 = .ok (.i2l, 1) := by decide +kernel
theorem dX7_chainDigest_28 : decode cX7_chainDigest 28 = .ok (.ladd, 1) := by decide +kernel
theorem dX7_chainDigest_29 : decode cX7_chainDigest 29 = .ok (.lstore_n 3, 1) := by decide +kernel
theorem dX7_chainDigest_30 : decode cX7_chainDigest 30 = .ok (.iconst 0, 1) := by decide +kernel
theorem dX7_chainDigest_31 : decode cX7_chainDigest 31 = .ok (.istore 5, 2) := by decide +kernel
theorem dX7_chainDigest_33 : decode cX7_chainDigest 33 = .ok (.iload 5, 2) := by decide +kernel
theorem dX7_chainDigest_35 : decode cX7_chainDigest 35 = .ok (.iconst 5, 1) := by decide +kernel
theorem dX7_chainDigest_36 : decode cX7_chainDigest 36 = .ok (.if_icmp .ge 26, 3) := by decide +kernel
theorem dX7_chainDigest_39 : decode cX7_chainDigest 39 = .ok (.ldc2_w 311, 3) := by decide +kernel
theorem dX7_chainDigest_42 : decode cX7_chainDigest 42 = .ok (.lload_n 3, 1) := by decide +kernel
theorem dX7_chainDigest_43 : decode cX7_chainDigest 43 = .ok (.lmul, 1) := by decide +kernel
theorem dX7_chainDigest_44 : decode cX7_chainDigest 44 = .ok (.aload_n 0, 1) := by decide +kernel
theorem dX7_chainDigest_45 : decode cX7_chainDigest 45 = .ok (.bipush 7, 2) := by decide +kernel
theorem dX7_chainDigest_47 : decode cX7_chainDigest 47 = .ok (.iconst 1, 1) := by decide +kernel
theorem dX7_chainDigest_48 : decode cX7_chainDigest 48 = .ok (.iload 5, 2) := by decide +kernel
theorem dX7_chainDigest_50 : decode cX7_chainDigest 50 = .ok (.invokevirtual 226, 3) := by decide +kernel
theorem dX7_chainDigest_53 : decode cX7_chainDigest 53 = .ok (.i2l, 1) := by decide +kernel
theorem dX7_chainDigest_54 : decode cX7_chainDigest 54 = .ok (.ladd, 1) := by decide +kernel
theorem dX7_chainDigest_55 : decode cX7_chainDigest 55 = .ok (.lstore_n 3, 1) := by decide +kernel
theorem dX7_chainDigest_56 : decode cX7_chainDigest 56 = .ok (.iinc 5 1, 3) := by decide +kernel
theorem dX7_chainDigest_59 : decode cX7_chainDigest 59 = .ok (.goto (-26), 3) := by decide +kernel
theorem dX7_chainDigest_62 : decode cX7_chainDigest 62 = .ok (.aload_n 0, 1) := by decide +kernel
theorem dX7_chainDigest_63 : decode cX7_chainDigest 63 = .ok (.getfield 81, 3) := by decide +kernel
theorem dX7_chainDigest_66 : decode cX7_chainDigest 66 = .ok (.iconst 1, 1) := by decide +kernel
theorem dX7_chainDigest_67 : decode cX7_chainDigest 67 = .ok (.if_icmp .le 60, 3) := by decide +kernel
theorem dX7_chainDigest_70 : decode cX7_chainDigest 70 = .ok (.ldc2_w 311, 3) := by decide +kernel
theorem dX7_chainDigest_73 : decode cX7_chainDigest 73 = .ok (.lload_n 3, 1) := by decide +kernel
theorem dX7_chainDigest_74 : decode cX7_chainDigest 74 = .ok (.lmul, 1) := by decide +kernel
theorem dX7_chainDigest_75 : decode cX7_chainDigest 75 = .ok (.aload_n 0, 1) := by decide +kernel
theorem dX7_chainDigest_76 : decode cX7_chainDigest 76 = .ok (.iconst 0, 1) := by decide +kernel
theorem dX7_chainDigest_77 : decode cX7_chainDigest 77 = .ok (.aload_n 0, 1) := by decide +kernel
theorem dX7_chainDigest_78 : decode cX7_chainDigest 78 = .ok (.getfield 81, 3) := by decide +kernel
theorem dX7_chainDigest_81 : decode cX7_chainDigest 81 = .ok (.iconst 1, 1) := by decide +kernel
theorem dX7_chainDigest_82 : decode cX7_chainDigest 82 = .ok (.isub, 1) := by decide +kernel
theorem dX7_chainDigest_83 : decode cX7_chainDigest 83 = .ok (.iconst 0, 1) := by decide +kernel
theorem dX7_chainDigest_84 : decode cX7_chainDigest 84 = .ok (.invokevirtual 249, 3) := by decide +kernel
theorem dX7_chainDigest_87 : decode cX7_chainDigest 87 = .ok (.ladd, 1) := by decide +kernel
theorem dX7_chainDigest_88 : decode cX7_chainDigest 88 = .ok (.lstore_n 3, 1) := by decide +kernel
theorem dX7_chainDigest_89 : decode cX7_chainDigest 89 = .ok (.ldc2_w 311, 3) := by decide +kernel
theorem dX7_chainDigest_92 : decode cX7_chainDigest 92 = .ok (.lload_n 3, 1) := by decide +kernel
theorem dX7_chainDigest_93 : decode cX7_chainDigest 93 = .ok (.lmul, 1) := by decide +kernel
theorem dX7_chainDigest_94 : decode cX7_chainDigest 94 = .ok (.aload_n 0, 1) := by decide +kernel
theorem dX7_chainDigest_95 : decode cX7_chainDigest 95 = .ok (.iconst 0, 1) := by decide +kernel
theorem dX7_chainDigest_96 : decode cX7_chainDigest 96 = .ok (.aload_n 0, 1) := by decide +kernel
theorem dX7_chainDigest_97 : decode cX7_chainDigest 97 = .ok (.getfield 81, 3) := by decide +kernel
theorem dX7_chainDigest_100 : decode cX7_chainDigest 100 = .ok (.iconst 1, 1) := by decide +kernel
theorem dX7_chainDigest_101 : decode cX7_chainDigest 101 = .ok (.isub, 1) := by decide +kernel
theorem dX7_chainDigest_102 : decode cX7_chainDigest 102 = .ok (.iconst 1, 1) := by decide +kernel
theorem dX7_chainDigest_103 : decode cX7_chainDigest 103 = .ok (.invokevirtual 249, 3) := by decide +kernel
theorem dX7_chainDigest_106 : decode cX7_chainDigest 106 = .ok (.ladd, 1) := by decide +kernel
theorem dX7_chainDigest_107 : decode cX7_chainDigest 107 = .ok (.lstore_n 3, 1) := by decide +kernel
theorem dX7_chainDigest_108 : decode cX7_chainDigest 108 = .ok (.ldc2_w 311, 3) := by decide +kernel
theorem dX7_chainDigest_111 : decode cX7_chainDigest 111 = .ok (.lload_n 3, 1) := by decide +kernel
theorem dX7_chainDigest_112 : decode cX7_chainDigest 112 = .ok (.lmul, 1) := by decide +kernel
theorem dX7_chainDigest_113 : decode cX7_chainDigest 113 = .ok (.aload_n 0, 1) := by decide +kernel
theorem dX7_chainDigest_114 : decode cX7_chainDigest 114 = .ok (.iconst 0, 1) := by decide +kernel
theorem dX7_chainDigest_115 : decode cX7_chainDigest 115 = .ok (.aload_n 0, 1) := by decide +kernel
theorem dX7_chainDigest_116 : decode cX7_chainDigest 116 = .ok (.getfield 81, 3) := by decide +kernel
theorem dX7_chainDigest_119 : decode cX7_chainDigest 119 = .ok (.iconst 1, 1) := by decide +kernel
theorem dX7_chainDigest_120 : decode cX7_chainDigest 120 = .ok (.isub, 1) := by decide +kernel
theorem dX7_chainDigest_121 : decode cX7_chainDigest 121 = .ok (.invokevirtual 254, 3) := by decide +kernel
theorem dX7_chainDigest_124 : decode cX7_chainDigest 124 = .ok (.i2l, 1) := by decide +kernel
theorem dX7_chainDigest_125 : decode cX7_chainDigest 125 = .ok (.ladd, 1) := by decide +kernel
theorem dX7_chainDigest_126 : decode cX7_chainDigest 126 = .ok (.lstore_n 3, 1) := by decide +kernel
theorem dX7_chainDigest_127 : decode cX7_chainDigest 127 = .ok (.ldc2_w 311, 3) := by decide +kernel
theorem dX7_chainDigest_130 : decode cX7_chainDigest 130 = .ok (.lload_n 3, 1) := by decide +kernel
theorem dX7_chainDigest_131 : decode cX7_chainDigest 131 = .ok (.lmul, 1) := by decide +kernel
theorem dX7_chainDigest_132 : decode cX7_chainDigest 132 = .ok (.iconst 5, 1) := by decide +kernel
theorem dX7_chainDigest_133 : decode cX7_chainDigest 133 = .ok (.iconst 0, 1) := by decide +kernel
theorem dX7_chainDigest_134 : decode cX7_chainDigest 134 = .ok (.invokestatic 257, 3) := by decide +kernel
theorem dX7_chainDigest_137 : decode cX7_chainDigest 137 = .ok (.ladd, 1) := by decide +kernel
theorem dX7_chainDigest_138 : decode cX7_chainDigest 138 = .ok (.lstore_n 3, 1) := by decide +kernel
theorem dX7_chainDigest_139 : decode cX7_chainDigest 139 = .ok (.ldc2_w 311, 3) := by decide +kernel
theorem dX7_chainDigest_142 : decode cX7_chainDigest 142 = .ok (.lload_n 3, 1) := by decide +kernel
theorem dX7_chainDigest_143 : decode cX7_chainDigest 143 = .ok (.lmul, 1) := by decide +kernel
theorem dX7_chainDigest_144 : decode cX7_chainDigest 144 = .ok (.iconst 5, 1) := by decide +kernel
theorem dX7_chainDigest_145 : decode cX7_chainDigest 145 = .ok (.iconst 1, 1) := by decide +kernel
theorem dX7_chainDigest_146 : decode cX7_chainDigest 146 = .ok (.invokestatic 257, 3) := by decide +kernel
theorem dX7_chainDigest_149 : decode cX7_chainDigest 149 = .ok (.ladd, 1) := by decide +kernel
theorem dX7_chainDigest_150 : decode cX7_chainDigest 150 = .ok (.lreturn, 1) := by decide +kernel
theorem dX7_digest_0 : decode cX7_digest 0 = .ok (.ldc2_w 313, 3) := by decide +kernel
theorem dX7_digest_3 : decode cX7_digest 3 = .ok (.lstore_n 1, 1) := by decide +kernel
theorem dX7_digest_4 : decode cX7_digest 4 = .ok (.iconst 0, 1) := by decide +kernel
theorem dX7_digest_5 : decode cX7_digest 5 = .ok (.istore_n 3, 1) := by decide +kernel
theorem dX7_digest_6 : decode cX7_digest 6 = .ok (.iload_n 3, 1) := by decide +kernel
theorem dX7_digest_7 : decode cX7_digest 7 = .ok (.bipush 8, 2) := by decide +kernel
theorem dX7_digest_9 : decode cX7_digest 9 = .ok (.if_icmp .ge 22, 3) := by decide +kernel
theorem dX7_digest_12 : decode cX7_digest 12 = .ok (.ldc2_w 311, 3) := by decide +kernel
theorem dX7_digest_15 : decode cX7_digest 15 = .ok (.lload_n 1, 1) := by decide +kernel
theorem dX7_digest_16 : decode cX7_digest 16 = .ok (.lmul, 1) := by decide +kernel
theorem dX7_digest_17 : decode cX7_digest 17 = .ok (.aload_n 0, 1) := by decide +kernel
theorem dX7_digest_18 : decode cX7_digest 18 = .ok (.iload_n 3, 1) := by decide +kernel
theorem dX7_digest_19 : decode cX7_digest 19 = .ok (.invokevirtual 315, 3) := by decide +kernel
theorem dX7_digest_22 : decode cX7_digest 22 = .ok (.i2l, 1) := by decide +kernel
theorem dX7_digest_23 : decode cX7_digest 23 = .ok (.ladd, 1) := by decide +kernel
theorem dX7_digest_24 : decode cX7_digest 24 = .ok (.lstore_n 1, 1) := by decide +kernel
theorem dX7_digest_25 : decode cX7_digest 25 = .ok (.iinc 3 1, 3) := by decide +kernel
theorem dX7_digest_28 : decode cX7_digest 28 = .ok (.goto (-22), 3) := by decide +kernel
theorem dX7_digest_31 : decode cX7_digest 31 = .ok (.ldc2_w 311, 3) := by decide +kernel
theorem dX7_digest_34 : decode cX7_digest 34 = .ok (.lload_n 1, 1) := by decide +kernel
theorem dX7_digest_35 : decode cX7_digest 35 = .ok (.lmul, 1) := by decide +kernel
theorem dX7_digest_36 : decode cX7_digest 36 = .ok (.aload_n 0, 1) := by decide +kernel
theorem dX7_digest_37 : decode cX7_digest 37 = .ok (.invokevirtual 150, 3) := by decide +kernel
theorem dX7_digest_40 : decode cX7_digest 40 = .ok (.i2l, 1) := by decide +kernel
theorem dX7_digest_41 : decode cX7_digest 41 = .ok (.ladd, 1) := by decide +kernel
theorem dX7_digest_42 : decode cX7_digest 42 = .ok (.lstore_n 1, 1) := by decide +kernel
theorem dX7_digest_43 : decode cX7_digest 43 = .ok (.iconst 0, 1) := by decide +kernel
theorem dX7_digest_44 : decode cX7_digest 44 = .ok (.istore_n 3, 1) := by decide +kernel
theorem dX7_digest_45 : decode cX7_digest 45 = .ok (.iload_n 3, 1) := by decide +kernel
theorem dX7_digest_46 : decode cX7_digest 46 = .ok (.aload_n 0, 1) := by decide +kernel
theorem dX7_digest_47 : decode cX7_digest 47 = .ok (.invokevirtual 107, 3) := by decide +kernel
theorem dX7_digest_50 : decode cX7_digest 50 = .ok (.if_icmp .ge 16, 3) := by decide +kernel
theorem dX7_digest_53 : decode cX7_digest 53 = .ok (.aload_n 0, 1) := by decide +kernel
theorem dX7_digest_54 : decode cX7_digest 54 = .ok (.lload_n 1, 1) := by decide +kernel
theorem dX7_digest_55 : decode cX7_digest 55 = .ok (.iload_n 3, 1) := by decide +kernel
theorem dX7_digest_56 : decode cX7_digest 56 = .ok (.invokevirtual 318, 3) := by decide +kernel
theorem dX7_digest_59 : decode cX7_digest 59 = .ok (.lstore_n 1, 1) := by decide +kernel
theorem dX7_digest_60 : decode cX7_digest 60 = .ok (.iinc 3 1, 3) := by decide +kernel
theorem dX7_digest_63 : decode cX7_digest 63 = .ok (.goto (-18), 3) := by decide +kernel
theorem dX7_digest_66 : decode cX7_digest 66 = .ok (.ldc2_w 311, 3) := by decide +kernel
theorem dX7_digest_69 : decode cX7_digest 69 = .ok (.lload_n 1, 1) := by decide +kernel
theorem dX7_digest_70 : decode cX7_digest 70 = .ok (.lmul, 1) := by decide +kernel
theorem dX7_digest_71 : decode cX7_digest 71 = .ok (.aload_n 0, 1) := by decide +kernel
theorem dX7_digest_72 : decode cX7_digest 72 = .ok (.invokevirtual 140, 3) := by decide +kernel
theorem dX7_digest_75 : decode cX7_digest 75 = .ok (.i2l, 1) := by decide +kernel
theorem dX7_digest_76 : decode cX7_digest 76 = .ok (.ladd, 1) := by decide +kernel
theorem dX7_digest_77 : decode cX7_digest 77 = .ok (.lstore_n 1, 1) := by decide +kernel
theorem dX7_digest_78 : decode cX7_digest 78 = .ok (.iconst 0, 1) := by decide +kernel
theorem dX7_digest_79 : decode cX7_digest 79 = .ok (.istore_n 3, 1) := by decide +kernel
theorem dX7_digest_80 : decode cX7_digest 80 = .ok (.iload_n 3, 1) := by decide +kernel
theorem dX7_digest_81 : decode cX7_digest 81 = .ok (.aload_n 0, 1) := by decide +kernel
theorem dX7_digest_82 : decode cX7_digest 82 = .ok (.getfield 81, 3) := by decide +kernel
theorem dX7_digest_85 : decode cX7_digest 85 = .ok (.if_icmp .ge 16, 3) := by decide +kernel
theorem dX7_digest_88 : decode cX7_digest 88 = .ok (.aload_n 0, 1) := by decide +kernel
theorem dX7_digest_89 : decode cX7_digest 89 = .ok (.lload_n 1, 1) := by decide +kernel
theorem dX7_digest_90 : decode cX7_digest 90 = .ok (.iload_n 3, 1) := by decide +kernel
theorem dX7_digest_91 : decode cX7_digest 91 = .ok (.invokevirtual 322, 3) := by decide +kernel
theorem dX7_digest_94 : decode cX7_digest 94 = .ok (.lstore_n 1, 1) := by decide +kernel
theorem dX7_digest_95 : decode cX7_digest 95 = .ok (.iinc 3 1, 3) := by decide +kernel
theorem dX7_digest_98 : decode cX7_digest 98 = .ok (.goto (-18), 3) := by decide +kernel
theorem dX7_digest_101 : decode cX7_digest 101 = .ok (.ldc2_w 311, 3) := by decide +kernel
theorem dX7_digest_104 : decode cX7_digest 104 = .ok (.lload_n 1, 1) := by decide +kernel
theorem dX7_digest_105 : decode cX7_digest 105 = .ok (.lmul, 1) := by decide +kernel
theorem dX7_digest_106 : decode cX7_digest 106 = .ok (.aload_n 0, 1) := by decide +kernel
theorem dX7_digest_107 : decode cX7_digest 107 = .ok (.iconst 0, 1) := by decide +kernel
theorem dX7_digest_108 : decode cX7_digest 108 = .ok (.invokevirtual 191, 3) := by decide +kernel
theorem dX7_digest_111 : decode cX7_digest 111 = .ok (.ladd, 1) := by decide +kernel
theorem dX7_digest_112 : decode cX7_digest 112 = .ok (.lstore_n 1, 1) := by decide +kernel
theorem dX7_digest_113 : decode cX7_digest 113 = .ok (.ldc2_w 311, 3) := by decide +kernel
theorem dX7_digest_116 : decode cX7_digest 116 = .ok (.lload_n 1, 1) := by decide +kernel
theorem dX7_digest_117 : decode cX7_digest 117 = .ok (.lmul, 1) := by decide +kernel
theorem dX7_digest_118 : decode cX7_digest 118 = .ok (.aload_n 0, 1) := by decide +kernel
theorem dX7_digest_119 : decode cX7_digest 119 = .ok (.iconst 1, 1) := by decide +kernel
theorem dX7_digest_120 : decode cX7_digest 120 = .ok (.invokevirtual 191, 3) := by decide +kernel
theorem dX7_digest_123 : decode cX7_digest 123 = .ok (.ladd, 1) := by decide +kernel
theorem dX7_digest_124 : decode cX7_digest 124 = .ok (.lstore_n 1, 1) := by decide +kernel
theorem dX7_digest_125 : decode cX7_digest 125 = .ok (.iconst 0, 1) := by decide +kernel
theorem dX7_digest_126 : decode cX7_digest 126 = .ok (.istore_n 3, 1) := by decide +kernel
theorem dX7_digest_127 : decode cX7_digest 127 = .ok (.iload_n 3, 1) := by decide +kernel
theorem dX7_digest_128 : decode cX7_digest 128 = .ok (.aload_n 0, 1) := by decide +kernel
theorem dX7_digest_129 : decode cX7_digest 129 = .ok (.getfield 194, 3) := by decide +kernel
theorem dX7_digest_132 : decode cX7_digest 132 = .ok (.if_icmp .ge 16, 3) := by decide +kernel
theorem dX7_digest_135 : decode cX7_digest 135 = .ok (.aload_n 0, 1) := by decide +kernel
theorem dX7_digest_136 : decode cX7_digest 136 = .ok (.lload_n 1, 1) := by decide +kernel
theorem dX7_digest_137 : decode cX7_digest 137 = .ok (.iload_n 3, 1) := by decide +kernel
theorem dX7_digest_138 : decode cX7_digest 138 = .ok (.invokevirtual 325, 3) := by decide +kernel
theorem dX7_digest_141 : decode cX7_digest 141 = .ok (.lstore_n 1, 1) := by decide +kernel
theorem dX7_digest_142 : decode cX7_digest 142 = .ok (.iinc 3 1, 3) := by decide +kernel
theorem dX7_digest_145 : decode cX7_digest 145 = .ok (.goto (-18), 3) := by decide +kernel
theorem dX7_digest_148 : decode cX7_digest 148 = .ok (.aload_n 0, 1) := by decide +kernel
theorem dX7_digest_149 : decode cX7_digest 149 = .ok (.lload_n 1, 1) := by decide +kernel
theorem dX7_digest_150 : decode cX7_digest 150 = .ok (.invokevirtual 328, 3) := by decide +kernel
theorem dX7_digest_153 : decode cX7_digest 153 = .ok (.lstore_n 1, 1) := by decide +kernel
theorem dX7_digest_154 : decode cX7_digest 154 = .ok (.iconst 1, 1) := by decide +kernel
theorem dX7_digest_155 : decode cX7_digest 155 = .ok (.istore_n 3, 1) := by decide +kernel
theorem dX7_digest_156 : decode cX7_digest 156 = .ok (.iload_n 3, 1) := by decide +kernel
theorem dX7_digest_157 : decode cX7_digest 157 = .ok (.bipush 15, 2) := by decide +kernel
theorem dX7_digest_159 : decode cX7_digest 159 = .ok (.if_icmp .gt 35, 3) := by decide +kernel
theorem dX7_digest_162 : decode cX7_digest 162 = .ok (.ldc2_w 311, 3) := by decide +kernel
theorem dX7_digest_165 : decode cX7_digest 165 = .ok (.lload_n 1, 1) := by decide +kernel
theorem dX7_digest_166 : decode cX7_digest 166 = .ok (.lmul, 1) := by decide +kernel
theorem dX7_digest_167 : decode cX7_digest 167 = .ok (.aload_n 0, 1) := by decide +kernel
theorem dX7_digest_168 : decode cX7_digest 168 = .ok (.iload_n 3, 1) := by decide +kernel
theorem dX7_digest_169 : decode cX7_digest 169 = .ok (.iconst 0, 1) := by decide +kernel
theorem dX7_digest_170 : decode cX7_digest 170 = .ok (.invokevirtual 266, 3) := by decide +kernel
theorem dX7_digest_173 : decode cX7_digest 173 = .ok (.ladd, 1) := by decide +kernel
theorem dX7_digest_174 : decode cX7_digest 174 = .ok (.lstore_n 1, 1) := by decide +kernel
theorem dX7_digest_175 : decode cX7_digest 175 = .ok (.ldc2_w 311, 3) := by decide +kernel
theorem dX7_digest_178 : decode cX7_digest 178 = .ok (.lload_n 1, 1) := by decide +kernel
theorem dX7_digest_179 : decode cX7_digest 179 = .ok (.lmul, 1) := by decide +kernel
theorem dX7_digest_180 : decode cX7_digest 180 = .ok (.aload_n 0, 1) := by decide +kernel
theorem dX7_digest_181 : decode cX7_digest 181 = .ok (.iload_n 3, 1) := by decide +kernel
theorem dX7_digest_182 : decode cX7_digest 182 = .ok (.iconst 1, 1) := by decide +kernel
theorem dX7_digest_183 : decode cX7_digest 183 = .ok (.invokevirtual 266, 3) := by decide +kernel
theorem dX7_digest_186 : decode cX7_digest 186 = .ok (.ladd, 1) := by decide +kernel
theorem dX7_digest_187 : decode cX7_digest 187 = .ok (.lstore_n 1, 1) := by decide +kernel
theorem dX7_digest_188 : decode cX7_digest 188 = .ok (.iinc 3 1, 3) := by decide +kernel
theorem dX7_digest_191 : decode cX7_digest 191 = .ok (.goto (-35), 3) := by decide +kernel
theorem dX7_digest_194 : decode cX7_digest 194 = .ok (.iconst 0, 1) := by decide +kernel
theorem dX7_digest_195 : decode cX7_digest 195 = .ok (.istore_n 3, 1) := by decide +kernel
theorem dX7_digest_196 : decode cX7_digest 196 = .ok (.iload_n 3, 1) := by decide +kernel
theorem dX7_digest_197 : decode cX7_digest 197 = .ok (.aload_n 0, 1) := by decide +kernel
theorem dX7_digest_198 : decode cX7_digest 198 = .ok (.invokevirtual 269, 3) := by decide +kernel
theorem dX7_digest_201 : decode cX7_digest 201 = .ok (.if_icmp .ge 22, 3) := by decide +kernel
theorem dX7_digest_204 : decode cX7_digest 204 = .ok (.ldc2_w 311, 3) := by decide +kernel
theorem dX7_digest_207 : decode cX7_digest 207 = .ok (.lload_n 1, 1) := by decide +kernel
theorem dX7_digest_208 : decode cX7_digest 208 = .ok (.lmul, 1) := by decide +kernel
theorem dX7_digest_209 : decode cX7_digest 209 = .ok (.aload_n 0, 1) := by decide +kernel
theorem dX7_digest_210 : decode cX7_digest 210 = .ok (.iload_n 3, 1) := by decide +kernel
theorem dX7_digest_211 : decode cX7_digest 211 = .ok (.invokevirtual 275, 3) := by decide +kernel
theorem dX7_digest_214 : decode cX7_digest 214 = .ok (.i2l, 1) := by decide +kernel
theorem dX7_digest_215 : decode cX7_digest 215 = .ok (.ladd, 1) := by decide +kernel
theorem dX7_digest_216 : decode cX7_digest 216 = .ok (.lstore_n 1, 1) := by decide +kernel
theorem dX7_digest_217 : decode cX7_digest 217 = .ok (.iinc 3 1, 3) := by decide +kernel
theorem dX7_digest_220 : decode cX7_digest 220 = .ok (.goto (-24), 3) := by decide +kernel
theorem dX7_digest_223 : decode cX7_digest 223 = .ok (.lload_n 1, 1) := by decide +kernel
theorem dX7_digest_224 : decode cX7_digest 224 = .ok (.lreturn, 1) := by decide +kernel
