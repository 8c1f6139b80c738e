theorem dX6_init_0 : decode cX6_init 0 = .ok (.aload_n 0, 1) := by decide +kernel
theorem dX6_init_1 : decode cX6_init 1 = .ok (.invokespecial 1, 3) := by decide +kernel
theorem dX6_init_4 : decode cX6_init 4 = .ok (.aload_n 0, 1) := by decide +kernel
theorem dX6_init_5 : decode cX6_init 5 = .ok (.new 7, 3) := by decide +kernel
theorem dX6_init_8 : decode cX6_init 8 = .ok (.dup, 1) := by decide +kernel
theorem dX6_init_9 : decode cX6_init 9 = .ok (.invokespecial 9, 3) := by decide +kernel
theorem dX6_init_12 : decode cX6_init 12 = .ok (.putfield 10, 3) := by decide +kernel
theorem dX6_init_15 : decode cX6_init 15 = .ok (.aload_n 0, 1) := by decide +kernel
theorem dX6_init_16 : decode cX6_init 16 = .ok (.new 16, 3) := by decide +kernel
theorem dX6_init_19 : decode cX6_init 19 = .ok (.dup, 1) := by decide +kernel
theorem dX6_init_20 : decode cX6_init 20 = .ok (.invokespecial 18, 3) := by decide +kernel
theorem dX6_init_23 : decode cX6_init 23 = .ok (.putfield 19, 3) := by decide +kernel
theorem dX6_init_26 : decode cX6_init 26 = .ok (.aload_n 0, 1) := by decide +kernel
theorem dX6_init_27 : decode cX6_init 27 = .ok (.new 23, 3) := by decide +kernel
theorem dX6_init_30 : decode cX6_init 30 = .ok (.dup, 1) := by decide +kernel
theorem dX6_init_31 : decode cX6_init 31 = .ok (.invokespecial 25, 3) := by decide +kernel
theorem dX6_init_34 : decode cX6_init 34 = .ok (.putfield 26, 3) := by decide +kernel
theorem dX6_init_37 : decode cX6_init 37 = .ok (.aload_n 0, 1) := by decide +kernel
theorem dX6_init_38 : decode cX6_init 38 = .ok (.new 30, 3) := by decide +kernel
theorem dX6_init_41 : decode cX6_init 41 = .ok (.dup, 1) := by decide +kernel
theorem dX6_init_42 : decode cX6_init 42 = .ok (.invokespecial 32, 3) := by decide +kernel
theorem dX6_init_45 : decode cX6_init 45 = .ok (.putfield 33, 3) := by decide +kernel
theorem dX6_init_48 : decode cX6_init 48 = .ok (.aload_n 0, 1) := by decide +kernel
theorem dX6_init_49 : decode cX6_init 49 = .ok (.new 37, 3) := by decide +kernel
theorem dX6_init_52 : decode cX6_init 52 = .ok (.dup, 1) := by decide +kernel
theorem dX6_init_53 : decode cX6_init 53 = .ok (.invokespecial 39, 3) := by decide +kernel
theorem dX6_init_56 : decode cX6_init 56 = .ok (.putfield 40, 3) := by decide +kernel
theorem dX6_init_59 : decode cX6_init 59 = .ok (.aload_n 0, 1) := by decide +kernel
theorem dX6_init_60 : decode cX6_init 60 = .ok (.iconst 4, 1) := by decide +kernel
theorem dX6_init_61 : decode cX6_init 61 = .ok (.anewarray 44, 3) := by decide +kernel
theorem dX6_init_64 : decode cX6_init 64 = .ok (.putfield 46, 3) := by decide +kernel
theorem dX6_init_67 : decode cX6_init 67 = .ok (.aload_n 0, 1) := by decide +kernel
theorem dX6_init_68 : decode cX6_init 68 = .ok (.iconst 5, 1) := by decide +kernel
theorem dX6_init_69 : decode cX6_init 69 = .ok (.newarray .int, 2) := by decide +kernel
theorem dX6_init_71 : decode cX6_init 71 = .ok (.putfield 50, 3) := by decide +kernel
theorem dX6_init_74 : decode cX6_init 74 = .ok (.aload_n 0, 1) := by decide +kernel
theorem dX6_init_75 : decode cX6_init 75 = .ok (.iconst 0, 1) := by decide +kernel
theorem dX6_init_76 : decode cX6_init 76 = .ok (.putfield 54, 3) := by decide +kernel
theorem dX6_init_79 : decode cX6_init 79 = .ok (.aload_n 0, 1) := by decide +kernel
theorem dX6_init_80 : decode cX6_init 80 = .ok (.iconst 0, 1) := by decide +kernel
theorem dX6_init_81 : decode cX6_init 81 = .ok (.putfield 58, 3) := by decide +kernel
theorem dX6_init_84 : decode cX6_init 84 = .ok (.aload_n 0, 1) := by decide +kernel
theorem dX6_init_85 : decode cX6_init 85 = .ok (.iconst 0, 1) := by decide +kernel
theorem dX6_init_86 : decode cX6_init 86 = .ok (.putfield 61, 3) := by decide +kernel
theorem dX6_init_89 : decode cX6_init 89 = .ok (.aload_n 0, 1) := by decide +kernel
theorem dX6_init_90 : decode cX6_init 90 = .ok (.iconst 0, 1) := by decide +kernel
theorem dX6_init_91 : decode cX6_init 91 = .ok (.putfield 64, 3) := by decide +kernel
theorem dX6_init_94 : decode cX6_init 94 = .ok (.aload_n 0, 1) := by decide +kernel
theorem dX6_init_95 : decode cX6_init 95 = .ok (.iconst 1, 1) := by decide +kernel
theorem dX6_init_96 : decode cX6_init 96 = .ok (.putfield 67, 3) := by decide +kernel
theorem dX6_init_99 : decode cX6_init 99 = .ok (.iconst 0, 1) := by decide +kernel
theorem dX6_init_100 : decode cX6_init 100 = .ok (.istore_n 1, 1) := by decide +kernel
theorem dX6_init_101 : decode cX6_init 101 = .ok (.iload_n 1, 1) := by decide +kernel
theorem dX6_init_102 : decode cX6_init 102 = .ok (.iconst 4, 1) := by decide +kernel
theorem dX6_init_103 : decode cX6_init 103 = .ok (.if_icmp .ge 22, 3) := by decide +kernel
theorem dX6_init_106 : decode cX6_init 106 = .ok (.aload_n 0, 1) := by decide +kernel
theorem dX6_init_107 : decode cX6_init 107 = .ok (.getfield 46, 3) := by decide +kernel
theorem dX6_init_110 : decode cX6_init 110 = .ok (.iload_n 1, 1) := by decide +kernel
theorem dX6_init_111 : decode cX6_init 111 = .ok (.new 44, 3) := by decide +kernel
theorem dX6_init_114 : decode cX6_init 114 = .ok (.dup, 1) := by decide +kernel
theorem dX6_init_115 : decode cX6_init 115 = .ok (.invokespecial 71, 3) := by decide +kernel
theorem dX6_init_118 : decode cX6_init 118 = .ok (.aastore, 1) := by decide +kernel
theorem dX6_init_119 : decode cX6_init 119 = .ok (.iinc 1 1, 3) := by decide +kernel
theorem dX6_init_122 : decode cX6_init 122 = .ok (.goto (-21), 3) := by decide +kernel
theorem dX6_init_125 : decode cX6_init 125 = .ok (.return_, 1) := by decide +kernel
theorem dX6_edge_0 : decode cX6_edge 0 = .ok (.iload_n 1, 1) := by decide +kernel
theorem dX6_edge_1 : decode cX6_edge 1 = .ok (.invokestatic 72, 3) := by decide +kernel
theorem dX6_edge_4 : decode cX6_edge 4 = .ok (.ifCond .ne 6, 3) := by decide +kernel
theorem dX6_edge_7 : decode cX6_edge 7 = .ok (.bipush (-2), 2) := by decide +kernel
theorem dX6_edge_9 : decode cX6_edge 9 = .ok (.ireturn, 1) := by decide +kernel
theorem dX6_edge_10 : decode cX6_edge 10 = .ok (.aload_n 0, 1) := by decide +kernel
theorem dX6_edge_11 : decode cX6_edge 11 = .ok (.getfield 10, 3) := by decide +kernel
theorem dX6_edge_14 : decode cX6_edge 14 = .ok (.iload_n 1, 1) := by decide +kernel
theorem dX6_edge_15 : decode cX6_edge 15 = .ok (.invokevirtual 76, 3) := by decide +kernel
theorem dX6_edge_18 : decode cX6_edge 18 = .ok (.ifCond .eq 6, 3) := by decide +kernel
theorem dX6_edge_21 : decode cX6_edge 21 = .ok (.bipush (-3), 2) := by decide +kernel
theorem dX6_edge_23 : decode cX6_edge 23 = .ok (.ireturn, 1) := by decide +kernel
theorem dX6_edge_24 : decode cX6_edge 24 = .ok (.aload_n 0, 1) := by decide +kernel
theorem dX6_edge_25 : decode cX6_edge 25 = .ok (.getfield 10, 3) := by decide +kernel
theorem dX6_edge_28 : decode cX6_edge 28 = .ok (.invokevirtual 79, 3) := by decide +kernel
theorem dX6_edge_31 : decode cX6_edge 31 = .ok (.ifCond .eq 6, 3) := by decide +kernel
theorem dX6_edge_34 : decode cX6_edge 34 = .ok (.bipush (-4), 2) := by decide +kernel
theorem dX6_edge_36 : decode cX6_edge 36 = .ok (.ireturn, 1) := by decide +kernel
theorem dX6_edge_37 : decode cX6_edge 37 = .ok (.aload_n 0, 1) := by decide +kernel
theorem dX6_edge_38 : decode cX6_edge 38 = .ok (.iconst 1, 1) := by decide +kernel
theorem dX6_edge_39 : decode cX6_edge 39 = .ok (.putfield 67, 3) := by decide +kernel
theorem dX6_edge_42 : decode cX6_edge 42 = .ok (.aload_n 0, 1) := by decide +kernel
theorem dX6_edge_43 : decode cX6_edge 43 = .ok (.getfield 10, 3) := by decide +kernel
theorem dX6_edge_46 : decode cX6_edge 46 = .ok (.iload_n 1, 1) := by decide +kernel
theorem dX6_edge_47 : decode cX6_edge 47 = .ok (.invokevirtual 83, 3) := by decide +kernel
theorem dX6_edge_50 : decode cX6_edge 50 = .ok (.ireturn, 1) := by decide +kernel
theorem dX6_edges_0 : decode cX6_edges 0 = .ok (.iload_n 1, 1) := by decide +kernel
theorem dX6_edges_1 : decode cX6_edges 1 = .ok (.invokestatic 72, 3) := by decide +kernel
theorem dX6_edges_4 : decode cX6_edges 4 = .ok (.ifCond .eq 24, 3) := by decide +kernel
theorem dX6_edges_7 : decode cX6_edges 7 = .ok (.iload_n 2, 1) := by decide +kernel
theorem dX6_edges_8 : decode cX6_edges 8 = .ok (.iconst 1, 1) := by decide +kernel
theorem dX6_edges_9 : decode cX6_edges 9 = .ok (.sipush 600, 3) := by decide +kernel
theorem dX6_edges_12 : decode cX6_edges 12 = .ok (.invokestatic 87, 3) := by decide +kernel
theorem dX6_edges_15 : decode cX6_edges 15 = .ok (.ifCond .eq 13, 3) := by decide +kernel
theorem dX6_edges_18 : decode cX6_edges 18 = .ok (.iload_n 3, 1) := by decide +kernel
theorem dX6_edges_19 : decode cX6_edges 19 = .ok (.iconst 1, 1) := by decide +kernel
theorem dX6_edges_20 : decode cX6_edges 20 = .ok (.bipush 32, 2) := by decide +kernel
theorem dX6_edges_22 : decode cX6_edges 22 = .ok (.invokestatic 87, 3) := by decide +kernel
theorem dX6_edges_25 : decode cX6_edges 25 = .ok (.ifCond .ne 6, 3) := by decide +kernel
theorem dX6_edges_28 : decode cX6_edges 28 = .ok (.bipush (-2), 2) := by decide +kernel
theorem dX6_edges_30 : decode cX6_edges 30 = .ok (.ireturn, 1) := by decide +kernel
theorem dX6_edges_31 : decode cX6_edges 31 = .ok (.aload_n 0, 1) := by decide +kernel
theorem dX6_edges_32 : decode cX6_edges 32 = .ok (.iconst 1, 1) := by decide +kernel
theorem dX6_edges_33 : decode cX6_edges 33 = .ok (.putfield 67, 3) := by decide +kernel
theorem dX6_edges_36 : decode cX6_edges 36 = .ok (.iconst 0, 1) := by decide +kernel
theorem dX6_edges_37 : decode cX6_edges 37 = .ok (.istore 4, 2) := by decide +kernel
theorem dX6_edges_39 : decode cX6_edges 39 = .ok (.iload 4, 2) := by decide +kernel
theorem dX6_edges_41 : decode cX6_edges 41 = .ok (.iload_n 3, 1) := by decide +kernel
theorem dX6_edges_42 : decode cX6_edges 42 = .ok (.if_icmp .ge 60, 3) := by decide +kernel
theorem dX6_edges_45 : decode cX6_edges 45 = .ok (.iload_n 1, 1) := by decide +kernel
theorem dX6_edges_46 : decode cX6_edges 46 = .ok (.iload 4, 2) := by decide +kernel
theorem dX6_edges_48 : decode cX6_edges 48 = .ok (.iload_n 2, 1) := by decide +kernel
theorem dX6_edges_49 : decode cX6_edges 49 = .ok (.imul, 1) := by decide +kernel
theorem dX6_edges_50 : decode cX6_edges 50 = .ok (.iadd, 1) := by decide +kernel
theorem dX6_edges_51 : decode cX6_edges 51 = .ok (.istore 5, 2) := by decide +kernel
theorem dX6_edges_53 : decode cX6_edges 53 = .ok (.aload_n 0, 1) := by decide +kernel
theorem dX6_edges_54 : decode cX6_edges 54 = .ok (.getfield 10, 3) := by decide +kernel
theorem dX6_edges_57 : decode cX6_edges 57 = .ok (.invokevirtual 79, 3) := by decide +kernel
theorem dX6_edges_60 : decode cX6_edges 60 = .ok (.ifCond .ne 23, 3) := by decide +kernel
theorem dX6_edges_63 : decode cX6_edges 63 = .ok (.iload 5, 2) := by decide +kernel
theorem dX6_edges_65 : decode cX6_edges 65 = .ok (.invokestatic 72, 3) := by decide +kernel
theorem dX6_edges_68 : decode cX6_edges 68 = .ok (.ifCond .eq 15, 3) := by decide +kernel
theorem dX6_edges_71 : decode cX6_edges 71 = .ok (.aload_n 0, 1) := by decide +kernel
theorem dX6_edges_72 : decode cX6_edges 72 = .ok (.getfield 10, 3) := by decide +kernel
theorem dX6_edges_75 : decode cX6_edges 75 = .ok (.iload 5, 2) := by decide +kernel
theorem dX6_edges_77 : decode cX6_edges 77 = .ok (.invokevirtual 76, 3) := by decide +kernel
theorem dX6_edges_80 : decode cX6_edges 80 = .ok (.ifCond .eq 6, 3) := by decide +kernel
theorem dX6_edges_83 : decode cX6_edges 83 = .ok (.iload 4, 2) := by decide +kernel
theorem dX6_edges_85 : decode cX6_edges 85 = .ok (.ireturn, 1) := by decide +kernel
theorem dX6_edges_86 : decode cX6_edges 86 = .ok (.aload_n 0, 1) := by decide +kernel
theorem dX6_edges_87 : decode cX6_edges 87 = .ok (.getfield 10, 3) := by decide +kernel
theorem dX6_edges_90 : decode cX6_edges 90 = .ok (.iload 5, 2) := by decide +kernel
theorem dX6_edges_92 : decode cX6_edges 92 = .ok (.invokevirtual 83, 3) := by decide +kernel
theorem dX6_edges_95 : decode cX6_edges 95 = .ok (.pop, 1) := by decide +kernel
theorem dX6_edges_96 : decode cX6_edges 96 = .ok (.iinc 4 1, 3) := by decide +kernel
theorem dX6_edges_99 : decode cX6_edges 99 = .ok (.goto (-60), 3) := by decide +kernel
theorem dX6_edges_102 : decode cX6_edges 102 = .ok (.iload_n 3, 1) := by decide +kernel
theorem dX6_edges_103 : decode cX6_edges 103 = .ok (.ireturn, 1) := by decide +kernel
theorem dX6_gone_0 : decode cX6_gone 0 = .ok (.aload_n 0, 1) := by decide +kernel
theorem dX6_gone_1 : decode cX6_gone 1 = .ok (.iload_n 1, 1) := by decide +kernel
theorem dX6_gone_2 : decode cX6_gone 2 = .ok (.invokevirtual 91, 3) := by decide +kernel
theorem dX6_gone_5 : decode cX6_gone 5 = .ok (.ifCond .ne 6, 3) := by decide +kernel
theorem dX6_gone_8 : decode cX6_gone 8 = .ok (.bipush (-2), 2) := by decide +kernel
theorem dX6_gone_10 : decode cX6_gone 10 = .ok (.ireturn, 1) := by decide +kernel
theorem dX6_gone_11 : decode cX6_gone 11 = .ok (.aload_n 0, 1) := by decide +kernel
theorem dX6_gone_12 : decode cX6_gone 12 = .ok (.iconst 1, 1) := by decide +kernel
theorem dX6_gone_13 : decode cX6_gone 13 = .ok (.putfield 67, 3) := by decide +kernel
theorem dX6_gone_16 : decode cX6_gone 16 = .ok (.aload_n 0, 1) := by decide +kernel
theorem dX6_gone_17 : decode cX6_gone 17 = .ok (.getfield 10, 3) := by decide +kernel
theorem dX6_gone_20 : decode cX6_gone 20 = .ok (.iload_n 1, 1) := by decide +kernel
theorem dX6_gone_21 : decode cX6_gone 21 = .ok (.invokevirtual 94, 3) := by decide +kernel
theorem dX6_gone_24 : decode cX6_gone 24 = .ok (.ireturn, 1) := by decide +kernel
theorem dX6_clear_0 : decode cX6_clear 0 = .ok (.aload_n 0, 1) := by decide +kernel
theorem dX6_clear_1 : decode cX6_clear 1 = .ok (.getfield 10, 3) := by decide +kernel
theorem dX6_clear_4 : decode cX6_clear 4 = .ok (.getfield 97, 3) := by decide +kernel
theorem dX6_clear_7 : decode cX6_clear 7 = .ok (.istore_n 1, 1) := by decide +kernel
theorem dX6_clear_8 : decode cX6_clear 8 = .ok (.aload_n 0, 1) := by decide +kernel
theorem dX6_clear_9 : decode cX6_clear 9 = .ok (.getfield 10, 3) := by decide +kernel
theorem dX6_clear_12 : decode cX6_clear 12 = .ok (.iconst 0, 1) := by decide +kernel
theorem dX6_clear_13 : decode cX6_clear 13 = .ok (.putfield 97, 3) := by decide +kernel
theorem dX6_clear_16 : decode cX6_clear 16 = .ok (.aload_n 0, 1) := by decide +kernel
theorem dX6_clear_17 : decode cX6_clear 17 = .ok (.iconst 1, 1) := by decide +kernel
theorem dX6_clear_18 : decode cX6_clear 18 = .ok (.putfield 67, 3) := by decide +kernel
theorem dX6_clear_21 : decode cX6_clear 21 = .ok (.iload_n 1, 1) := by decide +kernel
theorem dX6_clear_22 : decode cX6_clear 22 = .ok (.ireturn, 1) := by decide +kernel
theorem dX6_cut_0 : decode cX6_cut 0 = .ok (.iload_n 1, 1) := by decide +kernel
theorem dX6_cut_1 : decode cX6_cut 1 = .ok (.iconst 1, 1) := by decide +kernel
theorem dX6_cut_2 : decode cX6_cut 2 = .ok (.bipush 59, 2) := by decide +kernel
theorem dX6_cut_4 : decode cX6_cut 4 = .ok (.invokestatic 87, 3) := by decide +kernel
theorem dX6_cut_7 : decode cX6_cut 7 = .ok (.ifCond .ne 6, 3) := by decide +kernel
theorem dX6_cut_10 : decode cX6_cut 10 = .ok (.bipush (-2), 2) := by decide +kernel
theorem dX6_cut_12 : decode cX6_cut 12 = .ok (.ireturn, 1) := by decide +kernel
theorem dX6_cut_13 : decode cX6_cut 13 = .ok (.aload_n 0, 1) := by decide +kernel
theorem dX6_cut_14 : decode cX6_cut 14 = .ok (.getfield 19, 3) := by decide +kernel
theorem dX6_cut_17 : decode cX6_cut 17 = .ok (.iload_n 1, 1) := by decide +kernel
theorem dX6_cut_18 : decode cX6_cut 18 = .ok (.invokevirtual 100, 3) := by decide +kernel
theorem dX6_cut_21 : decode cX6_cut 21 = .ok (.istore_n 2, 1) := by decide +kernel
theorem dX6_cut_22 : decode cX6_cut 22 = .ok (.aload_n 0, 1) := by decide +kernel
theorem dX6_cut_23 : decode cX6_cut 23 = .ok (.getfield 19, 3) := by decide +kernel
theorem dX6_cut_26 : decode cX6_cut 26 = .ok (.getfield 103, 3) := by decide +kernel
theorem dX6_cut_29 : decode cX6_cut 29 = .ok (.iload_n 2, 1) := by decide +kernel
theorem dX6_cut_30 : decode cX6_cut 30 = .ok (.iaload, 1) := by decide +kernel
theorem dX6_cut_31 : decode cX6_cut 31 = .ok (.iload_n 1, 1) := by decide +kernel
theorem dX6_cut_32 : decode cX6_cut 32 = .ok (.if_icmp .ne 14, 3) := by decide +kernel
theorem dX6_cut_35 : decode cX6_cut 35 = .ok (.aload_n 0, 1) := by decide +kernel
theorem dX6_cut_36 : decode cX6_cut 36 = .ok (.getfield 19, 3) := by decide +kernel
theorem dX6_cut_39 : decode cX6_cut 39 = .ok (.iload_n 2, 1) := by decide +kernel
theorem dX6_cut_40 : decode cX6_cut 40 = .ok (.invokevirtual 106, 3) := by decide +kernel
theorem dX6_cut_43 : decode cX6_cut 43 = .ok (.goto 30, 3) := by decide +kernel
theorem dX6_cut_46 : decode cX6_cut 46 = .ok (.aload_n 0, 1) := by decide +kernel
theorem dX6_cut_47 : decode cX6_cut 47 = .ok (.getfield 19, 3) := by decide +kernel
theorem dX6_cut_50 : decode cX6_cut 50 = .ok (.getfield 110, 3) := by decide +kernel
theorem dX6_cut_53 : decode cX6_cut 53 = .ok (.bipush 12, 2) := by decide +kernel
theorem dX6_cut_55 : decode cX6_cut 55 = .ok (.if_icmp .ge 15, 3) := by decide +kernel
theorem dX6_cut_58 : decode cX6_cut 58 = .ok (.aload_n 0, 1) := by decide +kernel
theorem dX6_cut_59 : decode cX6_cut 59 = .ok (.getfield 19, 3) := by decide +kernel
theorem dX6_cut_62 : decode cX6_cut 62 = .ok (.iload_n 2, 1) := by decide +kernel
theorem dX6_cut_63 : decode cX6_cut 63 = .ok (.iload_n 1, 1) := by decide +kernel
theorem dX6_cut_64 : decode cX6_cut 64 = .ok (.invokevirtual 111, 3) := by decide +kernel
theorem dX6_cut_67 : decode cX6_cut 67 = .ok (.goto 6, 3) := by decide +kernel
theorem dX6_cut_70 : decode cX6_cut 70 = .ok (.bipush (-4), 2) := by decide +kernel
theorem dX6_cut_72 : decode cX6_cut 72 = .ok (.ireturn, 1) := by decide +kernel
theorem dX6_cut_73 : decode cX6_cut 73 = .ok (.aload_n 0, 1) := by decide +kernel
theorem dX6_cut_74 : decode cX6_cut 74 = .ok (.iconst 1, 1) := by decide +kernel
theorem dX6_cut_75 : decode cX6_cut 75 = .ok (.putfield 67, 3) := by decide +kernel
theorem dX6_cut_78 : decode cX6_cut 78 = .ok (.aload_n 0, 1) := by decide +kernel
theorem dX6_cut_79 : decode cX6_cut 79 = .ok (.getfield 19, 3) := by decide +kernel
theorem dX6_cut_82 : decode cX6_cut 82 = .ok (.getfield 110, 3) := by decide +kernel
theorem dX6_cut_85 : decode cX6_cut 85 = .ok (.ireturn, 1) := by decide +kernel
theorem dX6_hit_0 : decode cX6_hit 0 = .ok (.iload_n 1, 1) := by decide +kernel
theorem dX6_hit_1 : decode cX6_hit 1 = .ok (.invokestatic 115, 3) := by decide +kernel
theorem dX6_hit_4 : decode cX6_hit 4 = .ok (.ifCond .eq 13, 3) := by decide +kernel
theorem dX6_hit_7 : decode cX6_hit 7 = .ok (.iload_n 2, 1) := by decide +kernel
theorem dX6_hit_8 : decode cX6_hit 8 = .ok (.iconst 1, 1) := by decide +kernel
theorem dX6_hit_9 : decode cX6_hit 9 = .ok (.bipush 99, 2) := by decide +kernel
theorem dX6_hit_11 : decode cX6_hit 11 = .ok (.invokestatic 87, 3) := by decide +kernel
theorem dX6_hit_14 : decode cX6_hit 14 = .ok (.ifCond .ne 6, 3) := by decide +kernel
theorem dX6_hit_17 : decode cX6_hit 17 = .ok (.bipush (-2), 2) := by decide +kernel
theorem dX6_hit_19 : decode cX6_hit 19 = .ok (.ireturn, 1) := by decide +kernel
theorem dX6_hit_20 : decode cX6_hit 20 = .ok (.aload_n 0, 1) := by decide +kernel
theorem dX6_hit_21 : decode cX6_hit 21 = .ok (.getfield 19, 3) := by decide +kernel
theorem dX6_hit_24 : decode cX6_hit 24 = .ok (.getfield 118, 3) := by decide +kernel
theorem dX6_hit_27 : decode cX6_hit 27 = .ok (.iload_n 2, 1) := by decide +kernel
theorem dX6_hit_28 : decode cX6_hit 28 = .ok (.iadd, 1) := by decide +kernel
theorem dX6_hit_29 : decode cX6_hit 29 = .ok (.sipush 400, 3) := by decide +kernel
theorem dX6_hit_32 : decode cX6_hit 32 = .ok (.if_icmp .le 6, 3) := by decide +kernel
theorem dX6_hit_35 : decode cX6_hit 35 = .ok (.bipush (-4), 2) := by decide +kernel
theorem dX6_hit_37 : decode cX6_hit 37 = .ok (.ireturn, 1) := by decide +kernel
theorem dX6_hit_38 : decode cX6_hit 38 = .ok (.aload_n 0, 1) := by decide +kernel
theorem dX6_hit_39 : decode cX6_hit 39 = .ok (.iconst 1, 1) := by decide +kernel
theorem dX6_hit_40 : decode cX6_hit 40 = .ok (.putfield 67, 3) := by decide +kernel
theorem dX6_hit_43 : decode cX6_hit 43 = .ok (.aload_n 0, 1) := by decide +kernel
theorem dX6_hit_44 : decode cX6_hit 44 = .ok (.getfield 19, 3) := by decide +kernel
theorem dX6_hit_47 : decode cX6_hit 47 = .ok (.iload_n 1, 1) := by decide +kernel
theorem dX6_hit_48 : decode cX6_hit 48 = .ok (.iload_n 2, 1) := by decide +kernel
theorem dX6_hit_49 : decode cX6_hit 49 = .ok (.invokevirtual 121, 3) := by decide +kernel
theorem dX6_hit_52 : decode cX6_hit 52 = .ok (.ireturn, 1) := by decide +kernel
theorem dX6_sweep_0 : decode cX6_sweep 0 = .ok (.iload_n 1, 1) := by decide +kernel
theorem dX6_sweep_1 : decode cX6_sweep 1 = .ok (.iconst 1, 1) := by decide +kernel
theorem dX6_sweep_2 : decode cX6_sweep 2 = .ok (.bipush 59, 2) := by decide +kernel
theorem dX6_sweep_4 : decode cX6_sweep 4 = .ok (.invokestatic 87, 3) := by decide +kernel
theorem dX6_sweep_7 : decode cX6_sweep 7 = .ok (.ifCond .eq 14, 3) := by decide +kernel
theorem dX6_sweep_10 : decode cX6_sweep 10 = .ok (.iload_n 2, 1) := by decide +kernel
theorem dX6_sweep_11 : decode cX6_sweep 11 = .ok (.iconst 1, 1) := by decide +kernel
theorem dX6_sweep_12 : decode cX6_sweep 12 = .ok (.sipush 400, 3) := by decide +kernel
theorem dX6_sweep_15 : decode cX6_sweep 15 = .ok (.invokestatic 87, 3) := by decide +kernel
theorem dX6_sweep_18 : decode cX6_sweep 18 = .ok (.ifCond .ne 6, 3) := by decide +kernel
theorem dX6_sweep_21 : decode cX6_sweep 21 = .ok (.bipush (-2), 2) := by decide +kernel
theorem dX6_sweep_23 : decode cX6_sweep 23 = .ok (.ireturn, 1) := by decide +kernel
theorem dX6_sweep_24 : decode cX6_sweep 24 = .ok (.aload_n 0, 1) := by decide +kernel
theorem dX6_sweep_25 : decode cX6_sweep 25 = .ok (.getfield 19, 3) := by decide +kernel
theorem dX6_sweep_28 : decode cX6_sweep 28 = .ok (.getfield 118, 3) := by decide +kernel
theorem dX6_sweep_31 : decode cX6_sweep 31 = .ok (.iload_n 2, 1) := by decide +kernel
theorem dX6_sweep_32 : decode cX6_sweep 32 = .ok (.iadd, 1) := by decide +kernel
theorem dX6_sweep_33 : decode cX6_sweep 33 = .ok (.sipush 400, 3) := by decide +kernel
theorem dX6_sweep_36 : decode cX6_sweep 36 = .ok (.if_icmp .le 6, 3) := by decide +kernel
theorem dX6_sweep_39 : decode cX6_sweep 39 = .ok (.bipush (-4), 2) := by decide +kernel
theorem dX6_sweep_41 : decode cX6_sweep 41 = .ok (.ireturn, 1) := by decide +kernel
theorem dX6_sweep_42 : decode cX6_sweep 42 = .ok (.aload_n 0, 1) := by decide +kernel
theorem dX6_sweep_43 : decode cX6_sweep 43 = .ok (.iconst 1, 1) := by decide +kernel
theorem dX6_sweep_44 : decode cX6_sweep 44 = .ok (.putfield 67, 3) := by decide +kernel
theorem dX6_sweep_47 : decode cX6_sweep 47 = .ok (.iconst 0, 1) := by decide +kernel
theorem dX6_sweep_48 : decode cX6_sweep 48 = .ok (.istore_n 3, 1) := by decide +kernel
theorem dX6_sweep_49 : decode cX6_sweep 49 = .ok (.iload_n 3, 1) := by decide +kernel
theorem dX6_sweep_50 : decode cX6_sweep 50 = .ok (.iload_n 2, 1) := by decide +kernel
theorem dX6_sweep_51 : decode cX6_sweep 51 = .ok (.if_icmp .ge 24, 3) := by decide +kernel
theorem dX6_sweep_54 : decode cX6_sweep 54 = .ok (.aload_n 0, 1) := by decide +kernel
theorem dX6_sweep_55 : decode cX6_sweep 55 = .ok (.getfield 19, 3) := by decide +kernel
theorem dX6_sweep_58 : decode cX6_sweep 58 = .ok (.iload_n 3, 1) := by decide +kernel
theorem dX6_sweep_59 : decode cX6_sweep 59 = .ok (.iload_n 1, 1) := by decide +kernel
theorem dX6_sweep_60 : decode cX6_sweep 60 = .ok (.imul, 1) := by decide +kernel
theorem dX6_sweep_61 : decode cX6_sweep 61 = .ok (.bipush 60, 2) := by decide +kernel
theorem dX6_sweep_63 : decode cX6_sweep 63 = .ok (.irem, 1) := by decide +kernel
theorem dX6_sweep_64 : decode cX6_sweep 64 = .ok (.iconst 1, 1) := by decide +kernel
theorem dX6_sweep_65 : decode cX6_sweep 65 = .ok (.invokevirtual 121, 3) := by decide +kernel
theorem dX6_sweep_68 : decode cX6_sweep 68 = .ok (.pop, 1) := by decide +kernel
theorem dX6_sweep_69 : decode cX6_sweep 69 = .ok (.iinc 3 1, 3) := by decide +kernel
theorem dX6_sweep_72 : decode cX6_sweep 72 = .ok (.goto (-23), 3) := by decide +kernel
theorem dX6_sweep_75 : decode cX6_sweep 75 = .ok (.aload_n 0, 1) := by decide +kernel
theorem dX6_sweep_76 : decode cX6_sweep 76 = .ok (.getfield 19, 3) := by decide +kernel
theorem dX6_sweep_79 : decode cX6_sweep 79 = .ok (.getfield 118, 3) := by decide +kernel
theorem dX6_sweep_82 : decode cX6_sweep 82 = .ok (.ireturn, 1) := by decide +kernel
theorem dX6_fresh_0 : decode cX6_fresh 0 = .ok (.aload_n 0, 1) := by decide +kernel
theorem dX6_fresh_1 : decode cX6_fresh 1 = .ok (.getfield 19, 3) := by decide +kernel
theorem dX6_fresh_4 : decode cX6_fresh 4 = .ok (.getfield 118, 3) := by decide +kernel
theorem dX6_fresh_7 : decode cX6_fresh 7 = .ok (.istore_n 1, 1) := by decide +kernel
theorem dX6_fresh_8 : decode cX6_fresh 8 = .ok (.aload_n 0, 1) := by decide +kernel
theorem dX6_fresh_9 : decode cX6_fresh 9 = .ok (.getfield 19, 3) := by decide +kernel
theorem dX6_fresh_12 : decode cX6_fresh 12 = .ok (.invokevirtual 125, 3) := by decide +kernel
theorem dX6_fresh_15 : decode cX6_fresh 15 = .ok (.aload_n 0, 1) := by decide +kernel
theorem dX6_fresh_16 : decode cX6_fresh 16 = .ok (.iconst 1, 1) := by decide +kernel
theorem dX6_fresh_17 : decode cX6_fresh 17 = .ok (.putfield 67, 3) := by decide +kernel
theorem dX6_fresh_20 : decode cX6_fresh 20 = .ok (.iload_n 1, 1) := by decide +kernel
theorem dX6_fresh_21 : decode cX6_fresh 21 = .ok (.ireturn, 1) := by decide +kernel
theorem dX6_bin_0 : decode cX6_bin 0 = .ok (.aload_n 0, 1) := by decide +kernel
theorem dX6_bin_1 : decode cX6_bin 1 = .ok (.iload_n 1, 1) := by decide +kernel
theorem dX6_bin_2 : decode cX6_bin 2 = .ok (.invokevirtual 128, 3) := by decide +kernel
theorem dX6_bin_5 : decode cX6_bin 5 = .ok (.ifCond .eq 12, 3) := by decide +kernel
theorem dX6_bin_8 : decode cX6_bin 8 = .ok (.iload_n 2, 1) := by decide +kernel
theorem dX6_bin_9 : decode cX6_bin 9 = .ok (.iconst 0, 1) := by decide +kernel
theorem dX6_bin_10 : decode cX6_bin 10 = .ok (.iconst 2, 1) := by decide +kernel
theorem dX6_bin_11 : decode cX6_bin 11 = .ok (.invokestatic 87, 3) := by decide +kernel
theorem dX6_bin_14 : decode cX6_bin 14 = .ok (.ifCond .ne 6, 3) := by decide +kernel
theorem dX6_bin_17 : decode cX6_bin 17 = .ok (.bipush (-2), 2) := by decide +kernel
theorem dX6_bin_19 : decode cX6_bin 19 = .ok (.ireturn, 1) := by decide +kernel
theorem dX6_bin_20 : decode cX6_bin 20 = .ok (.iload_n 2, 1) := by decide +kernel
theorem dX6_bin_21 : decode cX6_bin 21 = .ok (.ifCond .ne 13, 3) := by decide +kernel
theorem dX6_bin_24 : decode cX6_bin 24 = .ok (.aload_n 0, 1) := by decide +kernel
theorem dX6_bin_25 : decode cX6_bin 25 = .ok (.getfield 19, 3) := by decide +kernel
theorem dX6_bin_28 : decode cX6_bin 28 = .ok (.getfield 103, 3) := by decide +kernel
theorem dX6_bin_31 : decode cX6_bin 31 = .ok (.iload_n 1, 1) := by decide +kernel
theorem dX6_bin_32 : decode cX6_bin 32 = .ok (.iaload, 1) := by decide +kernel
theorem dX6_bin_33 : decode cX6_bin 33 = .ok (.ireturn, 1) := by decide +kernel
theorem dX6_bin_34 : decode cX6_bin 34 = .ok (.iload_n 2, 1) := by decide +kernel
theorem dX6_bin_35 : decode cX6_bin 35 = .ok (.iconst 1, 1) := by decide +kernel
theorem dX6_bin_36 : decode cX6_bin 36 = .ok (.if_icmp .ne 14, 3) := by decide +kernel
theorem dX6_bin_39 : decode cX6_bin 39 = .ok (.aload_n 0, 1) := by decide +kernel
theorem dX6_bin_40 : decode cX6_bin 40 = .ok (.getfield 19, 3) := by decide +kernel
theorem dX6_bin_43 : decode cX6_bin 43 = .ok (.iload_n 1, 1) := by decide +kernel
theorem dX6_bin_44 : decode cX6_bin 44 = .ok (.invokevirtual 131, 3) := by decide +kernel
theorem dX6_bin_47 : decode cX6_bin 47 = .ok (.goto 12, 3) := by decide +kernel
theorem dX6_bin_50 : decode cX6_bin 50 = .ok (.aload_n 0, 1) := by decide +kernel
theorem dX6_bin_51 : decode cX6_bin 51 = .ok (.getfield 19, 3) := by decide +kernel
theorem dX6_bin_54 : decode cX6_bin 54 = .ok (.getfield 134, 3) := by decide +kernel
theorem dX6_bin_57 : decode cX6_bin 57 = .ok (.iload_n 1, 1) := by decide +kernel
theorem dX6_bin_58 : decode cX6_bin 58 = .ok (.iaload, 1) := by decide +kernel
theorem dX6_bin_59 : decode cX6_bin 59 = .ok (.ireturn, 1) := by decide +kernel
theorem dX6_dense_0 : decode cX6_dense 0 = .ok (.aload_n 0, 1) := by decide +kernel
theorem dX6_dense_1 : decode cX6_dense 1 = .ok (.iload_n 1, 1) := by decide +kernel
theorem dX6_dense_2 : decode cX6_dense 2 = .ok (.invokevirtual 128, 3) := by decide +kernel
theorem dX6_dense_5 : decode cX6_dense 5 = .ok (.ifCond .eq 10, 3) := by decide +kernel
theorem dX6_dense_8 : decode cX6_dense 8 = .ok (.iload_n 2, 1) := by decide +kernel
theorem dX6_dense_9 : decode cX6_dense 9 = .ok (.invokestatic 137, 3) := by decide +kernel
theorem dX6_dense_12 : decode cX6_dense 12 = .ok (.ifCond .ne 9, 3) := by decide +kernel
theorem dX6_dense_15 : decode cX6_dense 15 = .ok (.bipush (-2), 2) := by decide +kernel
theorem dX6_dense_17 : decode cX6_dense 17 = .ok (.invokestatic 140, 3) := by decide +kernel
theorem dX6_dense_20 : decode cX6_dense 20 = .ok (.lreturn, 1) := by decide +kernel
theorem dX6_dense_21 : decode cX6_dense 21 = .ok (.aload_n 0, 1) := by decide +kernel
theorem dX6_dense_22 : decode cX6_dense 22 = .ok (.getfield 19, 3) := by decide +kernel
theorem dX6_dense_25 : decode cX6_dense 25 = .ok (.getfield 118, 3) := by decide +kernel
theorem dX6_dense_28 : decode cX6_dense 28 = .ok (.ifCond .ne 9, 3) := by decide +kernel
theorem dX6_dense_31 : decode cX6_dense 31 = .ok (.bipush (-3), 2) := by decide +kernel
theorem dX6_dense_33 : decode cX6_dense 33 = .ok (.invokestatic 140, 3) := by decide +kernel
theorem dX6_dense_36 : decode cX6_dense 36 = .ok (.lreturn, 1) := by decide +kernel
theorem dX6_dense_37 : decode cX6_dense 37 = .ok (.ldc2_w 144, 3) := by decide +kernel
theorem dX6_dense_40 : decode cX6_dense 40 = .ok (.aload_n 0, 1) := by decide +kernel
theorem dX6_dense_41 : decode cX6_dense 41 = .ok (.getfield 19, 3) := by decide +kernel
theorem dX6_dense_44 : decode cX6_dense 44 = .ok (.getfield 134, 3) := by decide +kernel
theorem dX6_dense_47 : decode cX6_dense 47 = .ok (.iload_n 1, 1) := by decide +kernel
theorem dX6_dense_48 : decode cX6_dense 48 = .ok (.iaload, 1) := by decide +kernel
theorem dX6_dense_49 : decode cX6_dense 49 = .ok (.i2l, 1) := by decide +kernel
theorem dX6_dense_50 : decode cX6_dense 50 = .ok (.lmul, 1) := by decide +kernel
theorem dX6_dense_51 : decode cX6_dense 51 = .ok (.aload_n 0, 1) := by decide +kernel
theorem dX6_dense_52 : decode cX6_dense 52 = .ok (.getfield 19, 3) := by decide +kernel
theorem dX6_dense_55 : decode cX6_dense 55 = .ok (.getfield 118, 3) := by decide +kernel
theorem dX6_dense_58 : decode cX6_dense 58 = .ok (.i2l, 1) := by decide +kernel
theorem dX6_dense_59 : decode cX6_dense 59 = .ok (.iload_n 2, 1) := by decide +kernel
theorem dX6_dense_60 : decode cX6_dense 60 = .ok (.invokestatic 146, 3) := by decide +kernel
theorem dX6_dense_63 : decode cX6_dense 63 = .ok (.lreturn, 1) := by decide +kernel
theorem dX6_worst_0 : decode cX6_worst 0 = .ok (.aload_n 0, 1) := by decide +kernel
theorem dX6_worst_1 : decode cX6_worst 1 = .ok (.getfield 19, 3) := by decide +kernel
theorem dX6_worst_4 : decode cX6_worst 4 = .ok (.getfield 118, 3) := by decide +kernel
theorem dX6_worst_7 : decode cX6_worst 7 = .ok (.ifCond .ne 8, 3) := by decide +kernel
theorem dX6_worst_10 : decode cX6_worst 10 = .ok (.bipush (-3), 2) := by decide +kernel
theorem dX6_worst_12 : decode cX6_worst 12 = .ok (.goto 10, 3) := by decide +kernel
theorem dX6_worst_15 : decode cX6_worst 15 = .ok (.aload_n 0, 1) := by decide +kernel
theorem dX6_worst_16 : decode cX6_worst 16 = .ok (.getfield 19, 3) := by decide +kernel
theorem dX6_worst_19 : decode cX6_worst 19 = .ok (.invokevirtual 150, 3) := by decide +kernel
theorem dX6_worst_22 : decode cX6_worst 22 = .ok (.ireturn, 1) := by decide +kernel
theorem dX6_type_0 : decode cX6_type 0 = .ok (.iload_n 1, 1) := by decide +kernel
theorem dX6_type_1 : decode cX6_type 1 = .ok (.iconst 0, 1) := by decide +kernel
theorem dX6_type_2 : decode cX6_type 2 = .ok (.sipush 255, 3) := by decide +kernel
theorem dX6_type_5 : decode cX6_type 5 = .ok (.invokestatic 87, 3) := by decide +kernel
theorem dX6_type_8 : decode cX6_type 8 = .ok (.ifCond .ne 6, 3) := by decide +kernel
theorem dX6_type_11 : decode cX6_type 11 = .ok (.bipush (-2), 2) := by decide +kernel
theorem dX6_type_13 : decode cX6_type 13 = .ok (.ireturn, 1) := by decide +kernel
theorem dX6_type_14 : decode cX6_type 14 = .ok (.aload_n 0, 1) := by decide +kernel
theorem dX6_type_15 : decode cX6_type 15 = .ok (.getfield 54, 3) := by decide +kernel
theorem dX6_type_18 : decode cX6_type 18 = .ok (.iconst 5, 1) := by decide +kernel
theorem dX6_type_19 : decode cX6_type 19 = .ok (.if_icmp .lt 6, 3) := by decide +kernel
theorem dX6_type_22 : decode cX6_type 22 = .ok (.bipush (-4), 2) := by decide +kernel
theorem dX6_type_24 : decode cX6_type 24 = .ok (.ireturn, 1) := by decide +kernel
theorem dX6_type_25 : decode cX6_type 25 = .ok (.aload_n 0, 1) := by decide +kernel
theorem dX6_type_26 : decode cX6_type 26 = .ok (.getfield 50, 3) := by decide +kernel
theorem dX6_type_29 : decode cX6_type 29 = .ok (.aload_n 0, 1) := by decide +kernel
theorem dX6_type_30 : decode cX6_type 30 = .ok (.getfield 54, 3) := by decide +kernel
theorem dX6_type_33 : decode cX6_type 33 = .ok (.iload_n 1, 1) := by decide +kernel
theorem dX6_type_34 : decode cX6_type 34 = .ok (.iastore, 1) := by decide +kernel
theorem dX6_type_35 : decode cX6_type 35 = .ok (.aload_n 0, 1) := by decide +kernel
theorem dX6_type_36 : decode cX6_type 36 = .ok (.dup, 1) := by decide +kernel
theorem dX6_type_37 : decode cX6_type 37 = .ok (.getfield 54, 3) := by decide +kernel
theorem dX6_type_40 : decode cX6_type 40 = .ok (.iconst 1, 1) := by decide +kernel
theorem dX6_type_41 : decode cX6_type 41 = .ok (.iadd, 1) := by decide +kernel
theorem dX6_type_42 : decode cX6_type 42 = .ok (.putfield 54, 3) := by decide +kernel
theorem dX6_type_45 : decode cX6_type 45 = .ok (.aload_n 0, 1) := by decide +kernel
theorem dX6_type_46 : decode cX6_type 46 = .ok (.iconst 1, 1) := by decide +kernel
theorem dX6_type_47 : decode cX6_type 47 = .ok (.putfield 67, 3) := by decide +kernel
theorem dX6_type_50 : decode cX6_type 50 = .ok (.aload_n 0, 1) := by decide +kernel
theorem dX6_type_51 : decode cX6_type 51 = .ok (.getfield 54, 3) := by decide +kernel
theorem dX6_type_54 : decode cX6_type 54 = .ok (.ireturn, 1) := by decide +kernel
theorem dX6_wipe_0 : decode cX6_wipe 0 = .ok (.aload_n 0, 1) := by decide +kernel
theorem dX6_wipe_1 : decode cX6_wipe 1 = .ok (.getfield 54, 3) := by decide +kernel
theorem dX6_wipe_4 : decode cX6_wipe 4 = .ok (.istore_n 1, 1) := by decide +kernel
theorem dX6_wipe_5 : decode cX6_wipe 5 = .ok (.aload_n 0, 1) := by decide +kernel
theorem dX6_wipe_6 : decode cX6_wipe 6 = .ok (.iconst 0, 1) := by decide +kernel
theorem dX6_wipe_7 : decode cX6_wipe 7 = .ok (.putfield 54, 3) := by decide +kernel
theorem dX6_wipe_10 : decode cX6_wipe 10 = .ok (.aload_n 0, 1) := by decide +kernel
theorem dX6_wipe_11 : decode cX6_wipe 11 = .ok (.iconst 1, 1) := by decide +kernel
theorem dX6_wipe_12 : decode cX6_wipe 12 = .ok (.putfield 67, 3) := by decide +kernel
theorem dX6_wipe_15 : decode cX6_wipe 15 = .ok (.iload_n 1, 1) := by decide +kernel
theorem dX6_wipe_16 : decode cX6_wipe 16 = .ok (.ireturn, 1) := by decide +kernel
theorem dX6_mode_0 : decode cX6_mode 0 = .ok (.aload_n 0, 1) := by decide +kernel
theorem dX6_mode_1 : decode cX6_mode 1 = .ok (.ldc 154, 2) := by decide +kernel
theorem dX6_mode_3 : decode cX6_mode 3 = .ok (.invokevirtual 156, 3) := by decide +kernel
theorem dX6_mode_6 : decode cX6_mode 6 = .ok (.ifCond .eq 5, 3) := by decide +kernel
theorem dX6_mode_9 : decode cX6_mode 9 = .ok (.iconst 1, 1) := by decide +kernel
theorem dX6_mode_10 : decode cX6_mode 10 = .ok (.ireturn, 1) := by decide +kernel
theorem dX6_mode_11 : decode cX6_mode 11 = .ok (.aload_n 0, 1) := by decide +kernel
theorem dX6_mode_12 : decode cX6_mode 12 = .ok (.ldc 160, 2) := by decide +kernel
theorem dX6_mode_14 : decode cX6_mode 14 = .ok (.invokevirtual 156, 3) := by decide +kernel
theorem dX6_mode_17 : decode cX6_mode 17 = .ok (.ifCond .eq 7, 3) := by decide +kernel
theorem dX6_mode_20 : decode cX6_mode 20 = .ok (.iconst 2, 1) := by decide +kernel
theorem dX6_mode_21 : decode cX6_mode 21 = .ok (.goto 4, 3) := by decide +kernel
theorem dX6_mode_24 : decode cX6_mode 24 = .ok (.iconst 0, 1) := by decide +kernel
theorem dX6_mode_25 : decode cX6_mode 25 = .ok (.ireturn, 1) := by decide +kernel
theorem dX6_nominal_0 : decode cX6_nominal 0 = .ok (.iload_n 1, 1) := by decide +kernel
theorem dX6_nominal_1 : decode cX6_nominal 1 = .ok (.iconst 0, 1) := by decide +kernel
theorem dX6_nominal_2 : decode cX6_nominal 2 = .ok (.sipush 600, 3) := by decide +kernel
theorem dX6_nominal_5 : decode cX6_nominal 5 = .ok (.invokestatic 87, 3) := by decide +kernel
theorem dX6_nominal_8 : decode cX6_nominal 8 = .ok (.ifCond .ne 6, 3) := by decide +kernel
theorem dX6_nominal_11 : decode cX6_nominal 11 = .ok (.bipush (-2), 2) := by decide +kernel
theorem dX6_nominal_13 : decode cX6_nominal 13 = .ok (.ireturn, 1) := by decide +kernel
theorem dX6_nominal_14 : decode cX6_nominal 14 = .ok (.aload_n 0, 1) := by decide +kernel
theorem dX6_nominal_15 : decode cX6_nominal 15 = .ok (.getfield 58, 3) := by decide +kernel
theorem dX6_nominal_18 : decode cX6_nominal 18 = .ok (.istore_n 2, 1) := by decide +kernel
theorem dX6_nominal_19 : decode cX6_nominal 19 = .ok (.aload_n 0, 1) := by decide +kernel
theorem dX6_nominal_20 : decode cX6_nominal 20 = .ok (.iload_n 1, 1) := by decide +kernel
theorem dX6_nominal_21 : decode cX6_nominal 21 = .ok (.putfield 58, 3) := by decide +kernel
theorem dX6_nominal_24 : decode cX6_nominal 24 = .ok (.aload_n 0, 1) := by decide +kernel
theorem dX6_nominal_25 : decode cX6_nominal 25 = .ok (.iconst 1, 1) := by decide +kernel
theorem dX6_nominal_26 : decode cX6_nominal 26 = .ok (.putfield 67, 3) := by decide +kernel
theorem dX6_nominal_29 : decode cX6_nominal 29 = .ok (.iload_n 2, 1) := by decide +kernel
theorem dX6_nominal_30 : decode cX6_nominal 30 = .ok (.ireturn, 1) := by decide +kernel
theorem dX6_mend_0 : decode cX6_mend 0 = .ok (.iload_n 1, 1) := by decide +kernel
theorem dX6_mend_1 : decode cX6_mend 1 = .ok (.iconst 0, 1) := by decide +kernel
theorem dX6_mend_2 : decode cX6_mend 2 = .ok (.iconst 1, 1) := by decide +kernel
theorem dX6_mend_3 : decode cX6_mend 3 = .ok (.invokestatic 87, 3) := by decide +kernel
theorem dX6_mend_6 : decode cX6_mend 6 = .ok (.ifCond .ne 6, 3) := by decide +kernel
theorem dX6_mend_9 : decode cX6_mend 9 = .ok (.bipush (-2), 2) := by decide +kernel
theorem dX6_mend_11 : decode cX6_mend 11 = .ok (.ireturn, 1) := by decide +kernel
theorem dX6_mend_12 : decode cX6_mend 12 = .ok (.aload_n 0, 1) := by decide +kernel
theorem dX6_mend_13 : decode cX6_mend 13 = .ok (.getfield 61, 3) := by decide +kernel
theorem dX6_mend_16 : decode cX6_mend 16 = .ok (.istore_n 2, 1) := by decide +kernel
theorem dX6_mend_17 : decode cX6_mend 17 = .ok (.aload_n 0, 1) := by decide +kernel
theorem dX6_mend_18 : decode cX6_mend 18 = .ok (.iload_n 1, 1) := by decide +kernel
theorem dX6_mend_19 : decode cX6_mend 19 = .ok (.putfield 61, 3) := by decide +kernel
theorem dX6_mend_22 : decode cX6_mend 22 = .ok (.aload_n 0, 1) := by decide +kernel
theorem dX6_mend_23 : decode cX6_mend 23 = .ok (.iconst 1, 1) := by decide +kernel
theorem dX6_mend_24 : decode cX6_mend 24 = .ok (.putfield 67, 3) := by decide +kernel
theorem dX6_mend_27 : decode cX6_mend 27 = .ok (.iload_n 2, 1) := by decide +kernel
theorem dX6_mend_28 : decode cX6_mend 28 = .ok (.ireturn, 1) := by decide +kernel
theorem dX6_seen_0 : decode cX6_seen 0 = .ok (.aload_n 0, 1) := by decide +kernel
theorem dX6_seen_1 : decode cX6_seen 1 = .ok (.iload_n 1, 1) := by decide +kernel
theorem dX6_seen_2 : decode cX6_seen 2 = .ok (.invokevirtual 91, 3) := by decide +kernel
theorem dX6_seen_5 : decode cX6_seen 5 = .ok (.ifCond .eq 13, 3) := by decide +kernel
theorem dX6_seen_8 : decode cX6_seen 8 = .ok (.iload_n 2, 1) := by decide +kernel
theorem dX6_seen_9 : decode cX6_seen 9 = .ok (.iconst 0, 1) := by decide +kernel
theorem dX6_seen_10 : decode cX6_seen 10 = .ok (.bipush 7, 2) := by decide +kernel
theorem dX6_seen_12 : decode cX6_seen 12 = .ok (.invokestatic 87, 3) := by decide +kernel
theorem dX6_seen_15 : decode cX6_seen 15 = .ok (.ifCond .ne 6, 3) := by decide +kernel
theorem dX6_seen_18 : decode cX6_seen 18 = .ok (.bipush (-2), 2) := by decide +kernel
theorem dX6_seen_20 : decode cX6_seen 20 = .ok (.ireturn, 1) := by decide +kernel
theorem dX6_seen_21 : decode cX6_seen 21 = .ok (.aload_n 0, 1) := by decide +kernel
theorem dX6_seen_22 : decode cX6_seen 22 = .ok (.invokevirtual 162, 3) := by decide +kernel
theorem dX6_seen_25 : decode cX6_seen 25 = .ok (.iload_n 2, 1) := by decide +kernel
theorem dX6_seen_26 : decode cX6_seen 26 = .ok (.tableswitch 121 0 6 #[42, 52, 61, 77, 83, 89, 99], 42) := by decide +kernel
theorem dX6_seen_68 : decode cX6_seen 68 = .ok (.aload_n 0, 1) := by decide +kernel
theorem dX6_seen_69 : decode cX6_seen 69 = .ok (.getfield 10, 3) := by decide +kernel
theorem dX6_seen_72 : decode cX6_seen 72 = .ok (.getfield 165, 3) := by decide +kernel
theorem dX6_seen_75 : decode cX6_seen 75 = .ok (.iload_n 1, 1) := by decide +kernel
theorem dX6_seen_76 : decode cX6_seen 76 = .ok (.iaload, 1) := by decide +kernel
theorem dX6_seen_77 : decode cX6_seen 77 = .ok (.ireturn, 1) := by decide +kernel
theorem dX6_seen_78 : decode cX6_seen 78 = .ok (.aload_n 0, 1) := by decide +kernel
theorem dX6_seen_79 : decode cX6_seen 79 = .ok (.getfield 10, 3) := by decide +kernel
theorem dX6_seen_82 : decode cX6_seen 82 = .ok (.iload_n 1, 1) := by decide +kernel
theorem dX6_seen_83 : decode cX6_seen 83 = .ok (.invokevirtual 168, 3) := by decide +kernel
theorem dX6_seen_86 : decode cX6_seen 86 = .ok (.ireturn, 1) := by decide +kernel
theorem dX6_seen_87 : decode cX6_seen 87 = .ok (.aload_n 0, 1) := by decide +kernel
theorem dX6_seen_88 : decode cX6_seen 88 = .ok (.getfield 19, 3) := by decide +kernel
theorem dX6_seen_91 : decode cX6_seen 91 = .ok (.aload_n 0, 1) := by decide +kernel
theorem dX6_seen_92 : decode cX6_seen 92 = .ok (.getfield 10, 3) := by decide +kernel
theorem dX6_seen_95 : decode cX6_seen 95 = .ok (.iload_n 1, 1) := by decide +kernel
theorem dX6_seen_96 : decode cX6_seen 96 = .ok (.invokevirtual 171, 3) := by decide +kernel
theorem dX6_seen_99 : decode cX6_seen 99 = .ok (.invokevirtual 100, 3) := by decide +kernel
theorem dX6_seen_102 : decode cX6_seen 102 = .ok (.ireturn, 1) := by decide +kernel
theorem dX6_seen_103 : decode cX6_seen 103 = .ok (.aload_n 0, 1) := by decide +kernel
theorem dX6_seen_104 : decode cX6_seen 104 = .ok (.iload_n 1, 1) := by decide +kernel
theorem dX6_seen_105 : decode cX6_seen 105 = .ok (.invokevirtual 174, 3) := by decide +kernel
theorem dX6_seen_108 : decode cX6_seen 108 = .ok (.ireturn, 1) := by decide +kernel
theorem dX6_seen_109 : decode cX6_seen 109 = .ok (.aload_n 0, 1) := by decide +kernel
theorem dX6_seen_110 : decode cX6_seen 110 = .ok (.iload_n 1, 1) := by decide +kernel
theorem dX6_seen_111 : decode cX6_seen 111 = .ok (.invokevirtual 177, 3) := by decide +kernel
theorem dX6_seen_114 : decode cX6_seen 114 = .ok (.ireturn, 1) := by decide +kernel
theorem dX6_seen_115 : decode cX6_seen 115 = .ok (.aload_n 0, 1) := by decide +kernel
theorem dX6_seen_116 : decode cX6_seen 116 = .ok (.getfield 33, 3) := by decide +kernel
theorem dX6_seen_119 : decode cX6_seen 119 = .ok (.getfield 180, 3) := by decide +kernel
theorem dX6_seen_122 : decode cX6_seen 122 = .ok (.iload_n 1, 1) := by decide +kernel
theorem dX6_seen_123 : decode cX6_seen 123 = .ok (.iaload, 1) := by decide +kernel
theorem dX6_seen_124 : decode cX6_seen 124 = .ok (.ireturn, 1) := by decide +kernel
theorem dX6_seen_125 : decode cX6_seen 125 = .ok (.aload_n 0, 1) := by decide +kernel
theorem dX6_seen_126 : decode cX6_seen 126 = .ok (.iload_n 1, 1) := by decide +kernel
theorem dX6_seen_127 : decode cX6_seen 127 = .ok (.invokevirtual 183, 3) := by decide +kernel
theorem dX6_seen_130 : decode cX6_seen 130 = .ok (.ifCond .eq 7, 3) := by decide +kernel
theorem dX6_seen_133 : decode cX6_seen 133 = .ok (.iconst (-1), 1) := by decide +kernel
theorem dX6_seen_134 : decode cX6_seen 134 = .ok (.goto 12, 3) := by decide +kernel
theorem dX6_seen_137 : decode cX6_seen 137 = .ok (.aload_n 0, 1) := by decide +kernel
theorem dX6_seen_138 : decode cX6_seen 138 = .ok (.getfield 33, 3) := by decide +kernel
theorem dX6_seen_141 : decode cX6_seen 141 = .ok (.getfield 186, 3) := by decide +kernel
theorem dX6_seen_144 : decode cX6_seen 144 = .ok (.iload_n 1, 1) := by decide +kernel
theorem dX6_seen_145 : decode cX6_seen 145 = .ok (.iaload, 1) := by decide +kernel
theorem dX6_seen_146 : decode cX6_seen 146 = .ok (.ireturn, 1) := by decide +kernel
theorem dX6_seen_147 : decode cX6_seen 147 = .ok (.aload_n 0, 1) := by decide +kernel
theorem dX6_seen_148 : decode cX6_seen 148 = .ok (.iload_n 1, 1) := by decide +kernel
theorem dX6_seen_149 : decode cX6_seen 149 = .ok (.invokevirtual 183, 3) := by decide +kernel
theorem dX6_seen_152 : decode cX6_seen 152 = .ok (.ifCond .ne 19, 3) := by decide +kernel
theorem dX6_seen_155 : decode cX6_seen 155 = .ok (.aload_n 0, 1) := by decide +kernel
theorem dX6_seen_156 : decode cX6_seen 156 = .ok (.getfield 33, 3) := by decide +kernel
theorem dX6_seen_159 : decode cX6_seen 159 = .ok (.getfield 189, 3) := by decide +kernel
theorem dX6_seen_162 : decode cX6_seen 162 = .ok (.iload_n 1, 1) := by decide +kernel
theorem dX6_seen_163 : decode cX6_seen 163 = .ok (.baload, 1) := by decide +kernel
theorem dX6_seen_164 : decode cX6_seen 164 = .ok (.ifCond .eq 7, 3) := by decide +kernel
theorem dX6_seen_167 : decode cX6_seen 167 = .ok (.iconst 1, 1) := by decide +kernel
theorem dX6_seen_168 : decode cX6_seen 168 = .ok (.goto 4, 3) := by decide +kernel
theorem dX6_seen_171 : decode cX6_seen 171 = .ok (.iconst 0, 1) := by decide +kernel
theorem dX6_seen_172 : decode cX6_seen 172 = .ok (.ireturn, 1) := by decide +kernel
theorem dX6_stamp_0 : decode cX6_stamp 0 = .ok (.aload_n 0, 1) := by decide +kernel
theorem dX6_stamp_1 : decode cX6_stamp 1 = .ok (.iload_n 1, 1) := by decide +kernel
theorem dX6_stamp_2 : decode cX6_stamp 2 = .ok (.invokevirtual 91, 3) := by decide +kernel
theorem dX6_stamp_5 : decode cX6_stamp 5 = .ok (.ifCond .eq 10, 3) := by decide +kernel
theorem dX6_stamp_8 : decode cX6_stamp 8 = .ok (.iload_n 2, 1) := by decide +kernel
theorem dX6_stamp_9 : decode cX6_stamp 9 = .ok (.invokestatic 137, 3) := by decide +kernel
theorem dX6_stamp_12 : decode cX6_stamp 12 = .ok (.ifCond .ne 9, 3) := by decide +kernel
theorem dX6_stamp_15 : decode cX6_stamp 15 = .ok (.bipush (-2), 2) := by decide +kernel
theorem dX6_stamp_17 : decode cX6_stamp 17 = .ok (.invokestatic 140, 3) := by decide +kernel
theorem dX6_stamp_20 : decode cX6_stamp 20 = .ok (.lreturn, 1) := by decide +kernel
theorem dX6_stamp_21 : decode cX6_stamp 21 = .ok (.aload_n 0, 1) := by decide +kernel
theorem dX6_stamp_22 : decode cX6_stamp 22 = .ok (.invokevirtual 162, 3) := by decide +kernel
theorem dX6_stamp_25 : decode cX6_stamp 25 = .ok (.aload_n 0, 1) := by decide +kernel
theorem dX6_stamp_26 : decode cX6_stamp 26 = .ok (.getfield 33, 3) := by decide +kernel
theorem dX6_stamp_29 : decode cX6_stamp 29 = .ok (.getfield 193, 3) := by decide +kernel
theorem dX6_stamp_32 : decode cX6_stamp 32 = .ok (.iload_n 1, 1) := by decide +kernel
theorem dX6_stamp_33 : decode cX6_stamp 33 = .ok (.laload, 1) := by decide +kernel
theorem dX6_stamp_34 : decode cX6_stamp 34 = .ok (.aload_n 0, 1) := by decide +kernel
theorem dX6_stamp_35 : decode cX6_stamp 35 = .ok (.getfield 33, 3) := by decide +kernel
theorem dX6_stamp_38 : decode cX6_stamp 38 = .ok (.getfield 197, 3) := by decide +kernel
theorem dX6_stamp_41 : decode cX6_stamp 41 = .ok (.i2l, 1) := by decide +kernel
theorem dX6_stamp_42 : decode cX6_stamp 42 = .ok (.iload_n 2, 1) := by decide +kernel
theorem dX6_stamp_43 : decode cX6_stamp 43 = .ok (.invokestatic 146, 3) := by decide +kernel
theorem dX6_stamp_46 : decode cX6_stamp 46 = .ok (.lreturn, 1) := by decide +kernel
theorem dX6_reference_0 : decode cX6_reference 0 = .ok (.iload_n 1, 1) := by decide +kernel
theorem dX6_reference_1 : decode cX6_reference 1 = .ok (.invokestatic 137, 3) := by decide +kernel
theorem dX6_reference_4 : decode cX6_reference 4 = .ok (.ifCond .ne 9, 3) := by decide +kernel
theorem dX6_reference_7 : decode cX6_reference 7 = .ok (.bipush (-2), 2) := by decide +kernel
theorem dX6_reference_9 : decode cX6_reference 9 = .ok (.invokestatic 140, 3) := by decide +kernel
theorem dX6_reference_12 : decode cX6_reference 12 = .ok (.lreturn, 1) := by decide +kernel
theorem dX6_reference_13 : decode cX6_reference 13 = .ok (.aload_n 0, 1) := by decide +kernel
theorem dX6_reference_14 : decode cX6_reference 14 = .ok (.getfield 58, 3) := by decide +kernel
theorem dX6_reference_17 : decode cX6_reference 17 = .ok (.ifCond .ne 20, 3) := by decide +kernel
theorem dX6_reference_20 : decode cX6_reference 20 = .ok (.aload_n 0, 1) := by decide +kernel
theorem dX6_reference_21 : decode cX6_reference 21 = .ok (.getfield 10, 3) := by decide +kernel
theorem dX6_reference_24 : decode cX6_reference 24 = .ok (.getfield 97, 3) := by decide +kernel
theorem dX6_reference_27 : decode cX6_reference 27 = .ok (.iconst 2, 1) := by decide +kernel
theorem dX6_reference_28 : decode cX6_reference 28 = .ok (.if_icmp .ge 9, 3) := by decide +kernel
theorem dX6_reference_31 : decode cX6_reference 31 = .ok (.bipush (-3), 2) := by decide +kernel
theorem dX6_reference_33 : decode cX6_reference 33 = .ok (.invokestatic 140, 3) := by decide +kernel
theorem dX6_reference_36 : decode cX6_reference 36 = .ok (.lreturn, 1) := by decide +kernel
theorem dX6_reference_37 : decode cX6_reference 37 = .ok (.aload_n 0, 1) := by decide +kernel
theorem dX6_reference_38 : decode cX6_reference 38 = .ok (.invokevirtual 162, 3) := by decide +kernel
theorem dX6_reference_41 : decode cX6_reference 41 = .ok (.aload_n 0, 1) := by decide +kernel
theorem dX6_reference_42 : decode cX6_reference 42 = .ok (.getfield 33, 3) := by decide +kernel
theorem dX6_reference_45 : decode cX6_reference 45 = .ok (.getfield 200, 3) := by decide +kernel
theorem dX6_reference_48 : decode cX6_reference 48 = .ok (.aload_n 0, 1) := by decide +kernel
theorem dX6_reference_49 : decode cX6_reference 49 = .ok (.getfield 33, 3) := by decide +kernel
theorem dX6_reference_52 : decode cX6_reference 52 = .ok (.getfield 197, 3) := by decide +kernel
theorem dX6_reference_55 : decode cX6_reference 55 = .ok (.i2l, 1) := by decide +kernel
theorem dX6_reference_56 : decode cX6_reference 56 = .ok (.iload_n 1, 1) := by decide +kernel
theorem dX6_reference_57 : decode cX6_reference 57 = .ok (.invokestatic 146, 3) := by decide +kernel
theorem dX6_reference_60 : decode cX6_reference 60 = .ok (.lreturn, 1) := by decide +kernel
theorem dX6_gate_0 : decode cX6_gate 0 = .ok (.iload_n 1, 1) := by decide +kernel
theorem dX6_gate_1 : decode cX6_gate 1 = .ok (.invokestatic 72, 3) := by decide +kernel
theorem dX6_gate_4 : decode cX6_gate 4 = .ok (.ifCond .eq 15, 3) := by decide +kernel
theorem dX6_gate_7 : decode cX6_gate 7 = .ok (.iload_n 2, 1) := by decide +kernel
theorem dX6_gate_8 : decode cX6_gate 8 = .ok (.invokestatic 72, 3) := by decide +kernel
theorem dX6_gate_11 : decode cX6_gate 11 = .ok (.ifCond .eq 8, 3) := by decide +kernel
theorem dX6_gate_14 : decode cX6_gate 14 = .ok (.iload_n 1, 1) := by decide +kernel
theorem dX6_gate_15 : decode cX6_gate 15 = .ok (.iload_n 2, 1) := by decide +kernel
theorem dX6_gate_16 : decode cX6_gate 16 = .ok (.if_icmp .lt 6, 3) := by decide +kernel
theorem dX6_gate_19 : decode cX6_gate 19 = .ok (.bipush (-2), 2) := by decide +kernel
theorem dX6_gate_21 : decode cX6_gate 21 = .ok (.ireturn, 1) := by decide +kernel
theorem dX6_gate_22 : decode cX6_gate 22 = .ok (.aload_n 0, 1) := by decide +kernel
theorem dX6_gate_23 : decode cX6_gate 23 = .ok (.getfield 26, 3) := by decide +kernel
theorem dX6_gate_26 : decode cX6_gate 26 = .ok (.getfield 204, 3) := by decide +kernel
theorem dX6_gate_29 : decode cX6_gate 29 = .ok (.bipush 8, 2) := by decide +kernel
theorem dX6_gate_31 : decode cX6_gate 31 = .ok (.if_icmp .lt 6, 3) := by decide +kernel
theorem dX6_gate_34 : decode cX6_gate 34 = .ok (.bipush (-4), 2) := by decide +kernel
theorem dX6_gate_36 : decode cX6_gate 36 = .ok (.ireturn, 1) := by decide +kernel
theorem dX6_gate_37 : decode cX6_gate 37 = .ok (.aload_n 0, 1) := by decide +kernel
theorem dX6_gate_38 : decode cX6_gate 38 = .ok (.iconst 1, 1) := by decide +kernel
theorem dX6_gate_39 : decode cX6_gate 39 = .ok (.putfield 67, 3) := by decide +kernel
theorem dX6_gate_42 : decode cX6_gate 42 = .ok (.aload_n 0, 1) := by decide +kernel
theorem dX6_gate_43 : decode cX6_gate 43 = .ok (.getfield 26, 3) := by decide +kernel
theorem dX6_gate_46 : decode cX6_gate 46 = .ok (.iload_n 1, 1) := by decide +kernel
theorem dX6_gate_47 : decode cX6_gate 47 = .ok (.iload_n 2, 1) := by decide +kernel
theorem dX6_gate_48 : decode cX6_gate 48 = .ok (.invokevirtual 205, 3) := by decide +kernel
theorem dX6_gate_51 : decode cX6_gate 51 = .ok (.ireturn, 1) := by decide +kernel
theorem dX6_back_0 : decode cX6_back 0 = .ok (.aload_n 0, 1) := by decide +kernel
theorem dX6_back_1 : decode cX6_back 1 = .ok (.getfield 26, 3) := by decide +kernel
theorem dX6_back_4 : decode cX6_back 4 = .ok (.getfield 204, 3) := by decide +kernel
theorem dX6_back_7 : decode cX6_back 7 = .ok (.ifCond .ne 6, 3) := by decide +kernel
theorem dX6_back_10 : decode cX6_back 10 = .ok (.bipush (-3), 2) := by decide +kernel
theorem dX6_back_12 : decode cX6_back 12 = .ok (.ireturn, 1) := by decide +kernel
theorem dX6_back_13 : decode cX6_back 13 = .ok (.aload_n 0, 1) := by decide +kernel
theorem dX6_back_14 : decode cX6_back 14 = .ok (.getfield 26, 3) := by decide +kernel
theorem dX6_back_17 : decode cX6_back 17 = .ok (.dup, 1) := by decide +kernel
theorem dX6_back_18 : decode cX6_back 18 = .ok (.getfield 204, 3) := by decide +kernel
theorem dX6_back_21 : decode cX6_back 21 = .ok (.iconst 1, 1) := by decide +kernel
theorem dX6_back_22 : decode cX6_back 22 = .ok (.isub, 1) := by decide +kernel
theorem dX6_back_23 : decode cX6_back 23 = .ok (.putfield 204, 3) := by decide +kernel
theorem dX6_back_26 : decode cX6_back 26 = .ok (.aload_n 0, 1) := by decide +kernel
theorem dX6_back_27 : decode cX6_back 27 = .ok (.iconst 1, 1) := by decide +kernel
theorem dX6_back_28 : decode cX6_back 28 = .ok (.putfield 67, 3) := by decide +kernel
theorem dX6_back_31 : decode cX6_back 31 = .ok (.aload_n 0, 1) := by decide +kernel
theorem dX6_back_32 : decode cX6_back 32 = .ok (.getfield 26, 3) := by decide +kernel
theorem dX6_back_35 : decode cX6_back 35 = .ok (.getfield 204, 3) := by decide +kernel
theorem dX6_back_38 : decode cX6_back 38 = .ok (.ireturn, 1) := by decide +kernel
theorem dX6_where_0 : decode cX6_where 0 = .ok (.aload_n 0, 1) := by decide +kernel
theorem dX6_where_1 : decode cX6_where 1 = .ok (.iload_n 1, 1) := by decide +kernel
theorem dX6_where_2 : decode cX6_where 2 = .ok (.invokevirtual 208, 3) := by decide +kernel
theorem dX6_where_5 : decode cX6_where 5 = .ok (.ifCond .eq 12, 3) := by decide +kernel
theorem dX6_where_8 : decode cX6_where 8 = .ok (.iload_n 2, 1) := by decide +kernel
theorem dX6_where_9 : decode cX6_where 9 = .ok (.iconst 0, 1) := by decide +kernel
theorem dX6_where_10 : decode cX6_where 10 = .ok (.iconst 2, 1) := by decide +kernel
theorem dX6_where_11 : decode cX6_where 11 = .ok (.invokestatic 87, 3) := by decide +kernel
theorem dX6_where_14 : decode cX6_where 14 = .ok (.ifCond .ne 6, 3) := by decide +kernel
theorem dX6_where_17 : decode cX6_where 17 = .ok (.bipush (-2), 2) := by decide +kernel
theorem dX6_where_19 : decode cX6_where 19 = .ok (.ireturn, 1) := by decide +kernel
theorem dX6_where_20 : decode cX6_where 20 = .ok (.aload_n 0, 1) := by decide +kernel
theorem dX6_where_21 : decode cX6_where 21 = .ok (.invokevirtual 162, 3) := by decide +kernel
theorem dX6_where_24 : decode cX6_where 24 = .ok (.aload_n 0, 1) := by decide +kernel
theorem dX6_where_25 : decode cX6_where 25 = .ok (.getfield 26, 3) := by decide +kernel
theorem dX6_where_28 : decode cX6_where 28 = .ok (.getfield 211, 3) := by decide +kernel
theorem dX6_where_31 : decode cX6_where 31 = .ok (.iload_n 1, 1) := by decide +kernel
theorem dX6_where_32 : decode cX6_where 32 = .ok (.iaload, 1) := by decide +kernel
theorem dX6_where_33 : decode cX6_where 33 = .ok (.istore_n 3, 1) := by decide +kernel
theorem dX6_where_34 : decode cX6_where 34 = .ok (.aload_n 0, 1) := by decide +kernel
theorem dX6_where_35 : decode cX6_where 35 = .ok (.getfield 26, 3) := by decide +kernel
theorem dX6_where_38 : decode cX6_where 38 = .ok (.getfield 214, 3) := by decide +kernel
theorem dX6_where_41 : decode cX6_where 41 = .ok (.iload_n 1, 1) := by decide +kernel
theorem dX6_where_42 : decode cX6_where 42 = .ok (.iaload, 1) := by decide +kernel
theorem dX6_where_43 : decode cX6_where 43 = .ok (.istore 4, 2) := by decide +kernel
theorem dX6_where_45 : decode cX6_where 45 = .ok (.iload_n 2, 1) := by decide +kernel
theorem dX6_where_46 : decode cX6_where 46 = .ok (.iconst 2, 1) := by decide +kernel
theorem dX6_where_47 : decode cX6_where 47 = .ok (.if_icmp .ne 24, 3) := by decide +kernel
theorem dX6_where_50 : decode cX6_where 50 = .ok (.iload 4, 2) := by decide +kernel
theorem dX6_where_52 : decode cX6_where 52 = .ok (.iconst (-1), 1) := by decide +kernel
theorem dX6_where_53 : decode cX6_where 53 = .ok (.if_icmp .ne 7, 3) := by decide +kernel
theorem dX6_where_56 : decode cX6_where 56 = .ok (.iconst (-1), 1) := by decide +kernel
theorem dX6_where_57 : decode cX6_where 57 = .ok (.goto 13, 3) := by decide +kernel
theorem dX6_where_60 : decode cX6_where 60 = .ok (.aload_n 0, 1) := by decide +kernel
theorem dX6_where_61 : decode cX6_where 61 = .ok (.getfield 33, 3) := by decide +kernel
theorem dX6_where_64 : decode cX6_where 64 = .ok (.iload_n 3, 1) := by decide +kernel
theorem dX6_where_65 : decode cX6_where 65 = .ok (.iload 4, 2) := by decide +kernel
theorem dX6_where_67 : decode cX6_where 67 = .ok (.invokevirtual 217, 3) := by decide +kernel
theorem dX6_where_70 : decode cX6_where 70 = .ok (.ireturn, 1) := by decide +kernel
theorem dX6_where_71 : decode cX6_where 71 = .ok (.iload_n 2, 1) := by decide +kernel
theorem dX6_where_72 : decode cX6_where 72 = .ok (.ifCond .ne 7, 3) := by decide +kernel
theorem dX6_where_75 : decode cX6_where 75 = .ok (.iload_n 3, 1) := by decide +kernel
theorem dX6_where_76 : decode cX6_where 76 = .ok (.goto 5, 3) := by decide +kernel
theorem dX6_where_79 : decode cX6_where 79 = .ok (.iload 4, 2) := by decide +kernel
theorem dX6_where_81 : decode cX6_where 81 = .ok (.ireturn, 1) := by decide +kernel
theorem dX6_frequency_0 : decode cX6_frequency 0 = .ok (.aload_n 0, 1) := by decide +kernel
theorem dX6_frequency_1 : decode cX6_frequency 1 = .ok (.iload_n 1, 1) := by decide +kernel
theorem dX6_frequency_2 : decode cX6_frequency 2 = .ok (.invokevirtual 208, 3) := by decide +kernel
theorem dX6_frequency_5 : decode cX6_frequency 5 = .ok (.ifCond .eq 19, 3) := by decide +kernel
theorem dX6_frequency_8 : decode cX6_frequency 8 = .ok (.iload_n 2, 1) := by decide +kernel
theorem dX6_frequency_9 : decode cX6_frequency 9 = .ok (.iconst 0, 1) := by decide +kernel
theorem dX6_frequency_10 : decode cX6_frequency 10 = .ok (.iconst 3, 1) := by decide +kernel
theorem dX6_frequency_11 : decode cX6_frequency 11 = .ok (.invokestatic 87, 3) := by decide +kernel
theorem dX6_frequency_14 : decode cX6_frequency 14 = .ok (.ifCond .eq 10, 3) := by decide +kernel
theorem dX6_frequency_17 : decode cX6_frequency 17 = .ok (.iload_n 3, 1) := by decide +kernel
theorem dX6_frequency_18 : decode cX6_frequency 18 = .ok (.invokestatic 137, 3) := by decide +kernel
theorem dX6_frequency_21 : decode cX6_frequency 21 = .ok (.ifCond .ne 9, 3) := by decide +kernel
theorem dX6_frequency_24 : decode cX6_frequency 24 = .ok (.bipush (-2), 2) := by decide +kernel
theorem dX6_frequency_26 : decode cX6_frequency 26 = .ok (.invokestatic 140, 3) := by decide +kernel
theorem dX6_frequency_29 : decode cX6_frequency 29 = .ok (.lreturn, 1) := by decide +kernel
theorem dX6_frequency_30 : decode cX6_frequency 30 = .ok (.aload_n 0, 1) := by decide +kernel
theorem dX6_frequency_31 : decode cX6_frequency 31 = .ok (.invokevirtual 162, 3) := by decide +kernel
theorem dX6_frequency_34 : decode cX6_frequency 34 = .ok (.aload_n 0, 1) := by decide +kernel
theorem dX6_frequency_35 : decode cX6_frequency 35 = .ok (.getfield 26, 3) := by decide +kernel
theorem dX6_frequency_38 : decode cX6_frequency 38 = .ok (.getfield 211, 3) := by decide +kernel
theorem dX6_frequency_41 : decode cX6_frequency 41 = .ok (.iload_n 1, 1) := by decide +kernel
theorem dX6_frequency_42 : decode cX6_frequency 42 = .ok (.iaload, 1) := by decide +kernel
theorem dX6_frequency_43 : decode cX6_frequency 43 = .ok (.istore 4, 2) := by decide +kernel
theorem dX6_frequency_45 : decode cX6_frequency 45 = .ok (.aload_n 0, 1) := by decide +kernel
theorem dX6_frequency_46 : decode cX6_frequency 46 = .ok (.getfield 26, 3) := by decide +kernel
theorem dX6_frequency_49 : decode cX6_frequency 49 = .ok (.getfield 214, 3) := by decide +kernel
theorem dX6_frequency_52 : decode cX6_frequency 52 = .ok (.iload_n 1, 1) := by decide +kernel
theorem dX6_frequency_53 : decode cX6_frequency 53 = .ok (.iaload, 1) := by decide +kernel
theorem dX6_frequency_54 : decode cX6_frequency 54 = .ok (.istore 5, 2) := by decide +kernel
theorem dX6_frequency_56 : decode cX6_frequency 56 = .ok (.iload 5, 2) := by decide +kernel
theorem dX6_frequency_58 : decode cX6_frequency 58 = .ok (.iconst (-1), 1) := by decide +kernel
theorem dX6_frequency_59 : decode cX6_frequency 59 = .ok (.if_icmp .ne 9, 3) := by decide +kernel
theorem dX6_frequency_62 : decode cX6_frequency 62 = .ok (.bipush (-3), 2) := by decide +kernel
theorem dX6_frequency_64 : decode cX6_frequency 64 = .ok (.invokestatic 140, 3) := by decide +kernel
theorem dX6_frequency_67 : decode cX6_frequency 67 = .ok (.lreturn, 1) := by decide +kernel
theorem dX6_frequency_68 : decode cX6_frequency 68 = .ok (.aload_n 0, 1) := by decide +kernel
theorem dX6_frequency_69 : decode cX6_frequency 69 = .ok (.iload 4, 2) := by decide +kernel
theorem dX6_frequency_71 : decode cX6_frequency 71 = .ok (.iload 5, 2) := by decide +kernel
theorem dX6_frequency_73 : decode cX6_frequency 73 = .ok (.iload_n 2, 1) := by decide +kernel
theorem dX6_frequency_74 : decode cX6_frequency 74 = .ok (.invokevirtual 220, 3) := by decide +kernel
theorem dX6_frequency_77 : decode cX6_frequency 77 = .ok (.lstore 6, 2) := by decide +kernel
theorem dX6_frequency_79 : decode cX6_frequency 79 = .ok (.lload 6, 2) := by decide +kernel
theorem dX6_frequency_81 : decode cX6_frequency 81 = .ok (.lconst 0, 1) := by decide +kernel
theorem dX6_frequency_82 : decode cX6_frequency 82 = .ok (.lcmp, 1) := by decide +kernel
theorem dX6_frequency_83 : decode cX6_frequency 83 = .ok (.ifCond .gt 9, 3) := by decide +kernel
theorem dX6_frequency_86 : decode cX6_frequency 86 = .ok (.bipush (-3), 2) := by decide +kernel
theorem dX6_frequency_88 : decode cX6_frequency 88 = .ok (.invokestatic 140, 3) := by decide +kernel
theorem dX6_frequency_91 : decode cX6_frequency 91 = .ok (.lreturn, 1) := by decide +kernel
theorem dX6_frequency_92 : decode cX6_frequency 92 = .ok (.aload_n 0, 1) := by decide +kernel
theorem dX6_frequency_93 : decode cX6_frequency 93 = .ok (.getfield 33, 3) := by decide +kernel
theorem dX6_frequency_96 : decode cX6_frequency 96 = .ok (.iload 4, 2) := by decide +kernel
theorem dX6_frequency_98 : decode cX6_frequency 98 = .ok (.iload 5, 2) := by decide +kernel
theorem dX6_frequency_100 : decode cX6_frequency 100 = .ok (.invokevirtual 217, 3) := by decide +kernel
theorem dX6_frequency_103 : decode cX6_frequency 103 = .ok (.i2l, 1) := by decide +kernel
theorem dX6_frequency_104 : decode cX6_frequency 104 = .ok (.lstore 8, 2) := by decide +kernel
theorem dX6_frequency_106 : decode cX6_frequency 106 = .ok (.iload_n 2, 1) := by decide +kernel
theorem dX6_frequency_107 : decode cX6_frequency 107 = .ok (.ifCond .ne 17, 3) := by decide +kernel
theorem dX6_frequency_110 : decode cX6_frequency 110 = .ok (.lload 8, 2) := by decide +kernel
theorem dX6_frequency_112 : decode cX6_frequency 112 = .ok (.aload_n 0, 1) := by decide +kernel
theorem dX6_frequency_113 : decode cX6_frequency 113 = .ok (.getfield 33, 3) := by decide +kernel
theorem dX6_frequency_116 : decode cX6_frequency 116 = .ok (.getfield 197, 3) := by decide +kernel
theorem dX6_frequency_119 : decode cX6_frequency 119 = .ok (.i2l, 1) := by decide +kernel
theorem dX6_frequency_120 : decode cX6_frequency 120 = .ok (.lmul, 1) := by decide +kernel
theorem dX6_frequency_121 : decode cX6_frequency 121 = .ok (.goto 5, 3) := by decide +kernel
theorem dX6_frequency_124 : decode cX6_frequency 124 = .ok (.lload 8, 2) := by decide +kernel
theorem dX6_frequency_126 : decode cX6_frequency 126 = .ok (.lload 6, 2) := by decide +kernel
theorem dX6_frequency_128 : decode cX6_frequency 128 = .ok (.iload_n 3, 1) := by decide +kernel
theorem dX6_frequency_129 : decode cX6_frequency 129 = .ok (.invokestatic 146, 3) := by decide +kernel
theorem dX6_frequency_132 : decode cX6_frequency 132 = .ok (.lreturn, 1) := by decide +kernel
theorem dX6_closing_0 : decode cX6_closing 0 = .ok (.aload_n 0, 1) := by decide +kernel
theorem dX6_closing_1 : decode cX6_closing 1 = .ok (.iload_n 1, 1) := by decide +kernel
theorem dX6_closing_2 : decode cX6_closing 2 = .ok (.invokevirtual 208, 3) := by decide +kernel
theorem dX6_closing_5 : decode cX6_closing 5 = .ok (.ifCond .ne 6, 3) := by decide +kernel
theorem dX6_closing_8 : decode cX6_closing 8 = .ok (.bipush (-2), 2) := by decide +kernel
theorem dX6_closing_10 : decode cX6_closing 10 = .ok (.ireturn, 1) := by decide +kernel
theorem dX6_closing_11 : decode cX6_closing 11 = .ok (.aload_n 0, 1) := by decide +kernel
theorem dX6_closing_12 : decode cX6_closing 12 = .ok (.invokevirtual 162, 3) := by decide +kernel
theorem dX6_closing_15 : decode cX6_closing 15 = .ok (.aload_n 0, 1) := by decide +kernel
theorem dX6_closing_16 : decode cX6_closing 16 = .ok (.getfield 26, 3) := by decide +kernel
theorem dX6_closing_19 : decode cX6_closing 19 = .ok (.iload_n 1, 1) := by decide +kernel
theorem dX6_closing_20 : decode cX6_closing 20 = .ok (.invokevirtual 224, 3) := by decide +kernel
theorem dX6_closing_23 : decode cX6_closing 23 = .ok (.ireturn, 1) := by decide +kernel
theorem dX6_chain_0 : decode cX6_chain 0 = .ok (.iload_n 1, 1) := by decide +kernel
theorem dX6_chain_1 : decode cX6_chain 1 = .ok (.iconst 1, 1) := by decide +kernel
theorem dX6_chain_2 : decode cX6_chain 2 = .ok (.bipush 99, 2) := by decide +kernel
theorem dX6_chain_4 : decode cX6_chain 4 = .ok (.invokestatic 87, 3) := by decide +kernel
theorem dX6_chain_7 : decode cX6_chain 7 = .ok (.ifCond .eq 12, 3) := by decide +kernel
theorem dX6_chain_10 : decode cX6_chain 10 = .ok (.iload_n 3, 1) := by decide +kernel
theorem dX6_chain_11 : decode cX6_chain 11 = .ok (.iconst 0, 1) := by decide +kernel
theorem dX6_chain_12 : decode cX6_chain 12 = .ok (.iconst 4, 1) := by decide +kernel
theorem dX6_chain_13 : decode cX6_chain 13 = .ok (.invokestatic 87, 3) := by decide +kernel
theorem dX6_chain_16 : decode cX6_chain 16 = .ok (.ifCond .ne 6, 3) := by decide +kernel
theorem dX6_chain_19 : decode cX6_chain 19 = .ok (.bipush (-2), 2) := by decide +kernel
theorem dX6_chain_21 : decode cX6_chain 21 = .ok (.ireturn, 1) := by decide +kernel
theorem dX6_chain_22 : decode cX6_chain 22 = .ok (.aload_n 0, 1) := by decide +kernel
theorem dX6_chain_23 : decode cX6_chain 23 = .ok (.invokevirtual 162, 3) := by decide +kernel
theorem dX6_chain_26 : decode cX6_chain 26 = .ok (.iconst 0, 1) := by decide +kernel
theorem dX6_chain_27 : decode cX6_chain 27 = .ok (.istore 4, 2) := by decide +kernel
theorem dX6_chain_29 : decode cX6_chain 29 = .ok (.iconst 0, 1) := by decide +kernel
theorem dX6_chain_30 : decode cX6_chain 30 = .ok (.istore 5, 2) := by decide +kernel
theorem dX6_chain_32 : decode cX6_chain 32 = .ok (.iconst 0, 1) := by decide +kernel
theorem dX6_chain_33 : decode cX6_chain 33 = .ok (.istore 6, 2) := by decide +kernel
theorem dX6_chain_35 : decode cX6_chain 35 = .ok (.iconst 1, 1) := by decide +kernel
theorem dX6_chain_36 : decode cX6_chain 36 = .ok (.istore 7, 2) := by decide +kernel
theorem dX6_chain_38 : decode cX6_chain 38 = .ok (.iload 7, 2) := by decide +kernel
theorem dX6_chain_40 : decode cX6_chain 40 = .ok (.aload_n 0, 1) := by decide +kernel
theorem dX6_chain_41 : decode cX6_chain 41 = .ok (.getfield 10, 3) := by decide +kernel
theorem dX6_chain_44 : decode cX6_chain 44 = .ok (.getfield 97, 3) := by decide +kernel
theorem dX6_chain_47 : decode cX6_chain 47 = .ok (.if_icmp .ge 92, 3) := by decide +kernel
theorem dX6_chain_50 : decode cX6_chain 50 = .ok (.aload_n 0, 1) := by decide +kernel
theorem dX6_chain_51 : decode cX6_chain 51 = .ok (.getfield 10, 3) := by decide +kernel
theorem dX6_chain_54 : decode cX6_chain 54 = .ok (.iload 7, 2) := by decide +kernel
theorem dX6_chain_56 : decode cX6_chain 56 = .ok (.invokevirtual 168, 3) := by decide +kernel
theorem dX6_chain_59 : decode cX6_chain 59 = .ok (.aload_n 0, 1) := by decide +kernel
theorem dX6_chain_60 : decode cX6_chain 60 = .ok (.getfield 10, 3) := by decide +kernel
theorem dX6_chain_63 : decode cX6_chain 63 = .ok (.iload 4, 2) := by decide +kernel
theorem dX6_chain_65 : decode cX6_chain 65 = .ok (.invokevirtual 168, 3) := by decide +kernel
theorem dX6_chain_68 : decode cX6_chain 68 = .ok (.isub, 1) := by decide +kernel
theorem dX6_chain_69 : decode cX6_chain 69 = .ok (.iload_n 1, 1) := by decide +kernel
theorem dX6_chain_70 : decode cX6_chain 70 = .ok (.if_icmp .lt 63, 3) := by decide +kernel
theorem dX6_chain_73 : decode cX6_chain 73 = .ok (.aload_n 0, 1) := by decide +kernel
theorem dX6_chain_74 : decode cX6_chain 74 = .ok (.getfield 33, 3) := by decide +kernel
theorem dX6_chain_77 : decode cX6_chain 77 = .ok (.iload 4, 2) := by decide +kernel
theorem dX6_chain_79 : decode cX6_chain 79 = .ok (.iload 7, 2) := by decide +kernel
theorem dX6_chain_81 : decode cX6_chain 81 = .ok (.invokevirtual 217, 3) := by decide +kernel
theorem dX6_chain_84 : decode cX6_chain 84 = .ok (.istore 8, 2) := by decide +kernel
theorem dX6_chain_86 : decode cX6_chain 86 = .ok (.iload_n 3, 1) := by decide +kernel
theorem dX6_chain_87 : decode cX6_chain 87 = .ok (.iconst 2, 1) := by decide +kernel
theorem dX6_chain_88 : decode cX6_chain 88 = .ok (.if_icmp .gt 31, 3) := by decide +kernel
theorem dX6_chain_91 : decode cX6_chain 91 = .ok (.iload 5, 2) := by decide +kernel
theorem dX6_chain_93 : decode cX6_chain 93 = .ok (.iload_n 2, 1) := by decide +kernel
theorem dX6_chain_94 : decode cX6_chain 94 = .ok (.if_icmp .ne 25, 3) := by decide +kernel
theorem dX6_chain_97 : decode cX6_chain 97 = .ok (.iload_n 3, 1) := by decide +kernel
theorem dX6_chain_98 : decode cX6_chain 98 = .ok (.ifCond .ne 8, 3) := by decide +kernel
theorem dX6_chain_101 : decode cX6_chain 101 = .ok (.iload 4, 2) := by decide +kernel
theorem dX6_chain_103 : decode cX6_chain 103 = .ok (.goto 15, 3) := by decide +kernel
theorem dX6_chain_106 : decode cX6_chain 106 = .ok (.iload_n 3, 1) := by decide +kernel
theorem dX6_chain_107 : decode cX6_chain 107 = .ok (.iconst 1, 1) := by decide +kernel
theorem dX6_chain_108 : decode cX6_chain 108 = .ok (.if_icmp .ne 8, 3) := by decide +kernel
theorem dX6_chain_111 : decode cX6_chain 111 = .ok (.iload 7, 2) := by decide +kernel
theorem dX6_chain_113 : decode cX6_chain 113 = .ok (.goto 5, 3) := by decide +kernel
theorem dX6_chain_116 : decode cX6_chain 116 = .ok (.iload 8, 2) := by decide +kernel
theorem dX6_chain_118 : decode cX6_chain 118 = .ok (.ireturn, 1) := by decide +kernel
theorem dX6_chain_119 : decode cX6_chain 119 = .ok (.iload 6, 2) := by decide +kernel
theorem dX6_chain_121 : decode cX6_chain 121 = .ok (.iload 8, 2) := by decide +kernel
theorem dX6_chain_123 : decode cX6_chain 123 = .ok (.iadd, 1) := by decide +kernel
theorem dX6_chain_124 : decode cX6_chain 124 = .ok (.istore 6, 2) := by decide +kernel
theorem dX6_chain_126 : decode cX6_chain 126 = .ok (.iinc 5 1, 3) := by decide +kernel
theorem dX6_chain_129 : decode cX6_chain 129 = .ok (.iload 7, 2) := by decide +kernel
theorem dX6_chain_131 : decode cX6_chain 131 = .ok (.istore 4, 2) := by decide +kernel
theorem dX6_chain_133 : decode cX6_chain 133 = .ok (.iinc 7 1, 3) := by decide +kernel
theorem dX6_chain_136 : decode cX6_chain 136 = .ok (.goto (-98), 3) := by decide +kernel
theorem dX6_chain_139 : decode cX6_chain 139 = .ok (.iload_n 3, 1) := by decide +kernel
theorem dX6_chain_140 : decode cX6_chain 140 = .ok (.iconst 2, 1) := by decide +kernel
theorem dX6_chain_141 : decode cX6_chain 141 = .ok (.if_icmp .gt 6, 3) := by decide +kernel
theorem dX6_chain_144 : decode cX6_chain 144 = .ok (.bipush (-2), 2) := by decide +kernel
theorem dX6_chain_146 : decode cX6_chain 146 = .ok (.ireturn, 1) := by decide +kernel
theorem dX6_chain_147 : decode cX6_chain 147 = .ok (.iload_n 3, 1) := by decide +kernel
theorem dX6_chain_148 : decode cX6_chain 148 = .ok (.iconst 3, 1) := by decide +kernel
theorem dX6_chain_149 : decode cX6_chain 149 = .ok (.if_icmp .ne 8, 3) := by decide +kernel
theorem dX6_chain_152 : decode cX6_chain 152 = .ok (.iload 5, 2) := by decide +kernel
theorem dX6_chain_154 : decode cX6_chain 154 = .ok (.goto 5, 3) := by decide +kernel
theorem dX6_chain_157 : decode cX6_chain 157 = .ok (.iload 6, 2) := by decide +kernel
theorem dX6_chain_159 : decode cX6_chain 159 = .ok (.ireturn, 1) := by decide +kernel
theorem dX6_fit_0 : decode cX6_fit 0 = .ok (.aload_n 0, 1) := by decide +kernel
theorem dX6_fit_1 : decode cX6_fit 1 = .ok (.iload_n 1, 1) := by decide +kernel
theorem dX6_fit_2 : decode cX6_fit 2 = .ok (.iload_n 2, 1) := by decide +kernel
theorem dX6_fit_3 : decode cX6_fit 3 = .ok (.invokevirtual 227, 3) := by decide +kernel
theorem dX6_fit_6 : decode cX6_fit 6 = .ok (.ifCond .eq 10, 3) := by decide +kernel
theorem dX6_fit_9 : decode cX6_fit 9 = .ok (.iload_n 3, 1) := by decide +kernel
theorem dX6_fit_10 : decode cX6_fit 10 = .ok (.invokestatic 137, 3) := by decide +kernel
theorem dX6_fit_13 : decode cX6_fit 13 = .ok (.ifCond .ne 9, 3) := by decide +kernel
theorem dX6_fit_16 : decode cX6_fit 16 = .ok (.bipush (-2), 2) := by decide +kernel
theorem dX6_fit_18 : decode cX6_fit 18 = .ok (.invokestatic 140, 3) := by decide +kernel
theorem dX6_fit_21 : decode cX6_fit 21 = .ok (.lreturn, 1) := by decide +kernel
theorem dX6_fit_22 : decode cX6_fit 22 = .ok (.aload_n 0, 1) := by decide +kernel
theorem dX6_fit_23 : decode cX6_fit 23 = .ok (.invokevirtual 162, 3) := by decide +kernel
theorem dX6_fit_26 : decode cX6_fit 26 = .ok (.aload_n 0, 1) := by decide +kernel
theorem dX6_fit_27 : decode cX6_fit 27 = .ok (.getfield 33, 3) := by decide +kernel
theorem dX6_fit_30 : decode cX6_fit 30 = .ok (.iload_n 1, 1) := by decide +kernel
theorem dX6_fit_31 : decode cX6_fit 31 = .ok (.iload_n 2, 1) := by decide +kernel
theorem dX6_fit_32 : decode cX6_fit 32 = .ok (.invokevirtual 231, 3) := by decide +kernel
theorem dX6_fit_35 : decode cX6_fit 35 = .ok (.aload_n 0, 1) := by decide +kernel
theorem dX6_fit_36 : decode cX6_fit 36 = .ok (.getfield 33, 3) := by decide +kernel
theorem dX6_fit_39 : decode cX6_fit 39 = .ok (.iload_n 1, 1) := by decide +kernel
theorem dX6_fit_40 : decode cX6_fit 40 = .ok (.iload_n 2, 1) := by decide +kernel
theorem dX6_fit_41 : decode cX6_fit 41 = .ok (.invokevirtual 235, 3) := by decide +kernel
theorem dX6_fit_44 : decode cX6_fit 44 = .ok (.aload_n 0, 1) := by decide +kernel
theorem dX6_fit_45 : decode cX6_fit 45 = .ok (.getfield 33, 3) := by decide +kernel
theorem dX6_fit_48 : decode cX6_fit 48 = .ok (.getfield 197, 3) := by decide +kernel
theorem dX6_fit_51 : decode cX6_fit 51 = .ok (.i2l, 1) := by decide +kernel
theorem dX6_fit_52 : decode cX6_fit 52 = .ok (.lmul, 1) := by decide +kernel
theorem dX6_fit_53 : decode cX6_fit 53 = .ok (.iload_n 3, 1) := by decide +kernel
theorem dX6_fit_54 : decode cX6_fit 54 = .ok (.invokestatic 146, 3) := by decide +kernel
theorem dX6_fit_57 : decode cX6_fit 57 = .ok (.lreturn, 1) := by decide +kernel
theorem dX6_off_0 : decode cX6_off 0 = .ok (.aload_n 0, 1) := by decide +kernel
theorem dX6_off_1 : decode cX6_off 1 = .ok (.iload_n 1, 1) := by decide +kernel
theorem dX6_off_2 : decode cX6_off 2 = .ok (.iload_n 2, 1) := by decide +kernel
theorem dX6_off_3 : decode cX6_off 3 = .ok (.invokevirtual 227, 3) := by decide +kernel
theorem dX6_off_6 : decode cX6_off 6 = .ok (.ifCond .ne 6, 3) := by decide +kernel
theorem dX6_off_9 : decode cX6_off 9 = .ok (.bipush (-2), 2) := by decide +kernel
theorem dX6_off_11 : decode cX6_off 11 = .ok (.ireturn, 1) := by decide +kernel
theorem dX6_off_12 : decode cX6_off 12 = .ok (.aload_n 0, 1) := by decide +kernel
theorem dX6_off_13 : decode cX6_off 13 = .ok (.invokevirtual 162, 3) := by decide +kernel
theorem dX6_off_16 : decode cX6_off 16 = .ok (.aload_n 0, 1) := by decide +kernel
theorem dX6_off_17 : decode cX6_off 17 = .ok (.getfield 33, 3) := by decide +kernel
theorem dX6_off_20 : decode cX6_off 20 = .ok (.iload_n 1, 1) := by decide +kernel
theorem dX6_off_21 : decode cX6_off 21 = .ok (.iload_n 2, 1) := by decide +kernel
theorem dX6_off_22 : decode cX6_off 22 = .ok (.invokevirtual 238, 3) := by decide +kernel
theorem dX6_off_25 : decode cX6_off 25 = .ok (.ireturn, 1) := by decide +kernel
theorem dX6_gain_0 : decode cX6_gain 0 = .ok (.iload_n 1, 1) := by decide +kernel
theorem dX6_gain_1 : decode cX6_gain 1 = .ok (.iconst 3, 1) := by decide +kernel
theorem dX6_gain_2 : decode cX6_gain 2 = .ok (.bipush 32, 2) := by decide +kernel
theorem dX6_gain_4 : decode cX6_gain 4 = .ok (.invokestatic 87, 3) := by decide +kernel
theorem dX6_gain_7 : decode cX6_gain 7 = .ok (.ifCond .eq 10, 3) := by decide +kernel
theorem dX6_gain_10 : decode cX6_gain 10 = .ok (.iload_n 2, 1) := by decide +kernel
theorem dX6_gain_11 : decode cX6_gain 11 = .ok (.invokestatic 137, 3) := by decide +kernel
theorem dX6_gain_14 : decode cX6_gain 14 = .ok (.ifCond .ne 9, 3) := by decide +kernel
theorem dX6_gain_17 : decode cX6_gain 17 = .ok (.bipush (-2), 2) := by decide +kernel
theorem dX6_gain_19 : decode cX6_gain 19 = .ok (.invokestatic 140, 3) := by decide +kernel
theorem dX6_gain_22 : decode cX6_gain 22 = .ok (.lreturn, 1) := by decide +kernel
theorem dX6_gain_23 : decode cX6_gain 23 = .ok (.iload_n 1, 1) := by decide +kernel
theorem dX6_gain_24 : decode cX6_gain 24 = .ok (.i2l, 1) := by decide +kernel
theorem dX6_gain_25 : decode cX6_gain 25 = .ok (.iload_n 1, 1) := by decide +kernel
theorem dX6_gain_26 : decode cX6_gain 26 = .ok (.iconst 1, 1) := by decide +kernel
theorem dX6_gain_27 : decode cX6_gain 27 = .ok (.iadd, 1) := by decide +kernel
theorem dX6_gain_28 : decode cX6_gain 28 = .ok (.i2l, 1) := by decide +kernel
theorem dX6_gain_29 : decode cX6_gain 29 = .ok (.lmul, 1) := by decide +kernel
theorem dX6_gain_30 : decode cX6_gain 30 = .ok (.ldc2_w 240, 3) := by decide +kernel
theorem dX6_gain_33 : decode cX6_gain 33 = .ok (.iload_n 1, 1) := by decide +kernel
theorem dX6_gain_34 : decode cX6_gain 34 = .ok (.iconst 1, 1) := by decide +kernel
theorem dX6_gain_35 : decode cX6_gain 35 = .ok (.isub, 1) := by decide +kernel
theorem dX6_gain_36 : decode cX6_gain 36 = .ok (.i2l, 1) := by decide +kernel
theorem dX6_gain_37 : decode cX6_gain 37 = .ok (.lmul, 1) := by decide +kernel
theorem dX6_gain_38 : decode cX6_gain 38 = .ok (.iload_n 2, 1) := by decide +kernel
theorem dX6_gain_39 : decode cX6_gain 39 = .ok (.invokestatic 146, 3) := by decide +kernel
theorem dX6_gain_42 : decode cX6_gain 42 = .ok (.lreturn, 1) := by decide +kernel
theorem dX6_variance_0 : decode cX6_variance 0 = .ok (.iload_n 1, 1) := by decide +kernel
theorem dX6_variance_1 : decode cX6_variance 1 = .ok (.iconst 1, 1) := by decide +kernel
theorem dX6_variance_2 : decode cX6_variance 2 = .ok (.bipush 15, 2) := by decide +kernel
theorem dX6_variance_4 : decode cX6_variance 4 = .ok (.invokestatic 87, 3) := by decide +kernel
theorem dX6_variance_7 : decode cX6_variance 7 = .ok (.ifCond .eq 10, 3) := by decide +kernel
theorem dX6_variance_10 : decode cX6_variance 10 = .ok (.iload_n 2, 1) := by decide +kernel
theorem dX6_variance_11 : decode cX6_variance 11 = .ok (.invokestatic 137, 3) := by decide +kernel
theorem dX6_variance_14 : decode cX6_variance 14 = .ok (.ifCond .ne 9, 3) := by decide +kernel
theorem dX6_variance_17 : decode cX6_variance 17 = .ok (.bipush (-2), 2) := by decide +kernel
theorem dX6_variance_19 : decode cX6_variance 19 = .ok (.invokestatic 140, 3) := by decide +kernel
theorem dX6_variance_22 : decode cX6_variance 22 = .ok (.lreturn, 1) := by decide +kernel
theorem dX6_variance_23 : decode cX6_variance 23 = .ok (.aload_n 0, 1) := by decide +kernel
theorem dX6_variance_24 : decode cX6_variance 24 = .ok (.invokevirtual 162, 3) := by decide +kernel
theorem dX6_variance_27 : decode cX6_variance 27 = .ok (.iload_n 1, 1) := by decide +kernel
theorem dX6_variance_28 : decode cX6_variance 28 = .ok (.aload_n 0, 1) := by decide +kernel
theorem dX6_variance_29 : decode cX6_variance 29 = .ok (.getfield 40, 3) := by decide +kernel
theorem dX6_variance_32 : decode cX6_variance 32 = .ok (.getfield 242, 3) := by decide +kernel
theorem dX6_variance_35 : decode cX6_variance 35 = .ok (.if_icmp .le 9, 3) := by decide +kernel
theorem dX6_variance_38 : decode cX6_variance 38 = .ok (.bipush (-3), 2) := by decide +kernel
theorem dX6_variance_40 : decode cX6_variance 40 = .ok (.invokestatic 140, 3) := by decide +kernel
theorem dX6_variance_43 : decode cX6_variance 43 = .ok (.lreturn, 1) := by decide +kernel
theorem dX6_variance_44 : decode cX6_variance 44 = .ok (.aload_n 0, 1) := by decide +kernel
theorem dX6_variance_45 : decode cX6_variance 45 = .ok (.getfield 33, 3) := by decide +kernel
theorem dX6_variance_48 : decode cX6_variance 48 = .ok (.getfield 197, 3) := by decide +kernel
theorem dX6_variance_51 : decode cX6_variance 51 = .ok (.i2l, 1) := by decide +kernel
theorem dX6_variance_52 : decode cX6_variance 52 = .ok (.lstore_n 3, 1) := by decide +kernel
theorem dX6_variance_53 : decode cX6_variance 53 = .ok (.aload_n 0, 1) := by decide +kernel
theorem dX6_variance_54 : decode cX6_variance 54 = .ok (.getfield 40, 3) := by decide +kernel
theorem dX6_variance_57 : decode cX6_variance 57 = .ok (.getfield 243, 3) := by decide +kernel
theorem dX6_variance_60 : decode cX6_variance 60 = .ok (.iload_n 1, 1) := by decide +kernel
theorem dX6_variance_61 : decode cX6_variance 61 = .ok (.laload, 1) := by decide +kernel
theorem dX6_variance_62 : decode cX6_variance 62 = .ok (.ldc2_w 246, 3) := by decide +kernel
theorem dX6_variance_65 : decode cX6_variance 65 = .ok (.aload_n 0, 1) := by decide +kernel
theorem dX6_variance_66 : decode cX6_variance 66 = .ok (.getfield 40, 3) := by decide +kernel
theorem dX6_variance_69 : decode cX6_variance 69 = .ok (.getfield 248, 3) := by decide +kernel
theorem dX6_variance_72 : decode cX6_variance 72 = .ok (.iload_n 1, 1) := by decide +kernel
theorem dX6_variance_73 : decode cX6_variance 73 = .ok (.laload, 1) := by decide +kernel
theorem dX6_variance_74 : decode cX6_variance 74 = .ok (.lmul, 1) := by decide +kernel
theorem dX6_variance_75 : decode cX6_variance 75 = .ok (.lload_n 3, 1) := by decide +kernel
theorem dX6_variance_76 : decode cX6_variance 76 = .ok (.lmul, 1) := by decide +kernel
theorem dX6_variance_77 : decode cX6_variance 77 = .ok (.lload_n 3, 1) := by decide +kernel
theorem dX6_variance_78 : decode cX6_variance 78 = .ok (.lmul, 1) := by decide +kernel
theorem dX6_variance_79 : decode cX6_variance 79 = .ok (.iload_n 2, 1) := by decide +kernel
theorem dX6_variance_80 : decode cX6_variance 80 = .ok (.invokestatic 146, 3) := by decide +kernel
theorem dX6_variance_83 : decode cX6_variance 83 = .ok (.lreturn, 1) := by decide +kernel
theorem dX6_rank_0 : decode cX6_rank 0 = .ok (.aload_n 0, 1) := by decide +kernel
theorem dX6_rank_1 : decode cX6_rank 1 = .ok (.invokevirtual 162, 3) := by decide +kernel
theorem dX6_rank_4 : decode cX6_rank 4 = .ok (.iload_n 1, 1) := by decide +kernel
theorem dX6_rank_5 : decode cX6_rank 5 = .ok (.iconst 0, 1) := by decide +kernel
theorem dX6_rank_6 : decode cX6_rank 6 = .ok (.aload_n 0, 1) := by decide +kernel
theorem dX6_rank_7 : decode cX6_rank 7 = .ok (.getfield 40, 3) := by decide +kernel
theorem dX6_rank_10 : decode cX6_rank 10 = .ok (.getfield 242, 3) := by decide +kernel
theorem dX6_rank_13 : decode cX6_rank 13 = .ok (.iconst 1, 1) := by decide +kernel
theorem dX6_rank_14 : decode cX6_rank 14 = .ok (.isub, 1) := by decide +kernel
theorem dX6_rank_15 : decode cX6_rank 15 = .ok (.invokestatic 87, 3) := by decide +kernel
theorem dX6_rank_18 : decode cX6_rank 18 = .ok (.ifCond .eq 15, 3) := by decide +kernel
theorem dX6_rank_21 : decode cX6_rank 21 = .ok (.aload_n 0, 1) := by decide +kernel
theorem dX6_rank_22 : decode cX6_rank 22 = .ok (.getfield 40, 3) := by decide +kernel
theorem dX6_rank_25 : decode cX6_rank 25 = .ok (.getfield 251, 3) := by decide +kernel
theorem dX6_rank_28 : decode cX6_rank 28 = .ok (.iload_n 1, 1) := by decide +kernel
theorem dX6_rank_29 : decode cX6_rank 29 = .ok (.iaload, 1) := by decide +kernel
theorem dX6_rank_30 : decode cX6_rank 30 = .ok (.goto 5, 3) := by decide +kernel
theorem dX6_rank_33 : decode cX6_rank 33 = .ok (.bipush (-2), 2) := by decide +kernel
theorem dX6_rank_35 : decode cX6_rank 35 = .ok (.ireturn, 1) := by decide +kernel
theorem dX6_sheet_0 : decode cX6_sheet 0 = .ok (.iload_n 1, 1) := by decide +kernel
theorem dX6_sheet_1 : decode cX6_sheet 1 = .ok (.invokestatic 254, 3) := by decide +kernel
theorem dX6_sheet_4 : decode cX6_sheet 4 = .ok (.ifCond .eq 16, 3) := by decide +kernel
theorem dX6_sheet_7 : decode cX6_sheet 7 = .ok (.iload_n 2, 1) := by decide +kernel
theorem dX6_sheet_8 : decode cX6_sheet 8 = .ok (.invokestatic 257, 3) := by decide +kernel
theorem dX6_sheet_11 : decode cX6_sheet 11 = .ok (.ifCond .eq 9, 3) := by decide +kernel
theorem dX6_sheet_14 : decode cX6_sheet 14 = .ok (.iload_n 3, 1) := by decide +kernel
theorem dX6_sheet_15 : decode cX6_sheet 15 = .ok (.bipush 40, 2) := by decide +kernel
theorem dX6_sheet_17 : decode cX6_sheet 17 = .ok (.if_icmp .le 6, 3) := by decide +kernel
theorem dX6_sheet_20 : decode cX6_sheet 20 = .ok (.bipush (-2), 2) := by decide +kernel
theorem dX6_sheet_22 : decode cX6_sheet 22 = .ok (.ireturn, 1) := by decide +kernel
theorem dX6_sheet_23 : decode cX6_sheet 23 = .ok (.iload_n 3, 1) := by decide +kernel
theorem dX6_sheet_24 : decode cX6_sheet 24 = .ok (.ifCond .ge 9, 3) := by decide +kernel
theorem dX6_sheet_27 : decode cX6_sheet 27 = .ok (.aload_n 0, 1) := by decide +kernel
theorem dX6_sheet_28 : decode cX6_sheet 28 = .ok (.iconst 5, 1) := by decide +kernel
theorem dX6_sheet_29 : decode cX6_sheet 29 = .ok (.invokevirtual 260, 3) := by decide +kernel
theorem dX6_sheet_32 : decode cX6_sheet 32 = .ok (.ireturn, 1) := by decide +kernel
theorem dX6_sheet_33 : decode cX6_sheet 33 = .ok (.aload_n 0, 1) := by decide +kernel
theorem dX6_sheet_34 : decode cX6_sheet 34 = .ok (.getfield 46, 3) := by decide +kernel
theorem dX6_sheet_37 : decode cX6_sheet 37 = .ok (.iload_n 1, 1) := by decide +kernel
theorem dX6_sheet_38 : decode cX6_sheet 38 = .ok (.aaload, 1) := by decide +kernel
theorem dX6_sheet_39 : decode cX6_sheet 39 = .ok (.iload_n 2, 1) := by decide +kernel
theorem dX6_sheet_40 : decode cX6_sheet 40 = .ok (.iload_n 3, 1) := by decide +kernel
theorem dX6_sheet_41 : decode cX6_sheet 41 = .ok (.invokevirtual 263, 3) := by decide +kernel
theorem dX6_sheet_44 : decode cX6_sheet 44 = .ok (.iload_n 3, 1) := by decide +kernel
theorem dX6_sheet_45 : decode cX6_sheet 45 = .ok (.ireturn, 1) := by decide +kernel
theorem dX6_lose_0 : decode cX6_lose 0 = .ok (.iload_n 1, 1) := by decide +kernel
theorem dX6_lose_1 : decode cX6_lose 1 = .ok (.invokestatic 254, 3) := by decide +kernel
theorem dX6_lose_4 : decode cX6_lose 4 = .ok (.ifCond .ne 6, 3) := by decide +kernel
theorem dX6_lose_7 : decode cX6_lose 7 = .ok (.bipush (-2), 2) := by decide +kernel
theorem dX6_lose_9 : decode cX6_lose 9 = .ok (.ireturn, 1) := by decide +kernel
theorem dX6_lose_10 : decode cX6_lose 10 = .ok (.aload_n 0, 1) := by decide +kernel
theorem dX6_lose_11 : decode cX6_lose 11 = .ok (.getfield 46, 3) := by decide +kernel
theorem dX6_lose_14 : decode cX6_lose 14 = .ok (.iload_n 1, 1) := by decide +kernel
theorem dX6_lose_15 : decode cX6_lose 15 = .ok (.aaload, 1) := by decide +kernel
theorem dX6_lose_16 : decode cX6_lose 16 = .ok (.astore_n 2, 1) := by decide +kernel
theorem dX6_lose_17 : decode cX6_lose 17 = .ok (.aload_n 2, 1) := by decide +kernel
theorem dX6_lose_18 : decode cX6_lose 18 = .ok (.invokevirtual 266, 3) := by decide +kernel
theorem dX6_lose_21 : decode cX6_lose 21 = .ok (.ifCond .eq 9, 3) := by decide +kernel
theorem dX6_lose_24 : decode cX6_lose 24 = .ok (.aload_n 0, 1) := by decide +kernel
theorem dX6_lose_25 : decode cX6_lose 25 = .ok (.iconst 1, 1) := by decide +kernel
theorem dX6_lose_26 : decode cX6_lose 26 = .ok (.invokevirtual 260, 3) := by decide +kernel
theorem dX6_lose_29 : decode cX6_lose 29 = .ok (.ireturn, 1) := by decide +kernel
theorem dX6_lose_30 : decode cX6_lose 30 = .ok (.aload_n 2, 1) := by decide +kernel
theorem dX6_lose_31 : decode cX6_lose 31 = .ok (.iconst (-1), 1) := by decide +kernel
theorem dX6_lose_32 : decode cX6_lose 32 = .ok (.putfield 269, 3) := by decide +kernel
theorem dX6_lose_35 : decode cX6_lose 35 = .ok (.aload_n 2, 1) := by decide +kernel
theorem dX6_lose_36 : decode cX6_lose 36 = .ok (.getfield 272, 3) := by decide +kernel
theorem dX6_lose_39 : decode cX6_lose 39 = .ok (.ireturn, 1) := by decide +kernel
theorem dX6_put_0 : decode cX6_put 0 = .ok (.iload_n 1, 1) := by decide +kernel
theorem dX6_put_1 : decode cX6_put 1 = .ok (.invokestatic 254, 3) := by decide +kernel
theorem dX6_put_4 : decode cX6_put 4 = .ok (.ifCond .eq 10, 3) := by decide +kernel
theorem dX6_put_7 : decode cX6_put 7 = .ok (.iload_n 2, 1) := by decide +kernel
theorem dX6_put_8 : decode cX6_put 8 = .ok (.invokestatic 257, 3) := by decide +kernel
theorem dX6_put_11 : decode cX6_put 11 = .ok (.ifCond .ne 6, 3) := by decide +kernel
theorem dX6_put_14 : decode cX6_put 14 = .ok (.bipush (-2), 2) := by decide +kernel
theorem dX6_put_16 : decode cX6_put 16 = .ok (.ireturn, 1) := by decide +kernel
theorem dX6_put_17 : decode cX6_put 17 = .ok (.aload_n 0, 1) := by decide +kernel
theorem dX6_put_18 : decode cX6_put 18 = .ok (.getfield 46, 3) := by decide +kernel
theorem dX6_put_21 : decode cX6_put 21 = .ok (.iload_n 1, 1) := by decide +kernel
theorem dX6_put_22 : decode cX6_put 22 = .ok (.aaload, 1) := by decide +kernel
theorem dX6_put_23 : decode cX6_put 23 = .ok (.astore 5, 2) := by decide +kernel
theorem dX6_put_25 : decode cX6_put 25 = .ok (.aload 5, 2) := by decide +kernel
theorem dX6_put_27 : decode cX6_put 27 = .ok (.invokevirtual 266, 3) := by decide +kernel
theorem dX6_put_30 : decode cX6_put 30 = .ok (.ifCond .eq 9, 3) := by decide +kernel
theorem dX6_put_33 : decode cX6_put 33 = .ok (.aload_n 0, 1) := by decide +kernel
theorem dX6_put_34 : decode cX6_put 34 = .ok (.iconst 1, 1) := by decide +kernel
theorem dX6_put_35 : decode cX6_put 35 = .ok (.invokevirtual 260, 3) := by decide +kernel
theorem dX6_put_38 : decode cX6_put 38 = .ok (.ireturn, 1) := by decide +kernel
theorem dX6_put_39 : decode cX6_put 39 = .ok (.aload 5, 2) := by decide +kernel
theorem dX6_put_41 : decode cX6_put 41 = .ok (.getfield 269, 3) := by decide +kernel
theorem dX6_put_44 : decode cX6_put 44 = .ok (.iload_n 2, 1) := by decide +kernel
theorem dX6_put_45 : decode cX6_put 45 = .ok (.if_icmp .eq 9, 3) := by decide +kernel
theorem dX6_put_48 : decode cX6_put 48 = .ok (.aload_n 0, 1) := by decide +kernel
theorem dX6_put_49 : decode cX6_put 49 = .ok (.iconst 3, 1) := by decide +kernel
theorem dX6_put_50 : decode cX6_put 50 = .ok (.invokevirtual 260, 3) := by decide +kernel
theorem dX6_put_53 : decode cX6_put 53 = .ok (.ireturn, 1) := by decide +kernel
theorem dX6_put_54 : decode cX6_put 54 = .ok (.aload 5, 2) := by decide +kernel
theorem dX6_put_56 : decode cX6_put 56 = .ok (.iload_n 3, 1) := by decide +kernel
theorem dX6_put_57 : decode cX6_put 57 = .ok (.invokevirtual 273, 3) := by decide +kernel
theorem dX6_put_60 : decode cX6_put 60 = .ok (.ifCond .ne 9, 3) := by decide +kernel
theorem dX6_put_63 : decode cX6_put 63 = .ok (.aload_n 0, 1) := by decide +kernel
theorem dX6_put_64 : decode cX6_put 64 = .ok (.iconst 2, 1) := by decide +kernel
theorem dX6_put_65 : decode cX6_put 65 = .ok (.invokevirtual 260, 3) := by decide +kernel
theorem dX6_put_68 : decode cX6_put 68 = .ok (.ireturn, 1) := by decide +kernel
theorem dX6_put_69 : decode cX6_put 69 = .ok (.aload 5, 2) := by decide +kernel
theorem dX6_put_71 : decode cX6_put 71 = .ok (.iload_n 3, 1) := by decide +kernel
theorem dX6_put_72 : decode cX6_put 72 = .ok (.iload 4, 2) := by decide +kernel
theorem dX6_put_74 : decode cX6_put 74 = .ok (.invokevirtual 276, 3) := by decide +kernel
theorem dX6_put_77 : decode cX6_put 77 = .ok (.iconst 1, 1) := by decide +kernel
theorem dX6_put_78 : decode cX6_put 78 = .ok (.ireturn, 1) := by decide +kernel
theorem dX6_blank_0 : decode cX6_blank 0 = .ok (.iload_n 1, 1) := by decide +kernel
theorem dX6_blank_1 : decode cX6_blank 1 = .ok (.invokestatic 254, 3) := by decide +kernel
theorem dX6_blank_4 : decode cX6_blank 4 = .ok (.ifCond .ne 6, 3) := by decide +kernel
theorem dX6_blank_7 : decode cX6_blank 7 = .ok (.bipush (-2), 2) := by decide +kernel
theorem dX6_blank_9 : decode cX6_blank 9 = .ok (.ireturn, 1) := by decide +kernel
theorem dX6_blank_10 : decode cX6_blank 10 = .ok (.aload_n 0, 1) := by decide +kernel
theorem dX6_blank_11 : decode cX6_blank 11 = .ok (.getfield 46, 3) := by decide +kernel
theorem dX6_blank_14 : decode cX6_blank 14 = .ok (.iload_n 1, 1) := by decide +kernel
theorem dX6_blank_15 : decode cX6_blank 15 = .ok (.aaload, 1) := by decide +kernel
theorem dX6_blank_16 : decode cX6_blank 16 = .ok (.astore_n 3, 1) := by decide +kernel
theorem dX6_blank_17 : decode cX6_blank 17 = .ok (.aload_n 3, 1) := by decide +kernel
theorem dX6_blank_18 : decode cX6_blank 18 = .ok (.invokevirtual 266, 3) := by decide +kernel
theorem dX6_blank_21 : decode cX6_blank 21 = .ok (.ifCond .eq 9, 3) := by decide +kernel
theorem dX6_blank_24 : decode cX6_blank 24 = .ok (.aload_n 0, 1) := by decide +kernel
theorem dX6_blank_25 : decode cX6_blank 25 = .ok (.iconst 1, 1) := by decide +kernel
theorem dX6_blank_26 : decode cX6_blank 26 = .ok (.invokevirtual 260, 3) := by decide +kernel
theorem dX6_blank_29 : decode cX6_blank 29 = .ok (.ireturn, 1) := by decide +kernel
theorem dX6_blank_30 : decode cX6_blank 30 = .ok (.aload_n 3, 1) := by decide +kernel
theorem dX6_blank_31 : decode cX6_blank 31 = .ok (.invokevirtual 279, 3) := by decide +kernel
theorem dX6_blank_34 : decode cX6_blank 34 = .ok (.ifCond .ne 9, 3) := by decide +kernel
theorem dX6_blank_37 : decode cX6_blank 37 = .ok (.aload_n 0, 1) := by decide +kernel
theorem dX6_blank_38 : decode cX6_blank 38 = .ok (.iconst 3, 1) := by decide +kernel
theorem dX6_blank_39 : decode cX6_blank 39 = .ok (.invokevirtual 260, 3) := by decide +kernel
theorem dX6_blank_42 : decode cX6_blank 42 = .ok (.ireturn, 1) := by decide +kernel
theorem dX6_blank_43 : decode cX6_blank 43 = .ok (.aload_n 3, 1) := by decide +kernel
theorem dX6_blank_44 : decode cX6_blank 44 = .ok (.iload_n 2, 1) := by decide +kernel
theorem dX6_blank_45 : decode cX6_blank 45 = .ok (.invokevirtual 273, 3) := by decide +kernel
theorem dX6_blank_48 : decode cX6_blank 48 = .ok (.ifCond .ne 9, 3) := by decide +kernel
theorem dX6_blank_51 : decode cX6_blank 51 = .ok (.aload_n 0, 1) := by decide +kernel
theorem dX6_blank_52 : decode cX6_blank 52 = .ok (.iconst 2, 1) := by decide +kernel
theorem dX6_blank_53 : decode cX6_blank 53 = .ok (.invokevirtual 260, 3) := by decide +kernel
theorem dX6_blank_56 : decode cX6_blank 56 = .ok (.ireturn, 1) := by decide +kernel
theorem dX6_blank_57 : decode cX6_blank 57 = .ok (.aload_n 3, 1) := by decide +kernel
theorem dX6_blank_58 : decode cX6_blank 58 = .ok (.getfield 282, 3) := by decide +kernel
theorem dX6_blank_61 : decode cX6_blank 61 = .ok (.iload_n 2, 1) := by decide +kernel
theorem dX6_blank_62 : decode cX6_blank 62 = .ok (.iconst 1, 1) := by decide +kernel
theorem dX6_blank_63 : decode cX6_blank 63 = .ok (.bastore, 1) := by decide +kernel
theorem dX6_blank_64 : decode cX6_blank 64 = .ok (.iconst 1, 1) := by decide +kernel
theorem dX6_blank_65 : decode cX6_blank 65 = .ok (.ireturn, 1) := by decide +kernel
theorem dX6_get_0 : decode cX6_get 0 = .ok (.iload_n 1, 1) := by decide +kernel
theorem dX6_get_1 : decode cX6_get 1 = .ok (.invokestatic 254, 3) := by decide +kernel
theorem dX6_get_4 : decode cX6_get 4 = .ok (.ifCond .ne 9, 3) := by decide +kernel
theorem dX6_get_7 : decode cX6_get 7 = .ok (.bipush (-2), 2) := by decide +kernel
theorem dX6_get_9 : decode cX6_get 9 = .ok (.invokestatic 140, 3) := by decide +kernel
theorem dX6_get_12 : decode cX6_get 12 = .ok (.lreturn, 1) := by decide +kernel
theorem dX6_get_13 : decode cX6_get 13 = .ok (.aload_n 0, 1) := by decide +kernel
theorem dX6_get_14 : decode cX6_get 14 = .ok (.getfield 46, 3) := by decide +kernel
theorem dX6_get_17 : decode cX6_get 17 = .ok (.iload_n 1, 1) := by decide +kernel
theorem dX6_get_18 : decode cX6_get 18 = .ok (.aaload, 1) := by decide +kernel
theorem dX6_get_19 : decode cX6_get 19 = .ok (.astore_n 3, 1) := by decide +kernel
theorem dX6_get_20 : decode cX6_get 20 = .ok (.aload_n 3, 1) := by decide +kernel
theorem dX6_get_21 : decode cX6_get 21 = .ok (.invokevirtual 266, 3) := by decide +kernel
theorem dX6_get_24 : decode cX6_get 24 = .ok (.ifCond .eq 12, 3) := by decide +kernel
theorem dX6_get_27 : decode cX6_get 27 = .ok (.aload_n 0, 1) := by decide +kernel
theorem dX6_get_28 : decode cX6_get 28 = .ok (.iconst 1, 1) := by decide +kernel
theorem dX6_get_29 : decode cX6_get 29 = .ok (.invokevirtual 260, 3) := by decide +kernel
theorem dX6_get_32 : decode cX6_get 32 = .ok (.invokestatic 140, 3) := by decide +kernel
theorem dX6_get_35 : decode cX6_get 35 = .ok (.lreturn, 1) := by decide +kernel
theorem dX6_get_36 : decode cX6_get 36 = .ok (.aload_n 3, 1) := by decide +kernel
theorem dX6_get_37 : decode cX6_get 37 = .ok (.iload_n 2, 1) := by decide +kernel
theorem dX6_get_38 : decode cX6_get 38 = .ok (.invokevirtual 273, 3) := by decide +kernel
theorem dX6_get_41 : decode cX6_get 41 = .ok (.ifCond .ne 12, 3) := by decide +kernel
theorem dX6_get_44 : decode cX6_get 44 = .ok (.aload_n 0, 1) := by decide +kernel
theorem dX6_get_45 : decode cX6_get 45 = .ok (.iconst 2, 1) := by decide +kernel
theorem dX6_get_46 : decode cX6_get 46 = .ok (.invokevirtual 260, 3) := by decide +kernel
theorem dX6_get_49 : decode cX6_get 49 = .ok (.invokestatic 140, 3) := by decide +kernel
theorem dX6_get_52 : decode cX6_get 52 = .ok (.lreturn, 1) := by decide +kernel
theorem dX6_get_53 : decode cX6_get 53 = .ok (.aload_n 3, 1) := by decide +kernel
theorem dX6_get_54 : decode cX6_get 54 = .ok (.getfield 282, 3) := by decide +kernel
theorem dX6_get_57 : decode cX6_get 57 = .ok (.iload_n 2, 1) := by decide +kernel
theorem dX6_get_58 : decode cX6_get 58 = .ok (.baload, 1) := by decide +kernel
theorem dX6_get_59 : decode cX6_get 59 = .ok (.ifCond .eq 10, 3) := by decide +kernel
theorem dX6_get_62 : decode cX6_get 62 = .ok (.iconst (-1), 1) := by decide +kernel
theorem dX6_get_63 : decode cX6_get 63 = .ok (.invokestatic 140, 3) := by decide +kernel
theorem dX6_get_66 : decode cX6_get 66 = .ok (.goto 8, 3) := by decide +kernel
theorem dX6_get_69 : decode cX6_get 69 = .ok (.aload_n 3, 1) := by decide +kernel
theorem dX6_get_70 : decode cX6_get 70 = .ok (.iload_n 2, 1) := by decide +kernel
theorem dX6_get_71 : decode cX6_get 71 = .ok (.invokevirtual 285, 3) := by decide +kernel
theorem dX6_get_74 : decode cX6_get 74 = .ok (.lreturn, 1) := by decide +kernel
theorem dX6_copy_0 : decode cX6_copy 0 = .ok (.iload_n 1, 1) := by decide +kernel
theorem dX6_copy_1 : decode cX6_copy 1 = .ok (.invokestatic 254, 3) := by decide +kernel
theorem dX6_copy_4 : decode cX6_copy 4 = .ok (.ifCond .eq 10, 3) := by decide +kernel
theorem dX6_copy_7 : decode cX6_copy 7 = .ok (.iload_n 3, 1) := by decide +kernel
theorem dX6_copy_8 : decode cX6_copy 8 = .ok (.invokestatic 254, 3) := by decide +kernel
theorem dX6_copy_11 : decode cX6_copy 11 = .ok (.ifCond .ne 6, 3) := by decide +kernel
theorem dX6_copy_14 : decode cX6_copy 14 = .ok (.bipush (-2), 2) := by decide +kernel
theorem dX6_copy_16 : decode cX6_copy 16 = .ok (.ireturn, 1) := by decide +kernel
theorem dX6_copy_17 : decode cX6_copy 17 = .ok (.aload_n 0, 1) := by decide +kernel
theorem dX6_copy_18 : decode cX6_copy 18 = .ok (.getfield 46, 3) := by decide +kernel
theorem dX6_copy_21 : decode cX6_copy 21 = .ok (.iload_n 1, 1) := by decide +kernel
theorem dX6_copy_22 : decode cX6_copy 22 = .ok (.aaload, 1) := by decide +kernel
theorem dX6_copy_23 : decode cX6_copy 23 = .ok (.astore 6, 2) := by decide +kernel
theorem dX6_copy_25 : decode cX6_copy 25 = .ok (.aload_n 0, 1) := by decide +kernel
theorem dX6_copy_26 : decode cX6_copy 26 = .ok (.getfield 46, 3) := by decide +kernel
theorem dX6_copy_29 : decode cX6_copy 29 = .ok (.iload_n 3, 1) := by decide +kernel
theorem dX6_copy_30 : decode cX6_copy 30 = .ok (.aaload, 1) := by decide +kernel
theorem dX6_copy_31 : decode cX6_copy 31 = .ok (.astore 7, 2) := by decide +kernel
theorem dX6_copy_33 : decode cX6_copy 33 = .ok (.aload 6, 2) := by decide +kernel
theorem dX6_copy_35 : decode cX6_copy 35 = .ok (.invokevirtual 266, 3) := by decide +kernel
theorem dX6_copy_38 : decode cX6_copy 38 = .ok (.ifCond .ne 11, 3) := by decide +kernel
theorem dX6_copy_41 : decode cX6_copy 41 = .ok (.aload 7, 2) := by decide +kernel
theorem dX6_copy_43 : decode cX6_copy 43 = .ok (.invokevirtual 266, 3) := by decide +kernel
theorem dX6_copy_46 : decode cX6_copy 46 = .ok (.ifCond .eq 9, 3) := by decide +kernel
theorem dX6_copy_49 : decode cX6_copy 49 = .ok (.aload_n 0, 1) := by decide +kernel
theorem dX6_copy_50 : decode cX6_copy 50 = .ok (.iconst 1, 1) := by decide +kernel
theorem dX6_copy_51 : decode cX6_copy 51 = .ok (.invokevirtual 260, 3) := by decide +kernel
theorem dX6_copy_54 : decode cX6_copy 54 = .ok (.ireturn, 1) := by decide +kernel
theorem dX6_copy_55 : decode cX6_copy 55 = .ok (.aload 6, 2) := by decide +kernel
theorem dX6_copy_57 : decode cX6_copy 57 = .ok (.getfield 269, 3) := by decide +kernel
theorem dX6_copy_60 : decode cX6_copy 60 = .ok (.aload 7, 2) := by decide +kernel
theorem dX6_copy_62 : decode cX6_copy 62 = .ok (.getfield 269, 3) := by decide +kernel
theorem dX6_copy_65 : decode cX6_copy 65 = .ok (.if_icmp .eq 9, 3) := by decide +kernel
theorem dX6_copy_68 : decode cX6_copy 68 = .ok (.aload_n 0, 1) := by decide +kernel
theorem dX6_copy_69 : decode cX6_copy 69 = .ok (.iconst 4, 1) := by decide +kernel
theorem dX6_copy_70 : decode cX6_copy 70 = .ok (.invokevirtual 260, 3) := by decide +kernel
theorem dX6_copy_73 : decode cX6_copy 73 = .ok (.ireturn, 1) := by decide +kernel
theorem dX6_copy_74 : decode cX6_copy 74 = .ok (.aload 6, 2) := by decide +kernel
theorem dX6_copy_76 : decode cX6_copy 76 = .ok (.iload_n 2, 1) := by decide +kernel
theorem dX6_copy_77 : decode cX6_copy 77 = .ok (.iload 5, 2) := by decide +kernel
theorem dX6_copy_79 : decode cX6_copy 79 = .ok (.invokevirtual 288, 3) := by decide +kernel
theorem dX6_copy_82 : decode cX6_copy 82 = .ok (.ifCond .eq 15, 3) := by decide +kernel
theorem dX6_copy_85 : decode cX6_copy 85 = .ok (.aload 7, 2) := by decide +kernel
theorem dX6_copy_87 : decode cX6_copy 87 = .ok (.iload 4, 2) := by decide +kernel
theorem dX6_copy_89 : decode cX6_copy 89 = .ok (.iload 5, 2) := by decide +kernel
theorem dX6_copy_91 : decode cX6_copy 91 = .ok (.invokevirtual 288, 3) := by decide +kernel
theorem dX6_copy_94 : decode cX6_copy 94 = .ok (.ifCond .ne 9, 3) := by decide +kernel
theorem dX6_copy_97 : decode cX6_copy 97 = .ok (.aload_n 0, 1) := by decide +kernel
theorem dX6_copy_98 : decode cX6_copy 98 = .ok (.iconst 2, 1) := by decide +kernel
theorem dX6_copy_99 : decode cX6_copy 99 = .ok (.invokevirtual 260, 3) := by decide +kernel
theorem dX6_copy_102 : decode cX6_copy 102 = .ok (.ireturn, 1) := by decide +kernel
theorem dX6_copy_103 : decode cX6_copy 103 = .ok (.aload 7, 2) := by decide +kernel
theorem dX6_copy_105 : decode cX6_copy 105 = .ok (.aload 6, 2) := by decide +kernel
theorem dX6_copy_107 : decode cX6_copy 107 = .ok (.iload_n 2, 1) := by decide +kernel
theorem dX6_copy_108 : decode cX6_copy 108 = .ok (.iload 4, 2) := by decide +kernel
theorem dX6_copy_110 : decode cX6_copy 110 = .ok (.iload 5, 2) := by decide +kernel
theorem dX6_copy_112 : decode cX6_copy 112 = .ok (.invokevirtual 291, 3) := by decide +kernel
theorem dX6_copy_115 : decode cX6_copy 115 = .ok (.iconst 1, 1) := by decide +kernel
theorem dX6_copy_116 : decode cX6_copy 116 = .ok (.ireturn, 1) := by decide +kernel
theorem dX6_write_0 : decode cX6_write 0 = .ok (.iload_n 1, 1) := by decide +kernel
theorem dX6_write_1 : decode cX6_write 1 = .ok (.invokestatic 254, 3) := by decide +kernel
theorem dX6_write_4 : decode cX6_write 4 = .ok (.ifCond .ne 6, 3) := by decide +kernel
theorem dX6_write_7 : decode cX6_write 7 = .ok (.bipush (-2), 2) := by decide +kernel
theorem dX6_write_9 : decode cX6_write 9 = .ok (.ireturn, 1) := by decide +kernel
theorem dX6_write_10 : decode cX6_write 10 = .ok (.aload_n 0, 1) := by decide +kernel
theorem dX6_write_11 : decode cX6_write 11 = .ok (.getfield 46, 3) := by decide +kernel
theorem dX6_write_14 : decode cX6_write 14 = .ok (.iload_n 1, 1) := by decide +kernel
theorem dX6_write_15 : decode cX6_write 15 = .ok (.aaload, 1) := by decide +kernel
theorem dX6_write_16 : decode cX6_write 16 = .ok (.astore_n 2, 1) := by decide +kernel
theorem dX6_write_17 : decode cX6_write 17 = .ok (.aload_n 2, 1) := by decide +kernel
theorem dX6_write_18 : decode cX6_write 18 = .ok (.invokevirtual 266, 3) := by decide +kernel
theorem dX6_write_21 : decode cX6_write 21 = .ok (.ifCond .eq 9, 3) := by decide +kernel
theorem dX6_write_24 : decode cX6_write 24 = .ok (.aload_n 0, 1) := by decide +kernel
theorem dX6_write_25 : decode cX6_write 25 = .ok (.iconst 1, 1) := by decide +kernel
theorem dX6_write_26 : decode cX6_write 26 = .ok (.invokevirtual 260, 3) := by decide +kernel
theorem dX6_write_29 : decode cX6_write 29 = .ok (.ireturn, 1) := by decide +kernel
theorem dX6_write_30 : decode cX6_write 30 = .ok (.aload_n 2, 1) := by decide +kernel
theorem dX6_write_31 : decode cX6_write 31 = .ok (.getfield 269, 3) := by decide +kernel
theorem dX6_write_34 : decode cX6_write 34 = .ok (.iconst 3, 1) := by decide +kernel
theorem dX6_write_35 : decode cX6_write 35 = .ok (.if_icmp .eq 9, 3) := by decide +kernel
theorem dX6_write_38 : decode cX6_write 38 = .ok (.aload_n 0, 1) := by decide +kernel
theorem dX6_write_39 : decode cX6_write 39 = .ok (.iconst 3, 1) := by decide +kernel
theorem dX6_write_40 : decode cX6_write 40 = .ok (.invokevirtual 260, 3) := by decide +kernel
theorem dX6_write_43 : decode cX6_write 43 = .ok (.ireturn, 1) := by decide +kernel
theorem dX6_write_44 : decode cX6_write 44 = .ok (.aload_n 0, 1) := by decide +kernel
theorem dX6_write_45 : decode cX6_write 45 = .ok (.invokevirtual 162, 3) := by decide +kernel
theorem dX6_write_48 : decode cX6_write 48 = .ok (.iconst 0, 1) := by decide +kernel
theorem dX6_write_49 : decode cX6_write 49 = .ok (.istore_n 3, 1) := by decide +kernel
theorem dX6_write_50 : decode cX6_write 50 = .ok (.iconst 1, 1) := by decide +kernel
theorem dX6_write_51 : decode cX6_write 51 = .ok (.istore 4, 2) := by decide +kernel
theorem dX6_write_53 : decode cX6_write 53 = .ok (.iload 4, 2) := by decide +kernel
theorem dX6_write_55 : decode cX6_write 55 = .ok (.bipush 15, 2) := by decide +kernel
theorem dX6_write_57 : decode cX6_write 57 = .ok (.if_icmp .gt 90, 3) := by decide +kernel
theorem dX6_write_60 : decode cX6_write 60 = .ok (.iload 4, 2) := by decide +kernel
theorem dX6_write_62 : decode cX6_write 62 = .ok (.aload_n 2, 1) := by decide +kernel
theorem dX6_write_63 : decode cX6_write 63 = .ok (.getfield 272, 3) := by decide +kernel
theorem dX6_write_66 : decode cX6_write 66 = .ok (.if_icmp .gt 81, 3) := by decide +kernel
theorem dX6_write_69 : decode cX6_write 69 = .ok (.iload 4, 2) := by decide +kernel
theorem dX6_write_71 : decode cX6_write 71 = .ok (.aload_n 0, 1) := by decide +kernel
theorem dX6_write_72 : decode cX6_write 72 = .ok (.getfield 40, 3) := by decide +kernel
theorem dX6_write_75 : decode cX6_write 75 = .ok (.getfield 242, 3) := by decide +kernel
theorem dX6_write_78 : decode cX6_write 78 = .ok (.if_icmp .gt 7, 3) := by decide +kernel
theorem dX6_write_81 : decode cX6_write 81 = .ok (.iconst 1, 1) := by decide +kernel
theorem dX6_write_82 : decode cX6_write 82 = .ok (.goto 4, 3) := by decide +kernel
theorem dX6_write_85 : decode cX6_write 85 = .ok (.iconst 0, 1) := by decide +kernel
theorem dX6_write_86 : decode cX6_write 86 = .ok (.istore 5, 2) := by decide +kernel
theorem dX6_write_88 : decode cX6_write 88 = .ok (.aload_n 2, 1) := by decide +kernel
theorem dX6_write_89 : decode cX6_write 89 = .ok (.getfield 282, 3) := by decide +kernel
theorem dX6_write_92 : decode cX6_write 92 = .ok (.iload 4, 2) := by decide +kernel
theorem dX6_write_94 : decode cX6_write 94 = .ok (.iconst 1, 1) := by decide +kernel
theorem dX6_write_95 : decode cX6_write 95 = .ok (.isub, 1) := by decide +kernel
theorem dX6_write_96 : decode cX6_write 96 = .ok (.iload 5, 2) := by decide +kernel
theorem dX6_write_98 : decode cX6_write 98 = .ok (.ifCond .ne 7, 3) := by decide +kernel
theorem dX6_write_101 : decode cX6_write 101 = .ok (.iconst 1, 1) := by decide +kernel
theorem dX6_write_102 : decode cX6_write 102 = .ok (.goto 4, 3) := by decide +kernel
theorem dX6_write_105 : decode cX6_write 105 = .ok (.iconst 0, 1) := by decide +kernel
theorem dX6_write_106 : decode cX6_write 106 = .ok (.bastore, 1) := by decide +kernel
theorem dX6_write_107 : decode cX6_write 107 = .ok (.iload 5, 2) := by decide +kernel
theorem dX6_write_109 : decode cX6_write 109 = .ok (.ifCond .eq 32, 3) := by decide +kernel
theorem dX6_write_112 : decode cX6_write 112 = .ok (.aload_n 2, 1) := by decide +kernel
theorem dX6_write_113 : decode cX6_write 113 = .ok (.getfield 295, 3) := by decide +kernel
theorem dX6_write_116 : decode cX6_write 116 = .ok (.iload 4, 2) := by decide +kernel
theorem dX6_write_118 : decode cX6_write 118 = .ok (.iconst 1, 1) := by decide +kernel
theorem dX6_write_119 : decode cX6_write 119 = .ok (.isub, 1) := by decide +kernel
theorem dX6_write_120 : decode cX6_write 120 = .ok (.aload_n 0, 1) := by decide +kernel
theorem dX6_write_121 : decode cX6_write 121 = .ok (.iload 4, 2) := by decide +kernel
theorem dX6_write_123 : decode cX6_write 123 = .ok (.iconst 0, 1) := by decide +kernel
theorem dX6_write_124 : decode cX6_write 124 = .ok (.invokevirtual 299, 3) := by decide +kernel
theorem dX6_write_127 : decode cX6_write 127 = .ok (.l2d, 1) := by decide +kernel
theorem dX6_write_128 : decode cX6_write 128 = .ok (.aload_n 0, 1) := by decide +kernel
theorem dX6_write_129 : decode cX6_write 129 = .ok (.iload 4, 2) := by decide +kernel
theorem dX6_write_131 : decode cX6_write 131 = .ok (.iconst 1, 1) := by decide +kernel
theorem dX6_write_132 : decode cX6_write 132 = .ok (.invokevirtual 299, 3) := by decide +kernel
theorem dX6_write_135 : decode cX6_write 135 = .ok (.l2d, 1) := by decide +kernel
theorem dX6_write_136 : decode cX6_write 136 = .ok (.ddiv, 1) := by decide +kernel
theorem dX6_write_137 : decode cX6_write 137 = .ok (.dastore, 1) := by decide +kernel
theorem dX6_write_138 : decode cX6_write 138 = .ok (.iinc 3 1, 3) := by decide +kernel
theorem dX6_write_141 : decode cX6_write 141 = .ok (.iinc 4 1, 3) := by decide +kernel
theorem dX6_write_144 : decode cX6_write 144 = .ok (.goto (-91), 3) := by decide +kernel
theorem dX6_write_147 : decode cX6_write 147 = .ok (.iload_n 3, 1) := by decide +kernel
theorem dX6_write_148 : decode cX6_write 148 = .ok (.ireturn, 1) := by decide +kernel
theorem dX6_found_0 : decode cX6_found 0 = .ok (.iload_n 1, 1) := by decide +kernel
theorem dX6_found_1 : decode cX6_found 1 = .ok (.invokestatic 254, 3) := by decide +kernel
theorem dX6_found_4 : decode cX6_found 4 = .ok (.ifCond .eq 12, 3) := by decide +kernel
theorem dX6_found_7 : decode cX6_found 7 = .ok (.iload_n 2, 1) := by decide +kernel
theorem dX6_found_8 : decode cX6_found 8 = .ok (.iconst 0, 1) := by decide +kernel
theorem dX6_found_9 : decode cX6_found 9 = .ok (.iconst 2, 1) := by decide +kernel
theorem dX6_found_10 : decode cX6_found 10 = .ok (.invokestatic 87, 3) := by decide +kernel
theorem dX6_found_13 : decode cX6_found 13 = .ok (.ifCond .ne 6, 3) := by decide +kernel
theorem dX6_found_16 : decode cX6_found 16 = .ok (.bipush (-2), 2) := by decide +kernel
theorem dX6_found_18 : decode cX6_found 18 = .ok (.ireturn, 1) := by decide +kernel
theorem dX6_found_19 : decode cX6_found 19 = .ok (.aload_n 0, 1) := by decide +kernel
theorem dX6_found_20 : decode cX6_found 20 = .ok (.getfield 46, 3) := by decide +kernel
theorem dX6_found_23 : decode cX6_found 23 = .ok (.iload_n 1, 1) := by decide +kernel
theorem dX6_found_24 : decode cX6_found 24 = .ok (.aaload, 1) := by decide +kernel
theorem dX6_found_25 : decode cX6_found 25 = .ok (.astore_n 3, 1) := by decide +kernel
theorem dX6_found_26 : decode cX6_found 26 = .ok (.aload_n 3, 1) := by decide +kernel
theorem dX6_found_27 : decode cX6_found 27 = .ok (.invokevirtual 266, 3) := by decide +kernel
theorem dX6_found_30 : decode cX6_found 30 = .ok (.ifCond .eq 9, 3) := by decide +kernel
theorem dX6_found_33 : decode cX6_found 33 = .ok (.aload_n 0, 1) := by decide +kernel
theorem dX6_found_34 : decode cX6_found 34 = .ok (.iconst 1, 1) := by decide +kernel
theorem dX6_found_35 : decode cX6_found 35 = .ok (.invokevirtual 260, 3) := by decide +kernel
theorem dX6_found_38 : decode cX6_found 38 = .ok (.ireturn, 1) := by decide +kernel
theorem dX6_found_39 : decode cX6_found 39 = .ok (.aload_n 3, 1) := by decide +kernel
theorem dX6_found_40 : decode cX6_found 40 = .ok (.invokevirtual 279, 3) := by decide +kernel
theorem dX6_found_43 : decode cX6_found 43 = .ok (.ifCond .ne 9, 3) := by decide +kernel
theorem dX6_found_46 : decode cX6_found 46 = .ok (.aload_n 0, 1) := by decide +kernel
theorem dX6_found_47 : decode cX6_found 47 = .ok (.iconst 3, 1) := by decide +kernel
theorem dX6_found_48 : decode cX6_found 48 = .ok (.invokevirtual 260, 3) := by decide +kernel
theorem dX6_found_51 : decode cX6_found 51 = .ok (.ireturn, 1) := by decide +kernel
theorem dX6_found_52 : decode cX6_found 52 = .ok (.iload_n 2, 1) := by decide +kernel
theorem dX6_found_53 : decode cX6_found 53 = .ok (.iconst 2, 1) := by decide +kernel
theorem dX6_found_54 : decode cX6_found 54 = .ok (.if_icmp .ne 10, 3) := by decide +kernel
theorem dX6_found_57 : decode cX6_found 57 = .ok (.aload_n 3, 1) := by decide +kernel
theorem dX6_found_58 : decode cX6_found 58 = .ok (.invokevirtual 302, 3) := by decide +kernel
theorem dX6_found_61 : decode cX6_found 61 = .ok (.goto 17, 3) := by decide +kernel
theorem dX6_found_64 : decode cX6_found 64 = .ok (.aload_n 3, 1) := by decide +kernel
theorem dX6_found_65 : decode cX6_found 65 = .ok (.iload_n 2, 1) := by decide +kernel
theorem dX6_found_66 : decode cX6_found 66 = .ok (.iconst 1, 1) := by decide +kernel
theorem dX6_found_67 : decode cX6_found 67 = .ok (.if_icmp .ne 7, 3) := by decide +kernel
theorem dX6_found_70 : decode cX6_found 70 = .ok (.iconst 1, 1) := by decide +kernel
theorem dX6_found_71 : decode cX6_found 71 = .ok (.goto 4, 3) := by decide +kernel
theorem dX6_found_74 : decode cX6_found 74 = .ok (.iconst 0, 1) := by decide +kernel
theorem dX6_found_75 : decode cX6_found 75 = .ok (.invokevirtual 305, 3) := by decide +kernel
theorem dX6_found_78 : decode cX6_found 78 = .ok (.ireturn, 1) := by decide +kernel
theorem dX6_count_0 : decode cX6_count 0 = .ok (.iload_n 1, 1) := by decide +kernel
theorem dX6_count_1 : decode cX6_count 1 = .ok (.iconst 0, 1) := by decide +kernel
theorem dX6_count_2 : decode cX6_count 2 = .ok (.bipush 8, 2) := by decide +kernel
theorem dX6_count_4 : decode cX6_count 4 = .ok (.invokestatic 87, 3) := by decide +kernel
theorem dX6_count_7 : decode cX6_count 7 = .ok (.ifCond .ne 6, 3) := by decide +kernel
theorem dX6_count_10 : decode cX6_count 10 = .ok (.bipush (-2), 2) := by decide +kernel
theorem dX6_count_12 : decode cX6_count 12 = .ok (.ireturn, 1) := by decide +kernel
theorem dX6_count_13 : decode cX6_count 13 = .ok (.aload_n 0, 1) := by decide +kernel
theorem dX6_count_14 : decode cX6_count 14 = .ok (.invokevirtual 162, 3) := by decide +kernel
theorem dX6_count_17 : decode cX6_count 17 = .ok (.iload_n 1, 1) := by decide +kernel
theorem dX6_count_18 : decode cX6_count 18 = .ok (.tableswitch 107 0 7 #[46, 54, 62, 70, 78, 86, 94, 102], 46) := by decide +kernel
theorem dX6_count_64 : decode cX6_count 64 = .ok (.aload_n 0, 1) := by decide +kernel
theorem dX6_count_65 : decode cX6_count 65 = .ok (.getfield 10, 3) := by decide +kernel
theorem dX6_count_68 : decode cX6_count 68 = .ok (.getfield 97, 3) := by decide +kernel
theorem dX6_count_71 : decode cX6_count 71 = .ok (.ireturn, 1) := by decide +kernel
theorem dX6_count_72 : decode cX6_count 72 = .ok (.aload_n 0, 1) := by decide +kernel
theorem dX6_count_73 : decode cX6_count 73 = .ok (.getfield 19, 3) := by decide +kernel
theorem dX6_count_76 : decode cX6_count 76 = .ok (.getfield 110, 3) := by decide +kernel
theorem dX6_count_79 : decode cX6_count 79 = .ok (.ireturn, 1) := by decide +kernel
theorem dX6_count_80 : decode cX6_count 80 = .ok (.aload_n 0, 1) := by decide +kernel
theorem dX6_count_81 : decode cX6_count 81 = .ok (.getfield 19, 3) := by decide +kernel
theorem dX6_count_84 : decode cX6_count 84 = .ok (.getfield 118, 3) := by decide +kernel
theorem dX6_count_87 : decode cX6_count 87 = .ok (.ireturn, 1) := by decide +kernel
theorem dX6_count_88 : decode cX6_count 88 = .ok (.aload_n 0, 1) := by decide +kernel
theorem dX6_count_89 : decode cX6_count 89 = .ok (.getfield 26, 3) := by decide +kernel
theorem dX6_count_92 : decode cX6_count 92 = .ok (.getfield 204, 3) := by decide +kernel
theorem dX6_count_95 : decode cX6_count 95 = .ok (.ireturn, 1) := by decide +kernel
theorem dX6_count_96 : decode cX6_count 96 = .ok (.aload_n 0, 1) := by decide +kernel
theorem dX6_count_97 : decode cX6_count 97 = .ok (.getfield 33, 3) := by decide +kernel
theorem dX6_count_100 : decode cX6_count 100 = .ok (.getfield 309, 3) := by decide +kernel
theorem dX6_count_103 : decode cX6_count 103 = .ok (.ireturn, 1) := by decide +kernel
theorem dX6_count_104 : decode cX6_count 104 = .ok (.aload_n 0, 1) := by decide +kernel
theorem dX6_count_105 : decode cX6_count 105 = .ok (.getfield 33, 3) := by decide +kernel
theorem dX6_count_108 : decode cX6_count 108 = .ok (.getfield 312, 3) := by decide +kernel
theorem dX6_count_111 : decode cX6_count 111 = .ok (.ireturn, 1) := by decide +kernel
theorem dX6_count_112 : decode cX6_count 112 = .ok (.aload_n 0, 1) := by decide +kernel
theorem dX6_count_113 : decode cX6_count 113 = .ok (.getfield 40, 3) := by decide +kernel
theorem dX6_count_116 : decode cX6_count 116 = .ok (.getfield 242, 3) := by decide +kernel
theorem dX6_count_119 : decode cX6_count 119 = .ok (.ireturn, 1) := by decide +kernel
theorem dX6_count_120 : decode cX6_count 120 = .ok (.aload_n 0, 1) := by decide +kernel
theorem dX6_count_121 : decode cX6_count 121 = .ok (.getfield 54, 3) := by decide +kernel
theorem dX6_count_124 : decode cX6_count 124 = .ok (.ireturn, 1) := by decide +kernel
theorem dX6_count_125 : decode cX6_count 125 = .ok (.aload_n 0, 1) := by decide +kernel
theorem dX6_count_126 : decode cX6_count 126 = .ok (.getfield 64, 3) := by decide +kernel
theorem dX6_count_129 : decode cX6_count 129 = .ok (.ireturn, 1) := by decide +kernel
theorem dX6_digest_0 : decode cX6_digest 0 = .ok (.ldc2_w 315, 3) := by decide +kernel
theorem dX6_digest_3 : decode cX6_digest 3 = .ok (.lstore_n 1, 1) := by decide +kernel
theorem dX6_digest_4 : decode cX6_digest 4 = .ok (.iconst 0, 1) := by decide +kernel
theorem dX6_digest_5 : decode cX6_digest 5 = .ok (.istore_n 3, 1) := by decide +kernel
theorem dX6_digest_6 : decode cX6_digest 6 = .ok (.iload_n 3, 1) := by decide +kernel
theorem dX6_digest_7 : decode cX6_digest 7 = .ok (.bipush 7, 2) := by decide +kernel
theorem dX6_digest_9 : decode cX6_digest 9 = .ok (.if_icmp .gt 20, 3) := by decide +kernel
theorem dX6_digest_12 : decode cX6_digest 12 = .ok (.lload_n 1, 1) := by decide +kernel
theorem dX6_digest_13 : decode cX6_digest 13 = .ok (.aload_n 0, 1) := by decide +kernel
theorem dX6_digest_14 : decode cX6_digest 14 = .ok (.iload_n 3, 1) := by decide +kernel
theorem dX6_digest_15 : decode cX6_digest 15 = .ok (.invokevirtual 317, 3) := by decide +kernel
theorem dX6_digest_18 : decode cX6_digest 18 = .ok (.i2l, 1) := by decide +kernel
theorem dX6_digest_19 : decode cX6_digest 19 = .ok (.invokestatic 320, 3) := by decide +kernel
theorem dX6_digest_22 : decode cX6_digest 22 = .ok (.lstore_n 1, 1) := by decide +kernel
theorem dX6_digest_23 : decode cX6_digest 23 = .ok (.iinc 3 1, 3) := by decide +kernel
theorem dX6_digest_26 : decode cX6_digest 26 = .ok (.goto (-20), 3) := by decide +kernel
theorem dX6_digest_29 : decode cX6_digest 29 = .ok (.lload_n 1, 1) := by decide +kernel
theorem dX6_digest_30 : decode cX6_digest 30 = .ok (.aload_n 0, 1) := by decide +kernel
theorem dX6_digest_31 : decode cX6_digest 31 = .ok (.invokevirtual 324, 3) := by decide +kernel
theorem dX6_digest_34 : decode cX6_digest 34 = .ok (.i2l, 1) := by decide +kernel
theorem dX6_digest_35 : decode cX6_digest 35 = .ok (.invokestatic 320, 3) := by decide +kernel
theorem dX6_digest_38 : decode cX6_digest 38 = .ok (.lstore_n 1, 1) := by decide +kernel
theorem dX6_digest_39 : decode cX6_digest 39 = .ok (.aload_n 0, 1) := by decide +kernel
theorem dX6_digest_40 : decode cX6_digest 40 = .ok (.lload_n 1, 1) := by decide +kernel
theorem dX6_digest_41 : decode cX6_digest 41 = .ok (.invokevirtual 327, 3) := by decide +kernel
theorem dX6_digest_44 : decode cX6_digest 44 = .ok (.lstore_n 1, 1) := by decide +kernel
theorem dX6_digest_45 : decode cX6_digest 45 = .ok (.lload_n 1, 1) := by decide +kernel
theorem dX6_digest_46 : decode cX6_digest 46 = .ok (.aload_n 0, 1) := by decide +kernel
theorem dX6_digest_47 : decode cX6_digest 47 = .ok (.invokevirtual 331, 3) := by decide +kernel
theorem dX6_digest_50 : decode cX6_digest 50 = .ok (.i2l, 1) := by decide +kernel
theorem dX6_digest_51 : decode cX6_digest 51 = .ok (.invokestatic 320, 3) := by decide +kernel
theorem dX6_digest_54 : decode cX6_digest 54 = .ok (.lstore_n 1, 1) := by decide +kernel
theorem dX6_digest_55 : decode cX6_digest 55 = .ok (.aload_n 0, 1) := by decide +kernel
theorem dX6_digest_56 : decode cX6_digest 56 = .ok (.lload_n 1, 1) := by decide +kernel
theorem dX6_digest_57 : decode cX6_digest 57 = .ok (.invokevirtual 334, 3) := by decide +kernel
theorem dX6_digest_60 : decode cX6_digest 60 = .ok (.lstore_n 1, 1) := by decide +kernel
theorem dX6_digest_61 : decode cX6_digest 61 = .ok (.lload_n 1, 1) := by decide +kernel
theorem dX6_digest_62 : decode cX6_digest 62 = .ok (.aload_n 0, 1) := by decide +kernel
theorem dX6_digest_63 : decode cX6_digest 63 = .ok (.iconst 0, 1) := by decide +kernel
theorem dX6_digest_64 : decode cX6_digest 64 = .ok (.invokevirtual 337, 3) := by decide +kernel
theorem dX6_digest_67 : decode cX6_digest 67 = .ok (.invokestatic 320, 3) := by decide +kernel
theorem dX6_digest_70 : decode cX6_digest 70 = .ok (.aload_n 0, 1) := by decide +kernel
theorem dX6_digest_71 : decode cX6_digest 71 = .ok (.iconst 1, 1) := by decide +kernel
theorem dX6_digest_72 : decode cX6_digest 72 = .ok (.invokevirtual 337, 3) := by decide +kernel
theorem dX6_digest_75 : decode cX6_digest 75 = .ok (.invokestatic 320, 3) := by decide +kernel
theorem dX6_digest_78 : decode cX6_digest 78 = .ok (.lstore_n 1, 1) := by decide +kernel
theorem dX6_digest_79 : decode cX6_digest 79 = .ok (.aload_n 0, 1) := by decide +kernel
theorem dX6_digest_80 : decode cX6_digest 80 = .ok (.lload_n 1, 1) := by decide +kernel
theorem dX6_digest_81 : decode cX6_digest 81 = .ok (.invokevirtual 339, 3) := by decide +kernel
theorem dX6_digest_84 : decode cX6_digest 84 = .ok (.lstore_n 1, 1) := by decide +kernel
theorem dX6_digest_85 : decode cX6_digest 85 = .ok (.aload_n 0, 1) := by decide +kernel
theorem dX6_digest_86 : decode cX6_digest 86 = .ok (.lload_n 1, 1) := by decide +kernel
theorem dX6_digest_87 : decode cX6_digest 87 = .ok (.invokevirtual 342, 3) := by decide +kernel
theorem dX6_digest_90 : decode cX6_digest 90 = .ok (.lstore_n 1, 1) := by decide +kernel
theorem dX6_digest_91 : decode cX6_digest 91 = .ok (.aload_n 0, 1) := by decide +kernel
theorem dX6_digest_92 : decode cX6_digest 92 = .ok (.lload_n 1, 1) := by decide +kernel
theorem dX6_digest_93 : decode cX6_digest 93 = .ok (.invokevirtual 345, 3) := by decide +kernel
theorem dX6_digest_96 : decode cX6_digest 96 = .ok (.lstore_n 1, 1) := by decide +kernel
theorem dX6_digest_97 : decode cX6_digest 97 = .ok (.lload_n 1, 1) := by decide +kernel
theorem dX6_digest_98 : decode cX6_digest 98 = .ok (.aload_n 0, 1) := by decide +kernel
theorem dX6_digest_99 : decode cX6_digest 99 = .ok (.iconst 5, 1) := by decide +kernel
theorem dX6_digest_100 : decode cX6_digest 100 = .ok (.iconst 0, 1) := by decide +kernel
theorem dX6_digest_101 : decode cX6_digest 101 = .ok (.invokevirtual 348, 3) := by decide +kernel
theorem dX6_digest_104 : decode cX6_digest 104 = .ok (.invokestatic 320, 3) := by decide +kernel
theorem dX6_digest_107 : decode cX6_digest 107 = .ok (.aload_n 0, 1) := by decide +kernel
theorem dX6_digest_108 : decode cX6_digest 108 = .ok (.iconst 5, 1) := by decide +kernel
theorem dX6_digest_109 : decode cX6_digest 109 = .ok (.iconst 1, 1) := by decide +kernel
theorem dX6_digest_110 : decode cX6_digest 110 = .ok (.invokevirtual 348, 3) := by decide +kernel
theorem dX6_digest_113 : decode cX6_digest 113 = .ok (.invokestatic 320, 3) := by decide +kernel
theorem dX6_digest_116 : decode cX6_digest 116 = .ok (.lstore_n 1, 1) := by decide +kernel
theorem dX6_digest_117 : decode cX6_digest 117 = .ok (.aload_n 0, 1) := by decide +kernel
theorem dX6_digest_118 : decode cX6_digest 118 = .ok (.lload_n 1, 1) := by decide +kernel
theorem dX6_digest_119 : decode cX6_digest 119 = .ok (.invokevirtual 351, 3) := by decide +kernel
theorem dX6_digest_122 : decode cX6_digest 122 = .ok (.lreturn, 1) := by decide +kernel
theorem dX6_mix_0 : decode cX6_mix 0 = .ok (.ldc2_w 354, 3) := by decide +kernel
theorem dX6_mix_3 : decode cX6_mix 3 = .ok (.lload_n 0, 1) := by decide +kernel
theorem dX6_mix_4 : decode cX6_mix 4 = .ok (.lmul, 1) := by decide +kernel
theorem dX6_mix_5 : decode cX6_mix 5 = .ok (.lload_n 2, 1) := by decide +kernel
theorem dX6_mix_6 : decode cX6_mix 6 = .ok (.ladd, 1) := by decide +kernel
theorem dX6_mix_7 : decode cX6_mix 7 = .ok (.lreturn, 1) := by decide +kernel
theorem dX6_mixBins_0 : decode cX6_mixBins 0 = .ok (.lload_n 1, 1) := by decide +kernel
theorem dX6_mixBins_1 : decode cX6_mixBins 1 = .ok (.lstore_n 3, 1) := by decide +kernel
theorem dX6_mixBins_2 : decode cX6_mixBins 2 = .ok (.iconst 0, 1) := by decide +kernel
theorem dX6_mixBins_3 : decode cX6_mixBins 3 = .ok (.istore 5, 2) := by decide +kernel
theorem dX6_mixBins_5 : decode cX6_mixBins 5 = .ok (.iload 5, 2) := by decide +kernel
theorem dX6_mixBins_7 : decode cX6_mixBins 7 = .ok (.aload_n 0, 1) := by decide +kernel
theorem dX6_mixBins_8 : decode cX6_mixBins 8 = .ok (.getfield 19, 3) := by decide +kernel
theorem dX6_mixBins_11 : decode cX6_mixBins 11 = .ok (.getfield 110, 3) := by decide +kernel
theorem dX6_mixBins_14 : decode cX6_mixBins 14 = .ok (.if_icmp .ge 60, 3) := by decide +kernel
theorem dX6_mixBins_17 : decode cX6_mixBins 17 = .ok (.iconst 0, 1) := by decide +kernel
theorem dX6_mixBins_18 : decode cX6_mixBins 18 = .ok (.istore 6, 2) := by decide +kernel
theorem dX6_mixBins_20 : decode cX6_mixBins 20 = .ok (.iload 6, 2) := by decide +kernel
theorem dX6_mixBins_22 : decode cX6_mixBins 22 = .ok (.iconst 2, 1) := by decide +kernel
theorem dX6_mixBins_23 : decode cX6_mixBins 23 = .ok (.if_icmp .gt 23, 3) := by decide +kernel
theorem dX6_mixBins_26 : decode cX6_mixBins 26 = .ok (.lload_n 3, 1) := by decide +kernel
theorem dX6_mixBins_27 : decode cX6_mixBins 27 = .ok (.aload_n 0, 1) := by decide +kernel
theorem dX6_mixBins_28 : decode cX6_mixBins 28 = .ok (.iload 5, 2) := by decide +kernel
theorem dX6_mixBins_30 : decode cX6_mixBins 30 = .ok (.iload 6, 2) := by decide +kernel
theorem dX6_mixBins_32 : decode cX6_mixBins 32 = .ok (.invokevirtual 356, 3) := by decide +kernel
theorem dX6_mixBins_35 : decode cX6_mixBins 35 = .ok (.i2l, 1) := by decide +kernel
theorem dX6_mixBins_36 : decode cX6_mixBins 36 = .ok (.invokestatic 320, 3) := by decide +kernel
theorem dX6_mixBins_39 : decode cX6_mixBins 39 = .ok (.lstore_n 3, 1) := by decide +kernel
theorem dX6_mixBins_40 : decode cX6_mixBins 40 = .ok (.iinc 6 1, 3) := by decide +kernel
theorem dX6_mixBins_43 : decode cX6_mixBins 43 = .ok (.goto (-23), 3) := by decide +kernel
theorem dX6_mixBins_46 : decode cX6_mixBins 46 = .ok (.lload_n 3, 1) := by decide +kernel
theorem dX6_mixBins_47 : decode cX6_mixBins 47 = .ok (.aload_n 0, 1) := by decide +kernel
theorem dX6_mixBins_48 : decode cX6_mixBins 48 = .ok (.iload 5, 2) := by decide +kernel
theorem dX6_mixBins_50 : decode cX6_mixBins 50 = .ok (.iconst 0, 1) := by decide +kernel
theorem dX6_mixBins_51 : decode cX6_mixBins 51 = .ok (.invokevirtual 359, 3) := by decide +kernel
theorem dX6_mixBins_54 : decode cX6_mixBins 54 = .ok (.invokestatic 320, 3) := by decide +kernel
theorem dX6_mixBins_57 : decode cX6_mixBins 57 = .ok (.aload_n 0, 1) := by decide +kernel
theorem dX6_mixBins_58 : decode cX6_mixBins 58 = .ok (.iload 5, 2) := by decide +kernel
theorem dX6_mixBins_60 : decode cX6_mixBins 60 = .ok (.iconst 1, 1) := by decide +kernel
theorem dX6_mixBins_61 : decode cX6_mixBins 61 = .ok (.invokevirtual 359, 3) := by decide +kernel
theorem dX6_mixBins_64 : decode cX6_mixBins 64 = .ok (.invokestatic 320, 3) := by decide +kernel
theorem dX6_mixBins_67 : decode cX6_mixBins 67 = .ok (.lstore_n 3, 1) := by decide +kernel
theorem dX6_mixBins_68 : decode cX6_mixBins 68 = .ok (.iinc 5 1, 3) := by decide +kernel
theorem dX6_mixBins_71 : decode cX6_mixBins 71 = .ok (.goto (-66), 3) := by decide +kernel
theorem dX6_mixBins_74 : decode cX6_mixBins 74 = .ok (.lload_n 3, 1) := by decide +kernel
theorem dX6_mixBins_75 : decode cX6_mixBins 75 = .ok (.lreturn, 1) := by decide +kernel
theorem dX6_mixEdges_0 : decode cX6_mixEdges 0 = .ok (.lload_n 1, 1) := by decide +kernel
theorem dX6_mixEdges_1 : decode cX6_mixEdges 1 = .ok (.lstore_n 3, 1) := by decide +kernel
theorem dX6_mixEdges_2 : decode cX6_mixEdges 2 = .ok (.iconst 0, 1) := by decide +kernel
theorem dX6_mixEdges_3 : decode cX6_mixEdges 3 = .ok (.istore 5, 2) := by decide +kernel
theorem dX6_mixEdges_5 : decode cX6_mixEdges 5 = .ok (.iload 5, 2) := by decide +kernel
theorem dX6_mixEdges_7 : decode cX6_mixEdges 7 = .ok (.aload_n 0, 1) := by decide +kernel
theorem dX6_mixEdges_8 : decode cX6_mixEdges 8 = .ok (.getfield 10, 3) := by decide +kernel
theorem dX6_mixEdges_11 : decode cX6_mixEdges 11 = .ok (.getfield 97, 3) := by decide +kernel
theorem dX6_mixEdges_14 : decode cX6_mixEdges 14 = .ok (.if_icmp .ge 61, 3) := by decide +kernel
theorem dX6_mixEdges_17 : decode cX6_mixEdges 17 = .ok (.iconst 0, 1) := by decide +kernel
theorem dX6_mixEdges_18 : decode cX6_mixEdges 18 = .ok (.istore 6, 2) := by decide +kernel
theorem dX6_mixEdges_20 : decode cX6_mixEdges 20 = .ok (.iload 6, 2) := by decide +kernel
theorem dX6_mixEdges_22 : decode cX6_mixEdges 22 = .ok (.bipush 7, 2) := by decide +kernel
theorem dX6_mixEdges_24 : decode cX6_mixEdges 24 = .ok (.if_icmp .gt 23, 3) := by decide +kernel
theorem dX6_mixEdges_27 : decode cX6_mixEdges 27 = .ok (.lload_n 3, 1) := by decide +kernel
theorem dX6_mixEdges_28 : decode cX6_mixEdges 28 = .ok (.aload_n 0, 1) := by decide +kernel
theorem dX6_mixEdges_29 : decode cX6_mixEdges 29 = .ok (.iload 5, 2) := by decide +kernel
theorem dX6_mixEdges_31 : decode cX6_mixEdges 31 = .ok (.iload 6, 2) := by decide +kernel
theorem dX6_mixEdges_33 : decode cX6_mixEdges 33 = .ok (.invokevirtual 361, 3) := by decide +kernel
theorem dX6_mixEdges_36 : decode cX6_mixEdges 36 = .ok (.i2l, 1) := by decide +kernel
theorem dX6_mixEdges_37 : decode cX6_mixEdges 37 = .ok (.invokestatic 320, 3) := by decide +kernel
theorem dX6_mixEdges_40 : decode cX6_mixEdges 40 = .ok (.lstore_n 3, 1) := by decide +kernel
theorem dX6_mixEdges_41 : decode cX6_mixEdges 41 = .ok (.iinc 6 1, 3) := by decide +kernel
theorem dX6_mixEdges_44 : decode cX6_mixEdges 44 = .ok (.goto (-24), 3) := by decide +kernel
theorem dX6_mixEdges_47 : decode cX6_mixEdges 47 = .ok (.lload_n 3, 1) := by decide +kernel
theorem dX6_mixEdges_48 : decode cX6_mixEdges 48 = .ok (.aload_n 0, 1) := by decide +kernel
theorem dX6_mixEdges_49 : decode cX6_mixEdges 49 = .ok (.iload 5, 2) := by decide +kernel
theorem dX6_mixEdges_51 : decode cX6_mixEdges 51 = .ok (.iconst 0, 1) := by decide +kernel
theorem dX6_mixEdges_52 : decode cX6_mixEdges 52 = .ok (.invokevirtual 364, 3) := by decide +kernel
theorem dX6_mixEdges_55 : decode cX6_mixEdges 55 = .ok (.invokestatic 320, 3) := by decide +kernel
theorem dX6_mixEdges_58 : decode cX6_mixEdges 58 = .ok (.aload_n 0, 1) := by decide +kernel
theorem dX6_mixEdges_59 : decode cX6_mixEdges 59 = .ok (.iload 5, 2) := by decide +kernel
theorem dX6_mixEdges_61 : decode cX6_mixEdges 61 = .ok (.iconst 1, 1) := by decide +kernel
theorem dX6_mixEdges_62 : decode cX6_mixEdges 62 = .ok (.invokevirtual 364, 3) := by decide +kernel
theorem dX6_mixEdges_65 : decode cX6_mixEdges 65 = .ok (.invokestatic 320, 3) := by decide +kernel
theorem dX6_mixEdges_68 : decode cX6_mixEdges 68 = .ok (.lstore_n 3, 1) := by decide +kernel
theorem dX6_mixEdges_69 : decode cX6_mixEdges 69 = .ok (.iinc 5 1, 3) := by decide +kernel
theorem dX6_mixEdges_72 : decode cX6_mixEdges 72 = .ok (.goto (-67), 3) := by decide +kernel
theorem dX6_mixEdges_75 : decode cX6_mixEdges 75 = .ok (.lload_n 3, 1) := by decide +kernel
theorem dX6_mixEdges_76 : decode cX6_mixEdges 76 = .ok (.lreturn, 1) := by decide +kernel
theorem dX6_mixGates_0 : decode cX6_mixGates 0 = .ok (.lload_n 1, 1) := by decide +kernel
theorem dX6_mixGates_1 : decode cX6_mixGates 1 = .ok (.lstore_n 3, 1) := by decide +kernel
theorem dX6_mixGates_2 : decode cX6_mixGates 2 = .ok (.iconst 0, 1) := by decide +kernel
theorem dX6_mixGates_3 : decode cX6_mixGates 3 = .ok (.istore 5, 2) := by decide +kernel
theorem dX6_mixGates_5 : decode cX6_mixGates 5 = .ok (.iload 5, 2) := by decide +kernel
theorem dX6_mixGates_7 : decode cX6_mixGates 7 = .ok (.aload_n 0, 1) := by decide +kernel
theorem dX6_mixGates_8 : decode cX6_mixGates 8 = .ok (.getfield 26, 3) := by decide +kernel
theorem dX6_mixGates_11 : decode cX6_mixGates 11 = .ok (.getfield 204, 3) := by decide +kernel
theorem dX6_mixGates_14 : decode cX6_mixGates 14 = .ok (.if_icmp .ge 91, 3) := by decide +kernel
theorem dX6_mixGates_17 : decode cX6_mixGates 17 = .ok (.iconst 0, 1) := by decide +kernel
theorem dX6_mixGates_18 : decode cX6_mixGates 18 = .ok (.istore 6, 2) := by decide +kernel
theorem dX6_mixGates_20 : decode cX6_mixGates 20 = .ok (.iload 6, 2) := by decide +kernel
theorem dX6_mixGates_22 : decode cX6_mixGates 22 = .ok (.iconst 2, 1) := by decide +kernel
theorem dX6_mixGates_23 : decode cX6_mixGates 23 = .ok (.if_icmp .gt 23, 3) := by decide +kernel
theorem dX6_mixGates_26 : decode cX6_mixGates 26 = .ok (.lload_n 3, 1) := by decide +kernel
theorem dX6_mixGates_27 : decode cX6_mixGates 27 = .ok (.aload_n 0, 1) := by decide +kernel
theorem dX6_mixGates_28 : decode cX6_mixGates 28 = .ok (.iload 5, 2) := by decide +kernel
theorem dX6_mixGates_30 : decode cX6_mixGates 30 = .ok (.iload 6, 2) := by decide +kernel
theorem dX6_mixGates_32 : decode cX6_mixGates 32 = .ok (.invokevirtual 367, 3) := by decide +kernel
theorem dX6_mixGates_35 : decode cX6_mixGates 35 = .ok (.i2l, 1) := by decide +kernel
theorem dX6_mixGates_36 : decode cX6_mixGates 36 = .ok (.invokestatic 320, 3) := by decide +kernel
theorem dX6_mixGates_39 : decode cX6_mixGates 39 = .ok (.lstore_n 3, 1) := by decide +kernel
theorem dX6_mixGates_40 : decode cX6_mixGates 40 = .ok (.iinc 6 1, 3) := by decide +kernel
theorem dX6_mixGates_43 : decode cX6_mixGates 43 = .ok (.goto (-23), 3) := by decide +kernel
theorem dX6_mixGates_46 : decode cX6_mixGates 46 = .ok (.iconst 0, 1) := by decide +kernel
theorem dX6_mixGates_47 : decode cX6_mixGates 47 = .ok (.istore 6, 2) := by decide +kernel
theorem dX6_mixGates_49 : decode cX6_mixGates 49 = .ok (.iload 6, 2) := by decide +kernel
theorem dX6_mixGates_51 : decode cX6_mixGates 51 = .ok (.iconst 3, 1) := by decide +kernel
theorem dX6_mixGates_52 : decode cX6_mixGates 52 = .ok (.if_icmp .gt 35, 3) := by decide +kernel
theorem dX6_mixGates_55 : decode cX6_mixGates 55 = .ok (.lload_n 3, 1) := by decide +kernel
theorem dX6_mixGates_56 : decode cX6_mixGates 56 = .ok (.aload_n 0, 1) := by decide +kernel
theorem dX6_mixGates_57 : decode cX6_mixGates 57 = .ok (.iload 5, 2) := by decide +kernel
theorem dX6_mixGates_59 : decode cX6_mixGates 59 = .ok (.iload 6, 2) := by decide +kernel
theorem dX6_mixGates_61 : decode cX6_mixGates 61 = .ok (.iconst 0, 1) := by decide +kernel
theorem dX6_mixGates_62 : decode cX6_mixGates 62 = .ok (.invokevirtual 370, 3) := by decide +kernel
theorem dX6_mixGates_65 : decode cX6_mixGates 65 = .ok (.invokestatic 320, 3) := by decide +kernel
theorem dX6_mixGates_68 : decode cX6_mixGates 68 = .ok (.aload_n 0, 1) := by decide +kernel
theorem dX6_mixGates_69 : decode cX6_mixGates 69 = .ok (.iload 5, 2) := by decide +kernel
theorem dX6_mixGates_71 : decode cX6_mixGates 71 = .ok (.iload 6, 2) := by decide +kernel
theorem dX6_mixGates_73 : decode cX6_mixGates 73 = .ok (.iconst 1, 1) := by decide +kernel
theorem dX6_mixGates_74 : decode cX6_mixGates 74 = .ok (.invokevirtual 370, 3) := by decide +kernel
theorem dX6_mixGates_77 : decode cX6_mixGates 77 = .ok (.invokestatic 320, 3) := by decide +kernel
theorem dX6_mixGates_80 : decode cX6_mixGates 80 = .ok (.lstore_n 3, 1) := by decide +kernel
theorem dX6_mixGates_81 : decode cX6_mixGates 81 = .ok (.iinc 6 1, 3) := by decide +kernel
theorem dX6_mixGates_84 : decode cX6_mixGates 84 = .ok (.goto (-35), 3) := by decide +kernel
theorem dX6_mixGates_87 : decode cX6_mixGates 87 = .ok (.lload_n 3, 1) := by decide +kernel
theorem dX6_mixGates_88 : decode cX6_mixGates 88 = .ok (.aload_n 0, 1) := by decide +kernel
theorem dX6_mixGates_89 : decode cX6_mixGates 89 = .ok (.iload 5, 2) := by decide +kernel
theorem dX6_mixGates_91 : decode cX6_mixGates 91 = .ok (.invokevirtual 373, 3) := by decide +kernel
theorem dX6_mixGates_94 : decode cX6_mixGates 94 = .ok (.i2l, 1) := by decide +kernel
theorem dX6_mixGates_95 : decode cX6_mixGates 95 = .ok (.invokestatic 320, 3) := by decide +kernel
theorem dX6_mixGates_98 : decode cX6_mixGates 98 = .ok (.lstore_n 3, 1) := by decide +kernel
theorem dX6_mixGates_99 : decode cX6_mixGates 99 = .ok (.iinc 5 1, 3) := by decide +kernel
theorem dX6_mixGates_102 : decode cX6_mixGates 102 = .ok (.goto (-97), 3) := by decide +kernel
theorem dX6_mixGates_105 : decode cX6_mixGates 105 = .ok (.lload_n 3, 1) := by decide +kernel
theorem dX6_mixGates_106 : decode cX6_mixGates 106 = .ok (.lreturn, 1) := by decide +kernel
theorem dX6_mixChains_0 : decode cX6_mixChains 0 = .ok (.lload_n 1, 1) := by decide +kernel
theorem dX6_mixChains_1 : decode cX6_mixChains 1 = .ok (.aload_n 0, 1) := by decide +kernel
theorem dX6_mixChains_2 : decode cX6_mixChains 2 = .ok (.iconst 3, 1) := by decide +kernel
theorem dX6_mixChains_3 : decode cX6_mixChains 3 = .ok (.iconst 0, 1) := by decide +kernel
theorem dX6_mixChains_4 : decode cX6_mixChains 4 = .ok (.iconst 3, 1) := by decide +kernel
theorem dX6_mixChains_5 : decode cX6_mixChains 5 = .ok (.invokevirtual 376, 3) := by decide +kernel
theorem dX6_mixChains_8 : decode cX6_mixChains 8 = .ok (.i2l, 1) := by decide +kernel
theorem dX6_mixChains_9 : decode cX6_mixChains 9 = .ok (.invokestatic 320, 3) := by decide +kernel
theorem dX6_mixChains_12 : decode cX6_mixChains 12 = .ok (.aload_n 0, 1) := by decide +kernel
theorem dX6_mixChains_13 : decode cX6_mixChains 13 = .ok (.iconst 3, 1) := by decide +kernel
theorem dX6_mixChains_14 : decode cX6_mixChains 14 = .ok (.iconst 0, 1) := by decide +kernel
theorem dX6_mixChains_15 : decode cX6_mixChains 15 = .ok (.iconst 4, 1) := by decide +kernel
theorem dX6_mixChains_16 : decode cX6_mixChains 16 = .ok (.invokevirtual 376, 3) := by decide +kernel
theorem dX6_mixChains_19 : decode cX6_mixChains 19 = .ok (.i2l, 1) := by decide +kernel
theorem dX6_mixChains_20 : decode cX6_mixChains 20 = .ok (.invokestatic 320, 3) := by decide +kernel
theorem dX6_mixChains_23 : decode cX6_mixChains 23 = .ok (.lstore_n 3, 1) := by decide +kernel
theorem dX6_mixChains_24 : decode cX6_mixChains 24 = .ok (.iconst 0, 1) := by decide +kernel
theorem dX6_mixChains_25 : decode cX6_mixChains 25 = .ok (.istore 5, 2) := by decide +kernel
theorem dX6_mixChains_27 : decode cX6_mixChains 27 = .ok (.iload 5, 2) := by decide +kernel
theorem dX6_mixChains_29 : decode cX6_mixChains 29 = .ok (.iconst 4, 1) := by decide +kernel
theorem dX6_mixChains_30 : decode cX6_mixChains 30 = .ok (.if_icmp .gt 24, 3) := by decide +kernel
theorem dX6_mixChains_33 : decode cX6_mixChains 33 = .ok (.lload_n 3, 1) := by decide +kernel
theorem dX6_mixChains_34 : decode cX6_mixChains 34 = .ok (.aload_n 0, 1) := by decide +kernel
theorem dX6_mixChains_35 : decode cX6_mixChains 35 = .ok (.bipush 7, 2) := by decide +kernel
theorem dX6_mixChains_37 : decode cX6_mixChains 37 = .ok (.iconst 1, 1) := by decide +kernel
theorem dX6_mixChains_38 : decode cX6_mixChains 38 = .ok (.iload 5, 2) := by decide +kernel
theorem dX6_mixChains_40 : decode cX6_mixChains 40 = .ok (.invokevirtual 376, 3) := by decide +kernel
theorem dX6_mixChains_43 : decode cX6_mixChains 43 = .ok (.i2l, 1) := by decide +kernel
theorem dX6_mixChains_44 : decode cX6_mixChains 44 = .ok (.invokestatic 320, 3) := by decide +kernel
theorem dX6_mixChains_47 : decode cX6_mixChains 47 = .ok (.lstore_n 3, 1) := by decide +kernel
theorem dX6_mixChains_48 : decode cX6_mixChains 48 = .ok (.iinc 5 1, 3) := by decide +kernel
theorem dX6_mixChains_51 : decode cX6_mixChains 51 = .ok (.goto (-24), 3) := by decide +kernel
theorem dX6_mixChains_54 : decode cX6_mixChains 54 = .ok (.lload_n 3, 1) := by decide +kernel
theorem dX6_mixChains_55 : decode cX6_mixChains 55 = .ok (.lreturn, 1) := by decide +kernel
theorem dX6_mixFit_0 : decode cX6_mixFit 0 = .ok (.aload_n 0, 1) := by decide +kernel
theorem dX6_mixFit_1 : decode cX6_mixFit 1 = .ok (.getfield 10, 3) := by decide +kernel
theorem dX6_mixFit_4 : decode cX6_mixFit 4 = .ok (.getfield 97, 3) := by decide +kernel
theorem dX6_mixFit_7 : decode cX6_mixFit 7 = .ok (.iconst 2, 1) := by decide +kernel
theorem dX6_mixFit_8 : decode cX6_mixFit 8 = .ok (.if_icmp .ge 5, 3) := by decide +kernel
theorem dX6_mixFit_11 : decode cX6_mixFit 11 = .ok (.lload_n 1, 1) := by decide +kernel
theorem dX6_mixFit_12 : decode cX6_mixFit 12 = .ok (.lreturn, 1) := by decide +kernel
theorem dX6_mixFit_13 : decode cX6_mixFit 13 = .ok (.aload_n 0, 1) := by decide +kernel
theorem dX6_mixFit_14 : decode cX6_mixFit 14 = .ok (.getfield 10, 3) := by decide +kernel
theorem dX6_mixFit_17 : decode cX6_mixFit 17 = .ok (.getfield 97, 3) := by decide +kernel
theorem dX6_mixFit_20 : decode cX6_mixFit 20 = .ok (.iconst 1, 1) := by decide +kernel
theorem dX6_mixFit_21 : decode cX6_mixFit 21 = .ok (.isub, 1) := by decide +kernel
theorem dX6_mixFit_22 : decode cX6_mixFit 22 = .ok (.istore_n 3, 1) := by decide +kernel
theorem dX6_mixFit_23 : decode cX6_mixFit 23 = .ok (.lload_n 1, 1) := by decide +kernel
theorem dX6_mixFit_24 : decode cX6_mixFit 24 = .ok (.aload_n 0, 1) := by decide +kernel
theorem dX6_mixFit_25 : decode cX6_mixFit 25 = .ok (.iconst 0, 1) := by decide +kernel
theorem dX6_mixFit_26 : decode cX6_mixFit 26 = .ok (.iload_n 3, 1) := by decide +kernel
theorem dX6_mixFit_27 : decode cX6_mixFit 27 = .ok (.iconst 0, 1) := by decide +kernel
theorem dX6_mixFit_28 : decode cX6_mixFit 28 = .ok (.invokevirtual 380, 3) := by decide +kernel
theorem dX6_mixFit_31 : decode cX6_mixFit 31 = .ok (.invokestatic 320, 3) := by decide +kernel
theorem dX6_mixFit_34 : decode cX6_mixFit 34 = .ok (.aload_n 0, 1) := by decide +kernel
theorem dX6_mixFit_35 : decode cX6_mixFit 35 = .ok (.iconst 0, 1) := by decide +kernel
theorem dX6_mixFit_36 : decode cX6_mixFit 36 = .ok (.iload_n 3, 1) := by decide +kernel
theorem dX6_mixFit_37 : decode cX6_mixFit 37 = .ok (.iconst 1, 1) := by decide +kernel
theorem dX6_mixFit_38 : decode cX6_mixFit 38 = .ok (.invokevirtual 380, 3) := by decide +kernel
theorem dX6_mixFit_41 : decode cX6_mixFit 41 = .ok (.invokestatic 320, 3) := by decide +kernel
theorem dX6_mixFit_44 : decode cX6_mixFit 44 = .ok (.aload_n 0, 1) := by decide +kernel
theorem dX6_mixFit_45 : decode cX6_mixFit 45 = .ok (.iconst 0, 1) := by decide +kernel
theorem dX6_mixFit_46 : decode cX6_mixFit 46 = .ok (.iload_n 3, 1) := by decide +kernel
theorem dX6_mixFit_47 : decode cX6_mixFit 47 = .ok (.invokevirtual 383, 3) := by decide +kernel
theorem dX6_mixFit_50 : decode cX6_mixFit 50 = .ok (.i2l, 1) := by decide +kernel
theorem dX6_mixFit_51 : decode cX6_mixFit 51 = .ok (.invokestatic 320, 3) := by decide +kernel
theorem dX6_mixFit_54 : decode cX6_mixFit 54 = .ok (.lreturn, 1) := by decide +kernel
theorem dX6_mixSpans_0 : decode cX6_mixSpans 0 = .ok (.lload_n 1, 1) := by decide +kernel
theorem dX6_mixSpans_1 : decode cX6_mixSpans 1 = .ok (.lstore_n 3, 1) := by decide +kernel
theorem dX6_mixSpans_2 : decode cX6_mixSpans 2 = .ok (.iconst 1, 1) := by decide +kernel
theorem dX6_mixSpans_3 : decode cX6_mixSpans 3 = .ok (.istore 5, 2) := by decide +kernel
theorem dX6_mixSpans_5 : decode cX6_mixSpans 5 = .ok (.iload 5, 2) := by decide +kernel
theorem dX6_mixSpans_7 : decode cX6_mixSpans 7 = .ok (.bipush 15, 2) := by decide +kernel
theorem dX6_mixSpans_9 : decode cX6_mixSpans 9 = .ok (.if_icmp .gt 31, 3) := by decide +kernel
theorem dX6_mixSpans_12 : decode cX6_mixSpans 12 = .ok (.lload_n 3, 1) := by decide +kernel
theorem dX6_mixSpans_13 : decode cX6_mixSpans 13 = .ok (.aload_n 0, 1) := by decide +kernel
theorem dX6_mixSpans_14 : decode cX6_mixSpans 14 = .ok (.iload 5, 2) := by decide +kernel
theorem dX6_mixSpans_16 : decode cX6_mixSpans 16 = .ok (.iconst 0, 1) := by decide +kernel
theorem dX6_mixSpans_17 : decode cX6_mixSpans 17 = .ok (.invokevirtual 299, 3) := by decide +kernel
theorem dX6_mixSpans_20 : decode cX6_mixSpans 20 = .ok (.invokestatic 320, 3) := by decide +kernel
theorem dX6_mixSpans_23 : decode cX6_mixSpans 23 = .ok (.aload_n 0, 1) := by decide +kernel
theorem dX6_mixSpans_24 : decode cX6_mixSpans 24 = .ok (.iload 5, 2) := by decide +kernel
theorem dX6_mixSpans_26 : decode cX6_mixSpans 26 = .ok (.iconst 1, 1) := by decide +kernel
theorem dX6_mixSpans_27 : decode cX6_mixSpans 27 = .ok (.invokevirtual 299, 3) := by decide +kernel
theorem dX6_mixSpans_30 : decode cX6_mixSpans 30 = .ok (.invokestatic 320, 3) := by decide +kernel
theorem dX6_mixSpans_33 : decode cX6_mixSpans 33 = .ok (.lstore_n 3, 1) := by decide +kernel
theorem dX6_mixSpans_34 : decode cX6_mixSpans 34 = .ok (.iinc 5 1, 3) := by decide +kernel
theorem dX6_mixSpans_37 : decode cX6_mixSpans 37 = .ok (.goto (-32), 3) := by decide +kernel
theorem dX6_mixSpans_40 : decode cX6_mixSpans 40 = .ok (.iconst 0, 1) := by decide +kernel
theorem dX6_mixSpans_41 : decode cX6_mixSpans 41 = .ok (.istore 5, 2) := by decide +kernel
theorem dX6_mixSpans_43 : decode cX6_mixSpans 43 = .ok (.iload 5, 2) := by decide +kernel
theorem dX6_mixSpans_45 : decode cX6_mixSpans 45 = .ok (.aload_n 0, 1) := by decide +kernel
theorem dX6_mixSpans_46 : decode cX6_mixSpans 46 = .ok (.getfield 40, 3) := by decide +kernel
theorem dX6_mixSpans_49 : decode cX6_mixSpans 49 = .ok (.getfield 242, 3) := by decide +kernel
theorem dX6_mixSpans_52 : decode cX6_mixSpans 52 = .ok (.if_icmp .ge 21, 3) := by decide +kernel
theorem dX6_mixSpans_55 : decode cX6_mixSpans 55 = .ok (.lload_n 3, 1) := by decide +kernel
theorem dX6_mixSpans_56 : decode cX6_mixSpans 56 = .ok (.aload_n 0, 1) := by decide +kernel
theorem dX6_mixSpans_57 : decode cX6_mixSpans 57 = .ok (.iload 5, 2) := by decide +kernel
theorem dX6_mixSpans_59 : decode cX6_mixSpans 59 = .ok (.invokevirtual 386, 3) := by decide +kernel
theorem dX6_mixSpans_62 : decode cX6_mixSpans 62 = .ok (.i2l, 1) := by decide +kernel
theorem dX6_mixSpans_63 : decode cX6_mixSpans 63 = .ok (.invokestatic 320, 3) := by decide +kernel
theorem dX6_mixSpans_66 : decode cX6_mixSpans 66 = .ok (.lstore_n 3, 1) := by decide +kernel
theorem dX6_mixSpans_67 : decode cX6_mixSpans 67 = .ok (.iinc 5 1, 3) := by decide +kernel
theorem dX6_mixSpans_70 : decode cX6_mixSpans 70 = .ok (.goto (-27), 3) := by decide +kernel
theorem dX6_mixSpans_73 : decode cX6_mixSpans 73 = .ok (.lload_n 3, 1) := by decide +kernel
theorem dX6_mixSpans_74 : decode cX6_mixSpans 74 = .ok (.lreturn, 1) := by decide +kernel
theorem dX6_isWithin_0 : decode cX6_isWithin 0 = .ok (.iload_n 0, 1) := by decide +kernel
theorem dX6_isWithin_1 : decode cX6_isWithin 1 = .ok (.iload_n 1, 1) := by decide +kernel
theorem dX6_isWithin_2 : decode cX6_isWithin 2 = .ok (.if_icmp .lt 12, 3) := by decide +kernel
theorem dX6_isWithin_5 : decode cX6_isWithin 5 = .ok (.iload_n 0, 1) := by decide +kernel
theorem dX6_isWithin_6 : decode cX6_isWithin 6 = .ok (.iload_n 2, 1) := by decide +kernel
theorem dX6_isWithin_7 : decode cX6_isWithin 7 = .ok (.if_icmp .gt 7, 3) := by decide +kernel
theorem dX6_isWithin_10 : decode cX6_isWithin 10 = .ok (.iconst 1, 1) := by decide +kernel
theorem dX6_isWithin_11 : decode cX6_isWithin 11 = .ok (.goto 4, 3) := by decide +kernel
theorem dX6_isWithin_14 : decode cX6_isWithin 14 = .ok (.iconst 0, 1) := by decide +kernel
theorem dX6_isWithin_15 : decode cX6_isWithin 15 = .ok (.ireturn, 1) := by decide +kernel
theorem dX6_isTime_0 : decode cX6_isTime 0 = .ok (.iload_n 0, 1) := by decide +kernel
theorem dX6_isTime_1 : decode cX6_isTime 1 = .ok (.iconst 0, 1) := by decide +kernel
theorem dX6_isTime_2 : decode cX6_isTime 2 = .ok (.sipush 5999, 3) := by decide +kernel
theorem dX6_isTime_5 : decode cX6_isTime 5 = .ok (.invokestatic 87, 3) := by decide +kernel
theorem dX6_isTime_8 : decode cX6_isTime 8 = .ok (.ireturn, 1) := by decide +kernel
theorem dX6_isFine_0 : decode cX6_isFine 0 = .ok (.iload_n 0, 1) := by decide +kernel
theorem dX6_isFine_1 : decode cX6_isFine 1 = .ok (.iconst 0, 1) := by decide +kernel
theorem dX6_isFine_2 : decode cX6_isFine 2 = .ok (.bipush 59, 2) := by decide +kernel
theorem dX6_isFine_4 : decode cX6_isFine 4 = .ok (.invokestatic 87, 3) := by decide +kernel
theorem dX6_isFine_7 : decode cX6_isFine 7 = .ok (.ireturn, 1) := by decide +kernel
theorem dX6_isHalf_0 : decode cX6_isHalf 0 = .ok (.iload_n 0, 1) := by decide +kernel
theorem dX6_isHalf_1 : decode cX6_isHalf 1 = .ok (.ifCond .eq 8, 3) := by decide +kernel
theorem dX6_isHalf_4 : decode cX6_isHalf 4 = .ok (.iload_n 0, 1) := by decide +kernel
theorem dX6_isHalf_5 : decode cX6_isHalf 5 = .ok (.iconst 1, 1) := by decide +kernel
theorem dX6_isHalf_6 : decode cX6_isHalf 6 = .ok (.if_icmp .ne 7, 3) := by decide +kernel
theorem dX6_isHalf_9 : decode cX6_isHalf 9 = .ok (.iconst 1, 1) := by decide +kernel
theorem dX6_isHalf_10 : decode cX6_isHalf 10 = .ok (.goto 4, 3) := by decide +kernel
theorem dX6_isHalf_13 : decode cX6_isHalf 13 = .ok (.iconst 0, 1) := by decide +kernel
theorem dX6_isHalf_14 : decode cX6_isHalf 14 = .ok (.ireturn, 1) := by decide +kernel
theorem dX6_isSheet_0 : decode cX6_isSheet 0 = .ok (.iload_n 0, 1) := by decide +kernel
theorem dX6_isSheet_1 : decode cX6_isSheet 1 = .ok (.iconst 0, 1) := by decide +kernel
theorem dX6_isSheet_2 : decode cX6_isSheet 2 = .ok (.iconst 3, 1) := by decide +kernel
theorem dX6_isSheet_3 : decode cX6_isSheet 3 = .ok (.invokestatic 87, 3) := by decide +kernel
theorem dX6_isSheet_6 : decode cX6_isSheet 6 = .ok (.ireturn, 1) := by decide +kernel
theorem dX6_isForm_0 : decode cX6_isForm 0 = .ok (.iload_n 0, 1) := by decide +kernel
theorem dX6_isForm_1 : decode cX6_isForm 1 = .ok (.iconst 0, 1) := by decide +kernel
theorem dX6_isForm_2 : decode cX6_isForm 2 = .ok (.iconst 3, 1) := by decide +kernel
theorem dX6_isForm_3 : decode cX6_isForm 3 = .ok (.invokestatic 87, 3) := by decide +kernel
theorem dX6_isForm_6 : decode cX6_isForm 6 = .ok (.ireturn, 1) := by decide +kernel
theorem dX6_isEdge_0 : decode cX6_isEdge 0 = .ok (.iload_n 1, 1) := by decide +kernel
theorem dX6_isEdge_1 : decode cX6_isEdge 1 = .ok (.iconst 0, 1) := by decide +kernel
theorem dX6_isEdge_2 : decode cX6_isEdge 2 = .ok (.aload_n 0, 1) := by decide +kernel
theorem dX6_isEdge_3 : decode cX6_isEdge 3 = .ok (.getfield 10, 3) := by decide +kernel
theorem dX6_isEdge_6 : decode cX6_isEdge 6 = .ok (.getfield 97, 3) := by decide +kernel
theorem dX6_isEdge_9 : decode cX6_isEdge 9 = .ok (.iconst 1, 1) := by decide +kernel
theorem dX6_isEdge_10 : decode cX6_isEdge 10 = .ok (.isub, 1) := by decide +kernel
theorem dX6_isEdge_11 : decode cX6_isEdge 11 = .ok (.invokestatic 87, 3) := by decide +kernel
theorem dX6_isEdge_14 : decode cX6_isEdge 14 = .ok (.ireturn, 1) := by decide +kernel
theorem dX6_isEdgePair_0 : decode cX6_isEdgePair 0 = .ok (.aload_n 0, 1) := by decide +kernel
theorem dX6_isEdgePair_1 : decode cX6_isEdgePair 1 = .ok (.iload_n 1, 1) := by decide +kernel
theorem dX6_isEdgePair_2 : decode cX6_isEdgePair 2 = .ok (.invokevirtual 91, 3) := by decide +kernel
theorem dX6_isEdgePair_5 : decode cX6_isEdgePair 5 = .ok (.ifCond .eq 20, 3) := by decide +kernel
theorem dX6_isEdgePair_8 : decode cX6_isEdgePair 8 = .ok (.aload_n 0, 1) := by decide +kernel
theorem dX6_isEdgePair_9 : decode cX6_isEdgePair 9 = .ok (.iload_n 2, 1) := by decide +kernel
theorem dX6_isEdgePair_10 : decode cX6_isEdgePair 10 = .ok (.invokevirtual 91, 3) := by decide +kernel
theorem dX6_isEdgePair_13 : decode cX6_isEdgePair 13 = .ok (.ifCond .eq 12, 3) := by decide +kernel
theorem dX6_isEdgePair_16 : decode cX6_isEdgePair 16 = .ok (.iload_n 1, 1) := by decide +kernel
theorem dX6_isEdgePair_17 : decode cX6_isEdgePair 17 = .ok (.iload_n 2, 1) := by decide +kernel
theorem dX6_isEdgePair_18 : decode cX6_isEdgePair 18 = .ok (.if_icmp .ge 7, 3) := by decide +kernel
theorem dX6_isEdgePair_21 : decode cX6_isEdgePair 21 = .ok (.iconst 1, 1) := by decide +kernel
theorem dX6_isEdgePair_22 : decode cX6_isEdgePair 22 = .ok (.goto 4, 3) := by decide +kernel
theorem dX6_isEdgePair_25 : decode cX6_isEdgePair 25 = .ok (.iconst 0, 1) := by decide +kernel
theorem dX6_isEdgePair_26 : decode cX6_isEdgePair 26 = .ok (.ireturn, 1) := by decide +kernel
theorem dX6_isLastEdge_0 : decode cX6_isLastEdge 0 = .ok (.iload_n 1, 1) := by decide +kernel
theorem dX6_isLastEdge_1 : decode cX6_isLastEdge 1 = .ok (.aload_n 0, 1) := by decide +kernel
theorem dX6_isLastEdge_2 : decode cX6_isLastEdge 2 = .ok (.getfield 10, 3) := by decide +kernel
theorem dX6_isLastEdge_5 : decode cX6_isLastEdge 5 = .ok (.getfield 97, 3) := by decide +kernel
theorem dX6_isLastEdge_8 : decode cX6_isLastEdge 8 = .ok (.iconst 1, 1) := by decide +kernel
theorem dX6_isLastEdge_9 : decode cX6_isLastEdge 9 = .ok (.isub, 1) := by decide +kernel
theorem dX6_isLastEdge_10 : decode cX6_isLastEdge 10 = .ok (.if_icmp .ne 7, 3) := by decide +kernel
theorem dX6_isLastEdge_13 : decode cX6_isLastEdge 13 = .ok (.iconst 1, 1) := by decide +kernel
theorem dX6_isLastEdge_14 : decode cX6_isLastEdge 14 = .ok (.goto 4, 3) := by decide +kernel
theorem dX6_isLastEdge_17 : decode cX6_isLastEdge 17 = .ok (.iconst 0, 1) := by decide +kernel
theorem dX6_isLastEdge_18 : decode cX6_isLastEdge 18 = .ok (.ireturn, 1) := by decide +kernel
theorem dX6_isBin_0 : decode cX6_isBin 0 = .ok (.iload_n 1, 1) := by decide +kernel
theorem dX6_isBin_1 : decode cX6_isBin 1 = .ok (.iconst 0, 1) := by decide +kernel
theorem dX6_isBin_2 : decode cX6_isBin 2 = .ok (.aload_n 0, 1) := by decide +kernel
theorem dX6_isBin_3 : decode cX6_isBin 3 = .ok (.getfield 19, 3) := by decide +kernel
theorem dX6_isBin_6 : decode cX6_isBin 6 = .ok (.getfield 110, 3) := by decide +kernel
theorem dX6_isBin_9 : decode cX6_isBin 9 = .ok (.iconst 1, 1) := by decide +kernel
theorem dX6_isBin_10 : decode cX6_isBin 10 = .ok (.isub, 1) := by decide +kernel
theorem dX6_isBin_11 : decode cX6_isBin 11 = .ok (.invokestatic 87, 3) := by decide +kernel
theorem dX6_isBin_14 : decode cX6_isBin 14 = .ok (.ireturn, 1) := by decide +kernel
theorem dX6_isGate_0 : decode cX6_isGate 0 = .ok (.iload_n 1, 1) := by decide +kernel
theorem dX6_isGate_1 : decode cX6_isGate 1 = .ok (.iconst 0, 1) := by decide +kernel
theorem dX6_isGate_2 : decode cX6_isGate 2 = .ok (.aload_n 0, 1) := by decide +kernel
theorem dX6_isGate_3 : decode cX6_isGate 3 = .ok (.getfield 26, 3) := by decide +kernel
theorem dX6_isGate_6 : decode cX6_isGate 6 = .ok (.getfield 204, 3) := by decide +kernel
theorem dX6_isGate_9 : decode cX6_isGate 9 = .ok (.iconst 1, 1) := by decide +kernel
theorem dX6_isGate_10 : decode cX6_isGate 10 = .ok (.isub, 1) := by decide +kernel
theorem dX6_isGate_11 : decode cX6_isGate 11 = .ok (.invokestatic 87, 3) := by decide +kernel
theorem dX6_isGate_14 : decode cX6_isGate 14 = .ok (.ireturn, 1) := by decide +kernel
theorem dX6_refusal_0 : decode cX6_refusal 0 = .ok (.ldc2_w 389, 3) := by decide +kernel
theorem dX6_refusal_3 : decode cX6_refusal 3 = .ok (.iload_n 0, 1) := by decide +kernel
theorem dX6_refusal_4 : decode cX6_refusal 4 = .ok (.i2l, 1) := by decide +kernel
theorem dX6_refusal_5 : decode cX6_refusal 5 = .ok (.lsub, 1) := by decide +kernel
theorem dX6_refusal_6 : decode cX6_refusal 6 = .ok (.lreturn, 1) := by decide +kernel
theorem dX6_finding_0 : decode cX6_finding 0 = .ok (.aload_n 0, 1) := by decide +kernel
theorem dX6_finding_1 : decode cX6_finding 1 = .ok (.iload_n 1, 1) := by decide +kernel
theorem dX6_finding_2 : decode cX6_finding 2 = .ok (.putfield 64, 3) := by decide +kernel
theorem dX6_finding_5 : decode cX6_finding 5 = .ok (.bipush (-10), 2) := by decide +kernel
theorem dX6_finding_7 : decode cX6_finding 7 = .ok (.iload_n 1, 1) := by decide +kernel
theorem dX6_finding_8 : decode cX6_finding 8 = .ok (.isub, 1) := by decide +kernel
theorem dX6_finding_9 : decode cX6_finding 9 = .ok (.ireturn, 1) := by decide +kernel
theorem dX6_lowest_0 : decode cX6_lowest 0 = .ok (.lload_n 0, 1) := by decide +kernel
theorem dX6_lowest_1 : decode cX6_lowest 1 = .ok (.lload_n 2, 1) := by decide +kernel
theorem dX6_lowest_2 : decode cX6_lowest 2 = .ok (.invokestatic 391, 3) := by decide +kernel
theorem dX6_lowest_5 : decode cX6_lowest 5 = .ok (.lstore 5, 2) := by decide +kernel
theorem dX6_lowest_7 : decode cX6_lowest 7 = .ok (.iload 4, 2) := by decide +kernel
theorem dX6_lowest_9 : decode cX6_lowest 9 = .ok (.ifCond .ne 7, 3) := by decide +kernel
theorem dX6_lowest_12 : decode cX6_lowest 12 = .ok (.lload_n 0, 1) := by decide +kernel
theorem dX6_lowest_13 : decode cX6_lowest 13 = .ok (.goto 4, 3) := by decide +kernel
theorem dX6_lowest_16 : decode cX6_lowest 16 = .ok (.lload_n 2, 1) := by decide +kernel
theorem dX6_lowest_17 : decode cX6_lowest 17 = .ok (.lstore 7, 2) := by decide +kernel
theorem dX6_lowest_19 : decode cX6_lowest 19 = .ok (.lload 5, 2) := by decide +kernel
theorem dX6_lowest_21 : decode cX6_lowest 21 = .ok (.lconst 1, 1) := by decide +kernel
theorem dX6_lowest_22 : decode cX6_lowest 22 = .ok (.lcmp, 1) := by decide +kernel
theorem dX6_lowest_23 : decode cX6_lowest 23 = .ok (.ifCond .le 11, 3) := by decide +kernel
theorem dX6_lowest_26 : decode cX6_lowest 26 = .ok (.lload 7, 2) := by decide +kernel
theorem dX6_lowest_28 : decode cX6_lowest 28 = .ok (.lload 5, 2) := by decide +kernel
theorem dX6_lowest_30 : decode cX6_lowest 30 = .ok (.ldiv, 1) := by decide +kernel
theorem dX6_lowest_31 : decode cX6_lowest 31 = .ok (.goto 5, 3) := by decide +kernel
theorem dX6_lowest_34 : decode cX6_lowest 34 = .ok (.lload 7, 2) := by decide +kernel
theorem dX6_lowest_36 : decode cX6_lowest 36 = .ok (.lreturn, 1) := by decide +kernel
theorem dX6_commonDivisor_0 : decode cX6_commonDivisor 0 = .ok (.lload_n 0, 1) := by decide +kernel
theorem dX6_commonDivisor_1 : decode cX6_commonDivisor 1 = .ok (.lstore 4, 2) := by decide +kernel
theorem dX6_commonDivisor_3 : decode cX6_commonDivisor 3 = .ok (.lload_n 2, 1) := by decide +kernel
theorem dX6_commonDivisor_4 : decode cX6_commonDivisor 4 = .ok (.lstore 6, 2) := by decide +kernel
theorem dX6_commonDivisor_6 : decode cX6_commonDivisor 6 = .ok (.iconst 0, 1) := by decide +kernel
theorem dX6_commonDivisor_7 : decode cX6_commonDivisor 7 = .ok (.istore 8, 2) := by decide +kernel
theorem dX6_commonDivisor_9 : decode cX6_commonDivisor 9 = .ok (.iload 8, 2) := by decide +kernel
theorem dX6_commonDivisor_11 : decode cX6_commonDivisor 11 = .ok (.bipush 100, 2) := by decide +kernel
theorem dX6_commonDivisor_13 : decode cX6_commonDivisor 13 = .ok (.if_icmp .ge 31, 3) := by decide +kernel
theorem dX6_commonDivisor_16 : decode cX6_commonDivisor 16 = .ok (.lload 6, 2) := by decide +kernel
theorem dX6_commonDivisor_18 : decode cX6_commonDivisor 18 = .ok (.lconst 0, 1) := by decide +kernel
theorem dX6_commonDivisor_19 : decode cX6_commonDivisor 19 = .ok (.lcmp, 1) := by decide +kernel
theorem dX6_commonDivisor_20 : decode cX6_commonDivisor 20 = .ok (.ifCond .eq 24, 3) := by decide +kernel
theorem dX6_commonDivisor_23 : decode cX6_commonDivisor 23 = .ok (.lload 4, 2) := by decide +kernel
theorem dX6_commonDivisor_25 : decode cX6_commonDivisor 25 = .ok (.lload 6, 2) := by decide +kernel
theorem dX6_commonDivisor_27 : decode cX6_commonDivisor 27 = .ok (.lrem, 1) := by decide +kernel
theorem dX6_commonDivisor_28 : decode cX6_commonDivisor 28 = .ok (.lstore 9, 2) := by decide +kernel
theorem dX6_commonDivisor_30 : decode cX6_commonDivisor 30 = .ok (.lload 6, 2) := by decide +kernel
theorem dX6_commonDivisor_32 : decode cX6_commonDivisor 32 = .ok (.lstore 4, 2) := by decide +kernel
theorem dX6_commonDivisor_34 : decode cX6_commonDivisor 34 = .ok (.lload 9, 2) := by decide +kernel
theorem dX6_commonDivisor_36 : decode cX6_commonDivisor 36 = .ok (.lstore 6, 2) := by decide +kernel
theorem dX6_commonDivisor_38 : decode cX6_commonDivisor 38 = .ok (.iinc 8 1, 3) := by decide +kernel
theorem dX6_commonDivisor_41 : decode cX6_commonDivisor 41 = .ok (.goto (-32), 3) := by decide +kernel
theorem dX6_commonDivisor_44 : decode cX6_commonDivisor 44 = .ok (.lload 4, 2) := by decide +kernel
theorem dX6_commonDivisor_46 : decode cX6_commonDivisor 46 = .ok (.lreturn, 1) := by decide +kernel
theorem dX6_renew_0 : decode cX6_renew 0 = .ok (.aload_n 0, 1) := by decide +kernel
theorem dX6_renew_1 : decode cX6_renew 1 = .ok (.getfield 67, 3) := by decide +kernel
theorem dX6_renew_4 : decode cX6_renew 4 = .ok (.ifCond .eq 64, 3) := by decide +kernel
theorem dX6_renew_7 : decode cX6_renew 7 = .ok (.aload_n 0, 1) := by decide +kernel
theorem dX6_renew_8 : decode cX6_renew 8 = .ok (.iconst 0, 1) := by decide +kernel
theorem dX6_renew_9 : decode cX6_renew 9 = .ok (.putfield 67, 3) := by decide +kernel
theorem dX6_renew_12 : decode cX6_renew 12 = .ok (.aload_n 0, 1) := by decide +kernel
theorem dX6_renew_13 : decode cX6_renew 13 = .ok (.getfield 33, 3) := by decide +kernel
theorem dX6_renew_16 : decode cX6_renew 16 = .ok (.aload_n 0, 1) := by decide +kernel
theorem dX6_renew_17 : decode cX6_renew 17 = .ok (.getfield 10, 3) := by decide +kernel
theorem dX6_renew_20 : decode cX6_renew 20 = .ok (.aload_n 0, 1) := by decide +kernel
theorem dX6_renew_21 : decode cX6_renew 21 = .ok (.getfield 19, 3) := by decide +kernel
theorem dX6_renew_24 : decode cX6_renew 24 = .ok (.aload_n 0, 1) := by decide +kernel
theorem dX6_renew_25 : decode cX6_renew 25 = .ok (.invokevirtual 324, 3) := by decide +kernel
theorem dX6_renew_28 : decode cX6_renew 28 = .ok (.invokevirtual 394, 3) := by decide +kernel
theorem dX6_renew_31 : decode cX6_renew 31 = .ok (.aload_n 0, 1) := by decide +kernel
theorem dX6_renew_32 : decode cX6_renew 32 = .ok (.getfield 33, 3) := by decide +kernel
theorem dX6_renew_35 : decode cX6_renew 35 = .ok (.aload_n 0, 1) := by decide +kernel
theorem dX6_renew_36 : decode cX6_renew 36 = .ok (.getfield 58, 3) := by decide +kernel
theorem dX6_renew_39 : decode cX6_renew 39 = .ok (.aload_n 0, 1) := by decide +kernel
theorem dX6_renew_40 : decode cX6_renew 40 = .ok (.getfield 61, 3) := by decide +kernel
theorem dX6_renew_43 : decode cX6_renew 43 = .ok (.invokevirtual 398, 3) := by decide +kernel
theorem dX6_renew_46 : decode cX6_renew 46 = .ok (.aload_n 0, 1) := by decide +kernel
theorem dX6_renew_47 : decode cX6_renew 47 = .ok (.getfield 26, 3) := by decide +kernel
theorem dX6_renew_50 : decode cX6_renew 50 = .ok (.aload_n 0, 1) := by decide +kernel
theorem dX6_renew_51 : decode cX6_renew 51 = .ok (.getfield 10, 3) := by decide +kernel
theorem dX6_renew_54 : decode cX6_renew 54 = .ok (.invokevirtual 401, 3) := by decide +kernel
theorem dX6_renew_57 : decode cX6_renew 57 = .ok (.aload_n 0, 1) := by decide +kernel
theorem dX6_renew_58 : decode cX6_renew 58 = .ok (.getfield 40, 3) := by decide +kernel
theorem dX6_renew_61 : decode cX6_renew 61 = .ok (.aload_n 0, 1) := by decide +kernel
theorem dX6_renew_62 : decode cX6_renew 62 = .ok (.getfield 33, 3) := by decide +kernel
theorem dX6_renew_65 : decode cX6_renew 65 = .ok (.invokevirtual 405, 3) := by decide +kernel
theorem dX6_renew_68 : decode cX6_renew 68 = .ok (.return_, 1) := by decide +kernel
theorem dX6_modeReads_0 : decode cX6_modeReads 0 = .ok (.aload_n 1, 1) := by decide +kernel
theorem dX6_modeReads_1 : decode cX6_modeReads 1 = .ok (.invokevirtual 409, 3) := by decide +kernel
theorem dX6_modeReads_4 : decode cX6_modeReads 4 = .ok (.aload_n 0, 1) := by decide +kernel
theorem dX6_modeReads_5 : decode cX6_modeReads 5 = .ok (.getfield 54, 3) := by decide +kernel
theorem dX6_modeReads_8 : decode cX6_modeReads 8 = .ok (.if_icmp .eq 5, 3) := by decide +kernel
theorem dX6_modeReads_11 : decode cX6_modeReads 11 = .ok (.iconst 0, 1) := by decide +kernel
theorem dX6_modeReads_12 : decode cX6_modeReads 12 = .ok (.ireturn, 1) := by decide +kernel
theorem dX6_modeReads_13 : decode cX6_modeReads 13 = .ok (.iconst 0, 1) := by decide +kernel
theorem dX6_modeReads_14 : decode cX6_modeReads 14 = .ok (.istore_n 2, 1) := by decide +kernel
theorem dX6_modeReads_15 : decode cX6_modeReads 15 = .ok (.iload_n 2, 1) := by decide +kernel
theorem dX6_modeReads_16 : decode cX6_modeReads 16 = .ok (.aload_n 0, 1) := by decide +kernel
theorem dX6_modeReads_17 : decode cX6_modeReads 17 = .ok (.getfield 54, 3) := by decide +kernel
theorem dX6_modeReads_20 : decode cX6_modeReads 20 = .ok (.if_icmp .ge 25, 3) := by decide +kernel
theorem dX6_modeReads_23 : decode cX6_modeReads 23 = .ok (.aload_n 1, 1) := by decide +kernel
theorem dX6_modeReads_24 : decode cX6_modeReads 24 = .ok (.iload_n 2, 1) := by decide +kernel
theorem dX6_modeReads_25 : decode cX6_modeReads 25 = .ok (.invokevirtual 414, 3) := by decide +kernel
theorem dX6_modeReads_28 : decode cX6_modeReads 28 = .ok (.aload_n 0, 1) := by decide +kernel
theorem dX6_modeReads_29 : decode cX6_modeReads 29 = .ok (.getfield 50, 3) := by decide +kernel
theorem dX6_modeReads_32 : decode cX6_modeReads 32 = .ok (.iload_n 2, 1) := by decide +kernel
theorem dX6_modeReads_33 : decode cX6_modeReads 33 = .ok (.iaload, 1) := by decide +kernel
theorem dX6_modeReads_34 : decode cX6_modeReads 34 = .ok (.if_icmp .eq 5, 3) := by decide +kernel
theorem dX6_modeReads_37 : decode cX6_modeReads 37 = .ok (.iconst 0, 1) := by decide +kernel
theorem dX6_modeReads_38 : decode cX6_modeReads 38 = .ok (.ireturn, 1) := by decide +kernel
theorem dX6_modeReads_39 : decode cX6_modeReads 39 = .ok (.iinc 2 1, 3) := by decide +kernel
theorem dX6_modeReads_42 : decode cX6_modeReads 42 = .ok (.goto (-27), 3) := by decide +kernel
theorem dX6_modeReads_45 : decode cX6_modeReads 45 = .ok (.iconst 1, 1) := by decide +kernel
theorem dX6_modeReads_46 : decode cX6_modeReads 46 = .ok (.ireturn, 1) := by decide +kernel
theorem dX6_leastBound_0 : decode cX6_leastBound 0 = .ok (.bipush 60, 2) := by decide +kernel
theorem dX6_leastBound_2 : decode cX6_leastBound 2 = .ok (.aload_n 0, 1) := by decide +kernel
theorem dX6_leastBound_3 : decode cX6_leastBound 3 = .ok (.getfield 10, 3) := by decide +kernel
theorem dX6_leastBound_6 : decode cX6_leastBound 6 = .ok (.iload_n 1, 1) := by decide +kernel
theorem dX6_leastBound_7 : decode cX6_leastBound 7 = .ok (.invokevirtual 168, 3) := by decide +kernel
theorem dX6_leastBound_10 : decode cX6_leastBound 10 = .ok (.imul, 1) := by decide +kernel
theorem dX6_leastBound_11 : decode cX6_leastBound 11 = .ok (.aload_n 0, 1) := by decide +kernel
theorem dX6_leastBound_12 : decode cX6_leastBound 12 = .ok (.getfield 19, 3) := by decide +kernel
theorem dX6_leastBound_15 : decode cX6_leastBound 15 = .ok (.getfield 103, 3) := by decide +kernel
theorem dX6_leastBound_18 : decode cX6_leastBound 18 = .ok (.aload_n 0, 1) := by decide +kernel
theorem dX6_leastBound_19 : decode cX6_leastBound 19 = .ok (.getfield 19, 3) := by decide +kernel
theorem dX6_leastBound_22 : decode cX6_leastBound 22 = .ok (.aload_n 0, 1) := by decide +kernel
theorem dX6_leastBound_23 : decode cX6_leastBound 23 = .ok (.getfield 10, 3) := by decide +kernel
theorem dX6_leastBound_26 : decode cX6_leastBound 26 = .ok (.iload_n 1, 1) := by decide +kernel
theorem dX6_leastBound_27 : decode cX6_leastBound 27 = .ok (.invokevirtual 171, 3) := by decide +kernel
theorem dX6_leastBound_30 : decode cX6_leastBound 30 = .ok (.invokevirtual 100, 3) := by decide +kernel
theorem dX6_leastBound_33 : decode cX6_leastBound 33 = .ok (.iaload, 1) := by decide +kernel
theorem dX6_leastBound_34 : decode cX6_leastBound 34 = .ok (.iadd, 1) := by decide +kernel
theorem dX6_leastBound_35 : decode cX6_leastBound 35 = .ok (.ireturn, 1) := by decide +kernel
theorem dX6_greatestBound_0 : decode cX6_greatestBound 0 = .ok (.bipush 60, 2) := by decide +kernel
theorem dX6_greatestBound_2 : decode cX6_greatestBound 2 = .ok (.aload_n 0, 1) := by decide +kernel
theorem dX6_greatestBound_3 : decode cX6_greatestBound 3 = .ok (.getfield 10, 3) := by decide +kernel
theorem dX6_greatestBound_6 : decode cX6_greatestBound 6 = .ok (.iload_n 1, 1) := by decide +kernel
theorem dX6_greatestBound_7 : decode cX6_greatestBound 7 = .ok (.invokevirtual 168, 3) := by decide +kernel
theorem dX6_greatestBound_10 : decode cX6_greatestBound 10 = .ok (.imul, 1) := by decide +kernel
theorem dX6_greatestBound_11 : decode cX6_greatestBound 11 = .ok (.aload_n 0, 1) := by decide +kernel
theorem dX6_greatestBound_12 : decode cX6_greatestBound 12 = .ok (.getfield 19, 3) := by decide +kernel
theorem dX6_greatestBound_15 : decode cX6_greatestBound 15 = .ok (.aload_n 0, 1) := by decide +kernel
theorem dX6_greatestBound_16 : decode cX6_greatestBound 16 = .ok (.getfield 19, 3) := by decide +kernel
theorem dX6_greatestBound_19 : decode cX6_greatestBound 19 = .ok (.aload_n 0, 1) := by decide +kernel
theorem dX6_greatestBound_20 : decode cX6_greatestBound 20 = .ok (.getfield 10, 3) := by decide +kernel
theorem dX6_greatestBound_23 : decode cX6_greatestBound 23 = .ok (.iload_n 1, 1) := by decide +kernel
theorem dX6_greatestBound_24 : decode cX6_greatestBound 24 = .ok (.invokevirtual 171, 3) := by decide +kernel
theorem dX6_greatestBound_27 : decode cX6_greatestBound 27 = .ok (.invokevirtual 100, 3) := by decide +kernel
theorem dX6_greatestBound_30 : decode cX6_greatestBound 30 = .ok (.invokevirtual 418, 3) := by decide +kernel
theorem dX6_greatestBound_33 : decode cX6_greatestBound 33 = .ok (.iadd, 1) := by decide +kernel
theorem dX6_greatestBound_34 : decode cX6_greatestBound 34 = .ok (.iconst 1, 1) := by decide +kernel
theorem dX6_greatestBound_35 : decode cX6_greatestBound 35 = .ok (.isub, 1) := by decide +kernel
theorem dX6_greatestBound_36 : decode cX6_greatestBound 36 = .ok (.ireturn, 1) := by decide +kernel
theorem dX6_lengthBetween_0 : decode cX6_lengthBetween 0 = .ok (.iload_n 3, 1) := by decide +kernel
theorem dX6_lengthBetween_1 : decode cX6_lengthBetween 1 = .ok (.tableswitch 73 0 2 #[27, 47, 60], 27) := by decide +kernel
theorem dX6_lengthBetween_28 : decode cX6_lengthBetween 28 = .ok (.aload_n 0, 1) := by decide +kernel
theorem dX6_lengthBetween_29 : decode cX6_lengthBetween 29 = .ok (.getfield 33, 3) := by decide +kernel
theorem dX6_lengthBetween_32 : decode cX6_lengthBetween 32 = .ok (.getfield 193, 3) := by decide +kernel
theorem dX6_lengthBetween_35 : decode cX6_lengthBetween 35 = .ok (.iload_n 2, 1) := by decide +kernel
theorem dX6_lengthBetween_36 : decode cX6_lengthBetween 36 = .ok (.laload, 1) := by decide +kernel
theorem dX6_lengthBetween_37 : decode cX6_lengthBetween 37 = .ok (.aload_n 0, 1) := by decide +kernel
theorem dX6_lengthBetween_38 : decode cX6_lengthBetween 38 = .ok (.getfield 33, 3) := by decide +kernel
theorem dX6_lengthBetween_41 : decode cX6_lengthBetween 41 = .ok (.getfield 193, 3) := by decide +kernel
theorem dX6_lengthBetween_44 : decode cX6_lengthBetween 44 = .ok (.iload_n 1, 1) := by decide +kernel
theorem dX6_lengthBetween_45 : decode cX6_lengthBetween 45 = .ok (.laload, 1) := by decide +kernel
theorem dX6_lengthBetween_46 : decode cX6_lengthBetween 46 = .ok (.lsub, 1) := by decide +kernel
theorem dX6_lengthBetween_47 : decode cX6_lengthBetween 47 = .ok (.lreturn, 1) := by decide +kernel
theorem dX6_lengthBetween_48 : decode cX6_lengthBetween 48 = .ok (.aload_n 0, 1) := by decide +kernel
theorem dX6_lengthBetween_49 : decode cX6_lengthBetween 49 = .ok (.iload_n 2, 1) := by decide +kernel
theorem dX6_lengthBetween_50 : decode cX6_lengthBetween 50 = .ok (.invokevirtual 177, 3) := by decide +kernel
theorem dX6_lengthBetween_53 : decode cX6_lengthBetween 53 = .ok (.aload_n 0, 1) := by decide +kernel
theorem dX6_lengthBetween_54 : decode cX6_lengthBetween 54 = .ok (.iload_n 1, 1) := by decide +kernel
theorem dX6_lengthBetween_55 : decode cX6_lengthBetween 55 = .ok (.invokevirtual 174, 3) := by decide +kernel
theorem dX6_lengthBetween_58 : decode cX6_lengthBetween 58 = .ok (.isub, 1) := by decide +kernel
theorem dX6_lengthBetween_59 : decode cX6_lengthBetween 59 = .ok (.i2l, 1) := by decide +kernel
theorem dX6_lengthBetween_60 : decode cX6_lengthBetween 60 = .ok (.lreturn, 1) := by decide +kernel
theorem dX6_lengthBetween_61 : decode cX6_lengthBetween 61 = .ok (.aload_n 0, 1) := by decide +kernel
theorem dX6_lengthBetween_62 : decode cX6_lengthBetween 62 = .ok (.iload_n 2, 1) := by decide +kernel
theorem dX6_lengthBetween_63 : decode cX6_lengthBetween 63 = .ok (.invokevirtual 174, 3) := by decide +kernel
theorem dX6_lengthBetween_66 : decode cX6_lengthBetween 66 = .ok (.aload_n 0, 1) := by decide +kernel
theorem dX6_lengthBetween_67 : decode cX6_lengthBetween 67 = .ok (.iload_n 1, 1) := by decide +kernel
theorem dX6_lengthBetween_68 : decode cX6_lengthBetween 68 = .ok (.invokevirtual 177, 3) := by decide +kernel
theorem dX6_lengthBetween_71 : decode cX6_lengthBetween 71 = .ok (.isub, 1) := by decide +kernel
theorem dX6_lengthBetween_72 : decode cX6_lengthBetween 72 = .ok (.i2l, 1) := by decide +kernel
theorem dX6_lengthBetween_73 : decode cX6_lengthBetween 73 = .ok (.lreturn, 1) := by decide +kernel
theorem dX6_lengthBetween_74 : decode cX6_lengthBetween 74 = .ok (.aload_n 0, 1) := by decide +kernel
theorem dX6_lengthBetween_75 : decode cX6_lengthBetween 75 = .ok (.getfield 10, 3) := by decide +kernel
theorem dX6_lengthBetween_78 : decode cX6_lengthBetween 78 = .ok (.getfield 165, 3) := by decide +kernel
theorem dX6_lengthBetween_81 : decode cX6_lengthBetween 81 = .ok (.iload_n 2, 1) := by decide +kernel
theorem dX6_lengthBetween_82 : decode cX6_lengthBetween 82 = .ok (.iaload, 1) := by decide +kernel
theorem dX6_lengthBetween_83 : decode cX6_lengthBetween 83 = .ok (.aload_n 0, 1) := by decide +kernel
theorem dX6_lengthBetween_84 : decode cX6_lengthBetween 84 = .ok (.getfield 10, 3) := by decide +kernel
theorem dX6_lengthBetween_87 : decode cX6_lengthBetween 87 = .ok (.getfield 165, 3) := by decide +kernel
theorem dX6_lengthBetween_90 : decode cX6_lengthBetween 90 = .ok (.iload_n 1, 1) := by decide +kernel
theorem dX6_lengthBetween_91 : decode cX6_lengthBetween 91 = .ok (.iaload, 1) := by decide +kernel
theorem dX6_lengthBetween_92 : decode cX6_lengthBetween 92 = .ok (.isub, 1) := by decide +kernel
theorem dX6_lengthBetween_93 : decode cX6_lengthBetween 93 = .ok (.i2l, 1) := by decide +kernel
theorem dX6_lengthBetween_94 : decode cX6_lengthBetween 94 = .ok (.lreturn, 1) := by decide +kernel
