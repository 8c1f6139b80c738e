theorem dX0_init_0 : decode cX0_init 0 = .ok (.aload_n 0, 1) := by decide +kernel
theorem dX0_init_1 : decode cX0_init 1 = .ok (.invokespecial 3, 3) := by decide +kernel
theorem dX0_init_4 : decode cX0_init 4 = .ok (.aload_n 0, 1) := by decide +kernel
theorem dX0_init_5 : decode cX0_init 5 = .ok (.bipush 12, 2) := by decide +kernel
theorem dX0_init_7 : decode cX0_init 7 = .ok (.newarray .int, 2) := by decide +kernel
theorem dX0_init_9 : decode cX0_init 9 = .ok (.putfield 9, 3) := by decide +kernel
theorem dX0_init_12 : decode cX0_init 12 = .ok (.aload_n 0, 1) := by decide +kernel
theorem dX0_init_13 : decode cX0_init 13 = .ok (.bipush 12, 2) := by decide +kernel
theorem dX0_init_15 : decode cX0_init 15 = .ok (.newarray .int, 2) := by decide +kernel
theorem dX0_init_17 : decode cX0_init 17 = .ok (.putfield 15, 3) := by decide +kernel
theorem dX0_init_20 : decode cX0_init 20 = .ok (.aload_n 0, 1) := by decide +kernel
theorem dX0_init_21 : decode cX0_init 21 = .ok (.iconst 1, 1) := by decide +kernel
theorem dX0_init_22 : decode cX0_init 22 = .ok (.putfield 18, 3) := by decide +kernel
theorem dX0_init_25 : decode cX0_init 25 = .ok (.aload_n 0, 1) := by decide +kernel
theorem dX0_init_26 : decode cX0_init 26 = .ok (.iconst 0, 1) := by decide +kernel
theorem dX0_init_27 : decode cX0_init 27 = .ok (.putfield 22, 3) := by decide +kernel
theorem dX0_init_30 : decode cX0_init 30 = .ok (.return_, 1) := by decide +kernel
theorem dX0_codeOf_0 : decode cX0_codeOf 0 = .ok (.iconst 0, 1) := by decide +kernel
theorem dX0_codeOf_1 : decode cX0_codeOf 1 = .ok (.istore_n 2, 1) := by decide +kernel
theorem dX0_codeOf_2 : decode cX0_codeOf 2 = .ok (.iconst 1, 1) := by decide +kernel
theorem dX0_codeOf_3 : decode cX0_codeOf 3 = .ok (.istore_n 3, 1) := by decide +kernel
theorem dX0_codeOf_4 : decode cX0_codeOf 4 = .ok (.iload_n 3, 1) := by decide +kernel
theorem dX0_codeOf_5 : decode cX0_codeOf 5 = .ok (.aload_n 0, 1) := by decide +kernel
theorem dX0_codeOf_6 : decode cX0_codeOf 6 = .ok (.getfield 18, 3) := by decide +kernel
theorem dX0_codeOf_9 : decode cX0_codeOf 9 = .ok (.if_icmp .ge 21, 3) := by decide +kernel
theorem dX0_codeOf_12 : decode cX0_codeOf 12 = .ok (.aload_n 0, 1) := by decide +kernel
theorem dX0_codeOf_13 : decode cX0_codeOf 13 = .ok (.getfield 9, 3) := by decide +kernel
theorem dX0_codeOf_16 : decode cX0_codeOf 16 = .ok (.iload_n 3, 1) := by decide +kernel
theorem dX0_codeOf_17 : decode cX0_codeOf 17 = .ok (.iaload, 1) := by decide +kernel
theorem dX0_codeOf_18 : decode cX0_codeOf 18 = .ok (.iload_n 1, 1) := by decide +kernel
theorem dX0_codeOf_19 : decode cX0_codeOf 19 = .ok (.if_icmp .gt 5, 3) := by decide +kernel
theorem dX0_codeOf_22 : decode cX0_codeOf 22 = .ok (.iload_n 3, 1) := by decide +kernel
theorem dX0_codeOf_23 : decode cX0_codeOf 23 = .ok (.istore_n 2, 1) := by decide +kernel
theorem dX0_codeOf_24 : decode cX0_codeOf 24 = .ok (.iinc 3 1, 3) := by decide +kernel
theorem dX0_codeOf_27 : decode cX0_codeOf 27 = .ok (.goto (-23), 3) := by decide +kernel
theorem dX0_codeOf_30 : decode cX0_codeOf 30 = .ok (.iload_n 2, 1) := by decide +kernel
theorem dX0_codeOf_31 : decode cX0_codeOf 31 = .ok (.ireturn, 1) := by decide +kernel
theorem dX0_endOf_0 : decode cX0_endOf 0 = .ok (.iload_n 1, 1) := by decide +kernel
theorem dX0_endOf_1 : decode cX0_endOf 1 = .ok (.iconst 1, 1) := by decide +kernel
theorem dX0_endOf_2 : decode cX0_endOf 2 = .ok (.iadd, 1) := by decide +kernel
theorem dX0_endOf_3 : decode cX0_endOf 3 = .ok (.aload_n 0, 1) := by decide +kernel
theorem dX0_endOf_4 : decode cX0_endOf 4 = .ok (.getfield 18, 3) := by decide +kernel
theorem dX0_endOf_7 : decode cX0_endOf 7 = .ok (.if_icmp .ge 14, 3) := by decide +kernel
theorem dX0_endOf_10 : decode cX0_endOf 10 = .ok (.aload_n 0, 1) := by decide +kernel
theorem dX0_endOf_11 : decode cX0_endOf 11 = .ok (.getfield 9, 3) := by decide +kernel
theorem dX0_endOf_14 : decode cX0_endOf 14 = .ok (.iload_n 1, 1) := by decide +kernel
theorem dX0_endOf_15 : decode cX0_endOf 15 = .ok (.iconst 1, 1) := by decide +kernel
theorem dX0_endOf_16 : decode cX0_endOf 16 = .ok (.iadd, 1) := by decide +kernel
theorem dX0_endOf_17 : decode cX0_endOf 17 = .ok (.iaload, 1) := by decide +kernel
theorem dX0_endOf_18 : decode cX0_endOf 18 = .ok (.goto 5, 3) := by decide +kernel
theorem dX0_endOf_21 : decode cX0_endOf 21 = .ok (.bipush 60, 2) := by decide +kernel
theorem dX0_endOf_23 : decode cX0_endOf 23 = .ok (.ireturn, 1) := by decide +kernel
theorem dX0_widthOf_0 : decode cX0_widthOf 0 = .ok (.aload_n 0, 1) := by decide +kernel
theorem dX0_widthOf_1 : decode cX0_widthOf 1 = .ok (.iload_n 1, 1) := by decide +kernel
theorem dX0_widthOf_2 : decode cX0_widthOf 2 = .ok (.invokevirtual 25, 3) := by decide +kernel
theorem dX0_widthOf_5 : decode cX0_widthOf 5 = .ok (.aload_n 0, 1) := by decide +kernel
theorem dX0_widthOf_6 : decode cX0_widthOf 6 = .ok (.getfield 9, 3) := by decide +kernel
theorem dX0_widthOf_9 : decode cX0_widthOf 9 = .ok (.iload_n 1, 1) := by decide +kernel
theorem dX0_widthOf_10 : decode cX0_widthOf 10 = .ok (.iaload, 1) := by decide +kernel
theorem dX0_widthOf_11 : decode cX0_widthOf 11 = .ok (.isub, 1) := by decide +kernel
theorem dX0_widthOf_12 : decode cX0_widthOf 12 = .ok (.ireturn, 1) := by decide +kernel
theorem dX0_split_0 : decode cX0_split 0 = .ok (.aload_n 0, 1) := by decide +kernel
theorem dX0_split_1 : decode cX0_split 1 = .ok (.getfield 18, 3) := by decide +kernel
theorem dX0_split_4 : decode cX0_split 4 = .ok (.istore_n 3, 1) := by decide +kernel
theorem dX0_split_5 : decode cX0_split 5 = .ok (.iload_n 3, 1) := by decide +kernel
theorem dX0_split_6 : decode cX0_split 6 = .ok (.iload_n 1, 1) := by decide +kernel
theorem dX0_split_7 : decode cX0_split 7 = .ok (.iconst 1, 1) := by decide +kernel
theorem dX0_split_8 : decode cX0_split 8 = .ok (.iadd, 1) := by decide +kernel
theorem dX0_split_9 : decode cX0_split 9 = .ok (.if_icmp .le 23, 3) := by decide +kernel
theorem dX0_split_12 : decode cX0_split 12 = .ok (.aload_n 0, 1) := by decide +kernel
theorem dX0_split_13 : decode cX0_split 13 = .ok (.getfield 9, 3) := by decide +kernel
theorem dX0_split_16 : decode cX0_split 16 = .ok (.iload_n 3, 1) := by decide +kernel
theorem dX0_split_17 : decode cX0_split 17 = .ok (.aload_n 0, 1) := by decide +kernel
theorem dX0_split_18 : decode cX0_split 18 = .ok (.getfield 9, 3) := by decide +kernel
theorem dX0_split_21 : decode cX0_split 21 = .ok (.iload_n 3, 1) := by decide +kernel
theorem dX0_split_22 : decode cX0_split 22 = .ok (.iconst 1, 1) := by decide +kernel
theorem dX0_split_23 : decode cX0_split 23 = .ok (.isub, 1) := by decide +kernel
theorem dX0_split_24 : decode cX0_split 24 = .ok (.iaload, 1) := by decide +kernel
theorem dX0_split_25 : decode cX0_split 25 = .ok (.iastore, 1) := by decide +kernel
theorem dX0_split_26 : decode cX0_split 26 = .ok (.iinc 3 (-1), 3) := by decide +kernel
theorem dX0_split_29 : decode cX0_split 29 = .ok (.goto (-24), 3) := by decide +kernel
theorem dX0_split_32 : decode cX0_split 32 = .ok (.aload_n 0, 1) := by decide +kernel
theorem dX0_split_33 : decode cX0_split 33 = .ok (.getfield 9, 3) := by decide +kernel
theorem dX0_split_36 : decode cX0_split 36 = .ok (.iload_n 1, 1) := by decide +kernel
theorem dX0_split_37 : decode cX0_split 37 = .ok (.iconst 1, 1) := by decide +kernel
theorem dX0_split_38 : decode cX0_split 38 = .ok (.iadd, 1) := by decide +kernel
theorem dX0_split_39 : decode cX0_split 39 = .ok (.iload_n 2, 1) := by decide +kernel
theorem dX0_split_40 : decode cX0_split 40 = .ok (.iastore, 1) := by decide +kernel
theorem dX0_split_41 : decode cX0_split 41 = .ok (.aload_n 0, 1) := by decide +kernel
theorem dX0_split_42 : decode cX0_split 42 = .ok (.dup, 1) := by decide +kernel
theorem dX0_split_43 : decode cX0_split 43 = .ok (.getfield 18, 3) := by decide +kernel
theorem dX0_split_46 : decode cX0_split 46 = .ok (.iconst 1, 1) := by decide +kernel
theorem dX0_split_47 : decode cX0_split 47 = .ok (.iadd, 1) := by decide +kernel
theorem dX0_split_48 : decode cX0_split 48 = .ok (.putfield 18, 3) := by decide +kernel
theorem dX0_split_51 : decode cX0_split 51 = .ok (.aload_n 0, 1) := by decide +kernel
theorem dX0_split_52 : decode cX0_split 52 = .ok (.invokevirtual 29, 3) := by decide +kernel
theorem dX0_split_55 : decode cX0_split 55 = .ok (.return_, 1) := by decide +kernel
theorem dX0_joinToPrevious_0 : decode cX0_joinToPrevious 0 = .ok (.aload_n 0, 1) := by decide +kernel
theorem dX0_joinToPrevious_1 : decode cX0_joinToPrevious 1 = .ok (.dup, 1) := by decide +kernel
theorem dX0_joinToPrevious_2 : decode cX0_joinToPrevious 2 = .ok (.getfield 18, 3) := by decide +kernel
theorem dX0_joinToPrevious_5 : decode cX0_joinToPrevious 5 = .ok (.iconst 1, 1) := by decide +kernel
theorem dX0_joinToPrevious_6 : decode cX0_joinToPrevious 6 = .ok (.isub, 1) := by decide +kernel
theorem dX0_joinToPrevious_7 : decode cX0_joinToPrevious 7 = .ok (.putfield 18, 3) := by decide +kernel
theorem dX0_joinToPrevious_10 : decode cX0_joinToPrevious 10 = .ok (.iload_n 1, 1) := by decide +kernel
theorem dX0_joinToPrevious_11 : decode cX0_joinToPrevious 11 = .ok (.istore_n 2, 1) := by decide +kernel
theorem dX0_joinToPrevious_12 : decode cX0_joinToPrevious 12 = .ok (.iload_n 2, 1) := by decide +kernel
theorem dX0_joinToPrevious_13 : decode cX0_joinToPrevious 13 = .ok (.aload_n 0, 1) := by decide +kernel
theorem dX0_joinToPrevious_14 : decode cX0_joinToPrevious 14 = .ok (.getfield 18, 3) := by decide +kernel
theorem dX0_joinToPrevious_17 : decode cX0_joinToPrevious 17 = .ok (.if_icmp .ge 23, 3) := by decide +kernel
theorem dX0_joinToPrevious_20 : decode cX0_joinToPrevious 20 = .ok (.aload_n 0, 1) := by decide +kernel
theorem dX0_joinToPrevious_21 : decode cX0_joinToPrevious 21 = .ok (.getfield 9, 3) := by decide +kernel
theorem dX0_joinToPrevious_24 : decode cX0_joinToPrevious 24 = .ok (.iload_n 2, 1) := by decide +kernel
theorem dX0_joinToPrevious_25 : decode cX0_joinToPrevious 25 = .ok (.aload_n 0, 1) := by decide +kernel
theorem dX0_joinToPrevious_26 : decode cX0_joinToPrevious 26 = .ok (.getfield 9, 3) := by decide +kernel
theorem dX0_joinToPrevious_29 : decode cX0_joinToPrevious 29 = .ok (.iload_n 2, 1) := by decide +kernel
theorem dX0_joinToPrevious_30 : decode cX0_joinToPrevious 30 = .ok (.iconst 1, 1) := by decide +kernel
theorem dX0_joinToPrevious_31 : decode cX0_joinToPrevious 31 = .ok (.iadd, 1) := by decide +kernel
theorem dX0_joinToPrevious_32 : decode cX0_joinToPrevious 32 = .ok (.iaload, 1) := by decide +kernel
theorem dX0_joinToPrevious_33 : decode cX0_joinToPrevious 33 = .ok (.iastore, 1) := by decide +kernel
theorem dX0_joinToPrevious_34 : decode cX0_joinToPrevious 34 = .ok (.iinc 2 1, 3) := by decide +kernel
theorem dX0_joinToPrevious_37 : decode cX0_joinToPrevious 37 = .ok (.goto (-25), 3) := by decide +kernel
theorem dX0_joinToPrevious_40 : decode cX0_joinToPrevious 40 = .ok (.aload_n 0, 1) := by decide +kernel
theorem dX0_joinToPrevious_41 : decode cX0_joinToPrevious 41 = .ok (.invokevirtual 29, 3) := by decide +kernel
theorem dX0_joinToPrevious_44 : decode cX0_joinToPrevious 44 = .ok (.return_, 1) := by decide +kernel
theorem dX0_addHits_0 : decode cX0_addHits 0 = .ok (.aload_n 0, 1) := by decide +kernel
theorem dX0_addHits_1 : decode cX0_addHits 1 = .ok (.iload_n 1, 1) := by decide +kernel
theorem dX0_addHits_2 : decode cX0_addHits 2 = .ok (.invokevirtual 32, 3) := by decide +kernel
theorem dX0_addHits_5 : decode cX0_addHits 5 = .ok (.istore_n 3, 1) := by decide +kernel
theorem dX0_addHits_6 : decode cX0_addHits 6 = .ok (.aload_n 0, 1) := by decide +kernel
theorem dX0_addHits_7 : decode cX0_addHits 7 = .ok (.getfield 15, 3) := by decide +kernel
theorem dX0_addHits_10 : decode cX0_addHits 10 = .ok (.iload_n 3, 1) := by decide +kernel
theorem dX0_addHits_11 : decode cX0_addHits 11 = .ok (.dup2, 1) := by decide +kernel
theorem dX0_addHits_12 : decode cX0_addHits 12 = .ok (.iaload, 1) := by decide +kernel
theorem dX0_addHits_13 : decode cX0_addHits 13 = .ok (.iload_n 2, 1) := by decide +kernel
theorem dX0_addHits_14 : decode cX0_addHits 14 = .ok (.iadd, 1) := by decide +kernel
theorem dX0_addHits_15 : decode cX0_addHits 15 = .ok (.iastore, 1) := by decide +kernel
theorem dX0_addHits_16 : decode cX0_addHits 16 = .ok (.aload_n 0, 1) := by decide +kernel
theorem dX0_addHits_17 : decode cX0_addHits 17 = .ok (.dup, 1) := by decide +kernel
theorem dX0_addHits_18 : decode cX0_addHits 18 = .ok (.getfield 22, 3) := by decide +kernel
theorem dX0_addHits_21 : decode cX0_addHits 21 = .ok (.iload_n 2, 1) := by decide +kernel
theorem dX0_addHits_22 : decode cX0_addHits 22 = .ok (.iadd, 1) := by decide +kernel
theorem dX0_addHits_23 : decode cX0_addHits 23 = .ok (.putfield 22, 3) := by decide +kernel
theorem dX0_addHits_26 : decode cX0_addHits 26 = .ok (.aload_n 0, 1) := by decide +kernel
theorem dX0_addHits_27 : decode cX0_addHits 27 = .ok (.getfield 15, 3) := by decide +kernel
theorem dX0_addHits_30 : decode cX0_addHits 30 = .ok (.iload_n 3, 1) := by decide +kernel
theorem dX0_addHits_31 : decode cX0_addHits 31 = .ok (.iaload, 1) := by decide +kernel
theorem dX0_addHits_32 : decode cX0_addHits 32 = .ok (.ireturn, 1) := by decide +kernel
theorem dX0_forgetHits_0 : decode cX0_forgetHits 0 = .ok (.iconst 0, 1) := by decide +kernel
theorem dX0_forgetHits_1 : decode cX0_forgetHits 1 = .ok (.istore_n 1, 1) := by decide +kernel
theorem dX0_forgetHits_2 : decode cX0_forgetHits 2 = .ok (.iload_n 1, 1) := by decide +kernel
theorem dX0_forgetHits_3 : decode cX0_forgetHits 3 = .ok (.bipush 12, 2) := by decide +kernel
theorem dX0_forgetHits_5 : decode cX0_forgetHits 5 = .ok (.if_icmp .ge 16, 3) := by decide +kernel
theorem dX0_forgetHits_8 : decode cX0_forgetHits 8 = .ok (.aload_n 0, 1) := by decide +kernel
theorem dX0_forgetHits_9 : decode cX0_forgetHits 9 = .ok (.getfield 15, 3) := by decide +kernel
theorem dX0_forgetHits_12 : decode cX0_forgetHits 12 = .ok (.iload_n 1, 1) := by decide +kernel
theorem dX0_forgetHits_13 : decode cX0_forgetHits 13 = .ok (.iconst 0, 1) := by decide +kernel
theorem dX0_forgetHits_14 : decode cX0_forgetHits 14 = .ok (.iastore, 1) := by decide +kernel
theorem dX0_forgetHits_15 : decode cX0_forgetHits 15 = .ok (.iinc 1 1, 3) := by decide +kernel
theorem dX0_forgetHits_18 : decode cX0_forgetHits 18 = .ok (.goto (-16), 3) := by decide +kernel
theorem dX0_forgetHits_21 : decode cX0_forgetHits 21 = .ok (.aload_n 0, 1) := by decide +kernel
theorem dX0_forgetHits_22 : decode cX0_forgetHits 22 = .ok (.iconst 0, 1) := by decide +kernel
theorem dX0_forgetHits_23 : decode cX0_forgetHits 23 = .ok (.putfield 22, 3) := by decide +kernel
theorem dX0_forgetHits_26 : decode cX0_forgetHits 26 = .ok (.return_, 1) := by decide +kernel
theorem dX0_hitsBelow_0 : decode cX0_hitsBelow 0 = .ok (.iconst 0, 1) := by decide +kernel
theorem dX0_hitsBelow_1 : decode cX0_hitsBelow 1 = .ok (.istore_n 2, 1) := by decide +kernel
theorem dX0_hitsBelow_2 : decode cX0_hitsBelow 2 = .ok (.iconst 0, 1) := by decide +kernel
theorem dX0_hitsBelow_3 : decode cX0_hitsBelow 3 = .ok (.istore_n 3, 1) := by decide +kernel
theorem dX0_hitsBelow_4 : decode cX0_hitsBelow 4 = .ok (.iload_n 3, 1) := by decide +kernel
theorem dX0_hitsBelow_5 : decode cX0_hitsBelow 5 = .ok (.iload_n 1, 1) := by decide +kernel
theorem dX0_hitsBelow_6 : decode cX0_hitsBelow 6 = .ok (.if_icmp .ge 18, 3) := by decide +kernel
theorem dX0_hitsBelow_9 : decode cX0_hitsBelow 9 = .ok (.iload_n 2, 1) := by decide +kernel
theorem dX0_hitsBelow_10 : decode cX0_hitsBelow 10 = .ok (.aload_n 0, 1) := by decide +kernel
theorem dX0_hitsBelow_11 : decode cX0_hitsBelow 11 = .ok (.getfield 15, 3) := by decide +kernel
theorem dX0_hitsBelow_14 : decode cX0_hitsBelow 14 = .ok (.iload_n 3, 1) := by decide +kernel
theorem dX0_hitsBelow_15 : decode cX0_hitsBelow 15 = .ok (.iaload, 1) := by decide +kernel
theorem dX0_hitsBelow_16 : decode cX0_hitsBelow 16 = .ok (.iadd, 1) := by decide +kernel
theorem dX0_hitsBelow_17 : decode cX0_hitsBelow 17 = .ok (.istore_n 2, 1) := by decide +kernel
theorem dX0_hitsBelow_18 : decode cX0_hitsBelow 18 = .ok (.iinc 3 1, 3) := by decide +kernel
theorem dX0_hitsBelow_21 : decode cX0_hitsBelow 21 = .ok (.goto (-17), 3) := by decide +kernel
theorem dX0_hitsBelow_24 : decode cX0_hitsBelow 24 = .ok (.iload_n 2, 1) := by decide +kernel
theorem dX0_hitsBelow_25 : decode cX0_hitsBelow 25 = .ok (.ireturn, 1) := by decide +kernel
theorem dX0_farthest_0 : decode cX0_farthest 0 = .ok (.iconst 0, 1) := by decide +kernel
theorem dX0_farthest_1 : decode cX0_farthest 1 = .ok (.istore_n 1, 1) := by decide +kernel
theorem dX0_farthest_2 : decode cX0_farthest 2 = .ok (.iconst (-1), 1) := by decide +kernel
theorem dX0_farthest_3 : decode cX0_farthest 3 = .ok (.istore_n 2, 1) := by decide +kernel
theorem dX0_farthest_4 : decode cX0_farthest 4 = .ok (.iconst 0, 1) := by decide +kernel
theorem dX0_farthest_5 : decode cX0_farthest 5 = .ok (.istore_n 3, 1) := by decide +kernel
theorem dX0_farthest_6 : decode cX0_farthest 6 = .ok (.iload_n 3, 1) := by decide +kernel
theorem dX0_farthest_7 : decode cX0_farthest 7 = .ok (.aload_n 0, 1) := by decide +kernel
theorem dX0_farthest_8 : decode cX0_farthest 8 = .ok (.getfield 18, 3) := by decide +kernel
theorem dX0_farthest_11 : decode cX0_farthest 11 = .ok (.if_icmp .ge 45, 3) := by decide +kernel
theorem dX0_farthest_14 : decode cX0_farthest 14 = .ok (.bipush 60, 2) := by decide +kernel
theorem dX0_farthest_16 : decode cX0_farthest 16 = .ok (.aload_n 0, 1) := by decide +kernel
theorem dX0_farthest_17 : decode cX0_farthest 17 = .ok (.getfield 15, 3) := by decide +kernel
theorem dX0_farthest_20 : decode cX0_farthest 20 = .ok (.iload_n 3, 1) := by decide +kernel
theorem dX0_farthest_21 : decode cX0_farthest 21 = .ok (.iaload, 1) := by decide +kernel
theorem dX0_farthest_22 : decode cX0_farthest 22 = .ok (.imul, 1) := by decide +kernel
theorem dX0_farthest_23 : decode cX0_farthest 23 = .ok (.aload_n 0, 1) := by decide +kernel
theorem dX0_farthest_24 : decode cX0_farthest 24 = .ok (.iload_n 3, 1) := by decide +kernel
theorem dX0_farthest_25 : decode cX0_farthest 25 = .ok (.invokevirtual 35, 3) := by decide +kernel
theorem dX0_farthest_28 : decode cX0_farthest 28 = .ok (.aload_n 0, 1) := by decide +kernel
theorem dX0_farthest_29 : decode cX0_farthest 29 = .ok (.getfield 22, 3) := by decide +kernel
theorem dX0_farthest_32 : decode cX0_farthest 32 = .ok (.imul, 1) := by decide +kernel
theorem dX0_farthest_33 : decode cX0_farthest 33 = .ok (.isub, 1) := by decide +kernel
theorem dX0_farthest_34 : decode cX0_farthest 34 = .ok (.invokestatic 38, 3) := by decide +kernel
theorem dX0_farthest_37 : decode cX0_farthest 37 = .ok (.istore 4, 2) := by decide +kernel
theorem dX0_farthest_39 : decode cX0_farthest 39 = .ok (.iload 4, 2) := by decide +kernel
theorem dX0_farthest_41 : decode cX0_farthest 41 = .ok (.iload_n 2, 1) := by decide +kernel
theorem dX0_farthest_42 : decode cX0_farthest 42 = .ok (.if_icmp .le 8, 3) := by decide +kernel
theorem dX0_farthest_45 : decode cX0_farthest 45 = .ok (.iload 4, 2) := by decide +kernel
theorem dX0_farthest_47 : decode cX0_farthest 47 = .ok (.istore_n 2, 1) := by decide +kernel
theorem dX0_farthest_48 : decode cX0_farthest 48 = .ok (.iload_n 3, 1) := by decide +kernel
theorem dX0_farthest_49 : decode cX0_farthest 49 = .ok (.istore_n 1, 1) := by decide +kernel
theorem dX0_farthest_50 : decode cX0_farthest 50 = .ok (.iinc 3 1, 3) := by decide +kernel
theorem dX0_farthest_53 : decode cX0_farthest 53 = .ok (.goto (-47), 3) := by decide +kernel
theorem dX0_farthest_56 : decode cX0_farthest 56 = .ok (.iload_n 1, 1) := by decide +kernel
theorem dX0_farthest_57 : decode cX0_farthest 57 = .ok (.ireturn, 1) := by decide +kernel
theorem dX1_init_0 : decode cX1_init 0 = .ok (.aload_n 0, 1) := by decide +kernel
theorem dX1_init_1 : decode cX1_init 1 = .ok (.invokespecial 3, 3) := by decide +kernel
theorem dX1_init_4 : decode cX1_init 4 = .ok (.aload_n 0, 1) := by decide +kernel
theorem dX1_init_5 : decode cX1_init 5 = .ok (.bipush 8, 2) := by decide +kernel
theorem dX1_init_7 : decode cX1_init 7 = .ok (.newarray .int, 2) := by decide +kernel
theorem dX1_init_9 : decode cX1_init 9 = .ok (.putfield 9, 3) := by decide +kernel
theorem dX1_init_12 : decode cX1_init 12 = .ok (.aload_n 0, 1) := by decide +kernel
theorem dX1_init_13 : decode cX1_init 13 = .ok (.bipush 8, 2) := by decide +kernel
theorem dX1_init_15 : decode cX1_init 15 = .ok (.newarray .int, 2) := by decide +kernel
theorem dX1_init_17 : decode cX1_init 17 = .ok (.putfield 15, 3) := by decide +kernel
theorem dX1_init_20 : decode cX1_init 20 = .ok (.aload_n 0, 1) := by decide +kernel
theorem dX1_init_21 : decode cX1_init 21 = .ok (.bipush 8, 2) := by decide +kernel
theorem dX1_init_23 : decode cX1_init 23 = .ok (.newarray .int, 2) := by decide +kernel
theorem dX1_init_25 : decode cX1_init 25 = .ok (.putfield 18, 3) := by decide +kernel
theorem dX1_init_28 : decode cX1_init 28 = .ok (.aload_n 0, 1) := by decide +kernel
theorem dX1_init_29 : decode cX1_init 29 = .ok (.bipush 8, 2) := by decide +kernel
theorem dX1_init_31 : decode cX1_init 31 = .ok (.newarray .int, 2) := by decide +kernel
theorem dX1_init_33 : decode cX1_init 33 = .ok (.putfield 21, 3) := by decide +kernel
theorem dX1_init_36 : decode cX1_init 36 = .ok (.aload_n 0, 1) := by decide +kernel
theorem dX1_init_37 : decode cX1_init 37 = .ok (.iconst 0, 1) := by decide +kernel
theorem dX1_init_38 : decode cX1_init 38 = .ok (.putfield 24, 3) := by decide +kernel
theorem dX1_init_41 : decode cX1_init 41 = .ok (.return_, 1) := by decide +kernel
theorem dX1_append_0 : decode cX1_append 0 = .ok (.aload_n 0, 1) := by decide +kernel
theorem dX1_append_1 : decode cX1_append 1 = .ok (.getfield 9, 3) := by decide +kernel
theorem dX1_append_4 : decode cX1_append 4 = .ok (.aload_n 0, 1) := by decide +kernel
theorem dX1_append_5 : decode cX1_append 5 = .ok (.getfield 24, 3) := by decide +kernel
theorem dX1_append_8 : decode cX1_append 8 = .ok (.iload_n 1, 1) := by decide +kernel
theorem dX1_append_9 : decode cX1_append 9 = .ok (.iastore, 1) := by decide +kernel
theorem dX1_append_10 : decode cX1_append 10 = .ok (.aload_n 0, 1) := by decide +kernel
theorem dX1_append_11 : decode cX1_append 11 = .ok (.getfield 15, 3) := by decide +kernel
theorem dX1_append_14 : decode cX1_append 14 = .ok (.aload_n 0, 1) := by decide +kernel
theorem dX1_append_15 : decode cX1_append 15 = .ok (.getfield 24, 3) := by decide +kernel
theorem dX1_append_18 : decode cX1_append 18 = .ok (.iload_n 2, 1) := by decide +kernel
theorem dX1_append_19 : decode cX1_append 19 = .ok (.iastore, 1) := by decide +kernel
theorem dX1_append_20 : decode cX1_append 20 = .ok (.aload_n 0, 1) := by decide +kernel
theorem dX1_append_21 : decode cX1_append 21 = .ok (.dup, 1) := by decide +kernel
theorem dX1_append_22 : decode cX1_append 22 = .ok (.getfield 24, 3) := by decide +kernel
theorem dX1_append_25 : decode cX1_append 25 = .ok (.iconst 1, 1) := by decide +kernel
theorem dX1_append_26 : decode cX1_append 26 = .ok (.iadd, 1) := by decide +kernel
theorem dX1_append_27 : decode cX1_append 27 = .ok (.putfield 24, 3) := by decide +kernel
theorem dX1_append_30 : decode cX1_append 30 = .ok (.aload_n 0, 1) := by decide +kernel
theorem dX1_append_31 : decode cX1_append 31 = .ok (.getfield 24, 3) := by decide +kernel
theorem dX1_append_34 : decode cX1_append 34 = .ok (.iconst 1, 1) := by decide +kernel
theorem dX1_append_35 : decode cX1_append 35 = .ok (.isub, 1) := by decide +kernel
theorem dX1_append_36 : decode cX1_append 36 = .ok (.ireturn, 1) := by decide +kernel
theorem dX1_locate_0 : decode cX1_locate 0 = .ok (.iconst 0, 1) := by decide +kernel
theorem dX1_locate_1 : decode cX1_locate 1 = .ok (.istore_n 2, 1) := by decide +kernel
theorem dX1_locate_2 : decode cX1_locate 2 = .ok (.iload_n 2, 1) := by decide +kernel
theorem dX1_locate_3 : decode cX1_locate 3 = .ok (.aload_n 0, 1) := by decide +kernel
theorem dX1_locate_4 : decode cX1_locate 4 = .ok (.getfield 24, 3) := by decide +kernel
theorem dX1_locate_7 : decode cX1_locate 7 = .ok (.if_icmp .ge 78, 3) := by decide +kernel
theorem dX1_locate_10 : decode cX1_locate 10 = .ok (.aload_n 1, 1) := by decide +kernel
theorem dX1_locate_11 : decode cX1_locate 11 = .ok (.aload_n 0, 1) := by decide +kernel
theorem dX1_locate_12 : decode cX1_locate 12 = .ok (.getfield 9, 3) := by decide +kernel
theorem dX1_locate_15 : decode cX1_locate 15 = .ok (.iload_n 2, 1) := by decide +kernel
theorem dX1_locate_16 : decode cX1_locate 16 = .ok (.iaload, 1) := by decide +kernel
theorem dX1_locate_17 : decode cX1_locate 17 = .ok (.invokevirtual 28, 3) := by decide +kernel
theorem dX1_locate_20 : decode cX1_locate 20 = .ok (.istore_n 3, 1) := by decide +kernel
theorem dX1_locate_21 : decode cX1_locate 21 = .ok (.aload_n 1, 1) := by decide +kernel
theorem dX1_locate_22 : decode cX1_locate 22 = .ok (.aload_n 0, 1) := by decide +kernel
theorem dX1_locate_23 : decode cX1_locate 23 = .ok (.getfield 15, 3) := by decide +kernel
theorem dX1_locate_26 : decode cX1_locate 26 = .ok (.iload_n 2, 1) := by decide +kernel
theorem dX1_locate_27 : decode cX1_locate 27 = .ok (.iaload, 1) := by decide +kernel
theorem dX1_locate_28 : decode cX1_locate 28 = .ok (.invokevirtual 28, 3) := by decide +kernel
theorem dX1_locate_31 : decode cX1_locate 31 = .ok (.istore 4, 2) := by decide +kernel
theorem dX1_locate_33 : decode cX1_locate 33 = .ok (.aload_n 0, 1) := by decide +kernel
theorem dX1_locate_34 : decode cX1_locate 34 = .ok (.getfield 18, 3) := by decide +kernel
theorem dX1_locate_37 : decode cX1_locate 37 = .ok (.iload_n 2, 1) := by decide +kernel
theorem dX1_locate_38 : decode cX1_locate 38 = .ok (.iload_n 3, 1) := by decide +kernel
theorem dX1_locate_39 : decode cX1_locate 39 = .ok (.aload_n 1, 1) := by decide +kernel
theorem dX1_locate_40 : decode cX1_locate 40 = .ok (.getfield 34, 3) := by decide +kernel
theorem dX1_locate_43 : decode cX1_locate 43 = .ok (.if_icmp .ge 7, 3) := by decide +kernel
theorem dX1_locate_46 : decode cX1_locate 46 = .ok (.iload_n 3, 1) := by decide +kernel
theorem dX1_locate_47 : decode cX1_locate 47 = .ok (.goto 4, 3) := by decide +kernel
theorem dX1_locate_50 : decode cX1_locate 50 = .ok (.iconst (-1), 1) := by decide +kernel
theorem dX1_locate_51 : decode cX1_locate 51 = .ok (.iastore, 1) := by decide +kernel
theorem dX1_locate_52 : decode cX1_locate 52 = .ok (.aload_n 0, 1) := by decide +kernel
theorem dX1_locate_53 : decode cX1_locate 53 = .ok (.getfield 21, 3) := by decide +kernel
theorem dX1_locate_56 : decode cX1_locate 56 = .ok (.iload_n 2, 1) := by decide +kernel
theorem dX1_locate_57 : decode cX1_locate 57 = .ok (.iload 4, 2) := by decide +kernel
theorem dX1_locate_59 : decode cX1_locate 59 = .ok (.aload_n 1, 1) := by decide +kernel
theorem dX1_locate_60 : decode cX1_locate 60 = .ok (.getfield 34, 3) := by decide +kernel
theorem dX1_locate_63 : decode cX1_locate 63 = .ok (.if_icmp .ge 14, 3) := by decide +kernel
theorem dX1_locate_66 : decode cX1_locate 66 = .ok (.iload 4, 2) := by decide +kernel
theorem dX1_locate_68 : decode cX1_locate 68 = .ok (.iload_n 3, 1) := by decide +kernel
theorem dX1_locate_69 : decode cX1_locate 69 = .ok (.if_icmp .le 8, 3) := by decide +kernel
theorem dX1_locate_72 : decode cX1_locate 72 = .ok (.iload 4, 2) := by decide +kernel
theorem dX1_locate_74 : decode cX1_locate 74 = .ok (.goto 4, 3) := by decide +kernel
theorem dX1_locate_77 : decode cX1_locate 77 = .ok (.iconst (-1), 1) := by decide +kernel
theorem dX1_locate_78 : decode cX1_locate 78 = .ok (.iastore, 1) := by decide +kernel
theorem dX1_locate_79 : decode cX1_locate 79 = .ok (.iinc 2 1, 3) := by decide +kernel
theorem dX1_locate_82 : decode cX1_locate 82 = .ok (.goto (-80), 3) := by decide +kernel
theorem dX1_locate_85 : decode cX1_locate 85 = .ok (.return_, 1) := by decide +kernel
theorem dX1_closingAt_0 : decode cX1_closingAt 0 = .ok (.iconst 0, 1) := by decide +kernel
theorem dX1_closingAt_1 : decode cX1_closingAt 1 = .ok (.istore_n 2, 1) := by decide +kernel
theorem dX1_closingAt_2 : decode cX1_closingAt 2 = .ok (.iload_n 2, 1) := by decide +kernel
theorem dX1_closingAt_3 : decode cX1_closingAt 3 = .ok (.aload_n 0, 1) := by decide +kernel
theorem dX1_closingAt_4 : decode cX1_closingAt 4 = .ok (.getfield 24, 3) := by decide +kernel
theorem dX1_closingAt_7 : decode cX1_closingAt 7 = .ok (.if_icmp .ge 49, 3) := by decide +kernel
theorem dX1_closingAt_10 : decode cX1_closingAt 10 = .ok (.iconst 0, 1) := by decide +kernel
theorem dX1_closingAt_11 : decode cX1_closingAt 11 = .ok (.istore_n 3, 1) := by decide +kernel
theorem dX1_closingAt_12 : decode cX1_closingAt 12 = .ok (.iconst 0, 1) := by decide +kernel
theorem dX1_closingAt_13 : decode cX1_closingAt 13 = .ok (.istore 4, 2) := by decide +kernel
theorem dX1_closingAt_15 : decode cX1_closingAt 15 = .ok (.iload 4, 2) := by decide +kernel
theorem dX1_closingAt_17 : decode cX1_closingAt 17 = .ok (.aload_n 0, 1) := by decide +kernel
theorem dX1_closingAt_18 : decode cX1_closingAt 18 = .ok (.getfield 24, 3) := by decide +kernel
theorem dX1_closingAt_21 : decode cX1_closingAt 21 = .ok (.if_icmp .ge 22, 3) := by decide +kernel
theorem dX1_closingAt_24 : decode cX1_closingAt 24 = .ok (.aload_n 0, 1) := by decide +kernel
theorem dX1_closingAt_25 : decode cX1_closingAt 25 = .ok (.iload 4, 2) := by decide +kernel
theorem dX1_closingAt_27 : decode cX1_closingAt 27 = .ok (.iload_n 2, 1) := by decide +kernel
theorem dX1_closingAt_28 : decode cX1_closingAt 28 = .ok (.invokevirtual 35, 3) := by decide +kernel
theorem dX1_closingAt_31 : decode cX1_closingAt 31 = .ok (.ifCond .eq 6, 3) := by decide +kernel
theorem dX1_closingAt_34 : decode cX1_closingAt 34 = .ok (.iinc 3 1, 3) := by decide +kernel
theorem dX1_closingAt_37 : decode cX1_closingAt 37 = .ok (.iinc 4 1, 3) := by decide +kernel
theorem dX1_closingAt_40 : decode cX1_closingAt 40 = .ok (.goto (-25), 3) := by decide +kernel
theorem dX1_closingAt_43 : decode cX1_closingAt 43 = .ok (.iload_n 3, 1) := by decide +kernel
theorem dX1_closingAt_44 : decode cX1_closingAt 44 = .ok (.iload_n 1, 1) := by decide +kernel
theorem dX1_closingAt_45 : decode cX1_closingAt 45 = .ok (.if_icmp .ne 5, 3) := by decide +kernel
theorem dX1_closingAt_48 : decode cX1_closingAt 48 = .ok (.iload_n 2, 1) := by decide +kernel
theorem dX1_closingAt_49 : decode cX1_closingAt 49 = .ok (.ireturn, 1) := by decide +kernel
theorem dX1_closingAt_50 : decode cX1_closingAt 50 = .ok (.iinc 2 1, 3) := by decide +kernel
theorem dX1_closingAt_53 : decode cX1_closingAt 53 = .ok (.goto (-51), 3) := by decide +kernel
theorem dX1_closingAt_56 : decode cX1_closingAt 56 = .ok (.iconst (-1), 1) := by decide +kernel
theorem dX1_closingAt_57 : decode cX1_closingAt 57 = .ok (.ireturn, 1) := by decide +kernel
theorem dX1_closesAhead_0 : decode cX1_closesAhead 0 = .ok (.aload_n 0, 1) := by decide +kernel
theorem dX1_closesAhead_1 : decode cX1_closesAhead 1 = .ok (.getfield 21, 3) := by decide +kernel
theorem dX1_closesAhead_4 : decode cX1_closesAhead 4 = .ok (.iload_n 1, 1) := by decide +kernel
theorem dX1_closesAhead_5 : decode cX1_closesAhead 5 = .ok (.iaload, 1) := by decide +kernel
theorem dX1_closesAhead_6 : decode cX1_closesAhead 6 = .ok (.aload_n 0, 1) := by decide +kernel
theorem dX1_closesAhead_7 : decode cX1_closesAhead 7 = .ok (.getfield 21, 3) := by decide +kernel
theorem dX1_closesAhead_10 : decode cX1_closesAhead 10 = .ok (.iload_n 2, 1) := by decide +kernel
theorem dX1_closesAhead_11 : decode cX1_closesAhead 11 = .ok (.iaload, 1) := by decide +kernel
theorem dX1_closesAhead_12 : decode cX1_closesAhead 12 = .ok (.if_icmp .eq 44, 3) := by decide +kernel
theorem dX1_closesAhead_15 : decode cX1_closesAhead 15 = .ok (.aload_n 0, 1) := by decide +kernel
theorem dX1_closesAhead_16 : decode cX1_closesAhead 16 = .ok (.getfield 21, 3) := by decide +kernel
theorem dX1_closesAhead_19 : decode cX1_closesAhead 19 = .ok (.iload_n 2, 1) := by decide +kernel
theorem dX1_closesAhead_20 : decode cX1_closesAhead 20 = .ok (.iaload, 1) := by decide +kernel
theorem dX1_closesAhead_21 : decode cX1_closesAhead 21 = .ok (.iconst (-1), 1) := by decide +kernel
theorem dX1_closesAhead_22 : decode cX1_closesAhead 22 = .ok (.if_icmp .eq 28, 3) := by decide +kernel
theorem dX1_closesAhead_25 : decode cX1_closesAhead 25 = .ok (.aload_n 0, 1) := by decide +kernel
theorem dX1_closesAhead_26 : decode cX1_closesAhead 26 = .ok (.getfield 21, 3) := by decide +kernel
theorem dX1_closesAhead_29 : decode cX1_closesAhead 29 = .ok (.iload_n 1, 1) := by decide +kernel
theorem dX1_closesAhead_30 : decode cX1_closesAhead 30 = .ok (.iaload, 1) := by decide +kernel
theorem dX1_closesAhead_31 : decode cX1_closesAhead 31 = .ok (.iconst (-1), 1) := by decide +kernel
theorem dX1_closesAhead_32 : decode cX1_closesAhead 32 = .ok (.if_icmp .eq 22, 3) := by decide +kernel
theorem dX1_closesAhead_35 : decode cX1_closesAhead 35 = .ok (.aload_n 0, 1) := by decide +kernel
theorem dX1_closesAhead_36 : decode cX1_closesAhead 36 = .ok (.getfield 21, 3) := by decide +kernel
theorem dX1_closesAhead_39 : decode cX1_closesAhead 39 = .ok (.iload_n 1, 1) := by decide +kernel
theorem dX1_closesAhead_40 : decode cX1_closesAhead 40 = .ok (.iaload, 1) := by decide +kernel
theorem dX1_closesAhead_41 : decode cX1_closesAhead 41 = .ok (.aload_n 0, 1) := by decide +kernel
theorem dX1_closesAhead_42 : decode cX1_closesAhead 42 = .ok (.getfield 21, 3) := by decide +kernel
theorem dX1_closesAhead_45 : decode cX1_closesAhead 45 = .ok (.iload_n 2, 1) := by decide +kernel
theorem dX1_closesAhead_46 : decode cX1_closesAhead 46 = .ok (.iaload, 1) := by decide +kernel
theorem dX1_closesAhead_47 : decode cX1_closesAhead 47 = .ok (.if_icmp .ge 7, 3) := by decide +kernel
theorem dX1_closesAhead_50 : decode cX1_closesAhead 50 = .ok (.iconst 1, 1) := by decide +kernel
theorem dX1_closesAhead_51 : decode cX1_closesAhead 51 = .ok (.goto 4, 3) := by decide +kernel
theorem dX1_closesAhead_54 : decode cX1_closesAhead 54 = .ok (.iconst 0, 1) := by decide +kernel
theorem dX1_closesAhead_55 : decode cX1_closesAhead 55 = .ok (.ireturn, 1) := by decide +kernel
theorem dX1_closesAhead_56 : decode cX1_closesAhead 56 = .ok (.aload_n 0, 1) := by decide +kernel
theorem dX1_closesAhead_57 : decode cX1_closesAhead 57 = .ok (.getfield 21, 3) := by decide +kernel
theorem dX1_closesAhead_60 : decode cX1_closesAhead 60 = .ok (.iload_n 1, 1) := by decide +kernel
theorem dX1_closesAhead_61 : decode cX1_closesAhead 61 = .ok (.iaload, 1) := by decide +kernel
theorem dX1_closesAhead_62 : decode cX1_closesAhead 62 = .ok (.iconst (-1), 1) := by decide +kernel
theorem dX1_closesAhead_63 : decode cX1_closesAhead 63 = .ok (.if_icmp .eq 39, 3) := by decide +kernel
theorem dX1_closesAhead_66 : decode cX1_closesAhead 66 = .ok (.aload_n 0, 1) := by decide +kernel
theorem dX1_closesAhead_67 : decode cX1_closesAhead 67 = .ok (.getfield 18, 3) := by decide +kernel
theorem dX1_closesAhead_70 : decode cX1_closesAhead 70 = .ok (.iload_n 1, 1) := by decide +kernel
theorem dX1_closesAhead_71 : decode cX1_closesAhead 71 = .ok (.iaload, 1) := by decide +kernel
theorem dX1_closesAhead_72 : decode cX1_closesAhead 72 = .ok (.aload_n 0, 1) := by decide +kernel
theorem dX1_closesAhead_73 : decode cX1_closesAhead 73 = .ok (.getfield 18, 3) := by decide +kernel
theorem dX1_closesAhead_76 : decode cX1_closesAhead 76 = .ok (.iload_n 2, 1) := by decide +kernel
theorem dX1_closesAhead_77 : decode cX1_closesAhead 77 = .ok (.iaload, 1) := by decide +kernel
theorem dX1_closesAhead_78 : decode cX1_closesAhead 78 = .ok (.if_icmp .eq 24, 3) := by decide +kernel
theorem dX1_closesAhead_81 : decode cX1_closesAhead 81 = .ok (.aload_n 0, 1) := by decide +kernel
theorem dX1_closesAhead_82 : decode cX1_closesAhead 82 = .ok (.getfield 18, 3) := by decide +kernel
theorem dX1_closesAhead_85 : decode cX1_closesAhead 85 = .ok (.iload_n 1, 1) := by decide +kernel
theorem dX1_closesAhead_86 : decode cX1_closesAhead 86 = .ok (.iaload, 1) := by decide +kernel
theorem dX1_closesAhead_87 : decode cX1_closesAhead 87 = .ok (.aload_n 0, 1) := by decide +kernel
theorem dX1_closesAhead_88 : decode cX1_closesAhead 88 = .ok (.getfield 18, 3) := by decide +kernel
theorem dX1_closesAhead_91 : decode cX1_closesAhead 91 = .ok (.iload_n 2, 1) := by decide +kernel
theorem dX1_closesAhead_92 : decode cX1_closesAhead 92 = .ok (.iaload, 1) := by decide +kernel
theorem dX1_closesAhead_93 : decode cX1_closesAhead 93 = .ok (.if_icmp .ge 7, 3) := by decide +kernel
theorem dX1_closesAhead_96 : decode cX1_closesAhead 96 = .ok (.iconst 1, 1) := by decide +kernel
theorem dX1_closesAhead_97 : decode cX1_closesAhead 97 = .ok (.goto 4, 3) := by decide +kernel
theorem dX1_closesAhead_100 : decode cX1_closesAhead 100 = .ok (.iconst 0, 1) := by decide +kernel
theorem dX1_closesAhead_101 : decode cX1_closesAhead 101 = .ok (.ireturn, 1) := by decide +kernel
theorem dX1_closesAhead_102 : decode cX1_closesAhead 102 = .ok (.iload_n 1, 1) := by decide +kernel
theorem dX1_closesAhead_103 : decode cX1_closesAhead 103 = .ok (.iload_n 2, 1) := by decide +kernel
theorem dX1_closesAhead_104 : decode cX1_closesAhead 104 = .ok (.if_icmp .ge 7, 3) := by decide +kernel
theorem dX1_closesAhead_107 : decode cX1_closesAhead 107 = .ok (.iconst 1, 1) := by decide +kernel
theorem dX1_closesAhead_108 : decode cX1_closesAhead 108 = .ok (.goto 4, 3) := by decide +kernel
theorem dX1_closesAhead_111 : decode cX1_closesAhead 111 = .ok (.iconst 0, 1) := by decide +kernel
theorem dX1_closesAhead_112 : decode cX1_closesAhead 112 = .ok (.ireturn, 1) := by decide +kernel
theorem dX2_init_0 : decode cX2_init 0 = .ok (.aload_n 0, 1) := by decide +kernel
theorem dX2_init_1 : decode cX2_init 1 = .ok (.invokespecial 3, 3) := by decide +kernel
theorem dX2_init_4 : decode cX2_init 4 = .ok (.aload_n 0, 1) := by decide +kernel
theorem dX2_init_5 : decode cX2_init 5 = .ok (.bipush 32, 2) := by decide +kernel
theorem dX2_init_7 : decode cX2_init 7 = .ok (.newarray .long, 2) := by decide +kernel
theorem dX2_init_9 : decode cX2_init 9 = .ok (.putfield 9, 3) := by decide +kernel
theorem dX2_init_12 : decode cX2_init 12 = .ok (.aload_n 0, 1) := by decide +kernel
theorem dX2_init_13 : decode cX2_init 13 = .ok (.bipush 32, 2) := by decide +kernel
theorem dX2_init_15 : decode cX2_init 15 = .ok (.newarray .int, 2) := by decide +kernel
theorem dX2_init_17 : decode cX2_init 17 = .ok (.putfield 15, 3) := by decide +kernel
theorem dX2_init_20 : decode cX2_init 20 = .ok (.aload_n 0, 1) := by decide +kernel
theorem dX2_init_21 : decode cX2_init 21 = .ok (.bipush 32, 2) := by decide +kernel
theorem dX2_init_23 : decode cX2_init 23 = .ok (.newarray .boolean, 2) := by decide +kernel
theorem dX2_init_25 : decode cX2_init 25 = .ok (.putfield 19, 3) := by decide +kernel
theorem dX2_init_28 : decode cX2_init 28 = .ok (.aload_n 0, 1) := by decide +kernel
theorem dX2_init_29 : decode cX2_init 29 = .ok (.bipush 32, 2) := by decide +kernel
theorem dX2_init_31 : decode cX2_init 31 = .ok (.newarray .int, 2) := by decide +kernel
theorem dX2_init_33 : decode cX2_init 33 = .ok (.putfield 23, 3) := by decide +kernel
theorem dX2_init_36 : decode cX2_init 36 = .ok (.aload_n 0, 1) := by decide +kernel
theorem dX2_init_37 : decode cX2_init 37 = .ok (.bipush 32, 2) := by decide +kernel
theorem dX2_init_39 : decode cX2_init 39 = .ok (.newarray .long, 2) := by decide +kernel
theorem dX2_init_41 : decode cX2_init 41 = .ok (.putfield 26, 3) := by decide +kernel
theorem dX2_init_44 : decode cX2_init 44 = .ok (.aload_n 0, 1) := by decide +kernel
theorem dX2_init_45 : decode cX2_init 45 = .ok (.iconst 0, 1) := by decide +kernel
theorem dX2_init_46 : decode cX2_init 46 = .ok (.putfield 29, 3) := by decide +kernel
theorem dX2_init_49 : decode cX2_init 49 = .ok (.aload_n 0, 1) := by decide +kernel
theorem dX2_init_50 : decode cX2_init 50 = .ok (.iconst 1, 1) := by decide +kernel
theorem dX2_init_51 : decode cX2_init 51 = .ok (.putfield 33, 3) := by decide +kernel
theorem dX2_init_54 : decode cX2_init 54 = .ok (.aload_n 0, 1) := by decide +kernel
theorem dX2_init_55 : decode cX2_init 55 = .ok (.lconst 0, 1) := by decide +kernel
theorem dX2_init_56 : decode cX2_init 56 = .ok (.putfield 36, 3) := by decide +kernel
theorem dX2_init_59 : decode cX2_init 59 = .ok (.aload_n 0, 1) := by decide +kernel
theorem dX2_init_60 : decode cX2_init 60 = .ok (.iconst 0, 1) := by decide +kernel
theorem dX2_init_61 : decode cX2_init 61 = .ok (.putfield 40, 3) := by decide +kernel
theorem dX2_init_64 : decode cX2_init 64 = .ok (.aload_n 0, 1) := by decide +kernel
theorem dX2_init_65 : decode cX2_init 65 = .ok (.iconst 0, 1) := by decide +kernel
theorem dX2_init_66 : decode cX2_init 66 = .ok (.putfield 43, 3) := by decide +kernel
theorem dX2_init_69 : decode cX2_init 69 = .ok (.return_, 1) := by decide +kernel
theorem dX2_renewStamps_0 : decode cX2_renewStamps 0 = .ok (.iload_n 3, 1) := by decide +kernel
theorem dX2_renewStamps_1 : decode cX2_renewStamps 1 = .ok (.iconst 1, 1) := by decide +kernel
theorem dX2_renewStamps_2 : decode cX2_renewStamps 2 = .ok (.if_icmp .ne 14, 3) := by decide +kernel
theorem dX2_renewStamps_5 : decode cX2_renewStamps 5 = .ok (.aload_n 2, 1) := by decide +kernel
theorem dX2_renewStamps_6 : decode cX2_renewStamps 6 = .ok (.getfield 46, 3) := by decide +kernel
theorem dX2_renewStamps_9 : decode cX2_renewStamps 9 = .ok (.ifCond .ne 7, 3) := by decide +kernel
theorem dX2_renewStamps_12 : decode cX2_renewStamps 12 = .ok (.iconst 0, 1) := by decide +kernel
theorem dX2_renewStamps_13 : decode cX2_renewStamps 13 = .ok (.goto 4, 3) := by decide +kernel
theorem dX2_renewStamps_16 : decode cX2_renewStamps 16 = .ok (.iload_n 3, 1) := by decide +kernel
theorem dX2_renewStamps_17 : decode cX2_renewStamps 17 = .ok (.istore 4, 2) := by decide +kernel
theorem dX2_renewStamps_19 : decode cX2_renewStamps 19 = .ok (.aload_n 0, 1) := by decide +kernel
theorem dX2_renewStamps_20 : decode cX2_renewStamps 20 = .ok (.iload 4, 2) := by decide +kernel
theorem dX2_renewStamps_22 : decode cX2_renewStamps 22 = .ok (.iconst 2, 1) := by decide +kernel
theorem dX2_renewStamps_23 : decode cX2_renewStamps 23 = .ok (.if_icmp .ne 7, 3) := by decide +kernel
theorem dX2_renewStamps_26 : decode cX2_renewStamps 26 = .ok (.iconst 2, 1) := by decide +kernel
theorem dX2_renewStamps_27 : decode cX2_renewStamps 27 = .ok (.goto 20, 3) := by decide +kernel
theorem dX2_renewStamps_30 : decode cX2_renewStamps 30 = .ok (.iload 4, 2) := by decide +kernel
theorem dX2_renewStamps_32 : decode cX2_renewStamps 32 = .ok (.iconst 1, 1) := by decide +kernel
theorem dX2_renewStamps_33 : decode cX2_renewStamps 33 = .ok (.if_icmp .ne 10, 3) := by decide +kernel
theorem dX2_renewStamps_36 : decode cX2_renewStamps 36 = .ok (.aload_n 2, 1) := by decide +kernel
theorem dX2_renewStamps_37 : decode cX2_renewStamps 37 = .ok (.getfield 46, 3) := by decide +kernel
theorem dX2_renewStamps_40 : decode cX2_renewStamps 40 = .ok (.goto 7, 3) := by decide +kernel
theorem dX2_renewStamps_43 : decode cX2_renewStamps 43 = .ok (.aload_n 2, 1) := by decide +kernel
theorem dX2_renewStamps_44 : decode cX2_renewStamps 44 = .ok (.getfield 51, 3) := by decide +kernel
theorem dX2_renewStamps_47 : decode cX2_renewStamps 47 = .ok (.putfield 33, 3) := by decide +kernel
theorem dX2_renewStamps_50 : decode cX2_renewStamps 50 = .ok (.aload_n 0, 1) := by decide +kernel
theorem dX2_renewStamps_51 : decode cX2_renewStamps 51 = .ok (.aload_n 1, 1) := by decide +kernel
theorem dX2_renewStamps_52 : decode cX2_renewStamps 52 = .ok (.getfield 52, 3) := by decide +kernel
theorem dX2_renewStamps_55 : decode cX2_renewStamps 55 = .ok (.putfield 29, 3) := by decide +kernel
theorem dX2_renewStamps_58 : decode cX2_renewStamps 58 = .ok (.iconst 0, 1) := by decide +kernel
theorem dX2_renewStamps_59 : decode cX2_renewStamps 59 = .ok (.istore 5, 2) := by decide +kernel
theorem dX2_renewStamps_61 : decode cX2_renewStamps 61 = .ok (.iload 5, 2) := by decide +kernel
theorem dX2_renewStamps_63 : decode cX2_renewStamps 63 = .ok (.aload_n 0, 1) := by decide +kernel
theorem dX2_renewStamps_64 : decode cX2_renewStamps 64 = .ok (.getfield 29, 3) := by decide +kernel
theorem dX2_renewStamps_67 : decode cX2_renewStamps 67 = .ok (.if_icmp .ge 55, 3) := by decide +kernel
theorem dX2_renewStamps_70 : decode cX2_renewStamps 70 = .ok (.aload_n 2, 1) := by decide +kernel
theorem dX2_renewStamps_71 : decode cX2_renewStamps 71 = .ok (.aload_n 2, 1) := by decide +kernel
theorem dX2_renewStamps_72 : decode cX2_renewStamps 72 = .ok (.aload_n 1, 1) := by decide +kernel
theorem dX2_renewStamps_73 : decode cX2_renewStamps 73 = .ok (.iload 5, 2) := by decide +kernel
theorem dX2_renewStamps_75 : decode cX2_renewStamps 75 = .ok (.invokevirtual 55, 3) := by decide +kernel
theorem dX2_renewStamps_78 : decode cX2_renewStamps 78 = .ok (.invokevirtual 59, 3) := by decide +kernel
theorem dX2_renewStamps_81 : decode cX2_renewStamps 81 = .ok (.iload 4, 2) := by decide +kernel
theorem dX2_renewStamps_83 : decode cX2_renewStamps 83 = .ok (.invokestatic 62, 3) := by decide +kernel
theorem dX2_renewStamps_86 : decode cX2_renewStamps 86 = .ok (.istore 6, 2) := by decide +kernel
theorem dX2_renewStamps_88 : decode cX2_renewStamps 88 = .ok (.aload_n 0, 1) := by decide +kernel
theorem dX2_renewStamps_89 : decode cX2_renewStamps 89 = .ok (.getfield 9, 3) := by decide +kernel
theorem dX2_renewStamps_92 : decode cX2_renewStamps 92 = .ok (.iload 5, 2) := by decide +kernel
theorem dX2_renewStamps_94 : decode cX2_renewStamps 94 = .ok (.ldc2_w 66, 3) := by decide +kernel
theorem dX2_renewStamps_97 : decode cX2_renewStamps 97 = .ok (.aload_n 1, 1) := by decide +kernel
theorem dX2_renewStamps_98 : decode cX2_renewStamps 98 = .ok (.iload 5, 2) := by decide +kernel
theorem dX2_renewStamps_100 : decode cX2_renewStamps 100 = .ok (.invokevirtual 68, 3) := by decide +kernel
theorem dX2_renewStamps_103 : decode cX2_renewStamps 103 = .ok (.i2l, 1) := by decide +kernel
theorem dX2_renewStamps_104 : decode cX2_renewStamps 104 = .ok (.lmul, 1) := by decide +kernel
theorem dX2_renewStamps_105 : decode cX2_renewStamps 105 = .ok (.aload_n 0, 1) := by decide +kernel
theorem dX2_renewStamps_106 : decode cX2_renewStamps 106 = .ok (.getfield 33, 3) := by decide +kernel
theorem dX2_renewStamps_109 : decode cX2_renewStamps 109 = .ok (.i2l, 1) := by decide +kernel
theorem dX2_renewStamps_110 : decode cX2_renewStamps 110 = .ok (.lmul, 1) := by decide +kernel
theorem dX2_renewStamps_111 : decode cX2_renewStamps 111 = .ok (.iload 6, 2) := by decide +kernel
theorem dX2_renewStamps_113 : decode cX2_renewStamps 113 = .ok (.i2l, 1) := by decide +kernel
theorem dX2_renewStamps_114 : decode cX2_renewStamps 114 = .ok (.ladd, 1) := by decide +kernel
theorem dX2_renewStamps_115 : decode cX2_renewStamps 115 = .ok (.lastore, 1) := by decide +kernel
theorem dX2_renewStamps_116 : decode cX2_renewStamps 116 = .ok (.iinc 5 1, 3) := by decide +kernel
theorem dX2_renewStamps_119 : decode cX2_renewStamps 119 = .ok (.goto (-58), 3) := by decide +kernel
theorem dX2_renewStamps_122 : decode cX2_renewStamps 122 = .ok (.return_, 1) := by decide +kernel
theorem dX2_middleOf_0 : decode cX2_middleOf 0 = .ok (.iload_n 2, 1) := by decide +kernel
theorem dX2_middleOf_1 : decode cX2_middleOf 1 = .ok (.iconst 2, 1) := by decide +kernel
theorem dX2_middleOf_2 : decode cX2_middleOf 2 = .ok (.if_icmp .ne 16, 3) := by decide +kernel
theorem dX2_middleOf_5 : decode cX2_middleOf 5 = .ok (.aload_n 0, 1) := by decide +kernel
theorem dX2_middleOf_6 : decode cX2_middleOf 6 = .ok (.getfield 71, 3) := by decide +kernel
theorem dX2_middleOf_9 : decode cX2_middleOf 9 = .ok (.iload_n 1, 1) := by decide +kernel
theorem dX2_middleOf_10 : decode cX2_middleOf 10 = .ok (.iaload, 1) := by decide +kernel
theorem dX2_middleOf_11 : decode cX2_middleOf 11 = .ok (.aload_n 0, 1) := by decide +kernel
theorem dX2_middleOf_12 : decode cX2_middleOf 12 = .ok (.iload_n 1, 1) := by decide +kernel
theorem dX2_middleOf_13 : decode cX2_middleOf 13 = .ok (.invokevirtual 74, 3) := by decide +kernel
theorem dX2_middleOf_16 : decode cX2_middleOf 16 = .ok (.iadd, 1) := by decide +kernel
theorem dX2_middleOf_17 : decode cX2_middleOf 17 = .ok (.ireturn, 1) := by decide +kernel
theorem dX2_middleOf_18 : decode cX2_middleOf 18 = .ok (.iload_n 2, 1) := by decide +kernel
theorem dX2_middleOf_19 : decode cX2_middleOf 19 = .ok (.iconst 1, 1) := by decide +kernel
theorem dX2_middleOf_20 : decode cX2_middleOf 20 = .ok (.if_icmp .ne 20, 3) := by decide +kernel
theorem dX2_middleOf_23 : decode cX2_middleOf 23 = .ok (.iconst 2, 1) := by decide +kernel
theorem dX2_middleOf_24 : decode cX2_middleOf 24 = .ok (.aload_n 0, 1) := by decide +kernel
theorem dX2_middleOf_25 : decode cX2_middleOf 25 = .ok (.iload_n 1, 1) := by decide +kernel
theorem dX2_middleOf_26 : decode cX2_middleOf 26 = .ok (.invokevirtual 77, 3) := by decide +kernel
theorem dX2_middleOf_29 : decode cX2_middleOf 29 = .ok (.imul, 1) := by decide +kernel
theorem dX2_middleOf_30 : decode cX2_middleOf 30 = .ok (.aload_n 0, 1) := by decide +kernel
theorem dX2_middleOf_31 : decode cX2_middleOf 31 = .ok (.getfield 80, 3) := by decide +kernel
theorem dX2_middleOf_34 : decode cX2_middleOf 34 = .ok (.iload_n 1, 1) := by decide +kernel
theorem dX2_middleOf_35 : decode cX2_middleOf 35 = .ok (.iaload, 1) := by decide +kernel
theorem dX2_middleOf_36 : decode cX2_middleOf 36 = .ok (.iadd, 1) := by decide +kernel
theorem dX2_middleOf_37 : decode cX2_middleOf 37 = .ok (.goto 8, 3) := by decide +kernel
theorem dX2_middleOf_40 : decode cX2_middleOf 40 = .ok (.iconst 2, 1) := by decide +kernel
theorem dX2_middleOf_41 : decode cX2_middleOf 41 = .ok (.iload_n 1, 1) := by decide +kernel
theorem dX2_middleOf_42 : decode cX2_middleOf 42 = .ok (.imul, 1) := by decide +kernel
theorem dX2_middleOf_43 : decode cX2_middleOf 43 = .ok (.iconst 1, 1) := by decide +kernel
theorem dX2_middleOf_44 : decode cX2_middleOf 44 = .ok (.iadd, 1) := by decide +kernel
theorem dX2_middleOf_45 : decode cX2_middleOf 45 = .ok (.istore_n 3, 1) := by decide +kernel
theorem dX2_middleOf_46 : decode cX2_middleOf 46 = .ok (.bipush 30, 2) := by decide +kernel
theorem dX2_middleOf_48 : decode cX2_middleOf 48 = .ok (.iload_n 3, 1) := by decide +kernel
theorem dX2_middleOf_49 : decode cX2_middleOf 49 = .ok (.imul, 1) := by decide +kernel
theorem dX2_middleOf_50 : decode cX2_middleOf 50 = .ok (.ireturn, 1) := by decide +kernel
theorem dX2_renewPlaces_0 : decode cX2_renewPlaces 0 = .ok (.aload_n 0, 1) := by decide +kernel
theorem dX2_renewPlaces_1 : decode cX2_renewPlaces 1 = .ok (.iload_n 1, 1) := by decide +kernel
theorem dX2_renewPlaces_2 : decode cX2_renewPlaces 2 = .ok (.ifCond .le 14, 3) := by decide +kernel
theorem dX2_renewPlaces_5 : decode cX2_renewPlaces 5 = .ok (.iload_n 1, 1) := by decide +kernel
theorem dX2_renewPlaces_6 : decode cX2_renewPlaces 6 = .ok (.i2l, 1) := by decide +kernel
theorem dX2_renewPlaces_7 : decode cX2_renewPlaces 7 = .ok (.aload_n 0, 1) := by decide +kernel
theorem dX2_renewPlaces_8 : decode cX2_renewPlaces 8 = .ok (.getfield 33, 3) := by decide +kernel
theorem dX2_renewPlaces_11 : decode cX2_renewPlaces 11 = .ok (.i2l, 1) := by decide +kernel
theorem dX2_renewPlaces_12 : decode cX2_renewPlaces 12 = .ok (.lmul, 1) := by decide +kernel
theorem dX2_renewPlaces_13 : decode cX2_renewPlaces 13 = .ok (.goto 7, 3) := by decide +kernel
theorem dX2_renewPlaces_16 : decode cX2_renewPlaces 16 = .ok (.aload_n 0, 1) := by decide +kernel
theorem dX2_renewPlaces_17 : decode cX2_renewPlaces 17 = .ok (.invokevirtual 83, 3) := by decide +kernel
theorem dX2_renewPlaces_20 : decode cX2_renewPlaces 20 = .ok (.putfield 36, 3) := by decide +kernel
theorem dX2_renewPlaces_23 : decode cX2_renewPlaces 23 = .ok (.aload_n 0, 1) := by decide +kernel
theorem dX2_renewPlaces_24 : decode cX2_renewPlaces 24 = .ok (.iconst 0, 1) := by decide +kernel
theorem dX2_renewPlaces_25 : decode cX2_renewPlaces 25 = .ok (.putfield 40, 3) := by decide +kernel
theorem dX2_renewPlaces_28 : decode cX2_renewPlaces 28 = .ok (.aload_n 0, 1) := by decide +kernel
theorem dX2_renewPlaces_29 : decode cX2_renewPlaces 29 = .ok (.iconst 0, 1) := by decide +kernel
theorem dX2_renewPlaces_30 : decode cX2_renewPlaces 30 = .ok (.putfield 43, 3) := by decide +kernel
theorem dX2_renewPlaces_33 : decode cX2_renewPlaces 33 = .ok (.iconst 0, 1) := by decide +kernel
theorem dX2_renewPlaces_34 : decode cX2_renewPlaces 34 = .ok (.istore_n 3, 1) := by decide +kernel
theorem dX2_renewPlaces_35 : decode cX2_renewPlaces 35 = .ok (.iload_n 3, 1) := by decide +kernel
theorem dX2_renewPlaces_36 : decode cX2_renewPlaces 36 = .ok (.aload_n 0, 1) := by decide +kernel
theorem dX2_renewPlaces_37 : decode cX2_renewPlaces 37 = .ok (.getfield 29, 3) := by decide +kernel
theorem dX2_renewPlaces_40 : decode cX2_renewPlaces 40 = .ok (.if_icmp .ge 45, 3) := by decide +kernel
theorem dX2_renewPlaces_43 : decode cX2_renewPlaces 43 = .ok (.aload_n 0, 1) := by decide +kernel
theorem dX2_renewPlaces_44 : decode cX2_renewPlaces 44 = .ok (.getfield 23, 3) := by decide +kernel
theorem dX2_renewPlaces_47 : decode cX2_renewPlaces 47 = .ok (.iload_n 3, 1) := by decide +kernel
theorem dX2_renewPlaces_48 : decode cX2_renewPlaces 48 = .ok (.iload_n 2, 1) := by decide +kernel
theorem dX2_renewPlaces_49 : decode cX2_renewPlaces 49 = .ok (.iconst 1, 1) := by decide +kernel
theorem dX2_renewPlaces_50 : decode cX2_renewPlaces 50 = .ok (.if_icmp .ne 12, 3) := by decide +kernel
theorem dX2_renewPlaces_53 : decode cX2_renewPlaces 53 = .ok (.iload_n 3, 1) := by decide +kernel
theorem dX2_renewPlaces_54 : decode cX2_renewPlaces 54 = .ok (.aload_n 0, 1) := by decide +kernel
theorem dX2_renewPlaces_55 : decode cX2_renewPlaces 55 = .ok (.getfield 40, 3) := by decide +kernel
theorem dX2_renewPlaces_58 : decode cX2_renewPlaces 58 = .ok (.iadd, 1) := by decide +kernel
theorem dX2_renewPlaces_59 : decode cX2_renewPlaces 59 = .ok (.goto 4, 3) := by decide +kernel
theorem dX2_renewPlaces_62 : decode cX2_renewPlaces 62 = .ok (.iload_n 3, 1) := by decide +kernel
theorem dX2_renewPlaces_63 : decode cX2_renewPlaces 63 = .ok (.iastore, 1) := by decide +kernel
theorem dX2_renewPlaces_64 : decode cX2_renewPlaces 64 = .ok (.iload_n 3, 1) := by decide +kernel
theorem dX2_renewPlaces_65 : decode cX2_renewPlaces 65 = .ok (.iconst 1, 1) := by decide +kernel
theorem dX2_renewPlaces_66 : decode cX2_renewPlaces 66 = .ok (.iadd, 1) := by decide +kernel
theorem dX2_renewPlaces_67 : decode cX2_renewPlaces 67 = .ok (.aload_n 0, 1) := by decide +kernel
theorem dX2_renewPlaces_68 : decode cX2_renewPlaces 68 = .ok (.getfield 29, 3) := by decide +kernel
theorem dX2_renewPlaces_71 : decode cX2_renewPlaces 71 = .ok (.if_icmp .ge 8, 3) := by decide +kernel
theorem dX2_renewPlaces_74 : decode cX2_renewPlaces 74 = .ok (.aload_n 0, 1) := by decide +kernel
theorem dX2_renewPlaces_75 : decode cX2_renewPlaces 75 = .ok (.iload_n 3, 1) := by decide +kernel
theorem dX2_renewPlaces_76 : decode cX2_renewPlaces 76 = .ok (.invokevirtual 87, 3) := by decide +kernel
theorem dX2_renewPlaces_79 : decode cX2_renewPlaces 79 = .ok (.iinc 3 1, 3) := by decide +kernel
theorem dX2_renewPlaces_82 : decode cX2_renewPlaces 82 = .ok (.goto (-47), 3) := by decide +kernel
theorem dX2_renewPlaces_85 : decode cX2_renewPlaces 85 = .ok (.return_, 1) := by decide +kernel
theorem dX2_judgeGap_0 : decode cX2_judgeGap 0 = .ok (.lconst 0, 1) := by decide +kernel
theorem dX2_judgeGap_1 : decode cX2_judgeGap 1 = .ok (.lstore_n 2, 1) := by decide +kernel
theorem dX2_judgeGap_2 : decode cX2_judgeGap 2 = .ok (.aload_n 0, 1) := by decide +kernel
theorem dX2_judgeGap_3 : decode cX2_judgeGap 3 = .ok (.getfield 36, 3) := by decide +kernel
theorem dX2_judgeGap_6 : decode cX2_judgeGap 6 = .ok (.lconst 0, 1) := by decide +kernel
theorem dX2_judgeGap_7 : decode cX2_judgeGap 7 = .ok (.lcmp, 1) := by decide +kernel
theorem dX2_judgeGap_8 : decode cX2_judgeGap 8 = .ok (.ifCond .le 29, 3) := by decide +kernel
theorem dX2_judgeGap_11 : decode cX2_judgeGap 11 = .ok (.ldc2_w 91, 3) := by decide +kernel
theorem dX2_judgeGap_14 : decode cX2_judgeGap 14 = .ok (.aload_n 0, 1) := by decide +kernel
theorem dX2_judgeGap_15 : decode cX2_judgeGap 15 = .ok (.iload_n 1, 1) := by decide +kernel
theorem dX2_judgeGap_16 : decode cX2_judgeGap 16 = .ok (.invokevirtual 93, 3) := by decide +kernel
theorem dX2_judgeGap_19 : decode cX2_judgeGap 19 = .ok (.lmul, 1) := by decide +kernel
theorem dX2_judgeGap_20 : decode cX2_judgeGap 20 = .ok (.aload_n 0, 1) := by decide +kernel
theorem dX2_judgeGap_21 : decode cX2_judgeGap 21 = .ok (.getfield 36, 3) := by decide +kernel
theorem dX2_judgeGap_24 : decode cX2_judgeGap 24 = .ok (.ladd, 1) := by decide +kernel
theorem dX2_judgeGap_25 : decode cX2_judgeGap 25 = .ok (.ldc2_w 91, 3) := by decide +kernel
theorem dX2_judgeGap_28 : decode cX2_judgeGap 28 = .ok (.aload_n 0, 1) := by decide +kernel
theorem dX2_judgeGap_29 : decode cX2_judgeGap 29 = .ok (.getfield 36, 3) := by decide +kernel
theorem dX2_judgeGap_32 : decode cX2_judgeGap 32 = .ok (.lmul, 1) := by decide +kernel
theorem dX2_judgeGap_33 : decode cX2_judgeGap 33 = .ok (.ldiv, 1) := by decide +kernel
theorem dX2_judgeGap_34 : decode cX2_judgeGap 34 = .ok (.lconst 1, 1) := by decide +kernel
theorem dX2_judgeGap_35 : decode cX2_judgeGap 35 = .ok (.lsub, 1) := by decide +kernel
theorem dX2_judgeGap_36 : decode cX2_judgeGap 36 = .ok (.lstore_n 2, 1) := by decide +kernel
theorem dX2_judgeGap_37 : decode cX2_judgeGap 37 = .ok (.aload_n 0, 1) := by decide +kernel
theorem dX2_judgeGap_38 : decode cX2_judgeGap 38 = .ok (.getfield 19, 3) := by decide +kernel
theorem dX2_judgeGap_41 : decode cX2_judgeGap 41 = .ok (.iload_n 1, 1) := by decide +kernel
theorem dX2_judgeGap_42 : decode cX2_judgeGap 42 = .ok (.lload_n 2, 1) := by decide +kernel
theorem dX2_judgeGap_43 : decode cX2_judgeGap 43 = .ok (.ldc2_w 97, 3) := by decide +kernel
theorem dX2_judgeGap_46 : decode cX2_judgeGap 46 = .ok (.lcmp, 1) := by decide +kernel
theorem dX2_judgeGap_47 : decode cX2_judgeGap 47 = .ok (.ifCond .le 7, 3) := by decide +kernel
theorem dX2_judgeGap_50 : decode cX2_judgeGap 50 = .ok (.iconst 1, 1) := by decide +kernel
theorem dX2_judgeGap_51 : decode cX2_judgeGap 51 = .ok (.goto 4, 3) := by decide +kernel
theorem dX2_judgeGap_54 : decode cX2_judgeGap 54 = .ok (.iconst 0, 1) := by decide +kernel
theorem dX2_judgeGap_55 : decode cX2_judgeGap 55 = .ok (.bastore, 1) := by decide +kernel
theorem dX2_judgeGap_56 : decode cX2_judgeGap 56 = .ok (.aload_n 0, 1) := by decide +kernel
theorem dX2_judgeGap_57 : decode cX2_judgeGap 57 = .ok (.getfield 15, 3) := by decide +kernel
theorem dX2_judgeGap_60 : decode cX2_judgeGap 60 = .ok (.iload_n 1, 1) := by decide +kernel
theorem dX2_judgeGap_61 : decode cX2_judgeGap 61 = .ok (.lconst 0, 1) := by decide +kernel
theorem dX2_judgeGap_62 : decode cX2_judgeGap 62 = .ok (.ldc2_w 97, 3) := by decide +kernel
theorem dX2_judgeGap_65 : decode cX2_judgeGap 65 = .ok (.lload_n 2, 1) := by decide +kernel
theorem dX2_judgeGap_66 : decode cX2_judgeGap 66 = .ok (.invokestatic 99, 3) := by decide +kernel
theorem dX2_judgeGap_69 : decode cX2_judgeGap 69 = .ok (.invokestatic 105, 3) := by decide +kernel
theorem dX2_judgeGap_72 : decode cX2_judgeGap 72 = .ok (.l2i, 1) := by decide +kernel
theorem dX2_judgeGap_73 : decode cX2_judgeGap 73 = .ok (.iastore, 1) := by decide +kernel
theorem dX2_judgeGap_74 : decode cX2_judgeGap 74 = .ok (.aload_n 0, 1) := by decide +kernel
theorem dX2_judgeGap_75 : decode cX2_judgeGap 75 = .ok (.dup, 1) := by decide +kernel
theorem dX2_judgeGap_76 : decode cX2_judgeGap 76 = .ok (.getfield 40, 3) := by decide +kernel
theorem dX2_judgeGap_79 : decode cX2_judgeGap 79 = .ok (.aload_n 0, 1) := by decide +kernel
theorem dX2_judgeGap_80 : decode cX2_judgeGap 80 = .ok (.getfield 15, 3) := by decide +kernel
theorem dX2_judgeGap_83 : decode cX2_judgeGap 83 = .ok (.iload_n 1, 1) := by decide +kernel
theorem dX2_judgeGap_84 : decode cX2_judgeGap 84 = .ok (.iaload, 1) := by decide +kernel
theorem dX2_judgeGap_85 : decode cX2_judgeGap 85 = .ok (.iadd, 1) := by decide +kernel
theorem dX2_judgeGap_86 : decode cX2_judgeGap 86 = .ok (.putfield 40, 3) := by decide +kernel
theorem dX2_judgeGap_89 : decode cX2_judgeGap 89 = .ok (.aload_n 0, 1) := by decide +kernel
theorem dX2_judgeGap_90 : decode cX2_judgeGap 90 = .ok (.dup, 1) := by decide +kernel
theorem dX2_judgeGap_91 : decode cX2_judgeGap 91 = .ok (.getfield 43, 3) := by decide +kernel
theorem dX2_judgeGap_94 : decode cX2_judgeGap 94 = .ok (.aload_n 0, 1) := by decide +kernel
theorem dX2_judgeGap_95 : decode cX2_judgeGap 95 = .ok (.getfield 19, 3) := by decide +kernel
theorem dX2_judgeGap_98 : decode cX2_judgeGap 98 = .ok (.iload_n 1, 1) := by decide +kernel
theorem dX2_judgeGap_99 : decode cX2_judgeGap 99 = .ok (.baload, 1) := by decide +kernel
theorem dX2_judgeGap_100 : decode cX2_judgeGap 100 = .ok (.ifCond .eq 7, 3) := by decide +kernel
theorem dX2_judgeGap_103 : decode cX2_judgeGap 103 = .ok (.iconst 1, 1) := by decide +kernel
theorem dX2_judgeGap_104 : decode cX2_judgeGap 104 = .ok (.goto 4, 3) := by decide +kernel
theorem dX2_judgeGap_107 : decode cX2_judgeGap 107 = .ok (.iconst 0, 1) := by decide +kernel
theorem dX2_judgeGap_108 : decode cX2_judgeGap 108 = .ok (.iadd, 1) := by decide +kernel
theorem dX2_judgeGap_109 : decode cX2_judgeGap 109 = .ok (.putfield 43, 3) := by decide +kernel
theorem dX2_judgeGap_112 : decode cX2_judgeGap 112 = .ok (.return_, 1) := by decide +kernel
theorem dX2_gapBehind_0 : decode cX2_gapBehind 0 = .ok (.aload_n 0, 1) := by decide +kernel
theorem dX2_gapBehind_1 : decode cX2_gapBehind 1 = .ok (.getfield 9, 3) := by decide +kernel
theorem dX2_gapBehind_4 : decode cX2_gapBehind 4 = .ok (.iload_n 1, 1) := by decide +kernel
theorem dX2_gapBehind_5 : decode cX2_gapBehind 5 = .ok (.iconst 1, 1) := by decide +kernel
theorem dX2_gapBehind_6 : decode cX2_gapBehind 6 = .ok (.iadd, 1) := by decide +kernel
theorem dX2_gapBehind_7 : decode cX2_gapBehind 7 = .ok (.laload, 1) := by decide +kernel
theorem dX2_gapBehind_8 : decode cX2_gapBehind 8 = .ok (.aload_n 0, 1) := by decide +kernel
theorem dX2_gapBehind_9 : decode cX2_gapBehind 9 = .ok (.getfield 9, 3) := by decide +kernel
theorem dX2_gapBehind_12 : decode cX2_gapBehind 12 = .ok (.iload_n 1, 1) := by decide +kernel
theorem dX2_gapBehind_13 : decode cX2_gapBehind 13 = .ok (.laload, 1) := by decide +kernel
theorem dX2_gapBehind_14 : decode cX2_gapBehind 14 = .ok (.lsub, 1) := by decide +kernel
theorem dX2_gapBehind_15 : decode cX2_gapBehind 15 = .ok (.lreturn, 1) := by decide +kernel
theorem dX2_medianGap_0 : decode cX2_medianGap 0 = .ok (.aload_n 0, 1) := by decide +kernel
theorem dX2_medianGap_1 : decode cX2_medianGap 1 = .ok (.getfield 29, 3) := by decide +kernel
theorem dX2_medianGap_4 : decode cX2_medianGap 4 = .ok (.iconst 1, 1) := by decide +kernel
theorem dX2_medianGap_5 : decode cX2_medianGap 5 = .ok (.isub, 1) := by decide +kernel
theorem dX2_medianGap_6 : decode cX2_medianGap 6 = .ok (.istore_n 1, 1) := by decide +kernel
theorem dX2_medianGap_7 : decode cX2_medianGap 7 = .ok (.iload_n 1, 1) := by decide +kernel
theorem dX2_medianGap_8 : decode cX2_medianGap 8 = .ok (.iconst 1, 1) := by decide +kernel
theorem dX2_medianGap_9 : decode cX2_medianGap 9 = .ok (.if_icmp .ge 5, 3) := by decide +kernel
theorem dX2_medianGap_12 : decode cX2_medianGap 12 = .ok (.lconst 0, 1) := by decide +kernel
theorem dX2_medianGap_13 : decode cX2_medianGap 13 = .ok (.lreturn, 1) := by decide +kernel
theorem dX2_medianGap_14 : decode cX2_medianGap 14 = .ok (.iconst 0, 1) := by decide +kernel
theorem dX2_medianGap_15 : decode cX2_medianGap 15 = .ok (.istore_n 2, 1) := by decide +kernel
theorem dX2_medianGap_16 : decode cX2_medianGap 16 = .ok (.iload_n 2, 1) := by decide +kernel
theorem dX2_medianGap_17 : decode cX2_medianGap 17 = .ok (.iload_n 1, 1) := by decide +kernel
theorem dX2_medianGap_18 : decode cX2_medianGap 18 = .ok (.if_icmp .ge 67, 3) := by decide +kernel
theorem dX2_medianGap_21 : decode cX2_medianGap 21 = .ok (.aload_n 0, 1) := by decide +kernel
theorem dX2_medianGap_22 : decode cX2_medianGap 22 = .ok (.iload_n 2, 1) := by decide +kernel
theorem dX2_medianGap_23 : decode cX2_medianGap 23 = .ok (.invokevirtual 93, 3) := by decide +kernel
theorem dX2_medianGap_26 : decode cX2_medianGap 26 = .ok (.lstore_n 3, 1) := by decide +kernel
theorem dX2_medianGap_27 : decode cX2_medianGap 27 = .ok (.iload_n 2, 1) := by decide +kernel
theorem dX2_medianGap_28 : decode cX2_medianGap 28 = .ok (.istore 5, 2) := by decide +kernel
theorem dX2_medianGap_30 : decode cX2_medianGap 30 = .ok (.iload 5, 2) := by decide +kernel
theorem dX2_medianGap_32 : decode cX2_medianGap 32 = .ok (.ifCond .le 39, 3) := by decide +kernel
theorem dX2_medianGap_35 : decode cX2_medianGap 35 = .ok (.aload_n 0, 1) := by decide +kernel
theorem dX2_medianGap_36 : decode cX2_medianGap 36 = .ok (.getfield 26, 3) := by decide +kernel
theorem dX2_medianGap_39 : decode cX2_medianGap 39 = .ok (.iload 5, 2) := by decide +kernel
theorem dX2_medianGap_41 : decode cX2_medianGap 41 = .ok (.iconst 1, 1) := by decide +kernel
theorem dX2_medianGap_42 : decode cX2_medianGap 42 = .ok (.isub, 1) := by decide +kernel
theorem dX2_medianGap_43 : decode cX2_medianGap 43 = .ok (.laload, 1) := by decide +kernel
theorem dX2_medianGap_44 : decode cX2_medianGap 44 = .ok (.lload_n 3, 1) := by decide +kernel
theorem dX2_medianGap_45 : decode cX2_medianGap 45 = .ok (.lcmp, 1) := by decide +kernel
theorem dX2_medianGap_46 : decode cX2_medianGap 46 = .ok (.ifCond .le 25, 3) := by decide +kernel
theorem dX2_medianGap_49 : decode cX2_medianGap 49 = .ok (.aload_n 0, 1) := by decide +kernel
theorem dX2_medianGap_50 : decode cX2_medianGap 50 = .ok (.getfield 26, 3) := by decide +kernel
theorem dX2_medianGap_53 : decode cX2_medianGap 53 = .ok (.iload 5, 2) := by decide +kernel
theorem dX2_medianGap_55 : decode cX2_medianGap 55 = .ok (.aload_n 0, 1) := by decide +kernel
theorem dX2_medianGap_56 : decode cX2_medianGap 56 = .ok (.getfield 26, 3) := by decide +kernel
theorem dX2_medianGap_59 : decode cX2_medianGap 59 = .ok (.iload 5, 2) := by decide +kernel
theorem dX2_medianGap_61 : decode cX2_medianGap 61 = .ok (.iconst 1, 1) := by decide +kernel
theorem dX2_medianGap_62 : decode cX2_medianGap 62 = .ok (.isub, 1) := by decide +kernel
theorem dX2_medianGap_63 : decode cX2_medianGap 63 = .ok (.laload, 1) := by decide +kernel
theorem dX2_medianGap_64 : decode cX2_medianGap 64 = .ok (.lastore, 1) := by decide +kernel
theorem dX2_medianGap_65 : decode cX2_medianGap 65 = .ok (.iinc 5 (-1), 3) := by decide +kernel
theorem dX2_medianGap_68 : decode cX2_medianGap 68 = .ok (.goto (-38), 3) := by decide +kernel
theorem dX2_medianGap_71 : decode cX2_medianGap 71 = .ok (.aload_n 0, 1) := by decide +kernel
theorem dX2_medianGap_72 : decode cX2_medianGap 72 = .ok (.getfield 26, 3) := by decide +kernel
theorem dX2_medianGap_75 : decode cX2_medianGap 75 = .ok (.iload 5, 2) := by decide +kernel
theorem dX2_medianGap_77 : decode cX2_medianGap 77 = .ok (.lload_n 3, 1) := by decide +kernel
theorem dX2_medianGap_78 : decode cX2_medianGap 78 = .ok (.lastore, 1) := by decide +kernel
theorem dX2_medianGap_79 : decode cX2_medianGap 79 = .ok (.iinc 2 1, 3) := by decide +kernel
theorem dX2_medianGap_82 : decode cX2_medianGap 82 = .ok (.goto (-66), 3) := by decide +kernel
theorem dX2_medianGap_85 : decode cX2_medianGap 85 = .ok (.aload_n 0, 1) := by decide +kernel
theorem dX2_medianGap_86 : decode cX2_medianGap 86 = .ok (.getfield 26, 3) := by decide +kernel
theorem dX2_medianGap_89 : decode cX2_medianGap 89 = .ok (.iload_n 1, 1) := by decide +kernel
theorem dX2_medianGap_90 : decode cX2_medianGap 90 = .ok (.iconst 1, 1) := by decide +kernel
theorem dX2_medianGap_91 : decode cX2_medianGap 91 = .ok (.isub, 1) := by decide +kernel
theorem dX2_medianGap_92 : decode cX2_medianGap 92 = .ok (.iconst 2, 1) := by decide +kernel
theorem dX2_medianGap_93 : decode cX2_medianGap 93 = .ok (.idiv, 1) := by decide +kernel
theorem dX2_medianGap_94 : decode cX2_medianGap 94 = .ok (.laload, 1) := by decide +kernel
theorem dX2_medianGap_95 : decode cX2_medianGap 95 = .ok (.lreturn, 1) := by decide +kernel
theorem dX2_periods_0 : decode cX2_periods 0 = .ok (.aload_n 0, 1) := by decide +kernel
theorem dX2_periods_1 : decode cX2_periods 1 = .ok (.getfield 23, 3) := by decide +kernel
theorem dX2_periods_4 : decode cX2_periods 4 = .ok (.iload_n 2, 1) := by decide +kernel
theorem dX2_periods_5 : decode cX2_periods 5 = .ok (.iaload, 1) := by decide +kernel
theorem dX2_periods_6 : decode cX2_periods 6 = .ok (.aload_n 0, 1) := by decide +kernel
theorem dX2_periods_7 : decode cX2_periods 7 = .ok (.getfield 23, 3) := by decide +kernel
theorem dX2_periods_10 : decode cX2_periods 10 = .ok (.iload_n 1, 1) := by decide +kernel
theorem dX2_periods_11 : decode cX2_periods 11 = .ok (.iaload, 1) := by decide +kernel
theorem dX2_periods_12 : decode cX2_periods 12 = .ok (.isub, 1) := by decide +kernel
theorem dX2_periods_13 : decode cX2_periods 13 = .ok (.ireturn, 1) := by decide +kernel
theorem dX2_sumOfPlaces_0 : decode cX2_sumOfPlaces 0 = .ok (.lconst 0, 1) := by decide +kernel
theorem dX2_sumOfPlaces_1 : decode cX2_sumOfPlaces 1 = .ok (.lstore_n 3, 1) := by decide +kernel
theorem dX2_sumOfPlaces_2 : decode cX2_sumOfPlaces 2 = .ok (.iload_n 1, 1) := by decide +kernel
theorem dX2_sumOfPlaces_3 : decode cX2_sumOfPlaces 3 = .ok (.istore 5, 2) := by decide +kernel
theorem dX2_sumOfPlaces_5 : decode cX2_sumOfPlaces 5 = .ok (.iload 5, 2) := by decide +kernel
theorem dX2_sumOfPlaces_7 : decode cX2_sumOfPlaces 7 = .ok (.iload_n 2, 1) := by decide +kernel
theorem dX2_sumOfPlaces_8 : decode cX2_sumOfPlaces 8 = .ok (.if_icmp .gt 20, 3) := by decide +kernel
theorem dX2_sumOfPlaces_11 : decode cX2_sumOfPlaces 11 = .ok (.lload_n 3, 1) := by decide +kernel
theorem dX2_sumOfPlaces_12 : decode cX2_sumOfPlaces 12 = .ok (.aload_n 0, 1) := by decide +kernel
theorem dX2_sumOfPlaces_13 : decode cX2_sumOfPlaces 13 = .ok (.getfield 23, 3) := by decide +kernel
theorem dX2_sumOfPlaces_16 : decode cX2_sumOfPlaces 16 = .ok (.iload 5, 2) := by decide +kernel
theorem dX2_sumOfPlaces_18 : decode cX2_sumOfPlaces 18 = .ok (.iaload, 1) := by decide +kernel
theorem dX2_sumOfPlaces_19 : decode cX2_sumOfPlaces 19 = .ok (.i2l, 1) := by decide +kernel
theorem dX2_sumOfPlaces_20 : decode cX2_sumOfPlaces 20 = .ok (.ladd, 1) := by decide +kernel
theorem dX2_sumOfPlaces_21 : decode cX2_sumOfPlaces 21 = .ok (.lstore_n 3, 1) := by decide +kernel
theorem dX2_sumOfPlaces_22 : decode cX2_sumOfPlaces 22 = .ok (.iinc 5 1, 3) := by decide +kernel
theorem dX2_sumOfPlaces_25 : decode cX2_sumOfPlaces 25 = .ok (.goto (-20), 3) := by decide +kernel
theorem dX2_sumOfPlaces_28 : decode cX2_sumOfPlaces 28 = .ok (.lload_n 3, 1) := by decide +kernel
theorem dX2_sumOfPlaces_29 : decode cX2_sumOfPlaces 29 = .ok (.lreturn, 1) := by decide +kernel
theorem dX2_sumOfStamps_0 : decode cX2_sumOfStamps 0 = .ok (.lconst 0, 1) := by decide +kernel
theorem dX2_sumOfStamps_1 : decode cX2_sumOfStamps 1 = .ok (.lstore_n 3, 1) := by decide +kernel
theorem dX2_sumOfStamps_2 : decode cX2_sumOfStamps 2 = .ok (.iload_n 1, 1) := by decide +kernel
theorem dX2_sumOfStamps_3 : decode cX2_sumOfStamps 3 = .ok (.istore 5, 2) := by decide +kernel
theorem dX2_sumOfStamps_5 : decode cX2_sumOfStamps 5 = .ok (.iload 5, 2) := by decide +kernel
theorem dX2_sumOfStamps_7 : decode cX2_sumOfStamps 7 = .ok (.iload_n 2, 1) := by decide +kernel
theorem dX2_sumOfStamps_8 : decode cX2_sumOfStamps 8 = .ok (.if_icmp .gt 19, 3) := by decide +kernel
theorem dX2_sumOfStamps_11 : decode cX2_sumOfStamps 11 = .ok (.lload_n 3, 1) := by decide +kernel
theorem dX2_sumOfStamps_12 : decode cX2_sumOfStamps 12 = .ok (.aload_n 0, 1) := by decide +kernel
theorem dX2_sumOfStamps_13 : decode cX2_sumOfStamps 13 = .ok (.getfield 9, 3) := by decide +kernel
theorem dX2_sumOfStamps_16 : decode cX2_sumOfStamps 16 = .ok (.iload 5, 2) := by decide +kernel
theorem dX2_sumOfStamps_18 : decode cX2_sumOfStamps 18 = .ok (.laload, 1) := by decide +kernel
theorem dX2_sumOfStamps_19 : decode cX2_sumOfStamps 19 = .ok (.ladd, 1) := by decide +kernel
theorem dX2_sumOfStamps_20 : decode cX2_sumOfStamps 20 = .ok (.lstore_n 3, 1) := by decide +kernel
theorem dX2_sumOfStamps_21 : decode cX2_sumOfStamps 21 = .ok (.iinc 5 1, 3) := by decide +kernel
theorem dX2_sumOfStamps_24 : decode cX2_sumOfStamps 24 = .ok (.goto (-19), 3) := by decide +kernel
theorem dX2_sumOfStamps_27 : decode cX2_sumOfStamps 27 = .ok (.lload_n 3, 1) := by decide +kernel
theorem dX2_sumOfStamps_28 : decode cX2_sumOfStamps 28 = .ok (.lreturn, 1) := by decide +kernel
theorem dX2_fitAbove_0 : decode cX2_fitAbove 0 = .ok (.lconst 0, 1) := by decide +kernel
theorem dX2_fitAbove_1 : decode cX2_fitAbove 1 = .ok (.lstore_n 3, 1) := by decide +kernel
theorem dX2_fitAbove_2 : decode cX2_fitAbove 2 = .ok (.iload_n 1, 1) := by decide +kernel
theorem dX2_fitAbove_3 : decode cX2_fitAbove 3 = .ok (.istore 5, 2) := by decide +kernel
theorem dX2_fitAbove_5 : decode cX2_fitAbove 5 = .ok (.iload 5, 2) := by decide +kernel
theorem dX2_fitAbove_7 : decode cX2_fitAbove 7 = .ok (.iload_n 2, 1) := by decide +kernel
theorem dX2_fitAbove_8 : decode cX2_fitAbove 8 = .ok (.if_icmp .gt 28, 3) := by decide +kernel
theorem dX2_fitAbove_11 : decode cX2_fitAbove 11 = .ok (.lload_n 3, 1) := by decide +kernel
theorem dX2_fitAbove_12 : decode cX2_fitAbove 12 = .ok (.aload_n 0, 1) := by decide +kernel
theorem dX2_fitAbove_13 : decode cX2_fitAbove 13 = .ok (.getfield 23, 3) := by decide +kernel
theorem dX2_fitAbove_16 : decode cX2_fitAbove 16 = .ok (.iload 5, 2) := by decide +kernel
theorem dX2_fitAbove_18 : decode cX2_fitAbove 18 = .ok (.iaload, 1) := by decide +kernel
theorem dX2_fitAbove_19 : decode cX2_fitAbove 19 = .ok (.i2l, 1) := by decide +kernel
theorem dX2_fitAbove_20 : decode cX2_fitAbove 20 = .ok (.aload_n 0, 1) := by decide +kernel
theorem dX2_fitAbove_21 : decode cX2_fitAbove 21 = .ok (.getfield 9, 3) := by decide +kernel
theorem dX2_fitAbove_24 : decode cX2_fitAbove 24 = .ok (.iload 5, 2) := by decide +kernel
theorem dX2_fitAbove_26 : decode cX2_fitAbove 26 = .ok (.laload, 1) := by decide +kernel
theorem dX2_fitAbove_27 : decode cX2_fitAbove 27 = .ok (.lmul, 1) := by decide +kernel
theorem dX2_fitAbove_28 : decode cX2_fitAbove 28 = .ok (.ladd, 1) := by decide +kernel
theorem dX2_fitAbove_29 : decode cX2_fitAbove 29 = .ok (.lstore_n 3, 1) := by decide +kernel
theorem dX2_fitAbove_30 : decode cX2_fitAbove 30 = .ok (.iinc 5 1, 3) := by decide +kernel
theorem dX2_fitAbove_33 : decode cX2_fitAbove 33 = .ok (.goto (-28), 3) := by decide +kernel
theorem dX2_fitAbove_36 : decode cX2_fitAbove 36 = .ok (.iload_n 2, 1) := by decide +kernel
theorem dX2_fitAbove_37 : decode cX2_fitAbove 37 = .ok (.iload_n 1, 1) := by decide +kernel
theorem dX2_fitAbove_38 : decode cX2_fitAbove 38 = .ok (.isub, 1) := by decide +kernel
theorem dX2_fitAbove_39 : decode cX2_fitAbove 39 = .ok (.iconst 1, 1) := by decide +kernel
theorem dX2_fitAbove_40 : decode cX2_fitAbove 40 = .ok (.iadd, 1) := by decide +kernel
theorem dX2_fitAbove_41 : decode cX2_fitAbove 41 = .ok (.i2l, 1) := by decide +kernel
theorem dX2_fitAbove_42 : decode cX2_fitAbove 42 = .ok (.lload_n 3, 1) := by decide +kernel
theorem dX2_fitAbove_43 : decode cX2_fitAbove 43 = .ok (.lmul, 1) := by decide +kernel
theorem dX2_fitAbove_44 : decode cX2_fitAbove 44 = .ok (.aload_n 0, 1) := by decide +kernel
theorem dX2_fitAbove_45 : decode cX2_fitAbove 45 = .ok (.iload_n 1, 1) := by decide +kernel
theorem dX2_fitAbove_46 : decode cX2_fitAbove 46 = .ok (.iload_n 2, 1) := by decide +kernel
theorem dX2_fitAbove_47 : decode cX2_fitAbove 47 = .ok (.invokevirtual 108, 3) := by decide +kernel
theorem dX2_fitAbove_50 : decode cX2_fitAbove 50 = .ok (.aload_n 0, 1) := by decide +kernel
theorem dX2_fitAbove_51 : decode cX2_fitAbove 51 = .ok (.iload_n 1, 1) := by decide +kernel
theorem dX2_fitAbove_52 : decode cX2_fitAbove 52 = .ok (.iload_n 2, 1) := by decide +kernel
theorem dX2_fitAbove_53 : decode cX2_fitAbove 53 = .ok (.invokevirtual 112, 3) := by decide +kernel
theorem dX2_fitAbove_56 : decode cX2_fitAbove 56 = .ok (.lmul, 1) := by decide +kernel
theorem dX2_fitAbove_57 : decode cX2_fitAbove 57 = .ok (.lsub, 1) := by decide +kernel
theorem dX2_fitAbove_58 : decode cX2_fitAbove 58 = .ok (.lreturn, 1) := by decide +kernel
theorem dX2_fitBelow_0 : decode cX2_fitBelow 0 = .ok (.lconst 0, 1) := by decide +kernel
theorem dX2_fitBelow_1 : decode cX2_fitBelow 1 = .ok (.lstore_n 3, 1) := by decide +kernel
theorem dX2_fitBelow_2 : decode cX2_fitBelow 2 = .ok (.iload_n 1, 1) := by decide +kernel
theorem dX2_fitBelow_3 : decode cX2_fitBelow 3 = .ok (.istore 5, 2) := by decide +kernel
theorem dX2_fitBelow_5 : decode cX2_fitBelow 5 = .ok (.iload 5, 2) := by decide +kernel
theorem dX2_fitBelow_7 : decode cX2_fitBelow 7 = .ok (.iload_n 2, 1) := by decide +kernel
theorem dX2_fitBelow_8 : decode cX2_fitBelow 8 = .ok (.if_icmp .gt 29, 3) := by decide +kernel
theorem dX2_fitBelow_11 : decode cX2_fitBelow 11 = .ok (.lload_n 3, 1) := by decide +kernel
theorem dX2_fitBelow_12 : decode cX2_fitBelow 12 = .ok (.aload_n 0, 1) := by decide +kernel
theorem dX2_fitBelow_13 : decode cX2_fitBelow 13 = .ok (.getfield 23, 3) := by decide +kernel
theorem dX2_fitBelow_16 : decode cX2_fitBelow 16 = .ok (.iload 5, 2) := by decide +kernel
theorem dX2_fitBelow_18 : decode cX2_fitBelow 18 = .ok (.iaload, 1) := by decide +kernel
theorem dX2_fitBelow_19 : decode cX2_fitBelow 19 = .ok (.i2l, 1) := by decide +kernel
theorem dX2_fitBelow_20 : decode cX2_fitBelow 20 = .ok (.aload_n 0, 1) := by decide +kernel
theorem dX2_fitBelow_21 : decode cX2_fitBelow 21 = .ok (.getfield 23, 3) := by decide +kernel
theorem dX2_fitBelow_24 : decode cX2_fitBelow 24 = .ok (.iload 5, 2) := by decide +kernel
theorem dX2_fitBelow_26 : decode cX2_fitBelow 26 = .ok (.iaload, 1) := by decide +kernel
theorem dX2_fitBelow_27 : decode cX2_fitBelow 27 = .ok (.i2l, 1) := by decide +kernel
theorem dX2_fitBelow_28 : decode cX2_fitBelow 28 = .ok (.lmul, 1) := by decide +kernel
theorem dX2_fitBelow_29 : decode cX2_fitBelow 29 = .ok (.ladd, 1) := by decide +kernel
theorem dX2_fitBelow_30 : decode cX2_fitBelow 30 = .ok (.lstore_n 3, 1) := by decide +kernel
theorem dX2_fitBelow_31 : decode cX2_fitBelow 31 = .ok (.iinc 5 1, 3) := by decide +kernel
theorem dX2_fitBelow_34 : decode cX2_fitBelow 34 = .ok (.goto (-29), 3) := by decide +kernel
theorem dX2_fitBelow_37 : decode cX2_fitBelow 37 = .ok (.aload_n 0, 1) := by decide +kernel
theorem dX2_fitBelow_38 : decode cX2_fitBelow 38 = .ok (.iload_n 1, 1) := by decide +kernel
theorem dX2_fitBelow_39 : decode cX2_fitBelow 39 = .ok (.iload_n 2, 1) := by decide +kernel
theorem dX2_fitBelow_40 : decode cX2_fitBelow 40 = .ok (.invokevirtual 108, 3) := by decide +kernel
theorem dX2_fitBelow_43 : decode cX2_fitBelow 43 = .ok (.lstore 5, 2) := by decide +kernel
theorem dX2_fitBelow_45 : decode cX2_fitBelow 45 = .ok (.iload_n 2, 1) := by decide +kernel
theorem dX2_fitBelow_46 : decode cX2_fitBelow 46 = .ok (.iload_n 1, 1) := by decide +kernel
theorem dX2_fitBelow_47 : decode cX2_fitBelow 47 = .ok (.isub, 1) := by decide +kernel
theorem dX2_fitBelow_48 : decode cX2_fitBelow 48 = .ok (.iconst 1, 1) := by decide +kernel
theorem dX2_fitBelow_49 : decode cX2_fitBelow 49 = .ok (.iadd, 1) := by decide +kernel
theorem dX2_fitBelow_50 : decode cX2_fitBelow 50 = .ok (.i2l, 1) := by decide +kernel
theorem dX2_fitBelow_51 : decode cX2_fitBelow 51 = .ok (.lload_n 3, 1) := by decide +kernel
theorem dX2_fitBelow_52 : decode cX2_fitBelow 52 = .ok (.lmul, 1) := by decide +kernel
theorem dX2_fitBelow_53 : decode cX2_fitBelow 53 = .ok (.lload 5, 2) := by decide +kernel
theorem dX2_fitBelow_55 : decode cX2_fitBelow 55 = .ok (.lload 5, 2) := by decide +kernel
theorem dX2_fitBelow_57 : decode cX2_fitBelow 57 = .ok (.lmul, 1) := by decide +kernel
theorem dX2_fitBelow_58 : decode cX2_fitBelow 58 = .ok (.lsub, 1) := by decide +kernel
theorem dX2_fitBelow_59 : decode cX2_fitBelow 59 = .ok (.lreturn, 1) := by decide +kernel
theorem dX2_farthest_0 : decode cX2_farthest 0 = .ok (.iload_n 2, 1) := by decide +kernel
theorem dX2_farthest_1 : decode cX2_farthest 1 = .ok (.iload_n 1, 1) := by decide +kernel
theorem dX2_farthest_2 : decode cX2_farthest 2 = .ok (.isub, 1) := by decide +kernel
theorem dX2_farthest_3 : decode cX2_farthest 3 = .ok (.iconst 1, 1) := by decide +kernel
theorem dX2_farthest_4 : decode cX2_farthest 4 = .ok (.iadd, 1) := by decide +kernel
theorem dX2_farthest_5 : decode cX2_farthest 5 = .ok (.i2l, 1) := by decide +kernel
theorem dX2_farthest_6 : decode cX2_farthest 6 = .ok (.lstore_n 3, 1) := by decide +kernel
theorem dX2_farthest_7 : decode cX2_farthest 7 = .ok (.aload_n 0, 1) := by decide +kernel
theorem dX2_farthest_8 : decode cX2_farthest 8 = .ok (.iload_n 1, 1) := by decide +kernel
theorem dX2_farthest_9 : decode cX2_farthest 9 = .ok (.iload_n 2, 1) := by decide +kernel
theorem dX2_farthest_10 : decode cX2_farthest 10 = .ok (.invokevirtual 115, 3) := by decide +kernel
theorem dX2_farthest_13 : decode cX2_farthest 13 = .ok (.lstore 5, 2) := by decide +kernel
theorem dX2_farthest_15 : decode cX2_farthest 15 = .ok (.aload_n 0, 1) := by decide +kernel
theorem dX2_farthest_16 : decode cX2_farthest 16 = .ok (.iload_n 1, 1) := by decide +kernel
theorem dX2_farthest_17 : decode cX2_farthest 17 = .ok (.iload_n 2, 1) := by decide +kernel
theorem dX2_farthest_18 : decode cX2_farthest 18 = .ok (.invokevirtual 118, 3) := by decide +kernel
theorem dX2_farthest_21 : decode cX2_farthest 21 = .ok (.lstore 7, 2) := by decide +kernel
theorem dX2_farthest_23 : decode cX2_farthest 23 = .ok (.aload_n 0, 1) := by decide +kernel
theorem dX2_farthest_24 : decode cX2_farthest 24 = .ok (.iload_n 1, 1) := by decide +kernel
theorem dX2_farthest_25 : decode cX2_farthest 25 = .ok (.iload_n 2, 1) := by decide +kernel
theorem dX2_farthest_26 : decode cX2_farthest 26 = .ok (.invokevirtual 108, 3) := by decide +kernel
theorem dX2_farthest_29 : decode cX2_farthest 29 = .ok (.lstore 9, 2) := by decide +kernel
theorem dX2_farthest_31 : decode cX2_farthest 31 = .ok (.aload_n 0, 1) := by decide +kernel
theorem dX2_farthest_32 : decode cX2_farthest 32 = .ok (.iload_n 1, 1) := by decide +kernel
theorem dX2_farthest_33 : decode cX2_farthest 33 = .ok (.iload_n 2, 1) := by decide +kernel
theorem dX2_farthest_34 : decode cX2_farthest 34 = .ok (.invokevirtual 112, 3) := by decide +kernel
theorem dX2_farthest_37 : decode cX2_farthest 37 = .ok (.lstore 11, 2) := by decide +kernel
theorem dX2_farthest_39 : decode cX2_farthest 39 = .ok (.iload_n 1, 1) := by decide +kernel
theorem dX2_farthest_40 : decode cX2_farthest 40 = .ok (.istore 13, 2) := by decide +kernel
theorem dX2_farthest_42 : decode cX2_farthest 42 = .ok (.ldc2_w 121, 3) := by decide +kernel
theorem dX2_farthest_45 : decode cX2_farthest 45 = .ok (.lstore 14, 2) := by decide +kernel
theorem dX2_farthest_47 : decode cX2_farthest 47 = .ok (.iload_n 1, 1) := by decide +kernel
theorem dX2_farthest_48 : decode cX2_farthest 48 = .ok (.istore 16, 2) := by decide +kernel
theorem dX2_farthest_50 : decode cX2_farthest 50 = .ok (.iload 16, 2) := by decide +kernel
theorem dX2_farthest_52 : decode cX2_farthest 52 = .ok (.iload_n 2, 1) := by decide +kernel
theorem dX2_farthest_53 : decode cX2_farthest 53 = .ok (.if_icmp .gt 66, 3) := by decide +kernel
theorem dX2_farthest_56 : decode cX2_farthest 56 = .ok (.lload 5, 2) := by decide +kernel
theorem dX2_farthest_58 : decode cX2_farthest 58 = .ok (.lload_n 3, 1) := by decide +kernel
theorem dX2_farthest_59 : decode cX2_farthest 59 = .ok (.aload_n 0, 1) := by decide +kernel
theorem dX2_farthest_60 : decode cX2_farthest 60 = .ok (.getfield 23, 3) := by decide +kernel
theorem dX2_farthest_63 : decode cX2_farthest 63 = .ok (.iload 16, 2) := by decide +kernel
theorem dX2_farthest_65 : decode cX2_farthest 65 = .ok (.iaload, 1) := by decide +kernel
theorem dX2_farthest_66 : decode cX2_farthest 66 = .ok (.i2l, 1) := by decide +kernel
theorem dX2_farthest_67 : decode cX2_farthest 67 = .ok (.lmul, 1) := by decide +kernel
theorem dX2_farthest_68 : decode cX2_farthest 68 = .ok (.lload 9, 2) := by decide +kernel
theorem dX2_farthest_70 : decode cX2_farthest 70 = .ok (.lsub, 1) := by decide +kernel
theorem dX2_farthest_71 : decode cX2_farthest 71 = .ok (.lmul, 1) := by decide +kernel
theorem dX2_farthest_72 : decode cX2_farthest 72 = .ok (.lstore 17, 2) := by decide +kernel
theorem dX2_farthest_74 : decode cX2_farthest 74 = .ok (.lload 7, 2) := by decide +kernel
theorem dX2_farthest_76 : decode cX2_farthest 76 = .ok (.lload_n 3, 1) := by decide +kernel
theorem dX2_farthest_77 : decode cX2_farthest 77 = .ok (.aload_n 0, 1) := by decide +kernel
theorem dX2_farthest_78 : decode cX2_farthest 78 = .ok (.getfield 9, 3) := by decide +kernel
theorem dX2_farthest_81 : decode cX2_farthest 81 = .ok (.iload 16, 2) := by decide +kernel
theorem dX2_farthest_83 : decode cX2_farthest 83 = .ok (.laload, 1) := by decide +kernel
theorem dX2_farthest_84 : decode cX2_farthest 84 = .ok (.lmul, 1) := by decide +kernel
theorem dX2_farthest_85 : decode cX2_farthest 85 = .ok (.lload 11, 2) := by decide +kernel
theorem dX2_farthest_87 : decode cX2_farthest 87 = .ok (.lsub, 1) := by decide +kernel
theorem dX2_farthest_88 : decode cX2_farthest 88 = .ok (.lmul, 1) := by decide +kernel
theorem dX2_farthest_89 : decode cX2_farthest 89 = .ok (.lload 17, 2) := by decide +kernel
theorem dX2_farthest_91 : decode cX2_farthest 91 = .ok (.lsub, 1) := by decide +kernel
theorem dX2_farthest_92 : decode cX2_farthest 92 = .ok (.invokestatic 123, 3) := by decide +kernel
theorem dX2_farthest_95 : decode cX2_farthest 95 = .ok (.lstore 19, 2) := by decide +kernel
theorem dX2_farthest_97 : decode cX2_farthest 97 = .ok (.lload 19, 2) := by decide +kernel
theorem dX2_farthest_99 : decode cX2_farthest 99 = .ok (.lload 14, 2) := by decide +kernel
theorem dX2_farthest_101 : decode cX2_farthest 101 = .ok (.lcmp, 1) := by decide +kernel
theorem dX2_farthest_102 : decode cX2_farthest 102 = .ok (.ifCond .le 11, 3) := by decide +kernel
theorem dX2_farthest_105 : decode cX2_farthest 105 = .ok (.lload 19, 2) := by decide +kernel
theorem dX2_farthest_107 : decode cX2_farthest 107 = .ok (.lstore 14, 2) := by decide +kernel
theorem dX2_farthest_109 : decode cX2_farthest 109 = .ok (.iload 16, 2) := by decide +kernel
theorem dX2_farthest_111 : decode cX2_farthest 111 = .ok (.istore 13, 2) := by decide +kernel
theorem dX2_farthest_113 : decode cX2_farthest 113 = .ok (.iinc 16 1, 3) := by decide +kernel
theorem dX2_farthest_116 : decode cX2_farthest 116 = .ok (.goto (-66), 3) := by decide +kernel
theorem dX2_farthest_119 : decode cX2_farthest 119 = .ok (.iload 13, 2) := by decide +kernel
theorem dX2_farthest_121 : decode cX2_farthest 121 = .ok (.ireturn, 1) := by decide +kernel
theorem dX3_init_0 : decode cX3_init 0 = .ok (.aload_n 0, 1) := by decide +kernel
theorem dX3_init_1 : decode cX3_init 1 = .ok (.invokespecial 3, 3) := by decide +kernel
theorem dX3_init_4 : decode cX3_init 4 = .ok (.aload_n 0, 1) := by decide +kernel
theorem dX3_init_5 : decode cX3_init 5 = .ok (.bipush 40, 2) := by decide +kernel
theorem dX3_init_7 : decode cX3_init 7 = .ok (.newarray .long, 2) := by decide +kernel
theorem dX3_init_9 : decode cX3_init 9 = .ok (.putfield 9, 3) := by decide +kernel
theorem dX3_init_12 : decode cX3_init 12 = .ok (.aload_n 0, 1) := by decide +kernel
theorem dX3_init_13 : decode cX3_init 13 = .ok (.bipush 40, 2) := by decide +kernel
theorem dX3_init_15 : decode cX3_init 15 = .ok (.newarray .double, 2) := by decide +kernel
theorem dX3_init_17 : decode cX3_init 17 = .ok (.putfield 15, 3) := by decide +kernel
theorem dX3_init_20 : decode cX3_init 20 = .ok (.aload_n 0, 1) := by decide +kernel
theorem dX3_init_21 : decode cX3_init 21 = .ok (.bipush 40, 2) := by decide +kernel
theorem dX3_init_23 : decode cX3_init 23 = .ok (.newarray .boolean, 2) := by decide +kernel
theorem dX3_init_25 : decode cX3_init 25 = .ok (.putfield 19, 3) := by decide +kernel
theorem dX3_init_28 : decode cX3_init 28 = .ok (.aload_n 0, 1) := by decide +kernel
theorem dX3_init_29 : decode cX3_init 29 = .ok (.iconst (-1), 1) := by decide +kernel
theorem dX3_init_30 : decode cX3_init 30 = .ok (.putfield 23, 3) := by decide +kernel
theorem dX3_init_33 : decode cX3_init 33 = .ok (.aload_n 0, 1) := by decide +kernel
theorem dX3_init_34 : decode cX3_init 34 = .ok (.iconst 0, 1) := by decide +kernel
theorem dX3_init_35 : decode cX3_init 35 = .ok (.putfield 27, 3) := by decide +kernel
theorem dX3_init_38 : decode cX3_init 38 = .ok (.return_, 1) := by decide +kernel
theorem dX3_isLost_0 : decode cX3_isLost 0 = .ok (.aload_n 0, 1) := by decide +kernel
theorem dX3_isLost_1 : decode cX3_isLost 1 = .ok (.getfield 23, 3) := by decide +kernel
theorem dX3_isLost_4 : decode cX3_isLost 4 = .ok (.iconst (-1), 1) := by decide +kernel
theorem dX3_isLost_5 : decode cX3_isLost 5 = .ok (.if_icmp .ne 7, 3) := by decide +kernel
theorem dX3_isLost_8 : decode cX3_isLost 8 = .ok (.iconst 1, 1) := by decide +kernel
theorem dX3_isLost_9 : decode cX3_isLost 9 = .ok (.goto 4, 3) := by decide +kernel
theorem dX3_isLost_12 : decode cX3_isLost 12 = .ok (.iconst 0, 1) := by decide +kernel
theorem dX3_isLost_13 : decode cX3_isLost 13 = .ok (.ireturn, 1) := by decide +kernel
theorem dX3_holdsReals_0 : decode cX3_holdsReals 0 = .ok (.aload_n 0, 1) := by decide +kernel
theorem dX3_holdsReals_1 : decode cX3_holdsReals 1 = .ok (.getfield 23, 3) := by decide +kernel
theorem dX3_holdsReals_4 : decode cX3_holdsReals 4 = .ok (.iconst 2, 1) := by decide +kernel
theorem dX3_holdsReals_5 : decode cX3_holdsReals 5 = .ok (.if_icmp .eq 11, 3) := by decide +kernel
theorem dX3_holdsReals_8 : decode cX3_holdsReals 8 = .ok (.aload_n 0, 1) := by decide +kernel
theorem dX3_holdsReals_9 : decode cX3_holdsReals 9 = .ok (.getfield 23, 3) := by decide +kernel
theorem dX3_holdsReals_12 : decode cX3_holdsReals 12 = .ok (.iconst 3, 1) := by decide +kernel
theorem dX3_holdsReals_13 : decode cX3_holdsReals 13 = .ok (.if_icmp .ne 7, 3) := by decide +kernel
theorem dX3_holdsReals_16 : decode cX3_holdsReals 16 = .ok (.iconst 1, 1) := by decide +kernel
theorem dX3_holdsReals_17 : decode cX3_holdsReals 17 = .ok (.goto 4, 3) := by decide +kernel
theorem dX3_holdsReals_20 : decode cX3_holdsReals 20 = .ok (.iconst 0, 1) := by decide +kernel
theorem dX3_holdsReals_21 : decode cX3_holdsReals 21 = .ok (.ireturn, 1) := by decide +kernel
theorem dX3_has_0 : decode cX3_has 0 = .ok (.iload_n 1, 1) := by decide +kernel
theorem dX3_has_1 : decode cX3_has 1 = .ok (.ifCond .lt 15, 3) := by decide +kernel
theorem dX3_has_4 : decode cX3_has 4 = .ok (.iload_n 1, 1) := by decide +kernel
theorem dX3_has_5 : decode cX3_has 5 = .ok (.aload_n 0, 1) := by decide +kernel
theorem dX3_has_6 : decode cX3_has 6 = .ok (.getfield 27, 3) := by decide +kernel
theorem dX3_has_9 : decode cX3_has 9 = .ok (.if_icmp .ge 7, 3) := by decide +kernel
theorem dX3_has_12 : decode cX3_has 12 = .ok (.iconst 1, 1) := by decide +kernel
theorem dX3_has_13 : decode cX3_has 13 = .ok (.goto 4, 3) := by decide +kernel
theorem dX3_has_16 : decode cX3_has 16 = .ok (.iconst 0, 1) := by decide +kernel
theorem dX3_has_17 : decode cX3_has 17 = .ok (.ireturn, 1) := by decide +kernel
theorem dX3_hasRange_0 : decode cX3_hasRange 0 = .ok (.iload_n 1, 1) := by decide +kernel
theorem dX3_hasRange_1 : decode cX3_hasRange 1 = .ok (.ifCond .lt 29, 3) := by decide +kernel
theorem dX3_hasRange_4 : decode cX3_hasRange 4 = .ok (.iload_n 2, 1) := by decide +kernel
theorem dX3_hasRange_5 : decode cX3_hasRange 5 = .ok (.ifCond .lt 25, 3) := by decide +kernel
theorem dX3_hasRange_8 : decode cX3_hasRange 8 = .ok (.iload_n 1, 1) := by decide +kernel
theorem dX3_hasRange_9 : decode cX3_hasRange 9 = .ok (.aload_n 0, 1) := by decide +kernel
theorem dX3_hasRange_10 : decode cX3_hasRange 10 = .ok (.getfield 27, 3) := by decide +kernel
theorem dX3_hasRange_13 : decode cX3_hasRange 13 = .ok (.if_icmp .gt 17, 3) := by decide +kernel
theorem dX3_hasRange_16 : decode cX3_hasRange 16 = .ok (.iload_n 2, 1) := by decide +kernel
theorem dX3_hasRange_17 : decode cX3_hasRange 17 = .ok (.aload_n 0, 1) := by decide +kernel
theorem dX3_hasRange_18 : decode cX3_hasRange 18 = .ok (.getfield 27, 3) := by decide +kernel
theorem dX3_hasRange_21 : decode cX3_hasRange 21 = .ok (.iload_n 1, 1) := by decide +kernel
theorem dX3_hasRange_22 : decode cX3_hasRange 22 = .ok (.isub, 1) := by decide +kernel
theorem dX3_hasRange_23 : decode cX3_hasRange 23 = .ok (.if_icmp .gt 7, 3) := by decide +kernel
theorem dX3_hasRange_26 : decode cX3_hasRange 26 = .ok (.iconst 1, 1) := by decide +kernel
theorem dX3_hasRange_27 : decode cX3_hasRange 27 = .ok (.goto 4, 3) := by decide +kernel
theorem dX3_hasRange_30 : decode cX3_hasRange 30 = .ok (.iconst 0, 1) := by decide +kernel
theorem dX3_hasRange_31 : decode cX3_hasRange 31 = .ok (.ireturn, 1) := by decide +kernel
theorem dX3_begin_0 : decode cX3_begin 0 = .ok (.aload_n 0, 1) := by decide +kernel
theorem dX3_begin_1 : decode cX3_begin 1 = .ok (.iload_n 1, 1) := by decide +kernel
theorem dX3_begin_2 : decode cX3_begin 2 = .ok (.putfield 23, 3) := by decide +kernel
theorem dX3_begin_5 : decode cX3_begin 5 = .ok (.aload_n 0, 1) := by decide +kernel
theorem dX3_begin_6 : decode cX3_begin 6 = .ok (.iload_n 2, 1) := by decide +kernel
theorem dX3_begin_7 : decode cX3_begin 7 = .ok (.putfield 27, 3) := by decide +kernel
theorem dX3_begin_10 : decode cX3_begin 10 = .ok (.iconst 0, 1) := by decide +kernel
theorem dX3_begin_11 : decode cX3_begin 11 = .ok (.istore_n 3, 1) := by decide +kernel
theorem dX3_begin_12 : decode cX3_begin 12 = .ok (.iload_n 3, 1) := by decide +kernel
theorem dX3_begin_13 : decode cX3_begin 13 = .ok (.bipush 40, 2) := by decide +kernel
theorem dX3_begin_15 : decode cX3_begin 15 = .ok (.if_icmp .ge 30, 3) := by decide +kernel
theorem dX3_begin_18 : decode cX3_begin 18 = .ok (.aload_n 0, 1) := by decide +kernel
theorem dX3_begin_19 : decode cX3_begin 19 = .ok (.getfield 9, 3) := by decide +kernel
theorem dX3_begin_22 : decode cX3_begin 22 = .ok (.iload_n 3, 1) := by decide +kernel
theorem dX3_begin_23 : decode cX3_begin 23 = .ok (.lconst 0, 1) := by decide +kernel
theorem dX3_begin_24 : decode cX3_begin 24 = .ok (.lastore, 1) := by decide +kernel
theorem dX3_begin_25 : decode cX3_begin 25 = .ok (.aload_n 0, 1) := by decide +kernel
theorem dX3_begin_26 : decode cX3_begin 26 = .ok (.getfield 15, 3) := by decide +kernel
theorem dX3_begin_29 : decode cX3_begin 29 = .ok (.iload_n 3, 1) := by decide +kernel
theorem dX3_begin_30 : decode cX3_begin 30 = .ok (.dconst 0, 1) := by decide +kernel
theorem dX3_begin_31 : decode cX3_begin 31 = .ok (.dastore, 1) := by decide +kernel
theorem dX3_begin_32 : decode cX3_begin 32 = .ok (.aload_n 0, 1) := by decide +kernel
theorem dX3_begin_33 : decode cX3_begin 33 = .ok (.getfield 19, 3) := by decide +kernel
theorem dX3_begin_36 : decode cX3_begin 36 = .ok (.iload_n 3, 1) := by decide +kernel
theorem dX3_begin_37 : decode cX3_begin 37 = .ok (.iconst 0, 1) := by decide +kernel
theorem dX3_begin_38 : decode cX3_begin 38 = .ok (.bastore, 1) := by decide +kernel
theorem dX3_begin_39 : decode cX3_begin 39 = .ok (.iinc 3 1, 3) := by decide +kernel
theorem dX3_begin_42 : decode cX3_begin 42 = .ok (.goto (-30), 3) := by decide +kernel
theorem dX3_begin_45 : decode cX3_begin 45 = .ok (.return_, 1) := by decide +kernel
theorem dX3_store_0 : decode cX3_store 0 = .ok (.aload_n 0, 1) := by decide +kernel
theorem dX3_store_1 : decode cX3_store 1 = .ok (.getfield 19, 3) := by decide +kernel
theorem dX3_store_4 : decode cX3_store 4 = .ok (.iload_n 1, 1) := by decide +kernel
theorem dX3_store_5 : decode cX3_store 5 = .ok (.iconst 0, 1) := by decide +kernel
theorem dX3_store_6 : decode cX3_store 6 = .ok (.bastore, 1) := by decide +kernel
theorem dX3_store_7 : decode cX3_store 7 = .ok (.aload_n 0, 1) := by decide +kernel
theorem dX3_store_8 : decode cX3_store 8 = .ok (.getfield 23, 3) := by decide +kernel
theorem dX3_store_11 : decode cX3_store 11 = .ok (.tableswitch 66 0 2 #[25, 36, 51], 25) := by decide +kernel
theorem dX3_store_36 : decode cX3_store 36 = .ok (.aload_n 0, 1) := by decide +kernel
theorem dX3_store_37 : decode cX3_store 37 = .ok (.getfield 9, 3) := by decide +kernel
theorem dX3_store_40 : decode cX3_store 40 = .ok (.iload_n 1, 1) := by decide +kernel
theorem dX3_store_41 : decode cX3_store 41 = .ok (.iload_n 2, 1) := by decide +kernel
theorem dX3_store_42 : decode cX3_store 42 = .ok (.i2l, 1) := by decide +kernel
theorem dX3_store_43 : decode cX3_store 43 = .ok (.lastore, 1) := by decide +kernel
theorem dX3_store_44 : decode cX3_store 44 = .ok (.goto 45, 3) := by decide +kernel
theorem dX3_store_47 : decode cX3_store 47 = .ok (.aload_n 0, 1) := by decide +kernel
theorem dX3_store_48 : decode cX3_store 48 = .ok (.getfield 9, 3) := by decide +kernel
theorem dX3_store_51 : decode cX3_store 51 = .ok (.iload_n 1, 1) := by decide +kernel
theorem dX3_store_52 : decode cX3_store 52 = .ok (.iload_n 2, 1) := by decide +kernel
theorem dX3_store_53 : decode cX3_store 53 = .ok (.i2l, 1) := by decide +kernel
theorem dX3_store_54 : decode cX3_store 54 = .ok (.ldc2_w 30, 3) := by decide +kernel
theorem dX3_store_57 : decode cX3_store 57 = .ok (.lmul, 1) := by decide +kernel
theorem dX3_store_58 : decode cX3_store 58 = .ok (.lastore, 1) := by decide +kernel
theorem dX3_store_59 : decode cX3_store 59 = .ok (.goto 30, 3) := by decide +kernel
theorem dX3_store_62 : decode cX3_store 62 = .ok (.aload_n 0, 1) := by decide +kernel
theorem dX3_store_63 : decode cX3_store 63 = .ok (.getfield 15, 3) := by decide +kernel
theorem dX3_store_66 : decode cX3_store 66 = .ok (.iload_n 1, 1) := by decide +kernel
theorem dX3_store_67 : decode cX3_store 67 = .ok (.iload_n 2, 1) := by decide +kernel
theorem dX3_store_68 : decode cX3_store 68 = .ok (.i2f, 1) := by decide +kernel
theorem dX3_store_69 : decode cX3_store 69 = .ok (.ldc 32, 2) := by decide +kernel
theorem dX3_store_71 : decode cX3_store 71 = .ok (.fdiv, 1) := by decide +kernel
theorem dX3_store_72 : decode cX3_store 72 = .ok (.f2d, 1) := by decide +kernel
theorem dX3_store_73 : decode cX3_store 73 = .ok (.dastore, 1) := by decide +kernel
theorem dX3_store_74 : decode cX3_store 74 = .ok (.goto 15, 3) := by decide +kernel
theorem dX3_store_77 : decode cX3_store 77 = .ok (.aload_n 0, 1) := by decide +kernel
theorem dX3_store_78 : decode cX3_store 78 = .ok (.getfield 15, 3) := by decide +kernel
theorem dX3_store_81 : decode cX3_store 81 = .ok (.iload_n 1, 1) := by decide +kernel
theorem dX3_store_82 : decode cX3_store 82 = .ok (.iload_n 2, 1) := by decide +kernel
theorem dX3_store_83 : decode cX3_store 83 = .ok (.i2d, 1) := by decide +kernel
theorem dX3_store_84 : decode cX3_store 84 = .ok (.ldc2_w 33, 3) := by decide +kernel
theorem dX3_store_87 : decode cX3_store 87 = .ok (.ddiv, 1) := by decide +kernel
theorem dX3_store_88 : decode cX3_store 88 = .ok (.dastore, 1) := by decide +kernel
theorem dX3_store_89 : decode cX3_store 89 = .ok (.return_, 1) := by decide +kernel
theorem dX3_told_0 : decode cX3_told 0 = .ok (.aload_n 0, 1) := by decide +kernel
theorem dX3_told_1 : decode cX3_told 1 = .ok (.invokevirtual 35, 3) := by decide +kernel
theorem dX3_told_4 : decode cX3_told 4 = .ok (.ifCond .eq 17, 3) := by decide +kernel
theorem dX3_told_7 : decode cX3_told 7 = .ok (.ldc2_w 33, 3) := by decide +kernel
theorem dX3_told_10 : decode cX3_told 10 = .ok (.aload_n 0, 1) := by decide +kernel
theorem dX3_told_11 : decode cX3_told 11 = .ok (.getfield 15, 3) := by decide +kernel
theorem dX3_told_14 : decode cX3_told 14 = .ok (.iload_n 1, 1) := by decide +kernel
theorem dX3_told_15 : decode cX3_told 15 = .ok (.daload, 1) := by decide +kernel
theorem dX3_told_16 : decode cX3_told 16 = .ok (.dmul, 1) := by decide +kernel
theorem dX3_told_17 : decode cX3_told 17 = .ok (.d2l, 1) := by decide +kernel
theorem dX3_told_18 : decode cX3_told 18 = .ok (.goto 9, 3) := by decide +kernel
theorem dX3_told_21 : decode cX3_told 21 = .ok (.aload_n 0, 1) := by decide +kernel
theorem dX3_told_22 : decode cX3_told 22 = .ok (.getfield 9, 3) := by decide +kernel
theorem dX3_told_25 : decode cX3_told 25 = .ok (.iload_n 1, 1) := by decide +kernel
theorem dX3_told_26 : decode cX3_told 26 = .ok (.laload, 1) := by decide +kernel
theorem dX3_told_27 : decode cX3_told 27 = .ok (.lreturn, 1) := by decide +kernel
theorem dX3_take_0 : decode cX3_take 0 = .ok (.iconst 0, 1) := by decide +kernel
theorem dX3_take_1 : decode cX3_take 1 = .ok (.istore 5, 2) := by decide +kernel
theorem dX3_take_3 : decode cX3_take 3 = .ok (.iload 5, 2) := by decide +kernel
theorem dX3_take_5 : decode cX3_take 5 = .ok (.iload 4, 2) := by decide +kernel
theorem dX3_take_7 : decode cX3_take 7 = .ok (.if_icmp .ge 82, 3) := by decide +kernel
theorem dX3_take_10 : decode cX3_take 10 = .ok (.iload_n 2, 1) := by decide +kernel
theorem dX3_take_11 : decode cX3_take 11 = .ok (.iload_n 3, 1) := by decide +kernel
theorem dX3_take_12 : decode cX3_take 12 = .ok (.if_icmp .ge 13, 3) := by decide +kernel
theorem dX3_take_15 : decode cX3_take 15 = .ok (.iload 4, 2) := by decide +kernel
theorem dX3_take_17 : decode cX3_take 17 = .ok (.iconst 1, 1) := by decide +kernel
theorem dX3_take_18 : decode cX3_take 18 = .ok (.isub, 1) := by decide +kernel
theorem dX3_take_19 : decode cX3_take 19 = .ok (.iload 5, 2) := by decide +kernel
theorem dX3_take_21 : decode cX3_take 21 = .ok (.isub, 1) := by decide +kernel
theorem dX3_take_22 : decode cX3_take 22 = .ok (.goto 5, 3) := by decide +kernel
theorem dX3_take_25 : decode cX3_take 25 = .ok (.iload 5, 2) := by decide +kernel
theorem dX3_take_27 : decode cX3_take 27 = .ok (.istore 6, 2) := by decide +kernel
theorem dX3_take_29 : decode cX3_take 29 = .ok (.aload_n 0, 1) := by decide +kernel
theorem dX3_take_30 : decode cX3_take 30 = .ok (.getfield 9, 3) := by decide +kernel
theorem dX3_take_33 : decode cX3_take 33 = .ok (.iload_n 3, 1) := by decide +kernel
theorem dX3_take_34 : decode cX3_take 34 = .ok (.iload 6, 2) := by decide +kernel
theorem dX3_take_36 : decode cX3_take 36 = .ok (.iadd, 1) := by decide +kernel
theorem dX3_take_37 : decode cX3_take 37 = .ok (.aload_n 1, 1) := by decide +kernel
theorem dX3_take_38 : decode cX3_take 38 = .ok (.getfield 9, 3) := by decide +kernel
theorem dX3_take_41 : decode cX3_take 41 = .ok (.iload_n 2, 1) := by decide +kernel
theorem dX3_take_42 : decode cX3_take 42 = .ok (.iload 6, 2) := by decide +kernel
theorem dX3_take_44 : decode cX3_take 44 = .ok (.iadd, 1) := by decide +kernel
theorem dX3_take_45 : decode cX3_take 45 = .ok (.laload, 1) := by decide +kernel
theorem dX3_take_46 : decode cX3_take 46 = .ok (.lastore, 1) := by decide +kernel
theorem dX3_take_47 : decode cX3_take 47 = .ok (.aload_n 0, 1) := by decide +kernel
theorem dX3_take_48 : decode cX3_take 48 = .ok (.getfield 15, 3) := by decide +kernel
theorem dX3_take_51 : decode cX3_take 51 = .ok (.iload_n 3, 1) := by decide +kernel
theorem dX3_take_52 : decode cX3_take 52 = .ok (.iload 6, 2) := by decide +kernel
theorem dX3_take_54 : decode cX3_take 54 = .ok (.iadd, 1) := by decide +kernel
theorem dX3_take_55 : decode cX3_take 55 = .ok (.aload_n 1, 1) := by decide +kernel
theorem dX3_take_56 : decode cX3_take 56 = .ok (.getfield 15, 3) := by decide +kernel
theorem dX3_take_59 : decode cX3_take 59 = .ok (.iload_n 2, 1) := by decide +kernel
theorem dX3_take_60 : decode cX3_take 60 = .ok (.iload 6, 2) := by decide +kernel
theorem dX3_take_62 : decode cX3_take 62 = .ok (.iadd, 1) := by decide +kernel
theorem dX3_take_63 : decode cX3_take 63 = .ok (.daload, 1) := by decide +kernel
theorem dX3_take_64 : decode cX3_take 64 = .ok (.dastore, 1) := by decide +kernel
theorem dX3_take_65 : decode cX3_take 65 = .ok (.aload_n 0, 1) := by decide +kernel
theorem dX3_take_66 : decode cX3_take 66 = .ok (.getfield 19, 3) := by decide +kernel
theorem dX3_take_69 : decode cX3_take 69 = .ok (.iload_n 3, 1) := by decide +kernel
theorem dX3_take_70 : decode cX3_take 70 = .ok (.iload 6, 2) := by decide +kernel
theorem dX3_take_72 : decode cX3_take 72 = .ok (.iadd, 1) := by decide +kernel
theorem dX3_take_73 : decode cX3_take 73 = .ok (.aload_n 1, 1) := by decide +kernel
theorem dX3_take_74 : decode cX3_take 74 = .ok (.getfield 19, 3) := by decide +kernel
theorem dX3_take_77 : decode cX3_take 77 = .ok (.iload_n 2, 1) := by decide +kernel
theorem dX3_take_78 : decode cX3_take 78 = .ok (.iload 6, 2) := by decide +kernel
theorem dX3_take_80 : decode cX3_take 80 = .ok (.iadd, 1) := by decide +kernel
theorem dX3_take_81 : decode cX3_take 81 = .ok (.baload, 1) := by decide +kernel
theorem dX3_take_82 : decode cX3_take 82 = .ok (.bastore, 1) := by decide +kernel
theorem dX3_take_83 : decode cX3_take 83 = .ok (.iinc 5 1, 3) := by decide +kernel
theorem dX3_take_86 : decode cX3_take 86 = .ok (.goto (-83), 3) := by decide +kernel
theorem dX3_take_89 : decode cX3_take 89 = .ok (.return_, 1) := by decide +kernel
theorem dX3_countNoNumbers_0 : decode cX3_countNoNumbers 0 = .ok (.iconst 0, 1) := by decide +kernel
theorem dX3_countNoNumbers_1 : decode cX3_countNoNumbers 1 = .ok (.istore_n 1, 1) := by decide +kernel
theorem dX3_countNoNumbers_2 : decode cX3_countNoNumbers 2 = .ok (.iconst 0, 1) := by decide +kernel
theorem dX3_countNoNumbers_3 : decode cX3_countNoNumbers 3 = .ok (.istore_n 2, 1) := by decide +kernel
theorem dX3_countNoNumbers_4 : decode cX3_countNoNumbers 4 = .ok (.iload_n 2, 1) := by decide +kernel
theorem dX3_countNoNumbers_5 : decode cX3_countNoNumbers 5 = .ok (.aload_n 0, 1) := by decide +kernel
theorem dX3_countNoNumbers_6 : decode cX3_countNoNumbers 6 = .ok (.getfield 27, 3) := by decide +kernel
theorem dX3_countNoNumbers_9 : decode cX3_countNoNumbers 9 = .ok (.if_icmp .ge 21, 3) := by decide +kernel
theorem dX3_countNoNumbers_12 : decode cX3_countNoNumbers 12 = .ok (.aload_n 0, 1) := by decide +kernel
theorem dX3_countNoNumbers_13 : decode cX3_countNoNumbers 13 = .ok (.getfield 19, 3) := by decide +kernel
theorem dX3_countNoNumbers_16 : decode cX3_countNoNumbers 16 = .ok (.iload_n 2, 1) := by decide +kernel
theorem dX3_countNoNumbers_17 : decode cX3_countNoNumbers 17 = .ok (.baload, 1) := by decide +kernel
theorem dX3_countNoNumbers_18 : decode cX3_countNoNumbers 18 = .ok (.ifCond .eq 6, 3) := by decide +kernel
theorem dX3_countNoNumbers_21 : decode cX3_countNoNumbers 21 = .ok (.iinc 1 1, 3) := by decide +kernel
theorem dX3_countNoNumbers_24 : decode cX3_countNoNumbers 24 = .ok (.iinc 2 1, 3) := by decide +kernel
theorem dX3_countNoNumbers_27 : decode cX3_countNoNumbers 27 = .ok (.goto (-23), 3) := by decide +kernel
theorem dX3_countNoNumbers_30 : decode cX3_countNoNumbers 30 = .ok (.iload_n 1, 1) := by decide +kernel
theorem dX3_countNoNumbers_31 : decode cX3_countNoNumbers 31 = .ok (.ireturn, 1) := by decide +kernel
theorem dX3_extreme_0 : decode cX3_extreme 0 = .ok (.iconst (-1), 1) := by decide +kernel
theorem dX3_extreme_1 : decode cX3_extreme 1 = .ok (.istore_n 2, 1) := by decide +kernel
theorem dX3_extreme_2 : decode cX3_extreme 2 = .ok (.iconst 0, 1) := by decide +kernel
theorem dX3_extreme_3 : decode cX3_extreme 3 = .ok (.istore_n 3, 1) := by decide +kernel
theorem dX3_extreme_4 : decode cX3_extreme 4 = .ok (.iload_n 3, 1) := by decide +kernel
theorem dX3_extreme_5 : decode cX3_extreme 5 = .ok (.aload_n 0, 1) := by decide +kernel
theorem dX3_extreme_6 : decode cX3_extreme 6 = .ok (.getfield 27, 3) := by decide +kernel
theorem dX3_extreme_9 : decode cX3_extreme 9 = .ok (.if_icmp .ge 44, 3) := by decide +kernel
theorem dX3_extreme_12 : decode cX3_extreme 12 = .ok (.aload_n 0, 1) := by decide +kernel
theorem dX3_extreme_13 : decode cX3_extreme 13 = .ok (.getfield 19, 3) := by decide +kernel
theorem dX3_extreme_16 : decode cX3_extreme 16 = .ok (.iload_n 3, 1) := by decide +kernel
theorem dX3_extreme_17 : decode cX3_extreme 17 = .ok (.baload, 1) := by decide +kernel
theorem dX3_extreme_18 : decode cX3_extreme 18 = .ok (.ifCond .ne 29, 3) := by decide +kernel
theorem dX3_extreme_21 : decode cX3_extreme 21 = .ok (.iload_n 2, 1) := by decide +kernel
theorem dX3_extreme_22 : decode cX3_extreme 22 = .ok (.iconst (-1), 1) := by decide +kernel
theorem dX3_extreme_23 : decode cX3_extreme 23 = .ok (.if_icmp .eq 22, 3) := by decide +kernel
theorem dX3_extreme_26 : decode cX3_extreme 26 = .ok (.aload_n 0, 1) := by decide +kernel
theorem dX3_extreme_27 : decode cX3_extreme 27 = .ok (.getfield 15, 3) := by decide +kernel
theorem dX3_extreme_30 : decode cX3_extreme 30 = .ok (.iload_n 3, 1) := by decide +kernel
theorem dX3_extreme_31 : decode cX3_extreme 31 = .ok (.daload, 1) := by decide +kernel
theorem dX3_extreme_32 : decode cX3_extreme 32 = .ok (.aload_n 0, 1) := by decide +kernel
theorem dX3_extreme_33 : decode cX3_extreme 33 = .ok (.getfield 15, 3) := by decide +kernel
theorem dX3_extreme_36 : decode cX3_extreme 36 = .ok (.iload_n 2, 1) := by decide +kernel
theorem dX3_extreme_37 : decode cX3_extreme 37 = .ok (.daload, 1) := by decide +kernel
theorem dX3_extreme_38 : decode cX3_extreme 38 = .ok (.iload_n 1, 1) := by decide +kernel
theorem dX3_extreme_39 : decode cX3_extreme 39 = .ok (.invokestatic 39, 3) := by decide +kernel
theorem dX3_extreme_42 : decode cX3_extreme 42 = .ok (.ifCond .eq 5, 3) := by decide +kernel
theorem dX3_extreme_45 : decode cX3_extreme 45 = .ok (.iload_n 3, 1) := by decide +kernel
theorem dX3_extreme_46 : decode cX3_extreme 46 = .ok (.istore_n 2, 1) := by decide +kernel
theorem dX3_extreme_47 : decode cX3_extreme 47 = .ok (.iinc 3 1, 3) := by decide +kernel
theorem dX3_extreme_50 : decode cX3_extreme 50 = .ok (.goto (-46), 3) := by decide +kernel
theorem dX3_extreme_53 : decode cX3_extreme 53 = .ok (.iload_n 2, 1) := by decide +kernel
theorem dX3_extreme_54 : decode cX3_extreme 54 = .ok (.ireturn, 1) := by decide +kernel
theorem dX3_isBeyond_0 : decode cX3_isBeyond 0 = .ok (.iload 4, 2) := by decide +kernel
theorem dX3_isBeyond_2 : decode cX3_isBeyond 2 = .ok (.ifCond .eq 17, 3) := by decide +kernel
theorem dX3_isBeyond_5 : decode cX3_isBeyond 5 = .ok (.dload_n 0, 1) := by decide +kernel
theorem dX3_isBeyond_6 : decode cX3_isBeyond 6 = .ok (.dload_n 2, 1) := by decide +kernel
theorem dX3_isBeyond_7 : decode cX3_isBeyond 7 = .ok (.dcmp .l, 1) := by decide +kernel
theorem dX3_isBeyond_8 : decode cX3_isBeyond 8 = .ok (.ifCond .le 7, 3) := by decide +kernel
theorem dX3_isBeyond_11 : decode cX3_isBeyond 11 = .ok (.iconst 1, 1) := by decide +kernel
theorem dX3_isBeyond_12 : decode cX3_isBeyond 12 = .ok (.goto 18, 3) := by decide +kernel
theorem dX3_isBeyond_15 : decode cX3_isBeyond 15 = .ok (.iconst 0, 1) := by decide +kernel
theorem dX3_isBeyond_16 : decode cX3_isBeyond 16 = .ok (.goto 14, 3) := by decide +kernel
theorem dX3_isBeyond_19 : decode cX3_isBeyond 19 = .ok (.dload_n 0, 1) := by decide +kernel
theorem dX3_isBeyond_20 : decode cX3_isBeyond 20 = .ok (.dload_n 2, 1) := by decide +kernel
theorem dX3_isBeyond_21 : decode cX3_isBeyond 21 = .ok (.dcmp .g, 1) := by decide +kernel
theorem dX3_isBeyond_22 : decode cX3_isBeyond 22 = .ok (.ifCond .ge 7, 3) := by decide +kernel
theorem dX3_isBeyond_25 : decode cX3_isBeyond 25 = .ok (.iconst 1, 1) := by decide +kernel
theorem dX3_isBeyond_26 : decode cX3_isBeyond 26 = .ok (.goto 4, 3) := by decide +kernel
theorem dX3_isBeyond_29 : decode cX3_isBeyond 29 = .ok (.iconst 0, 1) := by decide +kernel
theorem dX3_isBeyond_30 : decode cX3_isBeyond 30 = .ok (.ireturn, 1) := by decide +kernel
theorem dX4_init_0 : decode cX4_init 0 = .ok (.aload_n 0, 1) := by decide +kernel
theorem dX4_init_1 : decode cX4_init 1 = .ok (.invokespecial 3, 3) := by decide +kernel
theorem dX4_init_4 : decode cX4_init 4 = .ok (.aload_n 0, 1) := by decide +kernel
theorem dX4_init_5 : decode cX4_init 5 = .ok (.bipush 16, 2) := by decide +kernel
theorem dX4_init_7 : decode cX4_init 7 = .ok (.newarray .long, 2) := by decide +kernel
theorem dX4_init_9 : decode cX4_init 9 = .ok (.putfield 9, 3) := by decide +kernel
theorem dX4_init_12 : decode cX4_init 12 = .ok (.aload_n 0, 1) := by decide +kernel
theorem dX4_init_13 : decode cX4_init 13 = .ok (.bipush 16, 2) := by decide +kernel
theorem dX4_init_15 : decode cX4_init 15 = .ok (.newarray .long, 2) := by decide +kernel
theorem dX4_init_17 : decode cX4_init 17 = .ok (.putfield 15, 3) := by decide +kernel
theorem dX4_init_20 : decode cX4_init 20 = .ok (.aload_n 0, 1) := by decide +kernel
theorem dX4_init_21 : decode cX4_init 21 = .ok (.bipush 15, 2) := by decide +kernel
theorem dX4_init_23 : decode cX4_init 23 = .ok (.newarray .int, 2) := by decide +kernel
theorem dX4_init_25 : decode cX4_init 25 = .ok (.putfield 18, 3) := by decide +kernel
theorem dX4_init_28 : decode cX4_init 28 = .ok (.aload_n 0, 1) := by decide +kernel
theorem dX4_init_29 : decode cX4_init 29 = .ok (.iconst 0, 1) := by decide +kernel
theorem dX4_init_30 : decode cX4_init 30 = .ok (.putfield 22, 3) := by decide +kernel
theorem dX4_init_33 : decode cX4_init 33 = .ok (.return_, 1) := by decide +kernel
theorem dX4_renewSums_0 : decode cX4_renewSums 0 = .ok (.aload_n 0, 1) := by decide +kernel
theorem dX4_renewSums_1 : decode cX4_renewSums 1 = .ok (.iconst 0, 1) := by decide +kernel
theorem dX4_renewSums_2 : decode cX4_renewSums 2 = .ok (.bipush 15, 2) := by decide +kernel
theorem dX4_renewSums_4 : decode cX4_renewSums 4 = .ok (.aload_n 1, 1) := by decide +kernel
theorem dX4_renewSums_5 : decode cX4_renewSums 5 = .ok (.getfield 26, 3) := by decide +kernel
theorem dX4_renewSums_8 : decode cX4_renewSums 8 = .ok (.iconst 1, 1) := by decide +kernel
theorem dX4_renewSums_9 : decode cX4_renewSums 9 = .ok (.isub, 1) := by decide +kernel
theorem dX4_renewSums_10 : decode cX4_renewSums 10 = .ok (.iconst 2, 1) := by decide +kernel
theorem dX4_renewSums_11 : decode cX4_renewSums 11 = .ok (.idiv, 1) := by decide +kernel
theorem dX4_renewSums_12 : decode cX4_renewSums 12 = .ok (.invokestatic 29, 3) := by decide +kernel
theorem dX4_renewSums_15 : decode cX4_renewSums 15 = .ok (.invokestatic 35, 3) := by decide +kernel
theorem dX4_renewSums_18 : decode cX4_renewSums 18 = .ok (.putfield 22, 3) := by decide +kernel
theorem dX4_renewSums_21 : decode cX4_renewSums 21 = .ok (.iconst 1, 1) := by decide +kernel
theorem dX4_renewSums_22 : decode cX4_renewSums 22 = .ok (.istore_n 2, 1) := by decide +kernel
theorem dX4_renewSums_23 : decode cX4_renewSums 23 = .ok (.iload_n 2, 1) := by decide +kernel
theorem dX4_renewSums_24 : decode cX4_renewSums 24 = .ok (.aload_n 0, 1) := by decide +kernel
theorem dX4_renewSums_25 : decode cX4_renewSums 25 = .ok (.getfield 22, 3) := by decide +kernel
theorem dX4_renewSums_28 : decode cX4_renewSums 28 = .ok (.if_icmp .gt 52, 3) := by decide +kernel
theorem dX4_renewSums_31 : decode cX4_renewSums 31 = .ok (.aload_n 1, 1) := by decide +kernel
theorem dX4_renewSums_32 : decode cX4_renewSums 32 = .ok (.getfield 26, 3) := by decide +kernel
theorem dX4_renewSums_35 : decode cX4_renewSums 35 = .ok (.iconst 2, 1) := by decide +kernel
theorem dX4_renewSums_36 : decode cX4_renewSums 36 = .ok (.iload_n 2, 1) := by decide +kernel
theorem dX4_renewSums_37 : decode cX4_renewSums 37 = .ok (.imul, 1) := by decide +kernel
theorem dX4_renewSums_38 : decode cX4_renewSums 38 = .ok (.isub, 1) := by decide +kernel
theorem dX4_renewSums_39 : decode cX4_renewSums 39 = .ok (.istore_n 3, 1) := by decide +kernel
theorem dX4_renewSums_40 : decode cX4_renewSums 40 = .ok (.aload_n 0, 1) := by decide +kernel
theorem dX4_renewSums_41 : decode cX4_renewSums 41 = .ok (.getfield 9, 3) := by decide +kernel
theorem dX4_renewSums_44 : decode cX4_renewSums 44 = .ok (.iload_n 2, 1) := by decide +kernel
theorem dX4_renewSums_45 : decode cX4_renewSums 45 = .ok (.aload_n 1, 1) := by decide +kernel
theorem dX4_renewSums_46 : decode cX4_renewSums 46 = .ok (.getfield 38, 3) := by decide +kernel
theorem dX4_renewSums_49 : decode cX4_renewSums 49 = .ok (.iload_n 2, 1) := by decide +kernel
theorem dX4_renewSums_50 : decode cX4_renewSums 50 = .ok (.iload_n 3, 1) := by decide +kernel
theorem dX4_renewSums_51 : decode cX4_renewSums 51 = .ok (.invokestatic 41, 3) := by decide +kernel
theorem dX4_renewSums_54 : decode cX4_renewSums 54 = .ok (.lastore, 1) := by decide +kernel
theorem dX4_renewSums_55 : decode cX4_renewSums 55 = .ok (.aload_n 0, 1) := by decide +kernel
theorem dX4_renewSums_56 : decode cX4_renewSums 56 = .ok (.getfield 15, 3) := by decide +kernel
theorem dX4_renewSums_59 : decode cX4_renewSums 59 = .ok (.iload_n 2, 1) := by decide +kernel
theorem dX4_renewSums_60 : decode cX4_renewSums 60 = .ok (.iload_n 2, 1) := by decide +kernel
theorem dX4_renewSums_61 : decode cX4_renewSums 61 = .ok (.i2l, 1) := by decide +kernel
theorem dX4_renewSums_62 : decode cX4_renewSums 62 = .ok (.iload_n 2, 1) := by decide +kernel
theorem dX4_renewSums_63 : decode cX4_renewSums 63 = .ok (.i2l, 1) := by decide +kernel
theorem dX4_renewSums_64 : decode cX4_renewSums 64 = .ok (.lmul, 1) := by decide +kernel
theorem dX4_renewSums_65 : decode cX4_renewSums 65 = .ok (.iload_n 3, 1) := by decide +kernel
theorem dX4_renewSums_66 : decode cX4_renewSums 66 = .ok (.i2l, 1) := by decide +kernel
theorem dX4_renewSums_67 : decode cX4_renewSums 67 = .ok (.lmul, 1) := by decide +kernel
theorem dX4_renewSums_68 : decode cX4_renewSums 68 = .ok (.lastore, 1) := by decide +kernel
theorem dX4_renewSums_69 : decode cX4_renewSums 69 = .ok (.aload_n 0, 1) := by decide +kernel
theorem dX4_renewSums_70 : decode cX4_renewSums 70 = .ok (.iload_n 2, 1) := by decide +kernel
theorem dX4_renewSums_71 : decode cX4_renewSums 71 = .ok (.invokevirtual 45, 3) := by decide +kernel
theorem dX4_renewSums_74 : decode cX4_renewSums 74 = .ok (.iinc 2 1, 3) := by decide +kernel
theorem dX4_renewSums_77 : decode cX4_renewSums 77 = .ok (.goto (-54), 3) := by decide +kernel
theorem dX4_renewSums_80 : decode cX4_renewSums 80 = .ok (.return_, 1) := by decide +kernel
theorem dX4_sumOfSquares_0 : decode cX4_sumOfSquares 0 = .ok (.lconst 0, 1) := by decide +kernel
theorem dX4_sumOfSquares_1 : decode cX4_sumOfSquares 1 = .ok (.lstore_n 3, 1) := by decide +kernel
theorem dX4_sumOfSquares_2 : decode cX4_sumOfSquares 2 = .ok (.iconst 0, 1) := by decide +kernel
theorem dX4_sumOfSquares_3 : decode cX4_sumOfSquares 3 = .ok (.istore 5, 2) := by decide +kernel
theorem dX4_sumOfSquares_5 : decode cX4_sumOfSquares 5 = .ok (.iload 5, 2) := by decide +kernel
theorem dX4_sumOfSquares_7 : decode cX4_sumOfSquares 7 = .ok (.iload_n 2, 1) := by decide +kernel
theorem dX4_sumOfSquares_8 : decode cX4_sumOfSquares 8 = .ok (.if_icmp .ge 43, 3) := by decide +kernel
theorem dX4_sumOfSquares_11 : decode cX4_sumOfSquares 11 = .ok (.aload_n 0, 1) := by decide +kernel
theorem dX4_sumOfSquares_12 : decode cX4_sumOfSquares 12 = .ok (.iload 5, 2) := by decide +kernel
theorem dX4_sumOfSquares_14 : decode cX4_sumOfSquares 14 = .ok (.iconst 2, 1) := by decide +kernel
theorem dX4_sumOfSquares_15 : decode cX4_sumOfSquares 15 = .ok (.iload_n 1, 1) := by decide +kernel
theorem dX4_sumOfSquares_16 : decode cX4_sumOfSquares 16 = .ok (.imul, 1) := by decide +kernel
theorem dX4_sumOfSquares_17 : decode cX4_sumOfSquares 17 = .ok (.iadd, 1) := by decide +kernel
theorem dX4_sumOfSquares_18 : decode cX4_sumOfSquares 18 = .ok (.laload, 1) := by decide +kernel
theorem dX4_sumOfSquares_19 : decode cX4_sumOfSquares 19 = .ok (.ldc2_w 49, 3) := by decide +kernel
theorem dX4_sumOfSquares_22 : decode cX4_sumOfSquares 22 = .ok (.aload_n 0, 1) := by decide +kernel
theorem dX4_sumOfSquares_23 : decode cX4_sumOfSquares 23 = .ok (.iload 5, 2) := by decide +kernel
theorem dX4_sumOfSquares_25 : decode cX4_sumOfSquares 25 = .ok (.iload_n 1, 1) := by decide +kernel
theorem dX4_sumOfSquares_26 : decode cX4_sumOfSquares 26 = .ok (.iadd, 1) := by decide +kernel
theorem dX4_sumOfSquares_27 : decode cX4_sumOfSquares 27 = .ok (.laload, 1) := by decide +kernel
theorem dX4_sumOfSquares_28 : decode cX4_sumOfSquares 28 = .ok (.lmul, 1) := by decide +kernel
theorem dX4_sumOfSquares_29 : decode cX4_sumOfSquares 29 = .ok (.lsub, 1) := by decide +kernel
theorem dX4_sumOfSquares_30 : decode cX4_sumOfSquares 30 = .ok (.aload_n 0, 1) := by decide +kernel
theorem dX4_sumOfSquares_31 : decode cX4_sumOfSquares 31 = .ok (.iload 5, 2) := by decide +kernel
theorem dX4_sumOfSquares_33 : decode cX4_sumOfSquares 33 = .ok (.laload, 1) := by decide +kernel
theorem dX4_sumOfSquares_34 : decode cX4_sumOfSquares 34 = .ok (.ladd, 1) := by decide +kernel
theorem dX4_sumOfSquares_35 : decode cX4_sumOfSquares 35 = .ok (.lstore 6, 2) := by decide +kernel
theorem dX4_sumOfSquares_37 : decode cX4_sumOfSquares 37 = .ok (.lload_n 3, 1) := by decide +kernel
theorem dX4_sumOfSquares_38 : decode cX4_sumOfSquares 38 = .ok (.lload 6, 2) := by decide +kernel
theorem dX4_sumOfSquares_40 : decode cX4_sumOfSquares 40 = .ok (.lload 6, 2) := by decide +kernel
theorem dX4_sumOfSquares_42 : decode cX4_sumOfSquares 42 = .ok (.lmul, 1) := by decide +kernel
theorem dX4_sumOfSquares_43 : decode cX4_sumOfSquares 43 = .ok (.ladd, 1) := by decide +kernel
theorem dX4_sumOfSquares_44 : decode cX4_sumOfSquares 44 = .ok (.lstore_n 3, 1) := by decide +kernel
theorem dX4_sumOfSquares_45 : decode cX4_sumOfSquares 45 = .ok (.iinc 5 1, 3) := by decide +kernel
theorem dX4_sumOfSquares_48 : decode cX4_sumOfSquares 48 = .ok (.goto (-43), 3) := by decide +kernel
theorem dX4_sumOfSquares_51 : decode cX4_sumOfSquares 51 = .ok (.lload_n 3, 1) := by decide +kernel
theorem dX4_sumOfSquares_52 : decode cX4_sumOfSquares 52 = .ok (.lreturn, 1) := by decide +kernel
theorem dX4_placeByRank_0 : decode cX4_placeByRank 0 = .ok (.iload_n 1, 1) := by decide +kernel
theorem dX4_placeByRank_1 : decode cX4_placeByRank 1 = .ok (.iconst 1, 1) := by decide +kernel
theorem dX4_placeByRank_2 : decode cX4_placeByRank 2 = .ok (.isub, 1) := by decide +kernel
theorem dX4_placeByRank_3 : decode cX4_placeByRank 3 = .ok (.istore_n 2, 1) := by decide +kernel
theorem dX4_placeByRank_4 : decode cX4_placeByRank 4 = .ok (.iload_n 2, 1) := by decide +kernel
theorem dX4_placeByRank_5 : decode cX4_placeByRank 5 = .ok (.ifCond .le 39, 3) := by decide +kernel
theorem dX4_placeByRank_8 : decode cX4_placeByRank 8 = .ok (.aload_n 0, 1) := by decide +kernel
theorem dX4_placeByRank_9 : decode cX4_placeByRank 9 = .ok (.iload_n 1, 1) := by decide +kernel
theorem dX4_placeByRank_10 : decode cX4_placeByRank 10 = .ok (.aload_n 0, 1) := by decide +kernel
theorem dX4_placeByRank_11 : decode cX4_placeByRank 11 = .ok (.getfield 18, 3) := by decide +kernel
theorem dX4_placeByRank_14 : decode cX4_placeByRank 14 = .ok (.iload_n 2, 1) := by decide +kernel
theorem dX4_placeByRank_15 : decode cX4_placeByRank 15 = .ok (.iconst 1, 1) := by decide +kernel
theorem dX4_placeByRank_16 : decode cX4_placeByRank 16 = .ok (.isub, 1) := by decide +kernel
theorem dX4_placeByRank_17 : decode cX4_placeByRank 17 = .ok (.iaload, 1) := by decide +kernel
theorem dX4_placeByRank_18 : decode cX4_placeByRank 18 = .ok (.invokevirtual 51, 3) := by decide +kernel
theorem dX4_placeByRank_21 : decode cX4_placeByRank 21 = .ok (.ifCond .eq 23, 3) := by decide +kernel
theorem dX4_placeByRank_24 : decode cX4_placeByRank 24 = .ok (.aload_n 0, 1) := by decide +kernel
theorem dX4_placeByRank_25 : decode cX4_placeByRank 25 = .ok (.getfield 18, 3) := by decide +kernel
theorem dX4_placeByRank_28 : decode cX4_placeByRank 28 = .ok (.iload_n 2, 1) := by decide +kernel
theorem dX4_placeByRank_29 : decode cX4_placeByRank 29 = .ok (.aload_n 0, 1) := by decide +kernel
theorem dX4_placeByRank_30 : decode cX4_placeByRank 30 = .ok (.getfield 18, 3) := by decide +kernel
theorem dX4_placeByRank_33 : decode cX4_placeByRank 33 = .ok (.iload_n 2, 1) := by decide +kernel
theorem dX4_placeByRank_34 : decode cX4_placeByRank 34 = .ok (.iconst 1, 1) := by decide +kernel
theorem dX4_placeByRank_35 : decode cX4_placeByRank 35 = .ok (.isub, 1) := by decide +kernel
theorem dX4_placeByRank_36 : decode cX4_placeByRank 36 = .ok (.iaload, 1) := by decide +kernel
theorem dX4_placeByRank_37 : decode cX4_placeByRank 37 = .ok (.iastore, 1) := by decide +kernel
theorem dX4_placeByRank_38 : decode cX4_placeByRank 38 = .ok (.iinc 2 (-1), 3) := by decide +kernel
theorem dX4_placeByRank_41 : decode cX4_placeByRank 41 = .ok (.goto (-37), 3) := by decide +kernel
theorem dX4_placeByRank_44 : decode cX4_placeByRank 44 = .ok (.aload_n 0, 1) := by decide +kernel
theorem dX4_placeByRank_45 : decode cX4_placeByRank 45 = .ok (.getfield 18, 3) := by decide +kernel
theorem dX4_placeByRank_48 : decode cX4_placeByRank 48 = .ok (.iload_n 2, 1) := by decide +kernel
theorem dX4_placeByRank_49 : decode cX4_placeByRank 49 = .ok (.iload_n 1, 1) := by decide +kernel
theorem dX4_placeByRank_50 : decode cX4_placeByRank 50 = .ok (.iastore, 1) := by decide +kernel
theorem dX4_placeByRank_51 : decode cX4_placeByRank 51 = .ok (.return_, 1) := by decide +kernel
theorem dX4_isSteadier_0 : decode cX4_isSteadier 0 = .ok (.aload_n 0, 1) := by decide +kernel
theorem dX4_isSteadier_1 : decode cX4_isSteadier 1 = .ok (.getfield 9, 3) := by decide +kernel
theorem dX4_isSteadier_4 : decode cX4_isSteadier 4 = .ok (.iload_n 1, 1) := by decide +kernel
theorem dX4_isSteadier_5 : decode cX4_isSteadier 5 = .ok (.laload, 1) := by decide +kernel
theorem dX4_isSteadier_6 : decode cX4_isSteadier 6 = .ok (.aload_n 0, 1) := by decide +kernel
theorem dX4_isSteadier_7 : decode cX4_isSteadier 7 = .ok (.getfield 15, 3) := by decide +kernel
theorem dX4_isSteadier_10 : decode cX4_isSteadier 10 = .ok (.iload_n 2, 1) := by decide +kernel
theorem dX4_isSteadier_11 : decode cX4_isSteadier 11 = .ok (.laload, 1) := by decide +kernel
theorem dX4_isSteadier_12 : decode cX4_isSteadier 12 = .ok (.lmul, 1) := by decide +kernel
theorem dX4_isSteadier_13 : decode cX4_isSteadier 13 = .ok (.aload_n 0, 1) := by decide +kernel
theorem dX4_isSteadier_14 : decode cX4_isSteadier 14 = .ok (.getfield 9, 3) := by decide +kernel
theorem dX4_isSteadier_17 : decode cX4_isSteadier 17 = .ok (.iload_n 2, 1) := by decide +kernel
theorem dX4_isSteadier_18 : decode cX4_isSteadier 18 = .ok (.laload, 1) := by decide +kernel
theorem dX4_isSteadier_19 : decode cX4_isSteadier 19 = .ok (.aload_n 0, 1) := by decide +kernel
theorem dX4_isSteadier_20 : decode cX4_isSteadier 20 = .ok (.getfield 15, 3) := by decide +kernel
theorem dX4_isSteadier_23 : decode cX4_isSteadier 23 = .ok (.iload_n 1, 1) := by decide +kernel
theorem dX4_isSteadier_24 : decode cX4_isSteadier 24 = .ok (.laload, 1) := by decide +kernel
theorem dX4_isSteadier_25 : decode cX4_isSteadier 25 = .ok (.lmul, 1) := by decide +kernel
theorem dX4_isSteadier_26 : decode cX4_isSteadier 26 = .ok (.lcmp, 1) := by decide +kernel
theorem dX4_isSteadier_27 : decode cX4_isSteadier 27 = .ok (.ifCond .ge 7, 3) := by decide +kernel
theorem dX4_isSteadier_30 : decode cX4_isSteadier 30 = .ok (.iconst 1, 1) := by decide +kernel
theorem dX4_isSteadier_31 : decode cX4_isSteadier 31 = .ok (.goto 4, 3) := by decide +kernel
theorem dX4_isSteadier_34 : decode cX4_isSteadier 34 = .ok (.iconst 0, 1) := by decide +kernel
theorem dX4_isSteadier_35 : decode cX4_isSteadier 35 = .ok (.ireturn, 1) := by decide +kernel
theorem dX5_init_0 : decode cX5_init 0 = .ok (.aload_n 0, 1) := by decide +kernel
theorem dX5_init_1 : decode cX5_init 1 = .ok (.invokespecial 3, 3) := by decide +kernel
theorem dX5_init_4 : decode cX5_init 4 = .ok (.aload_n 0, 1) := by decide +kernel
theorem dX5_init_5 : decode cX5_init 5 = .ok (.bipush 32, 2) := by decide +kernel
theorem dX5_init_7 : decode cX5_init 7 = .ok (.newarray .int, 2) := by decide +kernel
theorem dX5_init_9 : decode cX5_init 9 = .ok (.putfield 9, 3) := by decide +kernel
theorem dX5_init_12 : decode cX5_init 12 = .ok (.aload_n 0, 1) := by decide +kernel
theorem dX5_init_13 : decode cX5_init 13 = .ok (.iconst 0, 1) := by decide +kernel
theorem dX5_init_14 : decode cX5_init 14 = .ok (.putfield 15, 3) := by decide +kernel
theorem dX5_init_17 : decode cX5_init 17 = .ok (.return_, 1) := by decide +kernel
theorem dX5_isFull_0 : decode cX5_isFull 0 = .ok (.aload_n 0, 1) := by decide +kernel
theorem dX5_isFull_1 : decode cX5_isFull 1 = .ok (.getfield 15, 3) := by decide +kernel
theorem dX5_isFull_4 : decode cX5_isFull 4 = .ok (.bipush 32, 2) := by decide +kernel
theorem dX5_isFull_6 : decode cX5_isFull 6 = .ok (.if_icmp .lt 7, 3) := by decide +kernel
theorem dX5_isFull_9 : decode cX5_isFull 9 = .ok (.iconst 1, 1) := by decide +kernel
theorem dX5_isFull_10 : decode cX5_isFull 10 = .ok (.goto 4, 3) := by decide +kernel
theorem dX5_isFull_13 : decode cX5_isFull 13 = .ok (.iconst 0, 1) := by decide +kernel
theorem dX5_isFull_14 : decode cX5_isFull 14 = .ok (.ireturn, 1) := by decide +kernel
theorem dX5_firstFrom_0 : decode cX5_firstFrom 0 = .ok (.iconst 0, 1) := by decide +kernel
theorem dX5_firstFrom_1 : decode cX5_firstFrom 1 = .ok (.istore_n 2, 1) := by decide +kernel
theorem dX5_firstFrom_2 : decode cX5_firstFrom 2 = .ok (.iload_n 2, 1) := by decide +kernel
theorem dX5_firstFrom_3 : decode cX5_firstFrom 3 = .ok (.aload_n 0, 1) := by decide +kernel
theorem dX5_firstFrom_4 : decode cX5_firstFrom 4 = .ok (.getfield 15, 3) := by decide +kernel
theorem dX5_firstFrom_7 : decode cX5_firstFrom 7 = .ok (.if_icmp .ge 21, 3) := by decide +kernel
theorem dX5_firstFrom_10 : decode cX5_firstFrom 10 = .ok (.aload_n 0, 1) := by decide +kernel
theorem dX5_firstFrom_11 : decode cX5_firstFrom 11 = .ok (.getfield 9, 3) := by decide +kernel
theorem dX5_firstFrom_14 : decode cX5_firstFrom 14 = .ok (.iload_n 2, 1) := by decide +kernel
theorem dX5_firstFrom_15 : decode cX5_firstFrom 15 = .ok (.iaload, 1) := by decide +kernel
theorem dX5_firstFrom_16 : decode cX5_firstFrom 16 = .ok (.iload_n 1, 1) := by decide +kernel
theorem dX5_firstFrom_17 : decode cX5_firstFrom 17 = .ok (.if_icmp .lt 5, 3) := by decide +kernel
theorem dX5_firstFrom_20 : decode cX5_firstFrom 20 = .ok (.iload_n 2, 1) := by decide +kernel
theorem dX5_firstFrom_21 : decode cX5_firstFrom 21 = .ok (.ireturn, 1) := by decide +kernel
theorem dX5_firstFrom_22 : decode cX5_firstFrom 22 = .ok (.iinc 2 1, 3) := by decide +kernel
theorem dX5_firstFrom_25 : decode cX5_firstFrom 25 = .ok (.goto (-23), 3) := by decide +kernel
theorem dX5_firstFrom_28 : decode cX5_firstFrom 28 = .ok (.aload_n 0, 1) := by decide +kernel
theorem dX5_firstFrom_29 : decode cX5_firstFrom 29 = .ok (.getfield 15, 3) := by decide +kernel
theorem dX5_firstFrom_32 : decode cX5_firstFrom 32 = .ok (.ireturn, 1) := by decide +kernel
theorem dX5_holds_0 : decode cX5_holds 0 = .ok (.aload_n 0, 1) := by decide +kernel
theorem dX5_holds_1 : decode cX5_holds 1 = .ok (.iload_n 1, 1) := by decide +kernel
theorem dX5_holds_2 : decode cX5_holds 2 = .ok (.invokevirtual 19, 3) := by decide +kernel
theorem dX5_holds_5 : decode cX5_holds 5 = .ok (.istore_n 2, 1) := by decide +kernel
theorem dX5_holds_6 : decode cX5_holds 6 = .ok (.iload_n 2, 1) := by decide +kernel
theorem dX5_holds_7 : decode cX5_holds 7 = .ok (.aload_n 0, 1) := by decide +kernel
theorem dX5_holds_8 : decode cX5_holds 8 = .ok (.getfield 15, 3) := by decide +kernel
theorem dX5_holds_11 : decode cX5_holds 11 = .ok (.if_icmp .ge 17, 3) := by decide +kernel
theorem dX5_holds_14 : decode cX5_holds 14 = .ok (.aload_n 0, 1) := by decide +kernel
theorem dX5_holds_15 : decode cX5_holds 15 = .ok (.getfield 9, 3) := by decide +kernel
theorem dX5_holds_18 : decode cX5_holds 18 = .ok (.iload_n 2, 1) := by decide +kernel
theorem dX5_holds_19 : decode cX5_holds 19 = .ok (.iaload, 1) := by decide +kernel
theorem dX5_holds_20 : decode cX5_holds 20 = .ok (.iload_n 1, 1) := by decide +kernel
theorem dX5_holds_21 : decode cX5_holds 21 = .ok (.if_icmp .ne 7, 3) := by decide +kernel
theorem dX5_holds_24 : decode cX5_holds 24 = .ok (.iconst 1, 1) := by decide +kernel
theorem dX5_holds_25 : decode cX5_holds 25 = .ok (.goto 4, 3) := by decide +kernel
theorem dX5_holds_28 : decode cX5_holds 28 = .ok (.iconst 0, 1) := by decide +kernel
theorem dX5_holds_29 : decode cX5_holds 29 = .ok (.ireturn, 1) := by decide +kernel
theorem dX5_insert_0 : decode cX5_insert 0 = .ok (.aload_n 0, 1) := by decide +kernel
theorem dX5_insert_1 : decode cX5_insert 1 = .ok (.iload_n 1, 1) := by decide +kernel
theorem dX5_insert_2 : decode cX5_insert 2 = .ok (.invokevirtual 19, 3) := by decide +kernel
theorem dX5_insert_5 : decode cX5_insert 5 = .ok (.istore_n 2, 1) := by decide +kernel
theorem dX5_insert_6 : decode cX5_insert 6 = .ok (.aload_n 0, 1) := by decide +kernel
theorem dX5_insert_7 : decode cX5_insert 7 = .ok (.getfield 15, 3) := by decide +kernel
theorem dX5_insert_10 : decode cX5_insert 10 = .ok (.istore_n 3, 1) := by decide +kernel
theorem dX5_insert_11 : decode cX5_insert 11 = .ok (.iload_n 3, 1) := by decide +kernel
theorem dX5_insert_12 : decode cX5_insert 12 = .ok (.iload_n 2, 1) := by decide +kernel
theorem dX5_insert_13 : decode cX5_insert 13 = .ok (.if_icmp .le 23, 3) := by decide +kernel
theorem dX5_insert_16 : decode cX5_insert 16 = .ok (.aload_n 0, 1) := by decide +kernel
theorem dX5_insert_17 : decode cX5_insert 17 = .ok (.getfield 9, 3) := by decide +kernel
theorem dX5_insert_20 : decode cX5_insert 20 = .ok (.iload_n 3, 1) := by decide +kernel
theorem dX5_insert_21 : decode cX5_insert 21 = .ok (.aload_n 0, 1) := by decide +kernel
theorem dX5_insert_22 : decode cX5_insert 22 = .ok (.getfield 9, 3) := by decide +kernel
theorem dX5_insert_25 : decode cX5_insert 25 = .ok (.iload_n 3, 1) := by decide +kernel
theorem dX5_insert_26 : decode cX5_insert 26 = .ok (.iconst 1, 1) := by decide +kernel
theorem dX5_insert_27 : decode cX5_insert 27 = .ok (.isub, 1) := by decide +kernel
theorem dX5_insert_28 : decode cX5_insert 28 = .ok (.iaload, 1) := by decide +kernel
theorem dX5_insert_29 : decode cX5_insert 29 = .ok (.iastore, 1) := by decide +kernel
theorem dX5_insert_30 : decode cX5_insert 30 = .ok (.iinc 3 (-1), 3) := by decide +kernel
theorem dX5_insert_33 : decode cX5_insert 33 = .ok (.goto (-22), 3) := by decide +kernel
theorem dX5_insert_36 : decode cX5_insert 36 = .ok (.aload_n 0, 1) := by decide +kernel
theorem dX5_insert_37 : decode cX5_insert 37 = .ok (.getfield 9, 3) := by decide +kernel
theorem dX5_insert_40 : decode cX5_insert 40 = .ok (.iload_n 2, 1) := by decide +kernel
theorem dX5_insert_41 : decode cX5_insert 41 = .ok (.iload_n 1, 1) := by decide +kernel
theorem dX5_insert_42 : decode cX5_insert 42 = .ok (.iastore, 1) := by decide +kernel
theorem dX5_insert_43 : decode cX5_insert 43 = .ok (.aload_n 0, 1) := by decide +kernel
theorem dX5_insert_44 : decode cX5_insert 44 = .ok (.dup, 1) := by decide +kernel
theorem dX5_insert_45 : decode cX5_insert 45 = .ok (.getfield 15, 3) := by decide +kernel
theorem dX5_insert_48 : decode cX5_insert 48 = .ok (.iconst 1, 1) := by decide +kernel
theorem dX5_insert_49 : decode cX5_insert 49 = .ok (.iadd, 1) := by decide +kernel
theorem dX5_insert_50 : decode cX5_insert 50 = .ok (.putfield 15, 3) := by decide +kernel
theorem dX5_insert_53 : decode cX5_insert 53 = .ok (.iload_n 2, 1) := by decide +kernel
theorem dX5_insert_54 : decode cX5_insert 54 = .ok (.ireturn, 1) := by decide +kernel
theorem dX5_removeAt_0 : decode cX5_removeAt 0 = .ok (.aload_n 0, 1) := by decide +kernel
theorem dX5_removeAt_1 : decode cX5_removeAt 1 = .ok (.getfield 9, 3) := by decide +kernel
theorem dX5_removeAt_4 : decode cX5_removeAt 4 = .ok (.iload_n 1, 1) := by decide +kernel
theorem dX5_removeAt_5 : decode cX5_removeAt 5 = .ok (.iaload, 1) := by decide +kernel
theorem dX5_removeAt_6 : decode cX5_removeAt 6 = .ok (.istore_n 2, 1) := by decide +kernel
theorem dX5_removeAt_7 : decode cX5_removeAt 7 = .ok (.aload_n 0, 1) := by decide +kernel
theorem dX5_removeAt_8 : decode cX5_removeAt 8 = .ok (.dup, 1) := by decide +kernel
theorem dX5_removeAt_9 : decode cX5_removeAt 9 = .ok (.getfield 15, 3) := by decide +kernel
theorem dX5_removeAt_12 : decode cX5_removeAt 12 = .ok (.iconst 1, 1) := by decide +kernel
theorem dX5_removeAt_13 : decode cX5_removeAt 13 = .ok (.isub, 1) := by decide +kernel
theorem dX5_removeAt_14 : decode cX5_removeAt 14 = .ok (.putfield 15, 3) := by decide +kernel
theorem dX5_removeAt_17 : decode cX5_removeAt 17 = .ok (.iload_n 1, 1) := by decide +kernel
theorem dX5_removeAt_18 : decode cX5_removeAt 18 = .ok (.istore_n 3, 1) := by decide +kernel
theorem dX5_removeAt_19 : decode cX5_removeAt 19 = .ok (.iload_n 3, 1) := by decide +kernel
theorem dX5_removeAt_20 : decode cX5_removeAt 20 = .ok (.aload_n 0, 1) := by decide +kernel
theorem dX5_removeAt_21 : decode cX5_removeAt 21 = .ok (.getfield 15, 3) := by decide +kernel
theorem dX5_removeAt_24 : decode cX5_removeAt 24 = .ok (.if_icmp .ge 23, 3) := by decide +kernel
theorem dX5_removeAt_27 : decode cX5_removeAt 27 = .ok (.aload_n 0, 1) := by decide +kernel
theorem dX5_removeAt_28 : decode cX5_removeAt 28 = .ok (.getfield 9, 3) := by decide +kernel
theorem dX5_removeAt_31 : decode cX5_removeAt 31 = .ok (.iload_n 3, 1) := by decide +kernel
theorem dX5_removeAt_32 : decode cX5_removeAt 32 = .ok (.aload_n 0, 1) := by decide +kernel
theorem dX5_removeAt_33 : decode cX5_removeAt 33 = .ok (.getfield 9, 3) := by decide +kernel
theorem dX5_removeAt_36 : decode cX5_removeAt 36 = .ok (.iload_n 3, 1) := by decide +kernel
theorem dX5_removeAt_37 : decode cX5_removeAt 37 = .ok (.iconst 1, 1) := by decide +kernel
theorem dX5_removeAt_38 : decode cX5_removeAt 38 = .ok (.iadd, 1) := by decide +kernel
theorem dX5_removeAt_39 : decode cX5_removeAt 39 = .ok (.iaload, 1) := by decide +kernel
theorem dX5_removeAt_40 : decode cX5_removeAt 40 = .ok (.iastore, 1) := by decide +kernel
theorem dX5_removeAt_41 : decode cX5_removeAt 41 = .ok (.iinc 3 1, 3) := by decide +kernel
theorem dX5_removeAt_44 : decode cX5_removeAt 44 = .ok (.goto (-25), 3) := by decide +kernel
theorem dX5_removeAt_47 : decode cX5_removeAt 47 = .ok (.iload_n 2, 1) := by decide +kernel
theorem dX5_removeAt_48 : decode cX5_removeAt 48 = .ok (.ireturn, 1) := by decide +kernel
theorem dX5_coarseOf_0 : decode cX5_coarseOf 0 = .ok (.aload_n 0, 1) := by decide +kernel
theorem dX5_coarseOf_1 : decode cX5_coarseOf 1 = .ok (.getfield 9, 3) := by decide +kernel
theorem dX5_coarseOf_4 : decode cX5_coarseOf 4 = .ok (.iload_n 1, 1) := by decide +kernel
theorem dX5_coarseOf_5 : decode cX5_coarseOf 5 = .ok (.iaload, 1) := by decide +kernel
theorem dX5_coarseOf_6 : decode cX5_coarseOf 6 = .ok (.bipush 60, 2) := by decide +kernel
theorem dX5_coarseOf_8 : decode cX5_coarseOf 8 = .ok (.idiv, 1) := by decide +kernel
theorem dX5_coarseOf_9 : decode cX5_coarseOf 9 = .ok (.ireturn, 1) := by decide +kernel
theorem dX5_fineOf_0 : decode cX5_fineOf 0 = .ok (.aload_n 0, 1) := by decide +kernel
theorem dX5_fineOf_1 : decode cX5_fineOf 1 = .ok (.getfield 9, 3) := by decide +kernel
theorem dX5_fineOf_4 : decode cX5_fineOf 4 = .ok (.iload_n 1, 1) := by decide +kernel
theorem dX5_fineOf_5 : decode cX5_fineOf 5 = .ok (.iaload, 1) := by decide +kernel
theorem dX5_fineOf_6 : decode cX5_fineOf 6 = .ok (.bipush 60, 2) := by decide +kernel
theorem dX5_fineOf_8 : decode cX5_fineOf 8 = .ok (.irem, 1) := by decide +kernel
theorem dX5_fineOf_9 : decode cX5_fineOf 9 = .ok (.ireturn, 1) := by decide +kernel
theorem dJ9_abs_0f7a4_0 : decode cJ9_abs_0f7a4 0 = .ok (.iload_n 0, 1) := by decide +kernel
theorem dJ9_abs_0f7a4_1 : decode cJ9_abs_0f7a4 1 = .ok (.ifCond .ge 8, 3) := by decide +kernel
theorem dJ9_abs_0f7a4_4 : decode cJ9_abs_0f7a4 4 = .ok (.iload_n 0, 1) := by decide +kernel
theorem dJ9_abs_0f7a4_5 : decode cJ9_abs_0f7a4 5 = .ok (.ineg, 1) := by decide +kernel
theorem dJ9_abs_0f7a4_6 : decode cJ9_abs_0f7a4 6 = .ok (.goto 4, 3) := by decide +kernel
theorem dJ9_abs_0f7a4_9 : decode cJ9_abs_0f7a4 9 = .ok (.iload_n 0, 1) := by decide +kernel
theorem dJ9_abs_0f7a4_10 : decode cJ9_abs_0f7a4 10 = .ok (.ireturn, 1) := by decide +kernel
theorem dJ9_abs_067f4_0 : decode cJ9_abs_067f4 0 = .ok (.lload_n 0, 1) := by decide +kernel
theorem dJ9_abs_067f4_1 : decode cJ9_abs_067f4 1 = .ok (.lconst 0, 1) := by decide +kernel
theorem dJ9_abs_067f4_2 : decode cJ9_abs_067f4 2 = .ok (.lcmp, 1) := by decide +kernel
theorem dJ9_abs_067f4_3 : decode cJ9_abs_067f4 3 = .ok (.ifCond .ge 8, 3) := by decide +kernel
theorem dJ9_abs_067f4_6 : decode cJ9_abs_067f4 6 = .ok (.lload_n 0, 1) := by decide +kernel
theorem dJ9_abs_067f4_7 : decode cJ9_abs_067f4 7 = .ok (.lneg, 1) := by decide +kernel
theorem dJ9_abs_067f4_8 : decode cJ9_abs_067f4 8 = .ok (.goto 4, 3) := by decide +kernel
theorem dJ9_abs_067f4_11 : decode cJ9_abs_067f4 11 = .ok (.lload_n 0, 1) := by decide +kernel
theorem dJ9_abs_067f4_12 : decode cJ9_abs_067f4 12 = .ok (.lreturn, 1) := by decide +kernel
theorem dJ9_max_7cf53_0 : decode cJ9_max_7cf53 0 = .ok (.iload_n 0, 1) := by decide +kernel
theorem dJ9_max_7cf53_1 : decode cJ9_max_7cf53 1 = .ok (.iload_n 1, 1) := by decide +kernel
theorem dJ9_max_7cf53_2 : decode cJ9_max_7cf53 2 = .ok (.if_icmp .lt 7, 3) := by decide +kernel
theorem dJ9_max_7cf53_5 : decode cJ9_max_7cf53 5 = .ok (.iload_n 0, 1) := by decide +kernel
theorem dJ9_max_7cf53_6 : decode cJ9_max_7cf53 6 = .ok (.goto 4, 3) := by decide +kernel
theorem dJ9_max_7cf53_9 : decode cJ9_max_7cf53 9 = .ok (.iload_n 1, 1) := by decide +kernel
theorem dJ9_max_7cf53_10 : decode cJ9_max_7cf53 10 = .ok (.ireturn, 1) := by decide +kernel
theorem dJ9_max_f86c9_0 : decode cJ9_max_f86c9 0 = .ok (.lload_n 0, 1) := by decide +kernel
theorem dJ9_max_f86c9_1 : decode cJ9_max_f86c9 1 = .ok (.lload_n 2, 1) := by decide +kernel
theorem dJ9_max_f86c9_2 : decode cJ9_max_f86c9 2 = .ok (.lcmp, 1) := by decide +kernel
theorem dJ9_max_f86c9_3 : decode cJ9_max_f86c9 3 = .ok (.ifCond .lt 7, 3) := by decide +kernel
theorem dJ9_max_f86c9_6 : decode cJ9_max_f86c9 6 = .ok (.lload_n 0, 1) := by decide +kernel
theorem dJ9_max_f86c9_7 : decode cJ9_max_f86c9 7 = .ok (.goto 4, 3) := by decide +kernel
theorem dJ9_max_f86c9_10 : decode cJ9_max_f86c9 10 = .ok (.lload_n 2, 1) := by decide +kernel
theorem dJ9_max_f86c9_11 : decode cJ9_max_f86c9 11 = .ok (.lreturn, 1) := by decide +kernel
theorem dJ9_min_7cf53_0 : decode cJ9_min_7cf53 0 = .ok (.iload_n 0, 1) := by decide +kernel
theorem dJ9_min_7cf53_1 : decode cJ9_min_7cf53 1 = .ok (.iload_n 1, 1) := by decide +kernel
theorem dJ9_min_7cf53_2 : decode cJ9_min_7cf53 2 = .ok (.if_icmp .gt 7, 3) := by decide +kernel
theorem dJ9_min_7cf53_5 : decode cJ9_min_7cf53 5 = .ok (.iload_n 0, 1) := by decide +kernel
theorem dJ9_min_7cf53_6 : decode cJ9_min_7cf53 6 = .ok (.goto 4, 3) := by decide +kernel
theorem dJ9_min_7cf53_9 : decode cJ9_min_7cf53 9 = .ok (.iload_n 1, 1) := by decide +kernel
theorem dJ9_min_7cf53_10 : decode cJ9_min_7cf53 10 = .ok (.ireturn, 1) := by decide +kernel
theorem dJ9_min_f86c9_0 : decode cJ9_min_f86c9 0 = .ok (.lload_n 0, 1) := by decide +kernel
theorem dJ9_min_f86c9_1 : decode cJ9_min_f86c9 1 = .ok (.lload_n 2, 1) := by decide +kernel
theorem dJ9_min_f86c9_2 : decode cJ9_min_f86c9 2 = .ok (.lcmp, 1) := by decide +kernel
theorem dJ9_min_f86c9_3 : decode cJ9_min_f86c9 3 = .ok (.ifCond .gt 7, 3) := by decide +kernel
theorem dJ9_min_f86c9_6 : decode cJ9_min_f86c9 6 = .ok (.lload_n 0, 1) := by decide +kernel
theorem dJ9_min_f86c9_7 : decode cJ9_min_f86c9 7 = .ok (.goto 4, 3) := by decide +kernel
theorem dJ9_min_f86c9_10 : decode cJ9_min_f86c9 10 = .ok (.lload_n 2, 1) := by decide +kernel
theorem dJ9_min_f86c9_11 : decode cJ9_min_f86c9 11 = .ok (.lreturn, 1) := by decide +kernel
theorem dJ0_length_8abf5_0 : decode cJ0_length_8abf5 0 = .ok (.aload_n 0, 1) := by decide +kernel
theorem dJ0_length_8abf5_1 : decode cJ0_length_8abf5 1 = .ok (.getfield 9, 3) := by decide +kernel
theorem dJ0_length_8abf5_4 : decode cJ0_length_8abf5 4 = .ok (.arraylength, 1) := by decide +kernel
theorem dJ0_length_8abf5_5 : decode cJ0_length_8abf5 5 = .ok (.aload_n 0, 1) := by decide +kernel
theorem dJ0_length_8abf5_6 : decode cJ0_length_8abf5 6 = .ok (.invokevirtual 335, 3) := by decide +kernel
theorem dJ0_length_8abf5_9 : decode cJ0_length_8abf5 9 = .ok (.ishr, 1) := by decide +kernel
theorem dJ0_length_8abf5_10 : decode cJ0_length_8abf5 10 = .ok (.ireturn, 1) := by decide +kernel
theorem dJ0_charAt_5068e_0 : decode cJ0_charAt_5068e 0 = .ok (.aload_n 0, 1) := by decide +kernel
theorem dJ0_charAt_5068e_1 : decode cJ0_charAt_5068e 1 = .ok (.invokevirtual 492, 3) := by decide +kernel
theorem dJ0_charAt_5068e_4 : decode cJ0_charAt_5068e 4 = .ok (.ifCond .eq 12, 3) := by decide +kernel
theorem dJ0_charAt_5068e_7 : decode cJ0_charAt_5068e 7 = .ok (.aload_n 0, 1) := by decide +kernel
theorem dJ0_charAt_5068e_8 : decode cJ0_charAt_5068e 8 = .ok (.getfield 9, 3) := by decide +kernel
theorem dJ0_charAt_5068e_11 : decode cJ0_charAt_5068e 11 = .ok (.iload_n 1, 1) := by decide +kernel
theorem dJ0_charAt_5068e_12 : decode cJ0_charAt_5068e 12 = .ok (.invokestatic 495, 3) := by decide +kernel
theorem dJ0_charAt_5068e_15 : decode cJ0_charAt_5068e 15 = .ok (.ireturn, 1) := by decide +kernel
theorem dJ0_charAt_5068e_16 : decode cJ0_charAt_5068e 16 = .ok (.aload_n 0, 1) := by decide +kernel
theorem dJ0_charAt_5068e_17 : decode cJ0_charAt_5068e 17 = .ok (.getfield 9, 3) := by decide +kernel
theorem dJ0_charAt_5068e_20 : decode cJ0_charAt_5068e 20 = .ok (.iload_n 1, 1) := by decide +kernel
theorem dJ0_charAt_5068e_21 : decode cJ0_charAt_5068e 21 = .ok (.invokestatic 498, 3) := by decide +kernel
theorem dJ0_charAt_5068e_24 : decode cJ0_charAt_5068e 24 = .ok (.ireturn, 1) := by decide +kernel
theorem dJ0_coder_7d493_0 : decode cJ0_coder_7d493 0 = .ok (.getstatic 38, 3) := by decide +kernel
theorem dJ0_coder_7d493_3 : decode cJ0_coder_7d493 3 = .ok (.ifCond .eq 10, 3) := by decide +kernel
theorem dJ0_coder_7d493_6 : decode cJ0_coder_7d493 6 = .ok (.aload_n 0, 1) := by decide +kernel
theorem dJ0_coder_7d493_7 : decode cJ0_coder_7d493 7 = .ok (.getfield 15, 3) := by decide +kernel
theorem dJ0_coder_7d493_10 : decode cJ0_coder_7d493 10 = .ok (.goto 4, 3) := by decide +kernel
theorem dJ0_coder_7d493_13 : decode cJ0_coder_7d493 13 = .ok (.iconst 1, 1) := by decide +kernel
theorem dJ0_coder_7d493_14 : decode cJ0_coder_7d493 14 = .ok (.ireturn, 1) := by decide +kernel
theorem dJ0_isLatin1_aae02_0 : decode cJ0_isLatin1_aae02 0 = .ok (.getstatic 38, 3) := by decide +kernel
theorem dJ0_isLatin1_aae02_3 : decode cJ0_isLatin1_aae02 3 = .ok (.ifCond .eq 14, 3) := by decide +kernel
theorem dJ0_isLatin1_aae02_6 : decode cJ0_isLatin1_aae02 6 = .ok (.aload_n 0, 1) := by decide +kernel
theorem dJ0_isLatin1_aae02_7 : decode cJ0_isLatin1_aae02 7 = .ok (.getfield 15, 3) := by decide +kernel
theorem dJ0_isLatin1_aae02_10 : decode cJ0_isLatin1_aae02 10 = .ok (.ifCond .ne 7, 3) := by decide +kernel
theorem dJ0_isLatin1_aae02_13 : decode cJ0_isLatin1_aae02 13 = .ok (.iconst 1, 1) := by decide +kernel
theorem dJ0_isLatin1_aae02_14 : decode cJ0_isLatin1_aae02 14 = .ok (.goto 4, 3) := by decide +kernel
theorem dJ0_isLatin1_aae02_17 : decode cJ0_isLatin1_aae02 17 = .ok (.iconst 0, 1) := by decide +kernel
theorem dJ0_isLatin1_aae02_18 : decode cJ0_isLatin1_aae02 18 = .ok (.ireturn, 1) := by decide +kernel
theorem dJ0_checkIndex_df160_0 : decode cJ0_checkIndex_df160 0 = .ok (.iload_n 0, 1) := by decide +kernel
theorem dJ0_checkIndex_df160_1 : decode cJ0_checkIndex_df160 1 = .ok (.iload_n 1, 1) := by decide +kernel
theorem dJ0_checkIndex_df160_2 : decode cJ0_checkIndex_df160 2 = .ok (.getstatic 1053, 3) := by decide +kernel
theorem dJ0_checkIndex_df160_5 : decode cJ0_checkIndex_df160 5 = .ok (.invokestatic 1059, 3) := by decide +kernel
theorem dJ0_checkIndex_df160_8 : decode cJ0_checkIndex_df160 8 = .ok (.pop, 1) := by decide +kernel
theorem dJ0_checkIndex_df160_9 : decode cJ0_checkIndex_df160 9 = .ok (.return_, 1) := by decide +kernel
theorem dJ1_charAt_3b067_0 : decode cJ1_charAt_3b067 0 = .ok (.iload_n 1, 1) := by decide +kernel
theorem dJ1_charAt_3b067_1 : decode cJ1_charAt_3b067 1 = .ok (.aload_n 0, 1) := by decide +kernel
theorem dJ1_charAt_3b067_2 : decode cJ1_charAt_3b067 2 = .ok (.arraylength, 1) := by decide +kernel
theorem dJ1_charAt_3b067_3 : decode cJ1_charAt_3b067 3 = .ok (.invokestatic 9, 3) := by decide +kernel
theorem dJ1_charAt_3b067_6 : decode cJ1_charAt_3b067 6 = .ok (.aload_n 0, 1) := by decide +kernel
theorem dJ1_charAt_3b067_7 : decode cJ1_charAt_3b067 7 = .ok (.iload_n 1, 1) := by decide +kernel
theorem dJ1_charAt_3b067_8 : decode cJ1_charAt_3b067 8 = .ok (.baload, 1) := by decide +kernel
theorem dJ1_charAt_3b067_9 : decode cJ1_charAt_3b067 9 = .ok (.sipush 255, 3) := by decide +kernel
theorem dJ1_charAt_3b067_12 : decode cJ1_charAt_3b067 12 = .ok (.iand, 1) := by decide +kernel
theorem dJ1_charAt_3b067_13 : decode cJ1_charAt_3b067 13 = .ok (.i2c, 1) := by decide +kernel
theorem dJ1_charAt_3b067_14 : decode cJ1_charAt_3b067 14 = .ok (.ireturn, 1) := by decide +kernel
theorem dJ2_getChar_3b067_0 : decode cJ2_getChar_3b067 0 = .ok (.getstatic 44, 3) := by decide +kernel
theorem dJ2_getChar_3b067_3 : decode cJ2_getChar_3b067 3 = .ok (.ifCond .ne 25, 3) := by decide +kernel
theorem dJ2_getChar_3b067_6 : decode cJ2_getChar_3b067 6 = .ok (.iload_n 1, 1) := by decide +kernel
theorem dJ2_getChar_3b067_7 : decode cJ2_getChar_3b067 7 = .ok (.ifCond .lt 11, 3) := by decide +kernel
theorem dJ2_getChar_3b067_10 : decode cJ2_getChar_3b067 10 = .ok (.iload_n 1, 1) := by decide +kernel
theorem dJ2_getChar_3b067_11 : decode cJ2_getChar_3b067 11 = .ok (.aload_n 0, 1) := by decide +kernel
theorem dJ2_getChar_3b067_12 : decode cJ2_getChar_3b067 12 = .ok (.invokestatic 48, 3) := by decide +kernel
theorem dJ2_getChar_3b067_15 : decode cJ2_getChar_3b067 15 = .ok (.if_icmp .lt 13, 3) := by decide +kernel
theorem dJ2_getChar_3b067_18 : decode cJ2_getChar_3b067 18 = .ok (.new 52, 3) := by decide +kernel
theorem dJ2_getChar_3b067_21 : decode cJ2_getChar_3b067 21 = .ok (.dup, 1) := by decide +kernel
theorem dJ2_getChar_3b067_22 : decode cJ2_getChar_3b067 22 = .ok (.ldc 54, 2) := by decide +kernel
theorem dJ2_getChar_3b067_24 : decode cJ2_getChar_3b067 24 = .ok (.invokespecial 56, 3) := by decide +kernel
theorem dJ2_getChar_3b067_27 : decode cJ2_getChar_3b067 27 = .ok (.athrow, 1) := by decide +kernel
theorem dJ2_getChar_3b067_28 : decode cJ2_getChar_3b067 28 = .ok (.iload_n 1, 1) := by decide +kernel
theorem dJ2_getChar_3b067_29 : decode cJ2_getChar_3b067 29 = .ok (.iconst 1, 1) := by decide +kernel
theorem dJ2_getChar_3b067_30 : decode cJ2_getChar_3b067 30 = .ok (.ishl, 1) := by decide +kernel
theorem dJ2_getChar_3b067_31 : decode cJ2_getChar_3b067 31 = .ok (.istore_n 1, 1) := by decide +kernel
theorem dJ2_getChar_3b067_32 : decode cJ2_getChar_3b067 32 = .ok (.aload_n 0, 1) := by decide +kernel
theorem dJ2_getChar_3b067_33 : decode cJ2_getChar_3b067 33 = .ok (.iload_n 1, 1) := by decide +kernel
theorem dJ2_getChar_3b067_34 : decode cJ2_getChar_3b067 34 = .ok (.iinc 1 1, 3) := by decide +kernel
theorem dJ2_getChar_3b067_37 : decode cJ2_getChar_3b067 37 = .ok (.baload, 1) := by decide +kernel
theorem dJ2_getChar_3b067_38 : decode cJ2_getChar_3b067 38 = .ok (.sipush 255, 3) := by decide +kernel
theorem dJ2_getChar_3b067_41 : decode cJ2_getChar_3b067 41 = .ok (.iand, 1) := by decide +kernel
theorem dJ2_getChar_3b067_42 : decode cJ2_getChar_3b067 42 = .ok (.getstatic 59, 3) := by decide +kernel
theorem dJ2_getChar_3b067_45 : decode cJ2_getChar_3b067 45 = .ok (.ishl, 1) := by decide +kernel
theorem dJ2_getChar_3b067_46 : decode cJ2_getChar_3b067 46 = .ok (.aload_n 0, 1) := by decide +kernel
theorem dJ2_getChar_3b067_47 : decode cJ2_getChar_3b067 47 = .ok (.iload_n 1, 1) := by decide +kernel
theorem dJ2_getChar_3b067_48 : decode cJ2_getChar_3b067 48 = .ok (.baload, 1) := by decide +kernel
theorem dJ2_getChar_3b067_49 : decode cJ2_getChar_3b067 49 = .ok (.sipush 255, 3) := by decide +kernel
theorem dJ2_getChar_3b067_52 : decode cJ2_getChar_3b067 52 = .ok (.iand, 1) := by decide +kernel
theorem dJ2_getChar_3b067_53 : decode cJ2_getChar_3b067 53 = .ok (.getstatic 63, 3) := by decide +kernel
theorem dJ2_getChar_3b067_56 : decode cJ2_getChar_3b067 56 = .ok (.ishl, 1) := by decide +kernel
theorem dJ2_getChar_3b067_57 : decode cJ2_getChar_3b067 57 = .ok (.ior, 1) := by decide +kernel
theorem dJ2_getChar_3b067_58 : decode cJ2_getChar_3b067 58 = .ok (.i2c, 1) := by decide +kernel
theorem dJ2_getChar_3b067_59 : decode cJ2_getChar_3b067 59 = .ok (.ireturn, 1) := by decide +kernel
theorem dJ2_length_9d52b_0 : decode cJ2_length_9d52b 0 = .ok (.aload_n 0, 1) := by decide +kernel
theorem dJ2_length_9d52b_1 : decode cJ2_length_9d52b 1 = .ok (.arraylength, 1) := by decide +kernel
theorem dJ2_length_9d52b_2 : decode cJ2_length_9d52b 2 = .ok (.iconst 1, 1) := by decide +kernel
theorem dJ2_length_9d52b_3 : decode cJ2_length_9d52b 3 = .ok (.ishr, 1) := by decide +kernel
theorem dJ2_length_9d52b_4 : decode cJ2_length_9d52b 4 = .ok (.ireturn, 1) := by decide +kernel
theorem dJ2_charAt_3b067_0 : decode cJ2_charAt_3b067 0 = .ok (.iload_n 1, 1) := by decide +kernel
theorem dJ2_charAt_3b067_1 : decode cJ2_charAt_3b067 1 = .ok (.aload_n 0, 1) := by decide +kernel
theorem dJ2_charAt_3b067_2 : decode cJ2_charAt_3b067 2 = .ok (.invokestatic 67, 3) := by decide +kernel
theorem dJ2_charAt_3b067_5 : decode cJ2_charAt_3b067 5 = .ok (.aload_n 0, 1) := by decide +kernel
theorem dJ2_charAt_3b067_6 : decode cJ2_charAt_3b067 6 = .ok (.iload_n 1, 1) := by decide +kernel
theorem dJ2_charAt_3b067_7 : decode cJ2_charAt_3b067 7 = .ok (.invokestatic 71, 3) := by decide +kernel
theorem dJ2_charAt_3b067_10 : decode cJ2_charAt_3b067 10 = .ok (.ireturn, 1) := by decide +kernel
theorem dJ2_checkIndex_2214a_0 : decode cJ2_checkIndex_2214a 0 = .ok (.iload_n 0, 1) := by decide +kernel
theorem dJ2_checkIndex_2214a_1 : decode cJ2_checkIndex_2214a 1 = .ok (.aload_n 1, 1) := by decide +kernel
theorem dJ2_checkIndex_2214a_2 : decode cJ2_checkIndex_2214a 2 = .ok (.invokestatic 48, 3) := by decide +kernel
theorem dJ2_checkIndex_2214a_5 : decode cJ2_checkIndex_2214a 5 = .ok (.invokestatic 414, 3) := by decide +kernel
theorem dJ2_checkIndex_2214a_8 : decode cJ2_checkIndex_2214a 8 = .ok (.return_, 1) := by decide +kernel
theorem dJ3_checkIndex_8e157_0 : decode cJ3_checkIndex_8e157 0 = .ok (.iload_n 0, 1) := by decide +kernel
theorem dJ3_checkIndex_8e157_1 : decode cJ3_checkIndex_8e157 1 = .ok (.ifCond .lt 8, 3) := by decide +kernel
theorem dJ3_checkIndex_8e157_4 : decode cJ3_checkIndex_8e157 4 = .ok (.iload_n 0, 1) := by decide +kernel
theorem dJ3_checkIndex_8e157_5 : decode cJ3_checkIndex_8e157 5 = .ok (.iload_n 1, 1) := by decide +kernel
theorem dJ3_checkIndex_8e157_6 : decode cJ3_checkIndex_8e157 6 = .ok (.if_icmp .lt 10, 3) := by decide +kernel
theorem dJ3_checkIndex_8e157_9 : decode cJ3_checkIndex_8e157 9 = .ok (.aload_n 2, 1) := by decide +kernel
theorem dJ3_checkIndex_8e157_10 : decode cJ3_checkIndex_8e157 10 = .ok (.iload_n 0, 1) := by decide +kernel
theorem dJ3_checkIndex_8e157_11 : decode cJ3_checkIndex_8e157 11 = .ok (.iload_n 1, 1) := by decide +kernel
theorem dJ3_checkIndex_8e157_12 : decode cJ3_checkIndex_8e157 12 = .ok (.invokestatic 95, 3) := by decide +kernel
theorem dJ3_checkIndex_8e157_15 : decode cJ3_checkIndex_8e157 15 = .ok (.athrow, 1) := by decide +kernel
theorem dJ3_checkIndex_8e157_16 : decode cJ3_checkIndex_8e157 16 = .ok (.iload_n 0, 1) := by decide +kernel
theorem dJ3_checkIndex_8e157_17 : decode cJ3_checkIndex_8e157 17 = .ok (.ireturn, 1) := by decide +kernel
