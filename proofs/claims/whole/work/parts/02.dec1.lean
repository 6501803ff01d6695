theorem dX1_readSum_0 : decode cX1_readSum 0 = .ok (.aload_n 0, 1) := by decide +kernel
theorem dX1_readSum_1 : decode cX1_readSum 1 = .ok (.iload_n 1, 1) := by decide +kernel
theorem dX1_readSum_2 : decode cX1_readSum 2 = .ok (.invokevirtual 133, 3) := by decide +kernel
theorem dX1_readSum_5 : decode cX1_readSum 5 = .ok (.iconst 0, 1) := by decide +kernel
theorem dX1_readSum_6 : decode cX1_readSum 6 = .ok (.istore_n 2, 1) := by decide +kernel
theorem dX1_readSum_7 : decode cX1_readSum 7 = .ok (.iload_n 2, 1) := by decide +kernel
theorem dX1_readSum_8 : decode cX1_readSum 8 = .ok (.sipush 160, 3) := by decide +kernel
theorem dX1_readSum_11 : decode cX1_readSum 11 = .ok (.if_icmp .ge 58, 3) := by decide +kernel
theorem dX1_readSum_14 : decode cX1_readSum 14 = .ok (.aload_n 0, 1) := by decide +kernel
theorem dX1_readSum_15 : decode cX1_readSum 15 = .ok (.getfield 47, 3) := by decide +kernel
theorem dX1_readSum_18 : decode cX1_readSum 18 = .ok (.bipush 43, 2) := by decide +kernel
theorem dX1_readSum_20 : decode cX1_readSum 20 = .ok (.if_icmp .eq 12, 3) := by decide +kernel
theorem dX1_readSum_23 : decode cX1_readSum 23 = .ok (.aload_n 0, 1) := by decide +kernel
theorem dX1_readSum_24 : decode cX1_readSum 24 = .ok (.getfield 47, 3) := by decide +kernel
theorem dX1_readSum_27 : decode cX1_readSum 27 = .ok (.bipush 45, 2) := by decide +kernel
theorem dX1_readSum_29 : decode cX1_readSum 29 = .ok (.if_icmp .ne 40, 3) := by decide +kernel
theorem dX1_readSum_32 : decode cX1_readSum 32 = .ok (.aload_n 0, 1) := by decide +kernel
theorem dX1_readSum_33 : decode cX1_readSum 33 = .ok (.getfield 47, 3) := by decide +kernel
theorem dX1_readSum_36 : decode cX1_readSum 36 = .ok (.bipush 43, 2) := by decide +kernel
theorem dX1_readSum_38 : decode cX1_readSum 38 = .ok (.if_icmp .ne 8, 3) := by decide +kernel
theorem dX1_readSum_41 : decode cX1_readSum 41 = .ok (.bipush (-13), 2) := by decide +kernel
theorem dX1_readSum_43 : decode cX1_readSum 43 = .ok (.goto 5, 3) := by decide +kernel
theorem dX1_readSum_46 : decode cX1_readSum 46 = .ok (.bipush (-14), 2) := by decide +kernel
theorem dX1_readSum_48 : decode cX1_readSum 48 = .ok (.istore_n 3, 1) := by decide +kernel
theorem dX1_readSum_49 : decode cX1_readSum 49 = .ok (.aload_n 0, 1) := by decide +kernel
theorem dX1_readSum_50 : decode cX1_readSum 50 = .ok (.invokevirtual 28, 3) := by decide +kernel
theorem dX1_readSum_53 : decode cX1_readSum 53 = .ok (.aload_n 0, 1) := by decide +kernel
theorem dX1_readSum_54 : decode cX1_readSum 54 = .ok (.iload_n 1, 1) := by decide +kernel
theorem dX1_readSum_55 : decode cX1_readSum 55 = .ok (.invokevirtual 133, 3) := by decide +kernel
theorem dX1_readSum_58 : decode cX1_readSum 58 = .ok (.aload_n 0, 1) := by decide +kernel
theorem dX1_readSum_59 : decode cX1_readSum 59 = .ok (.iload_n 3, 1) := by decide +kernel
theorem dX1_readSum_60 : decode cX1_readSum 60 = .ok (.invokevirtual 124, 3) := by decide +kernel
theorem dX1_readSum_63 : decode cX1_readSum 63 = .ok (.iinc 2 1, 3) := by decide +kernel
theorem dX1_readSum_66 : decode cX1_readSum 66 = .ok (.goto (-59), 3) := by decide +kernel
theorem dX1_readSum_69 : decode cX1_readSum 69 = .ok (.return_, 1) := by decide +kernel
theorem dX1_readTerm_0 : decode cX1_readTerm 0 = .ok (.aload_n 0, 1) := by decide +kernel
theorem dX1_readTerm_1 : decode cX1_readTerm 1 = .ok (.iload_n 1, 1) := by decide +kernel
theorem dX1_readTerm_2 : decode cX1_readTerm 2 = .ok (.invokevirtual 136, 3) := by decide +kernel
theorem dX1_readTerm_5 : decode cX1_readTerm 5 = .ok (.iconst 0, 1) := by decide +kernel
theorem dX1_readTerm_6 : decode cX1_readTerm 6 = .ok (.istore_n 2, 1) := by decide +kernel
theorem dX1_readTerm_7 : decode cX1_readTerm 7 = .ok (.iload_n 2, 1) := by decide +kernel
theorem dX1_readTerm_8 : decode cX1_readTerm 8 = .ok (.sipush 160, 3) := by decide +kernel
theorem dX1_readTerm_11 : decode cX1_readTerm 11 = .ok (.if_icmp .ge 33, 3) := by decide +kernel
theorem dX1_readTerm_14 : decode cX1_readTerm 14 = .ok (.aload_n 0, 1) := by decide +kernel
theorem dX1_readTerm_15 : decode cX1_readTerm 15 = .ok (.getfield 47, 3) := by decide +kernel
theorem dX1_readTerm_18 : decode cX1_readTerm 18 = .ok (.bipush 42, 2) := by decide +kernel
theorem dX1_readTerm_20 : decode cX1_readTerm 20 = .ok (.if_icmp .ne 24, 3) := by decide +kernel
theorem dX1_readTerm_23 : decode cX1_readTerm 23 = .ok (.aload_n 0, 1) := by decide +kernel
theorem dX1_readTerm_24 : decode cX1_readTerm 24 = .ok (.invokevirtual 28, 3) := by decide +kernel
theorem dX1_readTerm_27 : decode cX1_readTerm 27 = .ok (.aload_n 0, 1) := by decide +kernel
theorem dX1_readTerm_28 : decode cX1_readTerm 28 = .ok (.iload_n 1, 1) := by decide +kernel
theorem dX1_readTerm_29 : decode cX1_readTerm 29 = .ok (.invokevirtual 136, 3) := by decide +kernel
theorem dX1_readTerm_32 : decode cX1_readTerm 32 = .ok (.aload_n 0, 1) := by decide +kernel
theorem dX1_readTerm_33 : decode cX1_readTerm 33 = .ok (.bipush (-15), 2) := by decide +kernel
theorem dX1_readTerm_35 : decode cX1_readTerm 35 = .ok (.invokevirtual 124, 3) := by decide +kernel
theorem dX1_readTerm_38 : decode cX1_readTerm 38 = .ok (.iinc 2 1, 3) := by decide +kernel
theorem dX1_readTerm_41 : decode cX1_readTerm 41 = .ok (.goto (-34), 3) := by decide +kernel
theorem dX1_readTerm_44 : decode cX1_readTerm 44 = .ok (.return_, 1) := by decide +kernel
theorem dX1_readOne_0 : decode cX1_readOne 0 = .ok (.aload_n 0, 1) := by decide +kernel
theorem dX1_readOne_1 : decode cX1_readOne 1 = .ok (.getfield 47, 3) := by decide +kernel
theorem dX1_readOne_4 : decode cX1_readOne 4 = .ok (.iconst 2, 1) := by decide +kernel
theorem dX1_readOne_5 : decode cX1_readOne 5 = .ok (.if_icmp .ne 18, 3) := by decide +kernel
theorem dX1_readOne_8 : decode cX1_readOne 8 = .ok (.aload_n 0, 1) := by decide +kernel
theorem dX1_readOne_9 : decode cX1_readOne 9 = .ok (.aload_n 0, 1) := by decide +kernel
theorem dX1_readOne_10 : decode cX1_readOne 10 = .ok (.getfield 80, 3) := by decide +kernel
theorem dX1_readOne_13 : decode cX1_readOne 13 = .ok (.invokevirtual 124, 3) := by decide +kernel
theorem dX1_readOne_16 : decode cX1_readOne 16 = .ok (.aload_n 0, 1) := by decide +kernel
theorem dX1_readOne_17 : decode cX1_readOne 17 = .ok (.invokevirtual 28, 3) := by decide +kernel
theorem dX1_readOne_20 : decode cX1_readOne 20 = .ok (.goto 106, 3) := by decide +kernel
theorem dX1_readOne_23 : decode cX1_readOne 23 = .ok (.aload_n 0, 1) := by decide +kernel
theorem dX1_readOne_24 : decode cX1_readOne 24 = .ok (.getfield 47, 3) := by decide +kernel
theorem dX1_readOne_27 : decode cX1_readOne 27 = .ok (.sipush 262, 3) := by decide +kernel
theorem dX1_readOne_30 : decode cX1_readOne 30 = .ok (.if_icmp .lt 24, 3) := by decide +kernel
theorem dX1_readOne_33 : decode cX1_readOne 33 = .ok (.aload_n 0, 1) := by decide +kernel
theorem dX1_readOne_34 : decode cX1_readOne 34 = .ok (.iconst (-1), 1) := by decide +kernel
theorem dX1_readOne_35 : decode cX1_readOne 35 = .ok (.aload_n 0, 1) := by decide +kernel
theorem dX1_readOne_36 : decode cX1_readOne 36 = .ok (.getfield 47, 3) := by decide +kernel
theorem dX1_readOne_39 : decode cX1_readOne 39 = .ok (.sipush 262, 3) := by decide +kernel
theorem dX1_readOne_42 : decode cX1_readOne 42 = .ok (.isub, 1) := by decide +kernel
theorem dX1_readOne_43 : decode cX1_readOne 43 = .ok (.isub, 1) := by decide +kernel
theorem dX1_readOne_44 : decode cX1_readOne 44 = .ok (.invokevirtual 124, 3) := by decide +kernel
theorem dX1_readOne_47 : decode cX1_readOne 47 = .ok (.aload_n 0, 1) := by decide +kernel
theorem dX1_readOne_48 : decode cX1_readOne 48 = .ok (.invokevirtual 28, 3) := by decide +kernel
theorem dX1_readOne_51 : decode cX1_readOne 51 = .ok (.goto 75, 3) := by decide +kernel
theorem dX1_readOne_54 : decode cX1_readOne 54 = .ok (.aload_n 0, 1) := by decide +kernel
theorem dX1_readOne_55 : decode cX1_readOne 55 = .ok (.getfield 47, 3) := by decide +kernel
theorem dX1_readOne_58 : decode cX1_readOne 58 = .ok (.bipush 45, 2) := by decide +kernel
theorem dX1_readOne_60 : decode cX1_readOne 60 = .ok (.if_icmp .ne 28, 3) := by decide +kernel
theorem dX1_readOne_63 : decode cX1_readOne 63 = .ok (.iload_n 1, 1) := by decide +kernel
theorem dX1_readOne_64 : decode cX1_readOne 64 = .ok (.iconst 5, 1) := by decide +kernel
theorem dX1_readOne_65 : decode cX1_readOne 65 = .ok (.if_icmp .ge 23, 3) := by decide +kernel
theorem dX1_readOne_68 : decode cX1_readOne 68 = .ok (.aload_n 0, 1) := by decide +kernel
theorem dX1_readOne_69 : decode cX1_readOne 69 = .ok (.invokevirtual 28, 3) := by decide +kernel
theorem dX1_readOne_72 : decode cX1_readOne 72 = .ok (.aload_n 0, 1) := by decide +kernel
theorem dX1_readOne_73 : decode cX1_readOne 73 = .ok (.iload_n 1, 1) := by decide +kernel
theorem dX1_readOne_74 : decode cX1_readOne 74 = .ok (.iconst 1, 1) := by decide +kernel
theorem dX1_readOne_75 : decode cX1_readOne 75 = .ok (.iadd, 1) := by decide +kernel
theorem dX1_readOne_76 : decode cX1_readOne 76 = .ok (.invokevirtual 136, 3) := by decide +kernel
theorem dX1_readOne_79 : decode cX1_readOne 79 = .ok (.aload_n 0, 1) := by decide +kernel
theorem dX1_readOne_80 : decode cX1_readOne 80 = .ok (.bipush (-8), 2) := by decide +kernel
theorem dX1_readOne_82 : decode cX1_readOne 82 = .ok (.invokevirtual 124, 3) := by decide +kernel
theorem dX1_readOne_85 : decode cX1_readOne 85 = .ok (.goto 41, 3) := by decide +kernel
theorem dX1_readOne_88 : decode cX1_readOne 88 = .ok (.aload_n 0, 1) := by decide +kernel
theorem dX1_readOne_89 : decode cX1_readOne 89 = .ok (.getfield 47, 3) := by decide +kernel
theorem dX1_readOne_92 : decode cX1_readOne 92 = .ok (.bipush 40, 2) := by decide +kernel
theorem dX1_readOne_94 : decode cX1_readOne 94 = .ok (.if_icmp .ne 28, 3) := by decide +kernel
theorem dX1_readOne_97 : decode cX1_readOne 97 = .ok (.iload_n 1, 1) := by decide +kernel
theorem dX1_readOne_98 : decode cX1_readOne 98 = .ok (.iconst 5, 1) := by decide +kernel
theorem dX1_readOne_99 : decode cX1_readOne 99 = .ok (.if_icmp .ge 23, 3) := by decide +kernel
theorem dX1_readOne_102 : decode cX1_readOne 102 = .ok (.aload_n 0, 1) := by decide +kernel
theorem dX1_readOne_103 : decode cX1_readOne 103 = .ok (.invokevirtual 28, 3) := by decide +kernel
theorem dX1_readOne_106 : decode cX1_readOne 106 = .ok (.aload_n 0, 1) := by decide +kernel
theorem dX1_readOne_107 : decode cX1_readOne 107 = .ok (.iload_n 1, 1) := by decide +kernel
theorem dX1_readOne_108 : decode cX1_readOne 108 = .ok (.iconst 1, 1) := by decide +kernel
theorem dX1_readOne_109 : decode cX1_readOne 109 = .ok (.iadd, 1) := by decide +kernel
theorem dX1_readOne_110 : decode cX1_readOne 110 = .ok (.invokevirtual 112, 3) := by decide +kernel
theorem dX1_readOne_113 : decode cX1_readOne 113 = .ok (.aload_n 0, 1) := by decide +kernel
theorem dX1_readOne_114 : decode cX1_readOne 114 = .ok (.bipush 41, 2) := by decide +kernel
theorem dX1_readOne_116 : decode cX1_readOne 116 = .ok (.invokevirtual 35, 3) := by decide +kernel
theorem dX1_readOne_119 : decode cX1_readOne 119 = .ok (.goto 7, 3) := by decide +kernel
theorem dX1_readOne_122 : decode cX1_readOne 122 = .ok (.aload_n 0, 1) := by decide +kernel
theorem dX1_readOne_123 : decode cX1_readOne 123 = .ok (.invokevirtual 107, 3) := by decide +kernel
theorem dX1_readOne_126 : decode cX1_readOne 126 = .ok (.return_, 1) := by decide +kernel
theorem dX2_init_0 : decode cX2_init 0 = .ok (.aload_n 0, 1) := by decide +kernel
theorem dX2_init_1 : decode cX2_init 1 = .ok (.invokespecial 3, 3) := by decide +kernel
theorem dX2_init_4 : decode cX2_init 4 = .ok (.aload_n 0, 1) := by decide +kernel
theorem dX2_init_5 : decode cX2_init 5 = .ok (.iconst 4, 1) := by decide +kernel
theorem dX2_init_6 : decode cX2_init 6 = .ok (.bipush 40, 2) := by decide +kernel
theorem dX2_init_8 : decode cX2_init 8 = .ok (.multianewarray 9 2, 4) := by decide +kernel
theorem dX2_init_12 : decode cX2_init 12 = .ok (.putfield 11, 3) := by decide +kernel
theorem dX2_init_15 : decode cX2_init 15 = .ok (.aload_n 0, 1) := by decide +kernel
theorem dX2_init_16 : decode cX2_init 16 = .ok (.iconst 4, 1) := by decide +kernel
theorem dX2_init_17 : decode cX2_init 17 = .ok (.newarray .int, 2) := by decide +kernel
theorem dX2_init_19 : decode cX2_init 19 = .ok (.putfield 16, 3) := by decide +kernel
theorem dX2_init_22 : decode cX2_init 22 = .ok (.aload_n 0, 1) := by decide +kernel
theorem dX2_init_23 : decode cX2_init 23 = .ok (.iconst 4, 1) := by decide +kernel
theorem dX2_init_24 : decode cX2_init 24 = .ok (.newarray .int, 2) := by decide +kernel
theorem dX2_init_26 : decode cX2_init 26 = .ok (.putfield 20, 3) := by decide +kernel
theorem dX2_init_29 : decode cX2_init 29 = .ok (.iconst 0, 1) := by decide +kernel
theorem dX2_init_30 : decode cX2_init 30 = .ok (.istore_n 1, 1) := by decide +kernel
theorem dX2_init_31 : decode cX2_init 31 = .ok (.iload_n 1, 1) := by decide +kernel
theorem dX2_init_32 : decode cX2_init 32 = .ok (.iconst 4, 1) := by decide +kernel
theorem dX2_init_33 : decode cX2_init 33 = .ok (.if_icmp .ge 16, 3) := by decide +kernel
theorem dX2_init_36 : decode cX2_init 36 = .ok (.aload_n 0, 1) := by decide +kernel
theorem dX2_init_37 : decode cX2_init 37 = .ok (.getfield 16, 3) := by decide +kernel
theorem dX2_init_40 : decode cX2_init 40 = .ok (.iload_n 1, 1) := by decide +kernel
theorem dX2_init_41 : decode cX2_init 41 = .ok (.iconst (-1), 1) := by decide +kernel
theorem dX2_init_42 : decode cX2_init 42 = .ok (.iastore, 1) := by decide +kernel
theorem dX2_init_43 : decode cX2_init 43 = .ok (.iinc 1 1, 3) := by decide +kernel
theorem dX2_init_46 : decode cX2_init 46 = .ok (.goto (-15), 3) := by decide +kernel
theorem dX2_init_49 : decode cX2_init 49 = .ok (.return_, 1) := by decide +kernel
theorem dX2_has_0 : decode cX2_has 0 = .ok (.iload_n 1, 1) := by decide +kernel
theorem dX2_has_1 : decode cX2_has 1 = .ok (.ifCond .lt 12, 3) := by decide +kernel
theorem dX2_has_4 : decode cX2_has 4 = .ok (.iload_n 1, 1) := by decide +kernel
theorem dX2_has_5 : decode cX2_has 5 = .ok (.iconst 4, 1) := by decide +kernel
theorem dX2_has_6 : decode cX2_has 6 = .ok (.if_icmp .ge 7, 3) := by decide +kernel
theorem dX2_has_9 : decode cX2_has 9 = .ok (.iconst 1, 1) := by decide +kernel
theorem dX2_has_10 : decode cX2_has 10 = .ok (.goto 4, 3) := by decide +kernel
theorem dX2_has_13 : decode cX2_has 13 = .ok (.iconst 0, 1) := by decide +kernel
theorem dX2_has_14 : decode cX2_has 14 = .ok (.ireturn, 1) := by decide +kernel
theorem dX2_isMissing_0 : decode cX2_isMissing 0 = .ok (.aload_n 0, 1) := by decide +kernel
theorem dX2_isMissing_1 : decode cX2_isMissing 1 = .ok (.iload_n 1, 1) := by decide +kernel
theorem dX2_isMissing_2 : decode cX2_isMissing 2 = .ok (.invokevirtual 23, 3) := by decide +kernel
theorem dX2_isMissing_5 : decode cX2_isMissing 5 = .ok (.ifCond .eq 13, 3) := by decide +kernel
theorem dX2_isMissing_8 : decode cX2_isMissing 8 = .ok (.aload_n 0, 1) := by decide +kernel
theorem dX2_isMissing_9 : decode cX2_isMissing 9 = .ok (.getfield 16, 3) := by decide +kernel
theorem dX2_isMissing_12 : decode cX2_isMissing 12 = .ok (.iload_n 1, 1) := by decide +kernel
theorem dX2_isMissing_13 : decode cX2_isMissing 13 = .ok (.iaload, 1) := by decide +kernel
theorem dX2_isMissing_14 : decode cX2_isMissing 14 = .ok (.iconst (-1), 1) := by decide +kernel
theorem dX2_isMissing_15 : decode cX2_isMissing 15 = .ok (.if_icmp .ne 7, 3) := by decide +kernel
theorem dX2_isMissing_18 : decode cX2_isMissing 18 = .ok (.iconst 1, 1) := by decide +kernel
theorem dX2_isMissing_19 : decode cX2_isMissing 19 = .ok (.goto 4, 3) := by decide +kernel
theorem dX2_isMissing_22 : decode cX2_isMissing 22 = .ok (.iconst 0, 1) := by decide +kernel
theorem dX2_isMissing_23 : decode cX2_isMissing 23 = .ok (.ireturn, 1) := by decide +kernel
theorem dX2_sort_0 : decode cX2_sort 0 = .ok (.aload_n 0, 1) := by decide +kernel
theorem dX2_sort_1 : decode cX2_sort 1 = .ok (.iload_n 1, 1) := by decide +kernel
theorem dX2_sort_2 : decode cX2_sort 2 = .ok (.invokevirtual 23, 3) := by decide +kernel
theorem dX2_sort_5 : decode cX2_sort 5 = .ok (.ifCond .eq 12, 3) := by decide +kernel
theorem dX2_sort_8 : decode cX2_sort 8 = .ok (.aload_n 0, 1) := by decide +kernel
theorem dX2_sort_9 : decode cX2_sort 9 = .ok (.getfield 16, 3) := by decide +kernel
theorem dX2_sort_12 : decode cX2_sort 12 = .ok (.iload_n 1, 1) := by decide +kernel
theorem dX2_sort_13 : decode cX2_sort 13 = .ok (.iaload, 1) := by decide +kernel
theorem dX2_sort_14 : decode cX2_sort 14 = .ok (.goto 4, 3) := by decide +kernel
theorem dX2_sort_17 : decode cX2_sort 17 = .ok (.iconst (-1), 1) := by decide +kernel
theorem dX2_sort_18 : decode cX2_sort 18 = .ok (.ireturn, 1) := by decide +kernel
theorem dX2_size_0 : decode cX2_size 0 = .ok (.aload_n 0, 1) := by decide +kernel
theorem dX2_size_1 : decode cX2_size 1 = .ok (.iload_n 1, 1) := by decide +kernel
theorem dX2_size_2 : decode cX2_size 2 = .ok (.invokevirtual 23, 3) := by decide +kernel
theorem dX2_size_5 : decode cX2_size 5 = .ok (.ifCond .eq 12, 3) := by decide +kernel
theorem dX2_size_8 : decode cX2_size 8 = .ok (.aload_n 0, 1) := by decide +kernel
theorem dX2_size_9 : decode cX2_size 9 = .ok (.getfield 20, 3) := by decide +kernel
theorem dX2_size_12 : decode cX2_size 12 = .ok (.iload_n 1, 1) := by decide +kernel
theorem dX2_size_13 : decode cX2_size 13 = .ok (.iaload, 1) := by decide +kernel
theorem dX2_size_14 : decode cX2_size 14 = .ok (.goto 4, 3) := by decide +kernel
theorem dX2_size_17 : decode cX2_size 17 = .ok (.iconst 0, 1) := by decide +kernel
theorem dX2_size_18 : decode cX2_size 18 = .ok (.ireturn, 1) := by decide +kernel
theorem dX2_hasItem_0 : decode cX2_hasItem 0 = .ok (.iload_n 2, 1) := by decide +kernel
theorem dX2_hasItem_1 : decode cX2_hasItem 1 = .ok (.ifCond .lt 16, 3) := by decide +kernel
theorem dX2_hasItem_4 : decode cX2_hasItem 4 = .ok (.iload_n 2, 1) := by decide +kernel
theorem dX2_hasItem_5 : decode cX2_hasItem 5 = .ok (.aload_n 0, 1) := by decide +kernel
theorem dX2_hasItem_6 : decode cX2_hasItem 6 = .ok (.iload_n 1, 1) := by decide +kernel
theorem dX2_hasItem_7 : decode cX2_hasItem 7 = .ok (.invokevirtual 27, 3) := by decide +kernel
theorem dX2_hasItem_10 : decode cX2_hasItem 10 = .ok (.if_icmp .ge 7, 3) := by decide +kernel
theorem dX2_hasItem_13 : decode cX2_hasItem 13 = .ok (.iconst 1, 1) := by decide +kernel
theorem dX2_hasItem_14 : decode cX2_hasItem 14 = .ok (.goto 4, 3) := by decide +kernel
theorem dX2_hasItem_17 : decode cX2_hasItem 17 = .ok (.iconst 0, 1) := by decide +kernel
theorem dX2_hasItem_18 : decode cX2_hasItem 18 = .ok (.ireturn, 1) := by decide +kernel
theorem dX2_hasItems_0 : decode cX2_hasItems 0 = .ok (.iload_n 2, 1) := by decide +kernel
theorem dX2_hasItems_1 : decode cX2_hasItems 1 = .ok (.ifCond .lt 22, 3) := by decide +kernel
theorem dX2_hasItems_4 : decode cX2_hasItems 4 = .ok (.iload_n 3, 1) := by decide +kernel
theorem dX2_hasItems_5 : decode cX2_hasItems 5 = .ok (.ifCond .lt 18, 3) := by decide +kernel
theorem dX2_hasItems_8 : decode cX2_hasItems 8 = .ok (.iload_n 2, 1) := by decide +kernel
theorem dX2_hasItems_9 : decode cX2_hasItems 9 = .ok (.aload_n 0, 1) := by decide +kernel
theorem dX2_hasItems_10 : decode cX2_hasItems 10 = .ok (.iload_n 1, 1) := by decide +kernel
theorem dX2_hasItems_11 : decode cX2_hasItems 11 = .ok (.invokevirtual 27, 3) := by decide +kernel
theorem dX2_hasItems_14 : decode cX2_hasItems 14 = .ok (.iload_n 3, 1) := by decide +kernel
theorem dX2_hasItems_15 : decode cX2_hasItems 15 = .ok (.isub, 1) := by decide +kernel
theorem dX2_hasItems_16 : decode cX2_hasItems 16 = .ok (.if_icmp .gt 7, 3) := by decide +kernel
theorem dX2_hasItems_19 : decode cX2_hasItems 19 = .ok (.iconst 1, 1) := by decide +kernel
theorem dX2_hasItems_20 : decode cX2_hasItems 20 = .ok (.goto 4, 3) := by decide +kernel
theorem dX2_hasItems_23 : decode cX2_hasItems 23 = .ok (.iconst 0, 1) := by decide +kernel
theorem dX2_hasItems_24 : decode cX2_hasItems 24 = .ok (.ireturn, 1) := by decide +kernel
theorem dX2_drop_0 : decode cX2_drop 0 = .ok (.aload_n 0, 1) := by decide +kernel
theorem dX2_drop_1 : decode cX2_drop 1 = .ok (.iload_n 1, 1) := by decide +kernel
theorem dX2_drop_2 : decode cX2_drop 2 = .ok (.invokevirtual 23, 3) := by decide +kernel
theorem dX2_drop_5 : decode cX2_drop 5 = .ok (.ifCond .eq 17, 3) := by decide +kernel
theorem dX2_drop_8 : decode cX2_drop 8 = .ok (.aload_n 0, 1) := by decide +kernel
theorem dX2_drop_9 : decode cX2_drop 9 = .ok (.getfield 16, 3) := by decide +kernel
theorem dX2_drop_12 : decode cX2_drop 12 = .ok (.iload_n 1, 1) := by decide +kernel
theorem dX2_drop_13 : decode cX2_drop 13 = .ok (.iconst (-1), 1) := by decide +kernel
theorem dX2_drop_14 : decode cX2_drop 14 = .ok (.iastore, 1) := by decide +kernel
theorem dX2_drop_15 : decode cX2_drop 15 = .ok (.aload_n 0, 1) := by decide +kernel
theorem dX2_drop_16 : decode cX2_drop 16 = .ok (.getfield 20, 3) := by decide +kernel
theorem dX2_drop_19 : decode cX2_drop 19 = .ok (.iload_n 1, 1) := by decide +kernel
theorem dX2_drop_20 : decode cX2_drop 20 = .ok (.iconst 0, 1) := by decide +kernel
theorem dX2_drop_21 : decode cX2_drop 21 = .ok (.iastore, 1) := by decide +kernel
theorem dX2_drop_22 : decode cX2_drop 22 = .ok (.return_, 1) := by decide +kernel
theorem dX2_make_0 : decode cX2_make 0 = .ok (.aload_n 0, 1) := by decide +kernel
theorem dX2_make_1 : decode cX2_make 1 = .ok (.iload_n 1, 1) := by decide +kernel
theorem dX2_make_2 : decode cX2_make 2 = .ok (.invokevirtual 23, 3) := by decide +kernel
theorem dX2_make_5 : decode cX2_make 5 = .ok (.ifCond .eq 52, 3) := by decide +kernel
theorem dX2_make_8 : decode cX2_make 8 = .ok (.iload_n 3, 1) := by decide +kernel
theorem dX2_make_9 : decode cX2_make 9 = .ok (.ifCond .lt 48, 3) := by decide +kernel
theorem dX2_make_12 : decode cX2_make 12 = .ok (.iload_n 3, 1) := by decide +kernel
theorem dX2_make_13 : decode cX2_make 13 = .ok (.bipush 40, 2) := by decide +kernel
theorem dX2_make_15 : decode cX2_make 15 = .ok (.if_icmp .gt 42, 3) := by decide +kernel
theorem dX2_make_18 : decode cX2_make 18 = .ok (.aload_n 0, 1) := by decide +kernel
theorem dX2_make_19 : decode cX2_make 19 = .ok (.getfield 16, 3) := by decide +kernel
theorem dX2_make_22 : decode cX2_make 22 = .ok (.iload_n 1, 1) := by decide +kernel
theorem dX2_make_23 : decode cX2_make 23 = .ok (.iload_n 2, 1) := by decide +kernel
theorem dX2_make_24 : decode cX2_make 24 = .ok (.iastore, 1) := by decide +kernel
theorem dX2_make_25 : decode cX2_make 25 = .ok (.aload_n 0, 1) := by decide +kernel
theorem dX2_make_26 : decode cX2_make 26 = .ok (.getfield 20, 3) := by decide +kernel
theorem dX2_make_29 : decode cX2_make 29 = .ok (.iload_n 1, 1) := by decide +kernel
theorem dX2_make_30 : decode cX2_make 30 = .ok (.iload_n 3, 1) := by decide +kernel
theorem dX2_make_31 : decode cX2_make 31 = .ok (.iastore, 1) := by decide +kernel
theorem dX2_make_32 : decode cX2_make 32 = .ok (.iconst 0, 1) := by decide +kernel
theorem dX2_make_33 : decode cX2_make 33 = .ok (.istore 4, 2) := by decide +kernel
theorem dX2_make_35 : decode cX2_make 35 = .ok (.iload 4, 2) := by decide +kernel
theorem dX2_make_37 : decode cX2_make 37 = .ok (.iload_n 3, 1) := by decide +kernel
theorem dX2_make_38 : decode cX2_make 38 = .ok (.if_icmp .ge 19, 3) := by decide +kernel
theorem dX2_make_41 : decode cX2_make 41 = .ok (.aload_n 0, 1) := by decide +kernel
theorem dX2_make_42 : decode cX2_make 42 = .ok (.getfield 11, 3) := by decide +kernel
theorem dX2_make_45 : decode cX2_make 45 = .ok (.iload_n 1, 1) := by decide +kernel
theorem dX2_make_46 : decode cX2_make 46 = .ok (.aaload, 1) := by decide +kernel
theorem dX2_make_47 : decode cX2_make 47 = .ok (.iload 4, 2) := by decide +kernel
theorem dX2_make_49 : decode cX2_make 49 = .ok (.iconst 0, 1) := by decide +kernel
theorem dX2_make_50 : decode cX2_make 50 = .ok (.iastore, 1) := by decide +kernel
theorem dX2_make_51 : decode cX2_make 51 = .ok (.iinc 4 1, 3) := by decide +kernel
theorem dX2_make_54 : decode cX2_make 54 = .ok (.goto (-19), 3) := by decide +kernel
theorem dX2_make_57 : decode cX2_make 57 = .ok (.return_, 1) := by decide +kernel
theorem dX2_at_0 : decode cX2_at 0 = .ok (.aload_n 0, 1) := by decide +kernel
theorem dX2_at_1 : decode cX2_at 1 = .ok (.iload_n 1, 1) := by decide +kernel
theorem dX2_at_2 : decode cX2_at 2 = .ok (.iload_n 2, 1) := by decide +kernel
theorem dX2_at_3 : decode cX2_at 3 = .ok (.invokevirtual 31, 3) := by decide +kernel
theorem dX2_at_6 : decode cX2_at 6 = .ok (.ifCond .eq 14, 3) := by decide +kernel
theorem dX2_at_9 : decode cX2_at 9 = .ok (.aload_n 0, 1) := by decide +kernel
theorem dX2_at_10 : decode cX2_at 10 = .ok (.getfield 11, 3) := by decide +kernel
theorem dX2_at_13 : decode cX2_at 13 = .ok (.iload_n 1, 1) := by decide +kernel
theorem dX2_at_14 : decode cX2_at 14 = .ok (.aaload, 1) := by decide +kernel
theorem dX2_at_15 : decode cX2_at 15 = .ok (.iload_n 2, 1) := by decide +kernel
theorem dX2_at_16 : decode cX2_at 16 = .ok (.iaload, 1) := by decide +kernel
theorem dX2_at_17 : decode cX2_at 17 = .ok (.goto 4, 3) := by decide +kernel
theorem dX2_at_20 : decode cX2_at 20 = .ok (.iconst 0, 1) := by decide +kernel
theorem dX2_at_21 : decode cX2_at 21 = .ok (.ireturn, 1) := by decide +kernel
theorem dX2_put_0 : decode cX2_put 0 = .ok (.aload_n 0, 1) := by decide +kernel
theorem dX2_put_1 : decode cX2_put 1 = .ok (.iload_n 1, 1) := by decide +kernel
theorem dX2_put_2 : decode cX2_put 2 = .ok (.iload_n 2, 1) := by decide +kernel
theorem dX2_put_3 : decode cX2_put 3 = .ok (.invokevirtual 31, 3) := by decide +kernel
theorem dX2_put_6 : decode cX2_put 6 = .ok (.ifCond .eq 21, 3) := by decide +kernel
theorem dX2_put_9 : decode cX2_put 9 = .ok (.aload_n 0, 1) := by decide +kernel
theorem dX2_put_10 : decode cX2_put 10 = .ok (.getfield 11, 3) := by decide +kernel
theorem dX2_put_13 : decode cX2_put 13 = .ok (.iload_n 1, 1) := by decide +kernel
theorem dX2_put_14 : decode cX2_put 14 = .ok (.aaload, 1) := by decide +kernel
theorem dX2_put_15 : decode cX2_put 15 = .ok (.iload_n 2, 1) := by decide +kernel
theorem dX2_put_16 : decode cX2_put 16 = .ok (.aload_n 0, 1) := by decide +kernel
theorem dX2_put_17 : decode cX2_put 17 = .ok (.getfield 16, 3) := by decide +kernel
theorem dX2_put_20 : decode cX2_put 20 = .ok (.iload_n 1, 1) := by decide +kernel
theorem dX2_put_21 : decode cX2_put 21 = .ok (.iaload, 1) := by decide +kernel
theorem dX2_put_22 : decode cX2_put 22 = .ok (.iload_n 3, 1) := by decide +kernel
theorem dX2_put_23 : decode cX2_put 23 = .ok (.invokestatic 35, 3) := by decide +kernel
theorem dX2_put_26 : decode cX2_put 26 = .ok (.iastore, 1) := by decide +kernel
theorem dX2_put_27 : decode cX2_put 27 = .ok (.return_, 1) := by decide +kernel
theorem dX2_move_0 : decode cX2_move 0 = .ok (.aload_n 0, 1) := by decide +kernel
theorem dX2_move_1 : decode cX2_move 1 = .ok (.iload_n 1, 1) := by decide +kernel
theorem dX2_move_2 : decode cX2_move 2 = .ok (.iload_n 2, 1) := by decide +kernel
theorem dX2_move_3 : decode cX2_move 3 = .ok (.iload 5, 2) := by decide +kernel
theorem dX2_move_5 : decode cX2_move 5 = .ok (.invokevirtual 39, 3) := by decide +kernel
theorem dX2_move_8 : decode cX2_move 8 = .ok (.ifCond .eq 35, 3) := by decide +kernel
theorem dX2_move_11 : decode cX2_move 11 = .ok (.aload_n 0, 1) := by decide +kernel
theorem dX2_move_12 : decode cX2_move 12 = .ok (.iload_n 3, 1) := by decide +kernel
theorem dX2_move_13 : decode cX2_move 13 = .ok (.iload 4, 2) := by decide +kernel
theorem dX2_move_15 : decode cX2_move 15 = .ok (.iload 5, 2) := by decide +kernel
theorem dX2_move_17 : decode cX2_move 17 = .ok (.invokevirtual 39, 3) := by decide +kernel
theorem dX2_move_20 : decode cX2_move 20 = .ok (.ifCond .eq 23, 3) := by decide +kernel
theorem dX2_move_23 : decode cX2_move 23 = .ok (.aload_n 0, 1) := by decide +kernel
theorem dX2_move_24 : decode cX2_move 24 = .ok (.getfield 11, 3) := by decide +kernel
theorem dX2_move_27 : decode cX2_move 27 = .ok (.iload_n 1, 1) := by decide +kernel
theorem dX2_move_28 : decode cX2_move 28 = .ok (.aaload, 1) := by decide +kernel
theorem dX2_move_29 : decode cX2_move 29 = .ok (.iload_n 2, 1) := by decide +kernel
theorem dX2_move_30 : decode cX2_move 30 = .ok (.aload_n 0, 1) := by decide +kernel
theorem dX2_move_31 : decode cX2_move 31 = .ok (.getfield 11, 3) := by decide +kernel
theorem dX2_move_34 : decode cX2_move 34 = .ok (.iload_n 3, 1) := by decide +kernel
theorem dX2_move_35 : decode cX2_move 35 = .ok (.aaload, 1) := by decide +kernel
theorem dX2_move_36 : decode cX2_move 36 = .ok (.iload 4, 2) := by decide +kernel
theorem dX2_move_38 : decode cX2_move 38 = .ok (.iload 5, 2) := by decide +kernel
theorem dX2_move_40 : decode cX2_move 40 = .ok (.invokestatic 43, 3) := by decide +kernel
theorem dX2_move_43 : decode cX2_move 43 = .ok (.return_, 1) := by decide +kernel
theorem dX2_narrowed_0 : decode cX2_narrowed 0 = .ok (.iload_n 0, 1) := by decide +kernel
theorem dX2_narrowed_1 : decode cX2_narrowed 1 = .ok (.ifCond .ne 6, 3) := by decide +kernel
theorem dX2_narrowed_4 : decode cX2_narrowed 4 = .ok (.iload_n 1, 1) := by decide +kernel
theorem dX2_narrowed_5 : decode cX2_narrowed 5 = .ok (.i2b, 1) := by decide +kernel
theorem dX2_narrowed_6 : decode cX2_narrowed 6 = .ok (.ireturn, 1) := by decide +kernel
theorem dX2_narrowed_7 : decode cX2_narrowed 7 = .ok (.iload_n 0, 1) := by decide +kernel
theorem dX2_narrowed_8 : decode cX2_narrowed 8 = .ok (.iconst 1, 1) := by decide +kernel
theorem dX2_narrowed_9 : decode cX2_narrowed 9 = .ok (.if_icmp .ne 8, 3) := by decide +kernel
theorem dX2_narrowed_12 : decode cX2_narrowed 12 = .ok (.iload_n 1, 1) := by decide +kernel
theorem dX2_narrowed_13 : decode cX2_narrowed 13 = .ok (.i2s, 1) := by decide +kernel
theorem dX2_narrowed_14 : decode cX2_narrowed 14 = .ok (.goto 4, 3) := by decide +kernel
theorem dX2_narrowed_17 : decode cX2_narrowed 17 = .ok (.iload_n 1, 1) := by decide +kernel
theorem dX2_narrowed_18 : decode cX2_narrowed 18 = .ok (.ireturn, 1) := by decide +kernel
theorem dX3_init_0 : decode cX3_init 0 = .ok (.aload_n 0, 1) := by decide +kernel
theorem dX3_init_1 : decode cX3_init 1 = .ok (.invokespecial 3, 3) := by decide +kernel
theorem dX3_init_4 : decode cX3_init 4 = .ok (.aload_n 0, 1) := by decide +kernel
theorem dX3_init_5 : decode cX3_init 5 = .ok (.aload_n 1, 1) := by decide +kernel
theorem dX3_init_6 : decode cX3_init 6 = .ok (.putfield 9, 3) := by decide +kernel
theorem dX3_init_9 : decode cX3_init 9 = .ok (.aload_n 0, 1) := by decide +kernel
theorem dX3_init_10 : decode cX3_init 10 = .ok (.aload_n 2, 1) := by decide +kernel
theorem dX3_init_11 : decode cX3_init 11 = .ok (.putfield 15, 3) := by decide +kernel
theorem dX3_init_14 : decode cX3_init 14 = .ok (.aload_n 0, 1) := by decide +kernel
theorem dX3_init_15 : decode cX3_init 15 = .ok (.aload_n 3, 1) := by decide +kernel
theorem dX3_init_16 : decode cX3_init 16 = .ok (.putfield 18, 3) := by decide +kernel
theorem dX3_init_19 : decode cX3_init 19 = .ok (.return_, 1) := by decide +kernel
theorem dX3_codeOf_0 : decode cX3_codeOf 0 = .ok (.iload_n 1, 1) := by decide +kernel
theorem dX3_codeOf_1 : decode cX3_codeOf 1 = .ok (.ifCond .ne 8, 3) := by decide +kernel
theorem dX3_codeOf_4 : decode cX3_codeOf 4 = .ok (.aload_n 0, 1) := by decide +kernel
theorem dX3_codeOf_5 : decode cX3_codeOf 5 = .ok (.getfield 9, 3) := by decide +kernel
theorem dX3_codeOf_8 : decode cX3_codeOf 8 = .ok (.areturn, 1) := by decide +kernel
theorem dX3_codeOf_9 : decode cX3_codeOf 9 = .ok (.iload_n 1, 1) := by decide +kernel
theorem dX3_codeOf_10 : decode cX3_codeOf 10 = .ok (.iconst 1, 1) := by decide +kernel
theorem dX3_codeOf_11 : decode cX3_codeOf 11 = .ok (.if_icmp .ne 10, 3) := by decide +kernel
theorem dX3_codeOf_14 : decode cX3_codeOf 14 = .ok (.aload_n 0, 1) := by decide +kernel
theorem dX3_codeOf_15 : decode cX3_codeOf 15 = .ok (.getfield 15, 3) := by decide +kernel
theorem dX3_codeOf_18 : decode cX3_codeOf 18 = .ok (.goto 7, 3) := by decide +kernel
theorem dX3_codeOf_21 : decode cX3_codeOf 21 = .ok (.aload_n 0, 1) := by decide +kernel
theorem dX3_codeOf_22 : decode cX3_codeOf 22 = .ok (.getfield 18, 3) := by decide +kernel
theorem dX3_codeOf_25 : decode cX3_codeOf 25 = .ok (.areturn, 1) := by decide +kernel
theorem dX3_turned_0 : decode cX3_turned 0 = .ok (.iload_n 0, 1) := by decide +kernel
theorem dX3_turned_1 : decode cX3_turned 1 = .ok (.bipush (-8), 2) := by decide +kernel
theorem dX3_turned_3 : decode cX3_turned 3 = .ok (.if_icmp .ne 6, 3) := by decide +kernel
theorem dX3_turned_6 : decode cX3_turned 6 = .ok (.iload_n 1, 1) := by decide +kernel
theorem dX3_turned_7 : decode cX3_turned 7 = .ok (.ineg, 1) := by decide +kernel
theorem dX3_turned_8 : decode cX3_turned 8 = .ok (.ireturn, 1) := by decide +kernel
theorem dX3_turned_9 : decode cX3_turned 9 = .ok (.iload_n 1, 1) := by decide +kernel
theorem dX3_turned_10 : decode cX3_turned 10 = .ok (.ifCond .ne 7, 3) := by decide +kernel
theorem dX3_turned_13 : decode cX3_turned 13 = .ok (.iconst 1, 1) := by decide +kernel
theorem dX3_turned_14 : decode cX3_turned 14 = .ok (.goto 4, 3) := by decide +kernel
theorem dX3_turned_17 : decode cX3_turned 17 = .ok (.iconst 0, 1) := by decide +kernel
theorem dX3_turned_18 : decode cX3_turned 18 = .ok (.ireturn, 1) := by decide +kernel
theorem dX3_joined_0 : decode cX3_joined 0 = .ok (.iload_n 0, 1) := by decide +kernel
theorem dX3_joined_1 : decode cX3_joined 1 = .ok (.tableswitch 97 (-14) (-9) #[93, 89, 78, 67, 53, 39], 39) := by decide +kernel
theorem dX3_joined_40 : decode cX3_joined 40 = .ok (.iload_n 1, 1) := by decide +kernel
theorem dX3_joined_41 : decode cX3_joined 41 = .ok (.ifCond .ne 7, 3) := by decide +kernel
theorem dX3_joined_44 : decode cX3_joined 44 = .ok (.iload_n 2, 1) := by decide +kernel
theorem dX3_joined_45 : decode cX3_joined 45 = .ok (.ifCond .eq 7, 3) := by decide +kernel
theorem dX3_joined_48 : decode cX3_joined 48 = .ok (.iconst 1, 1) := by decide +kernel
theorem dX3_joined_49 : decode cX3_joined 49 = .ok (.goto 4, 3) := by decide +kernel
theorem dX3_joined_52 : decode cX3_joined 52 = .ok (.iconst 0, 1) := by decide +kernel
theorem dX3_joined_53 : decode cX3_joined 53 = .ok (.ireturn, 1) := by decide +kernel
theorem dX3_joined_54 : decode cX3_joined 54 = .ok (.iload_n 1, 1) := by decide +kernel
theorem dX3_joined_55 : decode cX3_joined 55 = .ok (.ifCond .eq 11, 3) := by decide +kernel
theorem dX3_joined_58 : decode cX3_joined 58 = .ok (.iload_n 2, 1) := by decide +kernel
theorem dX3_joined_59 : decode cX3_joined 59 = .ok (.ifCond .eq 7, 3) := by decide +kernel
theorem dX3_joined_62 : decode cX3_joined 62 = .ok (.iconst 1, 1) := by decide +kernel
theorem dX3_joined_63 : decode cX3_joined 63 = .ok (.goto 4, 3) := by decide +kernel
theorem dX3_joined_66 : decode cX3_joined 66 = .ok (.iconst 0, 1) := by decide +kernel
theorem dX3_joined_67 : decode cX3_joined 67 = .ok (.ireturn, 1) := by decide +kernel
theorem dX3_joined_68 : decode cX3_joined 68 = .ok (.iload_n 1, 1) := by decide +kernel
theorem dX3_joined_69 : decode cX3_joined 69 = .ok (.iload_n 2, 1) := by decide +kernel
theorem dX3_joined_70 : decode cX3_joined 70 = .ok (.if_icmp .ge 7, 3) := by decide +kernel
theorem dX3_joined_73 : decode cX3_joined 73 = .ok (.iconst 1, 1) := by decide +kernel
theorem dX3_joined_74 : decode cX3_joined 74 = .ok (.goto 4, 3) := by decide +kernel
theorem dX3_joined_77 : decode cX3_joined 77 = .ok (.iconst 0, 1) := by decide +kernel
theorem dX3_joined_78 : decode cX3_joined 78 = .ok (.ireturn, 1) := by decide +kernel
theorem dX3_joined_79 : decode cX3_joined 79 = .ok (.iload_n 1, 1) := by decide +kernel
theorem dX3_joined_80 : decode cX3_joined 80 = .ok (.iload_n 2, 1) := by decide +kernel
theorem dX3_joined_81 : decode cX3_joined 81 = .ok (.if_icmp .ne 7, 3) := by decide +kernel
theorem dX3_joined_84 : decode cX3_joined 84 = .ok (.iconst 1, 1) := by decide +kernel
theorem dX3_joined_85 : decode cX3_joined 85 = .ok (.goto 4, 3) := by decide +kernel
theorem dX3_joined_88 : decode cX3_joined 88 = .ok (.iconst 0, 1) := by decide +kernel
theorem dX3_joined_89 : decode cX3_joined 89 = .ok (.ireturn, 1) := by decide +kernel
theorem dX3_joined_90 : decode cX3_joined 90 = .ok (.iload_n 1, 1) := by decide +kernel
theorem dX3_joined_91 : decode cX3_joined 91 = .ok (.iload_n 2, 1) := by decide +kernel
theorem dX3_joined_92 : decode cX3_joined 92 = .ok (.iadd, 1) := by decide +kernel
theorem dX3_joined_93 : decode cX3_joined 93 = .ok (.ireturn, 1) := by decide +kernel
theorem dX3_joined_94 : decode cX3_joined 94 = .ok (.iload_n 1, 1) := by decide +kernel
theorem dX3_joined_95 : decode cX3_joined 95 = .ok (.iload_n 2, 1) := by decide +kernel
theorem dX3_joined_96 : decode cX3_joined 96 = .ok (.isub, 1) := by decide +kernel
theorem dX3_joined_97 : decode cX3_joined 97 = .ok (.ireturn, 1) := by decide +kernel
theorem dX3_joined_98 : decode cX3_joined 98 = .ok (.iload_n 1, 1) := by decide +kernel
theorem dX3_joined_99 : decode cX3_joined 99 = .ok (.iload_n 2, 1) := by decide +kernel
theorem dX3_joined_100 : decode cX3_joined 100 = .ok (.imul, 1) := by decide +kernel
theorem dX3_joined_101 : decode cX3_joined 101 = .ok (.ireturn, 1) := by decide +kernel
theorem dX4_init_0 : decode cX4_init 0 = .ok (.aload_n 0, 1) := by decide +kernel
theorem dX4_init_1 : decode cX4_init 1 = .ok (.invokespecial 1, 3) := by decide +kernel
theorem dX4_init_4 : decode cX4_init 4 = .ok (.aload_n 0, 1) := by decide +kernel
theorem dX4_init_5 : decode cX4_init 5 = .ok (.new 7, 3) := by decide +kernel
theorem dX4_init_8 : decode cX4_init 8 = .ok (.dup, 1) := by decide +kernel
theorem dX4_init_9 : decode cX4_init 9 = .ok (.invokespecial 9, 3) := by decide +kernel
theorem dX4_init_12 : decode cX4_init 12 = .ok (.putfield 10, 3) := by decide +kernel
theorem dX4_init_15 : decode cX4_init 15 = .ok (.aload_n 0, 1) := by decide +kernel
theorem dX4_init_16 : decode cX4_init 16 = .ok (.new 7, 3) := by decide +kernel
theorem dX4_init_19 : decode cX4_init 19 = .ok (.dup, 1) := by decide +kernel
theorem dX4_init_20 : decode cX4_init 20 = .ok (.invokespecial 9, 3) := by decide +kernel
theorem dX4_init_23 : decode cX4_init 23 = .ok (.putfield 16, 3) := by decide +kernel
theorem dX4_init_26 : decode cX4_init 26 = .ok (.aload_n 0, 1) := by decide +kernel
theorem dX4_init_27 : decode cX4_init 27 = .ok (.new 7, 3) := by decide +kernel
theorem dX4_init_30 : decode cX4_init 30 = .ok (.dup, 1) := by decide +kernel
theorem dX4_init_31 : decode cX4_init 31 = .ok (.invokespecial 9, 3) := by decide +kernel
theorem dX4_init_34 : decode cX4_init 34 = .ok (.putfield 19, 3) := by decide +kernel
theorem dX4_init_37 : decode cX4_init 37 = .ok (.aload_n 0, 1) := by decide +kernel
theorem dX4_init_38 : decode cX4_init 38 = .ok (.bipush 6, 2) := by decide +kernel
theorem dX4_init_40 : decode cX4_init 40 = .ok (.anewarray 22, 3) := by decide +kernel
theorem dX4_init_43 : decode cX4_init 43 = .ok (.putfield 24, 3) := by decide +kernel
theorem dX4_init_46 : decode cX4_init 46 = .ok (.aload_n 0, 1) := by decide +kernel
theorem dX4_init_47 : decode cX4_init 47 = .ok (.getfield 24, 3) := by decide +kernel
theorem dX4_init_50 : decode cX4_init 50 = .ok (.iconst 0, 1) := by decide +kernel
theorem dX4_init_51 : decode cX4_init 51 = .ok (.new 22, 3) := by decide +kernel
theorem dX4_init_54 : decode cX4_init 54 = .ok (.dup, 1) := by decide +kernel
theorem dX4_init_55 : decode cX4_init 55 = .ok (.iconst 1, 1) := by decide +kernel
theorem dX4_init_56 : decode cX4_init 56 = .ok (.newarray .int, 2) := by decide +kernel
theorem dX4_init_58 : decode cX4_init 58 = .ok (.dup, 1) := by decide +kernel
theorem dX4_init_59 : decode cX4_init 59 = .ok (.iconst 0, 1) := by decide +kernel
theorem dX4_init_60 : decode cX4_init 60 = .ok (.bipush 6, 2) := by decide +kernel
theorem dX4_init_62 : decode cX4_init 62 = .ok (.iastore, 1) := by decide +kernel
theorem dX4_init_63 : decode cX4_init 63 = .ok (.iconst 1, 1) := by decide +kernel
theorem dX4_init_64 : decode cX4_init 64 = .ok (.newarray .int, 2) := by decide +kernel
theorem dX4_init_66 : decode cX4_init 66 = .ok (.dup, 1) := by decide +kernel
theorem dX4_init_67 : decode cX4_init 67 = .ok (.iconst 0, 1) := by decide +kernel
theorem dX4_init_68 : decode cX4_init 68 = .ok (.iconst 2, 1) := by decide +kernel
theorem dX4_init_69 : decode cX4_init 69 = .ok (.iastore, 1) := by decide +kernel
theorem dX4_init_70 : decode cX4_init 70 = .ok (.iconst 1, 1) := by decide +kernel
theorem dX4_init_71 : decode cX4_init 71 = .ok (.newarray .int, 2) := by decide +kernel
theorem dX4_init_73 : decode cX4_init 73 = .ok (.dup, 1) := by decide +kernel
theorem dX4_init_74 : decode cX4_init 74 = .ok (.iconst 0, 1) := by decide +kernel
theorem dX4_init_75 : decode cX4_init 75 = .ok (.iconst 3, 1) := by decide +kernel
theorem dX4_init_76 : decode cX4_init 76 = .ok (.iastore, 1) := by decide +kernel
theorem dX4_init_77 : decode cX4_init 77 = .ok (.invokespecial 28, 3) := by decide +kernel
theorem dX4_init_80 : decode cX4_init 80 = .ok (.aastore, 1) := by decide +kernel
theorem dX4_init_81 : decode cX4_init 81 = .ok (.aload_n 0, 1) := by decide +kernel
theorem dX4_init_82 : decode cX4_init 82 = .ok (.iconst 1, 1) := by decide +kernel
theorem dX4_init_83 : decode cX4_init 83 = .ok (.putfield 31, 3) := by decide +kernel
theorem dX4_init_86 : decode cX4_init 86 = .ok (.aload_n 0, 1) := by decide +kernel
theorem dX4_init_87 : decode cX4_init 87 = .ok (.new 35, 3) := by decide +kernel
theorem dX4_init_90 : decode cX4_init 90 = .ok (.dup, 1) := by decide +kernel
theorem dX4_init_91 : decode cX4_init 91 = .ok (.invokespecial 37, 3) := by decide +kernel
theorem dX4_init_94 : decode cX4_init 94 = .ok (.putfield 38, 3) := by decide +kernel
theorem dX4_init_97 : decode cX4_init 97 = .ok (.aload_n 0, 1) := by decide +kernel
theorem dX4_init_98 : decode cX4_init 98 = .ok (.new 42, 3) := by decide +kernel
theorem dX4_init_101 : decode cX4_init 101 = .ok (.dup, 1) := by decide +kernel
theorem dX4_init_102 : decode cX4_init 102 = .ok (.invokespecial 44, 3) := by decide +kernel
theorem dX4_init_105 : decode cX4_init 105 = .ok (.putfield 45, 3) := by decide +kernel
theorem dX4_init_108 : decode cX4_init 108 = .ok (.aload_n 0, 1) := by decide +kernel
theorem dX4_init_109 : decode cX4_init 109 = .ok (.bipush 30, 2) := by decide +kernel
theorem dX4_init_111 : decode cX4_init 111 = .ok (.newarray .int, 2) := by decide +kernel
theorem dX4_init_113 : decode cX4_init 113 = .ok (.putfield 49, 3) := by decide +kernel
theorem dX4_init_116 : decode cX4_init 116 = .ok (.return_, 1) := by decide +kernel
theorem dX4_set_0 : decode cX4_set 0 = .ok (.iload_n 1, 1) := by decide +kernel
theorem dX4_set_1 : decode cX4_set 1 = .ok (.bipush 7, 2) := by decide +kernel
theorem dX4_set_3 : decode cX4_set 3 = .ok (.if_icmp .gt 27, 3) := by decide +kernel
theorem dX4_set_6 : decode cX4_set 6 = .ok (.aload_n 0, 1) := by decide +kernel
theorem dX4_set_7 : decode cX4_set 7 = .ok (.getfield 10, 3) := by decide +kernel
theorem dX4_set_10 : decode cX4_set 10 = .ok (.iload_n 1, 1) := by decide +kernel
theorem dX4_set_11 : decode cX4_set 11 = .ok (.iload_n 2, 1) := by decide +kernel
theorem dX4_set_12 : decode cX4_set 12 = .ok (.invokevirtual 53, 3) := by decide +kernel
theorem dX4_set_15 : decode cX4_set 15 = .ok (.ifCond .eq 15, 3) := by decide +kernel
theorem dX4_set_18 : decode cX4_set 18 = .ok (.iload_n 3, 1) := by decide +kernel
theorem dX4_set_19 : decode cX4_set 19 = .ok (.ifCond .lt 11, 3) := by decide +kernel
theorem dX4_set_22 : decode cX4_set 22 = .ok (.iload_n 3, 1) := by decide +kernel
theorem dX4_set_23 : decode cX4_set 23 = .ok (.iload_n 1, 1) := by decide +kernel
theorem dX4_set_24 : decode cX4_set 24 = .ok (.invokestatic 57, 3) := by decide +kernel
theorem dX4_set_27 : decode cX4_set 27 = .ok (.if_icmp .le 6, 3) := by decide +kernel
theorem dX4_set_30 : decode cX4_set 30 = .ok (.bipush (-2), 2) := by decide +kernel
theorem dX4_set_32 : decode cX4_set 32 = .ok (.ireturn, 1) := by decide +kernel
theorem dX4_set_33 : decode cX4_set 33 = .ok (.aload_n 0, 1) := by decide +kernel
theorem dX4_set_34 : decode cX4_set 34 = .ok (.getfield 10, 3) := by decide +kernel
theorem dX4_set_37 : decode cX4_set 37 = .ok (.iload_n 1, 1) := by decide +kernel
theorem dX4_set_38 : decode cX4_set 38 = .ok (.iload_n 2, 1) := by decide +kernel
theorem dX4_set_39 : decode cX4_set 39 = .ok (.invokevirtual 61, 3) := by decide +kernel
theorem dX4_set_42 : decode cX4_set 42 = .ok (.istore 4, 2) := by decide +kernel
theorem dX4_set_44 : decode cX4_set 44 = .ok (.aload_n 0, 1) := by decide +kernel
theorem dX4_set_45 : decode cX4_set 45 = .ok (.getfield 10, 3) := by decide +kernel
theorem dX4_set_48 : decode cX4_set 48 = .ok (.iload_n 1, 1) := by decide +kernel
theorem dX4_set_49 : decode cX4_set 49 = .ok (.iload_n 2, 1) := by decide +kernel
theorem dX4_set_50 : decode cX4_set 50 = .ok (.iload_n 3, 1) := by decide +kernel
theorem dX4_set_51 : decode cX4_set 51 = .ok (.invokevirtual 65, 3) := by decide +kernel
theorem dX4_set_54 : decode cX4_set 54 = .ok (.iload 4, 2) := by decide +kernel
theorem dX4_set_56 : decode cX4_set 56 = .ok (.ireturn, 1) := by decide +kernel
theorem dX4_work_0 : decode cX4_work 0 = .ok (.iload_n 1, 1) := by decide +kernel
theorem dX4_work_1 : decode cX4_work 1 = .ok (.iload_n 2, 1) := by decide +kernel
theorem dX4_work_2 : decode cX4_work 2 = .ok (.iload_n 3, 1) := by decide +kernel
theorem dX4_work_3 : decode cX4_work 3 = .ok (.invokestatic 69, 3) := by decide +kernel
theorem dX4_work_6 : decode cX4_work 6 = .ok (.ifCond .ne 6, 3) := by decide +kernel
theorem dX4_work_9 : decode cX4_work 9 = .ok (.bipush (-2), 2) := by decide +kernel
theorem dX4_work_11 : decode cX4_work 11 = .ok (.ireturn, 1) := by decide +kernel
theorem dX4_work_12 : decode cX4_work 12 = .ok (.aload_n 0, 1) := by decide +kernel
theorem dX4_work_13 : decode cX4_work 13 = .ok (.getfield 10, 3) := by decide +kernel
theorem dX4_work_16 : decode cX4_work 16 = .ok (.getfield 73, 3) := by decide +kernel
theorem dX4_work_19 : decode cX4_work 19 = .ok (.bipush 6, 2) := by decide +kernel
theorem dX4_work_21 : decode cX4_work 21 = .ok (.if_icmp .lt 6, 3) := by decide +kernel
theorem dX4_work_24 : decode cX4_work 24 = .ok (.bipush (-4), 2) := by decide +kernel
theorem dX4_work_26 : decode cX4_work 26 = .ok (.ireturn, 1) := by decide +kernel
theorem dX4_work_27 : decode cX4_work 27 = .ok (.aload_n 0, 1) := by decide +kernel
theorem dX4_work_28 : decode cX4_work 28 = .ok (.getfield 10, 3) := by decide +kernel
theorem dX4_work_31 : decode cX4_work 31 = .ok (.iload_n 1, 1) := by decide +kernel
theorem dX4_work_32 : decode cX4_work 32 = .ok (.iload_n 2, 1) := by decide +kernel
theorem dX4_work_33 : decode cX4_work 33 = .ok (.iload_n 3, 1) := by decide +kernel
theorem dX4_work_34 : decode cX4_work 34 = .ok (.invokevirtual 76, 3) := by decide +kernel
theorem dX4_work_37 : decode cX4_work 37 = .ok (.aload_n 0, 1) := by decide +kernel
theorem dX4_work_38 : decode cX4_work 38 = .ok (.getfield 10, 3) := by decide +kernel
theorem dX4_work_41 : decode cX4_work 41 = .ok (.getfield 73, 3) := by decide +kernel
theorem dX4_work_44 : decode cX4_work 44 = .ok (.iconst 1, 1) := by decide +kernel
theorem dX4_work_45 : decode cX4_work 45 = .ok (.isub, 1) := by decide +kernel
theorem dX4_work_46 : decode cX4_work 46 = .ok (.ireturn, 1) := by decide +kernel
theorem dX4_told_0 : decode cX4_told 0 = .ok (.aload_n 0, 1) := by decide +kernel
theorem dX4_told_1 : decode cX4_told 1 = .ok (.getfield 10, 3) := by decide +kernel
theorem dX4_told_4 : decode cX4_told 4 = .ok (.iload_n 2, 1) := by decide +kernel
theorem dX4_told_5 : decode cX4_told 5 = .ok (.iload_n 1, 1) := by decide +kernel
theorem dX4_told_6 : decode cX4_told 6 = .ok (.invokevirtual 53, 3) := by decide +kernel
theorem dX4_told_9 : decode cX4_told 9 = .ok (.ifCond .ne 6, 3) := by decide +kernel
theorem dX4_told_12 : decode cX4_told 12 = .ok (.bipush (-2), 2) := by decide +kernel
theorem dX4_told_14 : decode cX4_told 14 = .ok (.ireturn, 1) := by decide +kernel
theorem dX4_told_15 : decode cX4_told 15 = .ok (.iload_n 2, 1) := by decide +kernel
theorem dX4_told_16 : decode cX4_told 16 = .ok (.bipush 9, 2) := by decide +kernel
theorem dX4_told_18 : decode cX4_told 18 = .ok (.if_icmp .ne 12, 3) := by decide +kernel
theorem dX4_told_21 : decode cX4_told 21 = .ok (.aload_n 0, 1) := by decide +kernel
theorem dX4_told_22 : decode cX4_told 22 = .ok (.getfield 10, 3) := by decide +kernel
theorem dX4_told_25 : decode cX4_told 25 = .ok (.iload_n 1, 1) := by decide +kernel
theorem dX4_told_26 : decode cX4_told 26 = .ok (.invokevirtual 79, 3) := by decide +kernel
theorem dX4_told_29 : decode cX4_told 29 = .ok (.ireturn, 1) := by decide +kernel
theorem dX4_told_30 : decode cX4_told 30 = .ok (.iload_n 2, 1) := by decide +kernel
theorem dX4_told_31 : decode cX4_told 31 = .ok (.bipush 10, 2) := by decide +kernel
theorem dX4_told_33 : decode cX4_told 33 = .ok (.if_icmp .ne 20, 3) := by decide +kernel
theorem dX4_told_36 : decode cX4_told 36 = .ok (.aload_n 0, 1) := by decide +kernel
theorem dX4_told_37 : decode cX4_told 37 = .ok (.getfield 10, 3) := by decide +kernel
theorem dX4_told_40 : decode cX4_told 40 = .ok (.aload_n 0, 1) := by decide +kernel
theorem dX4_told_41 : decode cX4_told 41 = .ok (.aload_n 0, 1) := by decide +kernel
theorem dX4_told_42 : decode cX4_told 42 = .ok (.getfield 10, 3) := by decide +kernel
theorem dX4_told_45 : decode cX4_told 45 = .ok (.invokevirtual 82, 3) := by decide +kernel
theorem dX4_told_48 : decode cX4_told 48 = .ok (.iload_n 1, 1) := by decide +kernel
theorem dX4_told_49 : decode cX4_told 49 = .ok (.invokevirtual 86, 3) := by decide +kernel
theorem dX4_told_52 : decode cX4_told 52 = .ok (.ireturn, 1) := by decide +kernel
theorem dX4_told_53 : decode cX4_told 53 = .ok (.aload_n 0, 1) := by decide +kernel
theorem dX4_told_54 : decode cX4_told 54 = .ok (.getfield 10, 3) := by decide +kernel
theorem dX4_told_57 : decode cX4_told 57 = .ok (.iload_n 2, 1) := by decide +kernel
theorem dX4_told_58 : decode cX4_told 58 = .ok (.iload_n 1, 1) := by decide +kernel
theorem dX4_told_59 : decode cX4_told 59 = .ok (.invokevirtual 61, 3) := by decide +kernel
theorem dX4_told_62 : decode cX4_told 62 = .ok (.ireturn, 1) := by decide +kernel
theorem dX4_feed_0 : decode cX4_feed 0 = .ok (.iload_n 1, 1) := by decide +kernel
theorem dX4_feed_1 : decode cX4_feed 1 = .ok (.ifCond .lt 10, 3) := by decide +kernel
theorem dX4_feed_4 : decode cX4_feed 4 = .ok (.iload_n 1, 1) := by decide +kernel
theorem dX4_feed_5 : decode cX4_feed 5 = .ok (.sipush 255, 3) := by decide +kernel
theorem dX4_feed_8 : decode cX4_feed 8 = .ok (.if_icmp .le 6, 3) := by decide +kernel
theorem dX4_feed_11 : decode cX4_feed 11 = .ok (.bipush (-2), 2) := by decide +kernel
theorem dX4_feed_13 : decode cX4_feed 13 = .ok (.ireturn, 1) := by decide +kernel
theorem dX4_feed_14 : decode cX4_feed 14 = .ok (.aload_n 0, 1) := by decide +kernel
theorem dX4_feed_15 : decode cX4_feed 15 = .ok (.getfield 38, 3) := by decide +kernel
theorem dX4_feed_18 : decode cX4_feed 18 = .ok (.iload_n 1, 1) := by decide +kernel
theorem dX4_feed_19 : decode cX4_feed 19 = .ok (.invokevirtual 90, 3) := by decide +kernel
theorem dX4_feed_22 : decode cX4_feed 22 = .ok (.ifCond .eq 13, 3) := by decide +kernel
theorem dX4_feed_25 : decode cX4_feed 25 = .ok (.aload_n 0, 1) := by decide +kernel
theorem dX4_feed_26 : decode cX4_feed 26 = .ok (.getfield 38, 3) := by decide +kernel
theorem dX4_feed_29 : decode cX4_feed 29 = .ok (.invokevirtual 93, 3) := by decide +kernel
theorem dX4_feed_32 : decode cX4_feed 32 = .ok (.goto 5, 3) := by decide +kernel
theorem dX4_feed_35 : decode cX4_feed 35 = .ok (.bipush (-4), 2) := by decide +kernel
theorem dX4_feed_37 : decode cX4_feed 37 = .ok (.ireturn, 1) := by decide +kernel
theorem dX4_text_0 : decode cX4_text 0 = .ok (.aload_n 0, 1) := by decide +kernel
theorem dX4_text_1 : decode cX4_text 1 = .ok (.getfield 31, 3) := by decide +kernel
theorem dX4_text_4 : decode cX4_text 4 = .ok (.bipush 6, 2) := by decide +kernel
theorem dX4_text_6 : decode cX4_text 6 = .ok (.if_icmp .lt 6, 3) := by decide +kernel
theorem dX4_text_9 : decode cX4_text 9 = .ok (.bipush (-4), 2) := by decide +kernel
theorem dX4_text_11 : decode cX4_text 11 = .ok (.ireturn, 1) := by decide +kernel
theorem dX4_text_12 : decode cX4_text 12 = .ok (.aload_n 0, 1) := by decide +kernel
theorem dX4_text_13 : decode cX4_text 13 = .ok (.getfield 38, 3) := by decide +kernel
theorem dX4_text_16 : decode cX4_text 16 = .ok (.invokevirtual 97, 3) := by decide +kernel
theorem dX4_text_19 : decode cX4_text 19 = .ok (.astore_n 1, 1) := by decide +kernel
theorem dX4_text_20 : decode cX4_text 20 = .ok (.aload_n 1, 1) := by decide +kernel
theorem dX4_text_21 : decode cX4_text 21 = .ok (.ifnonnull 14, 3) := by decide +kernel
theorem dX4_text_24 : decode cX4_text 24 = .ok (.bipush (-100), 2) := by decide +kernel
theorem dX4_text_26 : decode cX4_text 26 = .ok (.aload_n 0, 1) := by decide +kernel
theorem dX4_text_27 : decode cX4_text 27 = .ok (.getfield 38, 3) := by decide +kernel
theorem dX4_text_30 : decode cX4_text 30 = .ok (.invokevirtual 101, 3) := by decide +kernel
theorem dX4_text_33 : decode cX4_text 33 = .ok (.isub, 1) := by decide +kernel
theorem dX4_text_34 : decode cX4_text 34 = .ok (.ireturn, 1) := by decide +kernel
theorem dX4_text_35 : decode cX4_text 35 = .ok (.aload_n 0, 1) := by decide +kernel
theorem dX4_text_36 : decode cX4_text 36 = .ok (.getfield 24, 3) := by decide +kernel
theorem dX4_text_39 : decode cX4_text 39 = .ok (.aload_n 0, 1) := by decide +kernel
theorem dX4_text_40 : decode cX4_text 40 = .ok (.getfield 31, 3) := by decide +kernel
theorem dX4_text_43 : decode cX4_text 43 = .ok (.aload_n 1, 1) := by decide +kernel
theorem dX4_text_44 : decode cX4_text 44 = .ok (.aastore, 1) := by decide +kernel
theorem dX4_text_45 : decode cX4_text 45 = .ok (.aload_n 0, 1) := by decide +kernel
theorem dX4_text_46 : decode cX4_text 46 = .ok (.dup, 1) := by decide +kernel
theorem dX4_text_47 : decode cX4_text 47 = .ok (.getfield 31, 3) := by decide +kernel
theorem dX4_text_50 : decode cX4_text 50 = .ok (.iconst 1, 1) := by decide +kernel
theorem dX4_text_51 : decode cX4_text 51 = .ok (.iadd, 1) := by decide +kernel
theorem dX4_text_52 : decode cX4_text 52 = .ok (.putfield 31, 3) := by decide +kernel
theorem dX4_text_55 : decode cX4_text 55 = .ok (.aload_n 0, 1) := by decide +kernel
theorem dX4_text_56 : decode cX4_text 56 = .ok (.getfield 31, 3) := by decide +kernel
theorem dX4_text_59 : decode cX4_text 59 = .ok (.iconst 1, 1) := by decide +kernel
theorem dX4_text_60 : decode cX4_text 60 = .ok (.isub, 1) := by decide +kernel
theorem dX4_text_61 : decode cX4_text 61 = .ok (.ireturn, 1) := by decide +kernel
theorem dX4_force_0 : decode cX4_force 0 = .ok (.iload_n 1, 1) := by decide +kernel
theorem dX4_force_1 : decode cX4_force 1 = .ok (.ifCond .lt 11, 3) := by decide +kernel
theorem dX4_force_4 : decode cX4_force 4 = .ok (.iload_n 1, 1) := by decide +kernel
theorem dX4_force_5 : decode cX4_force 5 = .ok (.aload_n 0, 1) := by decide +kernel
theorem dX4_force_6 : decode cX4_force 6 = .ok (.getfield 31, 3) := by decide +kernel
theorem dX4_force_9 : decode cX4_force 9 = .ok (.if_icmp .lt 6, 3) := by decide +kernel
theorem dX4_force_12 : decode cX4_force 12 = .ok (.bipush (-2), 2) := by decide +kernel
theorem dX4_force_14 : decode cX4_force 14 = .ok (.ireturn, 1) := by decide +kernel
theorem dX4_force_15 : decode cX4_force 15 = .ok (.aload_n 0, 1) := by decide +kernel
theorem dX4_force_16 : decode cX4_force 16 = .ok (.getfield 10, 3) := by decide +kernel
theorem dX4_force_19 : decode cX4_force 19 = .ok (.getfield 104, 3) := by decide +kernel
theorem dX4_force_22 : decode cX4_force 22 = .ok (.istore_n 2, 1) := by decide +kernel
theorem dX4_force_23 : decode cX4_force 23 = .ok (.aload_n 0, 1) := by decide +kernel
theorem dX4_force_24 : decode cX4_force 24 = .ok (.getfield 10, 3) := by decide +kernel
theorem dX4_force_27 : decode cX4_force 27 = .ok (.iload_n 1, 1) := by decide +kernel
theorem dX4_force_28 : decode cX4_force 28 = .ok (.putfield 104, 3) := by decide +kernel
theorem dX4_force_31 : decode cX4_force 31 = .ok (.iload_n 2, 1) := by decide +kernel
theorem dX4_force_32 : decode cX4_force 32 = .ok (.ireturn, 1) := by decide +kernel
theorem dX4_asks_0 : decode cX4_asks 0 = .ok (.iload_n 1, 1) := by decide +kernel
theorem dX4_asks_1 : decode cX4_asks 1 = .ok (.ifCond .lt 15, 3) := by decide +kernel
theorem dX4_asks_4 : decode cX4_asks 4 = .ok (.iload_n 1, 1) := by decide +kernel
theorem dX4_asks_5 : decode cX4_asks 5 = .ok (.iconst 1, 1) := by decide +kernel
theorem dX4_asks_6 : decode cX4_asks 6 = .ok (.if_icmp .gt 10, 3) := by decide +kernel
theorem dX4_asks_9 : decode cX4_asks 9 = .ok (.iload_n 2, 1) := by decide +kernel
theorem dX4_asks_10 : decode cX4_asks 10 = .ok (.invokestatic 107, 3) := by decide +kernel
theorem dX4_asks_13 : decode cX4_asks 13 = .ok (.ifCond .ne 6, 3) := by decide +kernel
theorem dX4_asks_16 : decode cX4_asks 16 = .ok (.bipush (-2), 2) := by decide +kernel
theorem dX4_asks_18 : decode cX4_asks 18 = .ok (.ireturn, 1) := by decide +kernel
theorem dX4_asks_19 : decode cX4_asks 19 = .ok (.aload_n 0, 1) := by decide +kernel
theorem dX4_asks_20 : decode cX4_asks 20 = .ok (.getfield 10, 3) := by decide +kernel
theorem dX4_asks_23 : decode cX4_asks 23 = .ok (.aload_n 0, 1) := by decide +kernel
theorem dX4_asks_24 : decode cX4_asks 24 = .ok (.aload_n 0, 1) := by decide +kernel
theorem dX4_asks_25 : decode cX4_asks 25 = .ok (.getfield 10, 3) := by decide +kernel
theorem dX4_asks_28 : decode cX4_asks 28 = .ok (.invokevirtual 82, 3) := by decide +kernel
theorem dX4_asks_31 : decode cX4_asks 31 = .ok (.iload_n 1, 1) := by decide +kernel
theorem dX4_asks_32 : decode cX4_asks 32 = .ok (.iload_n 2, 1) := by decide +kernel
theorem dX4_asks_33 : decode cX4_asks 33 = .ok (.iconst (-1), 1) := by decide +kernel
theorem dX4_asks_34 : decode cX4_asks 34 = .ok (.invokevirtual 110, 3) := by decide +kernel
theorem dX4_asks_37 : decode cX4_asks 37 = .ok (.ireturn, 1) := by decide +kernel
theorem dX4_year_0 : decode cX4_year 0 = .ok (.aload_n 0, 1) := by decide +kernel
theorem dX4_year_1 : decode cX4_year 1 = .ok (.getfield 10, 3) := by decide +kernel
theorem dX4_year_4 : decode cX4_year 4 = .ok (.getfield 114, 3) := by decide +kernel
theorem dX4_year_7 : decode cX4_year 7 = .ok (.sipush 999, 3) := by decide +kernel
theorem dX4_year_10 : decode cX4_year 10 = .ok (.if_icmp .lt 6, 3) := by decide +kernel
theorem dX4_year_13 : decode cX4_year 13 = .ok (.bipush (-3), 2) := by decide +kernel
theorem dX4_year_15 : decode cX4_year 15 = .ok (.ireturn, 1) := by decide +kernel
theorem dX4_year_16 : decode cX4_year 16 = .ok (.aload_n 0, 1) := by decide +kernel
theorem dX4_year_17 : decode cX4_year 17 = .ok (.getfield 10, 3) := by decide +kernel
theorem dX4_year_20 : decode cX4_year 20 = .ok (.aload_n 0, 1) := by decide +kernel
theorem dX4_year_21 : decode cX4_year 21 = .ok (.aload_n 0, 1) := by decide +kernel
theorem dX4_year_22 : decode cX4_year 22 = .ok (.getfield 10, 3) := by decide +kernel
theorem dX4_year_25 : decode cX4_year 25 = .ok (.invokevirtual 82, 3) := by decide +kernel
theorem dX4_year_28 : decode cX4_year 28 = .ok (.invokevirtual 117, 3) := by decide +kernel
theorem dX4_year_31 : decode cX4_year 31 = .ok (.aload_n 0, 1) := by decide +kernel
theorem dX4_year_32 : decode cX4_year 32 = .ok (.getfield 10, 3) := by decide +kernel
theorem dX4_year_35 : decode cX4_year 35 = .ok (.invokevirtual 121, 3) := by decide +kernel
theorem dX4_year_38 : decode cX4_year 38 = .ok (.invokestatic 124, 3) := by decide +kernel
theorem dX4_year_41 : decode cX4_year 41 = .ok (.ireturn, 1) := by decide +kernel
theorem dX4_run_0 : decode cX4_run 0 = .ok (.iload_n 1, 1) := by decide +kernel
theorem dX4_run_1 : decode cX4_run 1 = .ok (.invokestatic 129, 3) := by decide +kernel
theorem dX4_run_4 : decode cX4_run 4 = .ok (.ifCond .eq 10, 3) := by decide +kernel
theorem dX4_run_7 : decode cX4_run 7 = .ok (.iload_n 2, 1) := by decide +kernel
theorem dX4_run_8 : decode cX4_run 8 = .ok (.invokestatic 132, 3) := by decide +kernel
theorem dX4_run_11 : decode cX4_run 11 = .ok (.ifCond .ne 6, 3) := by decide +kernel
theorem dX4_run_14 : decode cX4_run 14 = .ok (.bipush (-2), 2) := by decide +kernel
theorem dX4_run_16 : decode cX4_run 16 = .ok (.ireturn, 1) := by decide +kernel
theorem dX4_run_17 : decode cX4_run 17 = .ok (.aload_n 0, 1) := by decide +kernel
theorem dX4_run_18 : decode cX4_run 18 = .ok (.iload_n 1, 1) := by decide +kernel
theorem dX4_run_19 : decode cX4_run 19 = .ok (.invokevirtual 135, 3) := by decide +kernel
theorem dX4_run_22 : decode cX4_run 22 = .ok (.iload_n 2, 1) := by decide +kernel
theorem dX4_run_23 : decode cX4_run 23 = .ok (.tableswitch 83 0 4 #[33, 41, 57, 63, 77], 33) := by decide +kernel
theorem dX4_run_56 : decode cX4_run 56 = .ok (.aload_n 0, 1) := by decide +kernel
theorem dX4_run_57 : decode cX4_run 57 = .ok (.getfield 16, 3) := by decide +kernel
theorem dX4_run_60 : decode cX4_run 60 = .ok (.invokevirtual 121, 3) := by decide +kernel
theorem dX4_run_63 : decode cX4_run 63 = .ok (.ireturn, 1) := by decide +kernel
theorem dX4_run_64 : decode cX4_run 64 = .ok (.aload_n 0, 1) := by decide +kernel
theorem dX4_run_65 : decode cX4_run 65 = .ok (.getfield 16, 3) := by decide +kernel
theorem dX4_run_68 : decode cX4_run 68 = .ok (.getfield 139, 3) := by decide +kernel
theorem dX4_run_71 : decode cX4_run 71 = .ok (.aload_n 0, 1) := by decide +kernel
theorem dX4_run_72 : decode cX4_run 72 = .ok (.getfield 10, 3) := by decide +kernel
theorem dX4_run_75 : decode cX4_run 75 = .ok (.getfield 139, 3) := by decide +kernel
theorem dX4_run_78 : decode cX4_run 78 = .ok (.isub, 1) := by decide +kernel
theorem dX4_run_79 : decode cX4_run 79 = .ok (.ireturn, 1) := by decide +kernel
theorem dX4_run_80 : decode cX4_run 80 = .ok (.aload_n 0, 1) := by decide +kernel
theorem dX4_run_81 : decode cX4_run 81 = .ok (.iload_n 1, 1) := by decide +kernel
theorem dX4_run_82 : decode cX4_run 82 = .ok (.invokevirtual 142, 3) := by decide +kernel
theorem dX4_run_85 : decode cX4_run 85 = .ok (.ireturn, 1) := by decide +kernel
theorem dX4_run_86 : decode cX4_run 86 = .ok (.iload_n 1, 1) := by decide +kernel
theorem dX4_run_87 : decode cX4_run 87 = .ok (.ifCond .ne 7, 3) := by decide +kernel
theorem dX4_run_90 : decode cX4_run 90 = .ok (.iconst (-1), 1) := by decide +kernel
theorem dX4_run_91 : decode cX4_run 91 = .ok (.goto 8, 3) := by decide +kernel
theorem dX4_run_94 : decode cX4_run 94 = .ok (.aload_n 0, 1) := by decide +kernel
theorem dX4_run_95 : decode cX4_run 95 = .ok (.iload_n 1, 1) := by decide +kernel
theorem dX4_run_96 : decode cX4_run 96 = .ok (.invokevirtual 145, 3) := by decide +kernel
theorem dX4_run_99 : decode cX4_run 99 = .ok (.ireturn, 1) := by decide +kernel
theorem dX4_run_100 : decode cX4_run 100 = .ok (.aload_n 0, 1) := by decide +kernel
theorem dX4_run_101 : decode cX4_run 101 = .ok (.iload_n 1, 1) := by decide +kernel
theorem dX4_run_102 : decode cX4_run 102 = .ok (.invokevirtual 148, 3) := by decide +kernel
theorem dX4_run_105 : decode cX4_run 105 = .ok (.ireturn, 1) := by decide +kernel
theorem dX4_run_106 : decode cX4_run 106 = .ok (.aload_n 0, 1) := by decide +kernel
theorem dX4_run_107 : decode cX4_run 107 = .ok (.getfield 16, 3) := by decide +kernel
theorem dX4_run_110 : decode cX4_run 110 = .ok (.iconst 2, 1) := by decide +kernel
theorem dX4_run_111 : decode cX4_run 111 = .ok (.iload_n 2, 1) := by decide +kernel
theorem dX4_run_112 : decode cX4_run 112 = .ok (.bipush 100, 2) := by decide +kernel
theorem dX4_run_114 : decode cX4_run 114 = .ok (.idiv, 1) := by decide +kernel
theorem dX4_run_115 : decode cX4_run 115 = .ok (.iadd, 1) := by decide +kernel
theorem dX4_run_116 : decode cX4_run 116 = .ok (.iconst 1, 1) := by decide +kernel
theorem dX4_run_117 : decode cX4_run 117 = .ok (.isub, 1) := by decide +kernel
theorem dX4_run_118 : decode cX4_run 118 = .ok (.iload_n 2, 1) := by decide +kernel
theorem dX4_run_119 : decode cX4_run 119 = .ok (.bipush 100, 2) := by decide +kernel
theorem dX4_run_121 : decode cX4_run 121 = .ok (.irem, 1) := by decide +kernel
theorem dX4_run_122 : decode cX4_run 122 = .ok (.invokevirtual 61, 3) := by decide +kernel
theorem dX4_run_125 : decode cX4_run 125 = .ok (.ireturn, 1) := by decide +kernel
theorem dX4_first_0 : decode cX4_first 0 = .ok (.iload_n 1, 1) := by decide +kernel
theorem dX4_first_1 : decode cX4_first 1 = .ok (.invokestatic 129, 3) := by decide +kernel
theorem dX4_first_4 : decode cX4_first 4 = .ok (.ifCond .eq 14, 3) := by decide +kernel
theorem dX4_first_7 : decode cX4_first 7 = .ok (.iload_n 2, 1) := by decide +kernel
theorem dX4_first_8 : decode cX4_first 8 = .ok (.iconst 1, 1) := by decide +kernel
theorem dX4_first_9 : decode cX4_first 9 = .ok (.if_icmp .lt 9, 3) := by decide +kernel
theorem dX4_first_12 : decode cX4_first 12 = .ok (.iload_n 2, 1) := by decide +kernel
theorem dX4_first_13 : decode cX4_first 13 = .ok (.bipush 12, 2) := by decide +kernel
theorem dX4_first_15 : decode cX4_first 15 = .ok (.if_icmp .le 6, 3) := by decide +kernel
theorem dX4_first_18 : decode cX4_first 18 = .ok (.bipush (-2), 2) := by decide +kernel
theorem dX4_first_20 : decode cX4_first 20 = .ok (.ireturn, 1) := by decide +kernel
theorem dX4_first_21 : decode cX4_first 21 = .ok (.aload_n 0, 1) := by decide +kernel
theorem dX4_first_22 : decode cX4_first 22 = .ok (.iload_n 1, 1) := by decide +kernel
theorem dX4_first_23 : decode cX4_first 23 = .ok (.invokevirtual 135, 3) := by decide +kernel
theorem dX4_first_26 : decode cX4_first 26 = .ok (.aload_n 0, 1) := by decide +kernel
theorem dX4_first_27 : decode cX4_first 27 = .ok (.iload_n 1, 1) := by decide +kernel
theorem dX4_first_28 : decode cX4_first 28 = .ok (.iload_n 2, 1) := by decide +kernel
theorem dX4_first_29 : decode cX4_first 29 = .ok (.invokevirtual 151, 3) := by decide +kernel
theorem dX4_first_32 : decode cX4_first 32 = .ok (.ireturn, 1) := by decide +kernel
theorem dX4_where_0 : decode cX4_where 0 = .ok (.iload_n 1, 1) := by decide +kernel
theorem dX4_where_1 : decode cX4_where 1 = .ok (.ifCond .lt 25, 3) := by decide +kernel
theorem dX4_where_4 : decode cX4_where 4 = .ok (.iload_n 1, 1) := by decide +kernel
theorem dX4_where_5 : decode cX4_where 5 = .ok (.bipush 60, 2) := by decide +kernel
theorem dX4_where_7 : decode cX4_where 7 = .ok (.if_icmp .ge 19, 3) := by decide +kernel
theorem dX4_where_10 : decode cX4_where 10 = .ok (.iload_n 2, 1) := by decide +kernel
theorem dX4_where_11 : decode cX4_where 11 = .ok (.invokestatic 129, 3) := by decide +kernel
theorem dX4_where_14 : decode cX4_where 14 = .ok (.ifCond .eq 12, 3) := by decide +kernel
theorem dX4_where_17 : decode cX4_where 17 = .ok (.iload_n 3, 1) := by decide +kernel
theorem dX4_where_18 : decode cX4_where 18 = .ok (.ifCond .lt 8, 3) := by decide +kernel
theorem dX4_where_21 : decode cX4_where 21 = .ok (.iload_n 3, 1) := by decide +kernel
theorem dX4_where_22 : decode cX4_where 22 = .ok (.iconst 1, 1) := by decide +kernel
theorem dX4_where_23 : decode cX4_where 23 = .ok (.if_icmp .le 6, 3) := by decide +kernel
theorem dX4_where_26 : decode cX4_where 26 = .ok (.bipush (-2), 2) := by decide +kernel
theorem dX4_where_28 : decode cX4_where 28 = .ok (.ireturn, 1) := by decide +kernel
theorem dX4_where_29 : decode cX4_where 29 = .ok (.aload_n 0, 1) := by decide +kernel
theorem dX4_where_30 : decode cX4_where 30 = .ok (.getfield 10, 3) := by decide +kernel
theorem dX4_where_33 : decode cX4_where 33 = .ok (.getfield 73, 3) := by decide +kernel
theorem dX4_where_36 : decode cX4_where 36 = .ok (.bipush 6, 2) := by decide +kernel
theorem dX4_where_38 : decode cX4_where 38 = .ok (.if_icmp .lt 6, 3) := by decide +kernel
theorem dX4_where_41 : decode cX4_where 41 = .ok (.bipush (-4), 2) := by decide +kernel
theorem dX4_where_43 : decode cX4_where 43 = .ok (.ireturn, 1) := by decide +kernel
theorem dX4_where_44 : decode cX4_where 44 = .ok (.iconst 0, 1) := by decide +kernel
theorem dX4_where_45 : decode cX4_where 45 = .ok (.istore 4, 2) := by decide +kernel
theorem dX4_where_47 : decode cX4_where 47 = .ok (.iconst (-1), 1) := by decide +kernel
theorem dX4_where_48 : decode cX4_where 48 = .ok (.istore 5, 2) := by decide +kernel
theorem dX4_where_50 : decode cX4_where 50 = .ok (.iconst 0, 1) := by decide +kernel
theorem dX4_where_51 : decode cX4_where 51 = .ok (.istore 6, 2) := by decide +kernel
theorem dX4_where_53 : decode cX4_where 53 = .ok (.iload 6, 2) := by decide +kernel
theorem dX4_where_55 : decode cX4_where 55 = .ok (.bipush 12, 2) := by decide +kernel
theorem dX4_where_57 : decode cX4_where 57 = .ok (.if_icmp .ge 55, 3) := by decide +kernel
theorem dX4_where_60 : decode cX4_where 60 = .ok (.aload_n 0, 1) := by decide +kernel
theorem dX4_where_61 : decode cX4_where 61 = .ok (.invokevirtual 154, 3) := by decide +kernel
theorem dX4_where_64 : decode cX4_where 64 = .ok (.aload_n 0, 1) := by decide +kernel
theorem dX4_where_65 : decode cX4_where 65 = .ok (.getfield 16, 3) := by decide +kernel
theorem dX4_where_68 : decode cX4_where 68 = .ok (.iload_n 1, 1) := by decide +kernel
theorem dX4_where_69 : decode cX4_where 69 = .ok (.bipush 10, 2) := by decide +kernel
theorem dX4_where_71 : decode cX4_where 71 = .ok (.idiv, 1) := by decide +kernel
theorem dX4_where_72 : decode cX4_where 72 = .ok (.iload_n 1, 1) := by decide +kernel
theorem dX4_where_73 : decode cX4_where 73 = .ok (.bipush 10, 2) := by decide +kernel
theorem dX4_where_75 : decode cX4_where 75 = .ok (.irem, 1) := by decide +kernel
theorem dX4_where_76 : decode cX4_where 76 = .ok (.iload 6, 2) := by decide +kernel
theorem dX4_where_78 : decode cX4_where 78 = .ok (.invokevirtual 76, 3) := by decide +kernel
theorem dX4_where_81 : decode cX4_where 81 = .ok (.aload_n 0, 1) := by decide +kernel
theorem dX4_where_82 : decode cX4_where 82 = .ok (.iload_n 2, 1) := by decide +kernel
theorem dX4_where_83 : decode cX4_where 83 = .ok (.invokevirtual 157, 3) := by decide +kernel
theorem dX4_where_86 : decode cX4_where 86 = .ok (.invokestatic 124, 3) := by decide +kernel
theorem dX4_where_89 : decode cX4_where 89 = .ok (.istore 7, 2) := by decide +kernel
theorem dX4_where_91 : decode cX4_where 91 = .ok (.iload 7, 2) := by decide +kernel
theorem dX4_where_93 : decode cX4_where 93 = .ok (.iload 5, 2) := by decide +kernel
theorem dX4_where_95 : decode cX4_where 95 = .ok (.if_icmp .le 11, 3) := by decide +kernel
theorem dX4_where_98 : decode cX4_where 98 = .ok (.iload 7, 2) := by decide +kernel
theorem dX4_where_100 : decode cX4_where 100 = .ok (.istore 5, 2) := by decide +kernel
theorem dX4_where_102 : decode cX4_where 102 = .ok (.iload 6, 2) := by decide +kernel
theorem dX4_where_104 : decode cX4_where 104 = .ok (.istore 4, 2) := by decide +kernel
theorem dX4_where_106 : decode cX4_where 106 = .ok (.iinc 6 1, 3) := by decide +kernel
theorem dX4_where_109 : decode cX4_where 109 = .ok (.goto (-56), 3) := by decide +kernel
theorem dX4_where_112 : decode cX4_where 112 = .ok (.iload_n 3, 1) := by decide +kernel
theorem dX4_where_113 : decode cX4_where 113 = .ok (.ifCond .ne 8, 3) := by decide +kernel
theorem dX4_where_116 : decode cX4_where 116 = .ok (.iload 4, 2) := by decide +kernel
theorem dX4_where_118 : decode cX4_where 118 = .ok (.goto 5, 3) := by decide +kernel
theorem dX4_where_121 : decode cX4_where 121 = .ok (.iload 5, 2) := by decide +kernel
theorem dX4_where_123 : decode cX4_where 123 = .ok (.ireturn, 1) := by decide +kernel
theorem dX4_idle_0 : decode cX4_idle 0 = .ok (.iload_n 1, 1) := by decide +kernel
theorem dX4_idle_1 : decode cX4_idle 1 = .ok (.invokestatic 129, 3) := by decide +kernel
theorem dX4_idle_4 : decode cX4_idle 4 = .ok (.ifCond .ne 6, 3) := by decide +kernel
theorem dX4_idle_7 : decode cX4_idle 7 = .ok (.bipush (-2), 2) := by decide +kernel
theorem dX4_idle_9 : decode cX4_idle 9 = .ok (.ireturn, 1) := by decide +kernel
theorem dX4_idle_10 : decode cX4_idle 10 = .ok (.aload_n 0, 1) := by decide +kernel
theorem dX4_idle_11 : decode cX4_idle 11 = .ok (.invokevirtual 154, 3) := by decide +kernel
theorem dX4_idle_14 : decode cX4_idle 14 = .ok (.aload_n 0, 1) := by decide +kernel
theorem dX4_idle_15 : decode cX4_idle 15 = .ok (.iload_n 1, 1) := by decide +kernel
theorem dX4_idle_16 : decode cX4_idle 16 = .ok (.invokevirtual 157, 3) := by decide +kernel
theorem dX4_idle_19 : decode cX4_idle 19 = .ok (.invokestatic 124, 3) := by decide +kernel
theorem dX4_idle_22 : decode cX4_idle 22 = .ok (.istore_n 2, 1) := by decide +kernel
theorem dX4_idle_23 : decode cX4_idle 23 = .ok (.iconst 0, 1) := by decide +kernel
theorem dX4_idle_24 : decode cX4_idle 24 = .ok (.istore_n 3, 1) := by decide +kernel
theorem dX4_idle_25 : decode cX4_idle 25 = .ok (.iload_n 3, 1) := by decide +kernel
theorem dX4_idle_26 : decode cX4_idle 26 = .ok (.aload_n 0, 1) := by decide +kernel
theorem dX4_idle_27 : decode cX4_idle 27 = .ok (.getfield 10, 3) := by decide +kernel
theorem dX4_idle_30 : decode cX4_idle 30 = .ok (.getfield 73, 3) := by decide +kernel
theorem dX4_idle_33 : decode cX4_idle 33 = .ok (.if_icmp .ge 35, 3) := by decide +kernel
theorem dX4_idle_36 : decode cX4_idle 36 = .ok (.aload_n 0, 1) := by decide +kernel
theorem dX4_idle_37 : decode cX4_idle 37 = .ok (.getfield 10, 3) := by decide +kernel
theorem dX4_idle_40 : decode cX4_idle 40 = .ok (.iload_n 3, 1) := by decide +kernel
theorem dX4_idle_41 : decode cX4_idle 41 = .ok (.invokevirtual 160, 3) := by decide +kernel
theorem dX4_idle_44 : decode cX4_idle 44 = .ok (.ifCond .eq 18, 3) := by decide +kernel
theorem dX4_idle_47 : decode cX4_idle 47 = .ok (.aload_n 0, 1) := by decide +kernel
theorem dX4_idle_48 : decode cX4_idle 48 = .ok (.iload_n 3, 1) := by decide +kernel
theorem dX4_idle_49 : decode cX4_idle 49 = .ok (.iload_n 1, 1) := by decide +kernel
theorem dX4_idle_50 : decode cX4_idle 50 = .ok (.invokevirtual 163, 3) := by decide +kernel
theorem dX4_idle_53 : decode cX4_idle 53 = .ok (.invokestatic 124, 3) := by decide +kernel
theorem dX4_idle_56 : decode cX4_idle 56 = .ok (.iload_n 2, 1) := by decide +kernel
theorem dX4_idle_57 : decode cX4_idle 57 = .ok (.if_icmp .lt 5, 3) := by decide +kernel
theorem dX4_idle_60 : decode cX4_idle 60 = .ok (.iload_n 3, 1) := by decide +kernel
theorem dX4_idle_61 : decode cX4_idle 61 = .ok (.ireturn, 1) := by decide +kernel
theorem dX4_idle_62 : decode cX4_idle 62 = .ok (.iinc 3 1, 3) := by decide +kernel
theorem dX4_idle_65 : decode cX4_idle 65 = .ok (.goto (-40), 3) := by decide +kernel
theorem dX4_idle_68 : decode cX4_idle 68 = .ok (.iconst (-1), 1) := by decide +kernel
theorem dX4_idle_69 : decode cX4_idle 69 = .ok (.ireturn, 1) := by decide +kernel
theorem dX4_low_0 : decode cX4_low 0 = .ok (.iload_n 1, 1) := by decide +kernel
theorem dX4_low_1 : decode cX4_low 1 = .ok (.invokestatic 129, 3) := by decide +kernel
theorem dX4_low_4 : decode cX4_low 4 = .ok (.ifCond .eq 14, 3) := by decide +kernel
theorem dX4_low_7 : decode cX4_low 7 = .ok (.iload_n 2, 1) := by decide +kernel
theorem dX4_low_8 : decode cX4_low 8 = .ok (.iconst 1, 1) := by decide +kernel
theorem dX4_low_9 : decode cX4_low 9 = .ok (.if_icmp .lt 9, 3) := by decide +kernel
theorem dX4_low_12 : decode cX4_low 12 = .ok (.iload_n 2, 1) := by decide +kernel
theorem dX4_low_13 : decode cX4_low 13 = .ok (.bipush 12, 2) := by decide +kernel
theorem dX4_low_15 : decode cX4_low 15 = .ok (.if_icmp .le 6, 3) := by decide +kernel
theorem dX4_low_18 : decode cX4_low 18 = .ok (.bipush (-2), 2) := by decide +kernel
theorem dX4_low_20 : decode cX4_low 20 = .ok (.ireturn, 1) := by decide +kernel
theorem dX4_low_21 : decode cX4_low 21 = .ok (.bipush 99, 2) := by decide +kernel
theorem dX4_low_23 : decode cX4_low 23 = .ok (.istore_n 3, 1) := by decide +kernel
theorem dX4_low_24 : decode cX4_low 24 = .ok (.iload_n 3, 1) := by decide +kernel
theorem dX4_low_25 : decode cX4_low 25 = .ok (.ifCond .lt 35, 3) := by decide +kernel
theorem dX4_low_28 : decode cX4_low 28 = .ok (.aload_n 0, 1) := by decide +kernel
theorem dX4_low_29 : decode cX4_low 29 = .ok (.invokevirtual 154, 3) := by decide +kernel
theorem dX4_low_32 : decode cX4_low 32 = .ok (.aload_n 0, 1) := by decide +kernel
theorem dX4_low_33 : decode cX4_low 33 = .ok (.getfield 16, 3) := by decide +kernel
theorem dX4_low_36 : decode cX4_low 36 = .ok (.iload_n 3, 1) := by decide +kernel
theorem dX4_low_37 : decode cX4_low 37 = .ok (.putfield 166, 3) := by decide +kernel
theorem dX4_low_40 : decode cX4_low 40 = .ok (.aload_n 0, 1) := by decide +kernel
theorem dX4_low_41 : decode cX4_low 41 = .ok (.iload_n 1, 1) := by decide +kernel
theorem dX4_low_42 : decode cX4_low 42 = .ok (.invokevirtual 157, 3) := by decide +kernel
theorem dX4_low_45 : decode cX4_low 45 = .ok (.invokestatic 124, 3) := by decide +kernel
theorem dX4_low_48 : decode cX4_low 48 = .ok (.iload_n 2, 1) := by decide +kernel
theorem dX4_low_49 : decode cX4_low 49 = .ok (.if_icmp .lt 5, 3) := by decide +kernel
theorem dX4_low_52 : decode cX4_low 52 = .ok (.iload_n 3, 1) := by decide +kernel
theorem dX4_low_53 : decode cX4_low 53 = .ok (.ireturn, 1) := by decide +kernel
theorem dX4_low_54 : decode cX4_low 54 = .ok (.iinc 3 (-1), 3) := by decide +kernel
theorem dX4_low_57 : decode cX4_low 57 = .ok (.goto (-33), 3) := by decide +kernel
theorem dX4_low_60 : decode cX4_low 60 = .ok (.iconst (-1), 1) := by decide +kernel
theorem dX4_low_61 : decode cX4_low 61 = .ok (.ireturn, 1) := by decide +kernel
theorem dX4_floods_0 : decode cX4_floods 0 = .ok (.iload_n 1, 1) := by decide +kernel
theorem dX4_floods_1 : decode cX4_floods 1 = .ok (.ifCond .lt 21, 3) := by decide +kernel
theorem dX4_floods_4 : decode cX4_floods 4 = .ok (.iload_n 1, 1) := by decide +kernel
theorem dX4_floods_5 : decode cX4_floods 5 = .ok (.aload_n 0, 1) := by decide +kernel
theorem dX4_floods_6 : decode cX4_floods 6 = .ok (.getfield 10, 3) := by decide +kernel
theorem dX4_floods_9 : decode cX4_floods 9 = .ok (.getfield 73, 3) := by decide +kernel
theorem dX4_floods_12 : decode cX4_floods 12 = .ok (.if_icmp .ge 10, 3) := by decide +kernel
theorem dX4_floods_15 : decode cX4_floods 15 = .ok (.iload_n 2, 1) := by decide +kernel
theorem dX4_floods_16 : decode cX4_floods 16 = .ok (.invokestatic 129, 3) := by decide +kernel
theorem dX4_floods_19 : decode cX4_floods 19 = .ok (.ifCond .ne 6, 3) := by decide +kernel
theorem dX4_floods_22 : decode cX4_floods 22 = .ok (.bipush (-2), 2) := by decide +kernel
theorem dX4_floods_24 : decode cX4_floods 24 = .ok (.ireturn, 1) := by decide +kernel
theorem dX4_floods_25 : decode cX4_floods 25 = .ok (.aload_n 0, 1) := by decide +kernel
theorem dX4_floods_26 : decode cX4_floods 26 = .ok (.invokevirtual 154, 3) := by decide +kernel
theorem dX4_floods_29 : decode cX4_floods 29 = .ok (.aload_n 0, 1) := by decide +kernel
theorem dX4_floods_30 : decode cX4_floods 30 = .ok (.iload_n 2, 1) := by decide +kernel
theorem dX4_floods_31 : decode cX4_floods 31 = .ok (.invokevirtual 157, 3) := by decide +kernel
theorem dX4_floods_34 : decode cX4_floods 34 = .ok (.istore_n 3, 1) := by decide +kernel
theorem dX4_floods_35 : decode cX4_floods 35 = .ok (.aload_n 0, 1) := by decide +kernel
theorem dX4_floods_36 : decode cX4_floods 36 = .ok (.iload_n 1, 1) := by decide +kernel
theorem dX4_floods_37 : decode cX4_floods 37 = .ok (.iload_n 2, 1) := by decide +kernel
theorem dX4_floods_38 : decode cX4_floods 38 = .ok (.invokevirtual 163, 3) := by decide +kernel
theorem dX4_floods_41 : decode cX4_floods 41 = .ok (.iload_n 3, 1) := by decide +kernel
theorem dX4_floods_42 : decode cX4_floods 42 = .ok (.iconst (-1), 1) := by decide +kernel
theorem dX4_floods_43 : decode cX4_floods 43 = .ok (.ixor, 1) := by decide +kernel
theorem dX4_floods_44 : decode cX4_floods 44 = .ok (.iand, 1) := by decide +kernel
theorem dX4_floods_45 : decode cX4_floods 45 = .ok (.ireturn, 1) := by decide +kernel
theorem dX4_tells_0 : decode cX4_tells 0 = .ok (.aload_n 0, 1) := by decide +kernel
theorem dX4_tells_1 : decode cX4_tells 1 = .ok (.getfield 45, 3) := by decide +kernel
theorem dX4_tells_4 : decode cX4_tells 4 = .ok (.iload_n 1, 1) := by decide +kernel
theorem dX4_tells_5 : decode cX4_tells 5 = .ok (.invokevirtual 169, 3) := by decide +kernel
theorem dX4_tells_8 : decode cX4_tells 8 = .ok (.ifCond .eq 11, 3) := by decide +kernel
theorem dX4_tells_11 : decode cX4_tells 11 = .ok (.aload_n 0, 1) := by decide +kernel
theorem dX4_tells_12 : decode cX4_tells 12 = .ok (.iload_n 2, 1) := by decide +kernel
theorem dX4_tells_13 : decode cX4_tells 13 = .ok (.invokevirtual 171, 3) := by decide +kernel
theorem dX4_tells_16 : decode cX4_tells 16 = .ok (.ifCond .ne 6, 3) := by decide +kernel
theorem dX4_tells_19 : decode cX4_tells 19 = .ok (.bipush (-2), 2) := by decide +kernel
theorem dX4_tells_21 : decode cX4_tells 21 = .ok (.ireturn, 1) := by decide +kernel
theorem dX4_tells_22 : decode cX4_tells 22 = .ok (.aload_n 0, 1) := by decide +kernel
theorem dX4_tells_23 : decode cX4_tells 23 = .ok (.getfield 45, 3) := by decide +kernel
theorem dX4_tells_26 : decode cX4_tells 26 = .ok (.iload_n 1, 1) := by decide +kernel
theorem dX4_tells_27 : decode cX4_tells 27 = .ok (.invokevirtual 174, 3) := by decide +kernel
theorem dX4_tells_30 : decode cX4_tells 30 = .ok (.ifCond .eq 6, 3) := by decide +kernel
theorem dX4_tells_33 : decode cX4_tells 33 = .ok (.bipush (-11), 2) := by decide +kernel
theorem dX4_tells_35 : decode cX4_tells 35 = .ok (.ireturn, 1) := by decide +kernel
theorem dX4_tells_36 : decode cX4_tells 36 = .ok (.aload_n 0, 1) := by decide +kernel
theorem dX4_tells_37 : decode cX4_tells 37 = .ok (.getfield 45, 3) := by decide +kernel
theorem dX4_tells_40 : decode cX4_tells 40 = .ok (.iload_n 1, 1) := by decide +kernel
theorem dX4_tells_41 : decode cX4_tells 41 = .ok (.invokevirtual 177, 3) := by decide +kernel
theorem dX4_tells_44 : decode cX4_tells 44 = .ok (.bipush 30, 2) := by decide +kernel
theorem dX4_tells_46 : decode cX4_tells 46 = .ok (.if_icmp .le 6, 3) := by decide +kernel
theorem dX4_tells_49 : decode cX4_tells 49 = .ok (.bipush (-2), 2) := by decide +kernel
theorem dX4_tells_51 : decode cX4_tells 51 = .ok (.ireturn, 1) := by decide +kernel
theorem dX4_tells_52 : decode cX4_tells 52 = .ok (.iload_n 2, 1) := by decide +kernel
theorem dX4_tells_53 : decode cX4_tells 53 = .ok (.tableswitch 71 0 3 #[31, 46, 59, 65], 31) := by decide +kernel
theorem dX4_tells_84 : decode cX4_tells 84 = .ok (.aload_n 0, 1) := by decide +kernel
theorem dX4_tells_85 : decode cX4_tells 85 = .ok (.iload_n 1, 1) := by decide +kernel
theorem dX4_tells_86 : decode cX4_tells 86 = .ok (.iconst 0, 1) := by decide +kernel
theorem dX4_tells_87 : decode cX4_tells 87 = .ok (.iconst 0, 1) := by decide +kernel
theorem dX4_tells_88 : decode cX4_tells 88 = .ok (.aload_n 0, 1) := by decide +kernel
theorem dX4_tells_89 : decode cX4_tells 89 = .ok (.getfield 10, 3) := by decide +kernel
theorem dX4_tells_92 : decode cX4_tells 92 = .ok (.getfield 166, 3) := by decide +kernel
theorem dX4_tells_95 : decode cX4_tells 95 = .ok (.invokevirtual 179, 3) := by decide +kernel
theorem dX4_tells_98 : decode cX4_tells 98 = .ok (.ireturn, 1) := by decide +kernel
theorem dX4_tells_99 : decode cX4_tells 99 = .ok (.aload_n 0, 1) := by decide +kernel
theorem dX4_tells_100 : decode cX4_tells 100 = .ok (.iload_n 1, 1) := by decide +kernel
theorem dX4_tells_101 : decode cX4_tells 101 = .ok (.bipush 11, 2) := by decide +kernel
theorem dX4_tells_103 : decode cX4_tells 103 = .ok (.iconst 0, 1) := by decide +kernel
theorem dX4_tells_104 : decode cX4_tells 104 = .ok (.aload_n 0, 1) := by decide +kernel
theorem dX4_tells_105 : decode cX4_tells 105 = .ok (.getfield 31, 3) := by decide +kernel
theorem dX4_tells_108 : decode cX4_tells 108 = .ok (.invokevirtual 183, 3) := by decide +kernel
theorem dX4_tells_111 : decode cX4_tells 111 = .ok (.ireturn, 1) := by decide +kernel
theorem dX4_tells_112 : decode cX4_tells 112 = .ok (.aload_n 0, 1) := by decide +kernel
theorem dX4_tells_113 : decode cX4_tells 113 = .ok (.iload_n 1, 1) := by decide +kernel
theorem dX4_tells_114 : decode cX4_tells 114 = .ok (.invokevirtual 186, 3) := by decide +kernel
theorem dX4_tells_117 : decode cX4_tells 117 = .ok (.ireturn, 1) := by decide +kernel
theorem dX4_tells_118 : decode cX4_tells 118 = .ok (.aload_n 0, 1) := by decide +kernel
theorem dX4_tells_119 : decode cX4_tells 119 = .ok (.iload_n 1, 1) := by decide +kernel
theorem dX4_tells_120 : decode cX4_tells 120 = .ok (.invokevirtual 189, 3) := by decide +kernel
theorem dX4_tells_123 : decode cX4_tells 123 = .ok (.ireturn, 1) := by decide +kernel
theorem dX4_tells_124 : decode cX4_tells 124 = .ok (.aload_n 0, 1) := by decide +kernel
theorem dX4_tells_125 : decode cX4_tells 125 = .ok (.iload_n 1, 1) := by decide +kernel
theorem dX4_tells_126 : decode cX4_tells 126 = .ok (.iload_n 2, 1) := by decide +kernel
theorem dX4_tells_127 : decode cX4_tells 127 = .ok (.invokestatic 192, 3) := by decide +kernel
theorem dX4_tells_130 : decode cX4_tells 130 = .ok (.iload_n 2, 1) := by decide +kernel
theorem dX4_tells_131 : decode cX4_tells 131 = .ok (.bipush 10, 2) := by decide +kernel
theorem dX4_tells_133 : decode cX4_tells 133 = .ok (.irem, 1) := by decide +kernel
theorem dX4_tells_134 : decode cX4_tells 134 = .ok (.iload_n 2, 1) := by decide +kernel
theorem dX4_tells_135 : decode cX4_tells 135 = .ok (.invokestatic 192, 3) := by decide +kernel
theorem dX4_tells_138 : decode cX4_tells 138 = .ok (.invokestatic 57, 3) := by decide +kernel
theorem dX4_tells_141 : decode cX4_tells 141 = .ok (.iconst 1, 1) := by decide +kernel
theorem dX4_tells_142 : decode cX4_tells 142 = .ok (.iadd, 1) := by decide +kernel
theorem dX4_tells_143 : decode cX4_tells 143 = .ok (.invokevirtual 183, 3) := by decide +kernel
theorem dX4_tells_146 : decode cX4_tells 146 = .ok (.ireturn, 1) := by decide +kernel
theorem dX4_film_0 : decode cX4_film 0 = .ok (.aload_n 0, 1) := by decide +kernel
theorem dX4_film_1 : decode cX4_film 1 = .ok (.getfield 45, 3) := by decide +kernel
theorem dX4_film_4 : decode cX4_film 4 = .ok (.iload_n 1, 1) := by decide +kernel
theorem dX4_film_5 : decode cX4_film 5 = .ok (.invokevirtual 169, 3) := by decide +kernel
theorem dX4_film_8 : decode cX4_film 8 = .ok (.ifCond .eq 10, 3) := by decide +kernel
theorem dX4_film_11 : decode cX4_film 11 = .ok (.iload_n 2, 1) := by decide +kernel
theorem dX4_film_12 : decode cX4_film 12 = .ok (.invokestatic 129, 3) := by decide +kernel
theorem dX4_film_15 : decode cX4_film 15 = .ok (.ifCond .ne 6, 3) := by decide +kernel
theorem dX4_film_18 : decode cX4_film 18 = .ok (.bipush (-2), 2) := by decide +kernel
theorem dX4_film_20 : decode cX4_film 20 = .ok (.ireturn, 1) := by decide +kernel
theorem dX4_film_21 : decode cX4_film 21 = .ok (.aload_n 0, 1) := by decide +kernel
theorem dX4_film_22 : decode cX4_film 22 = .ok (.iload_n 2, 1) := by decide +kernel
theorem dX4_film_23 : decode cX4_film 23 = .ok (.invokevirtual 135, 3) := by decide +kernel
theorem dX4_film_26 : decode cX4_film 26 = .ok (.aload_n 0, 1) := by decide +kernel
theorem dX4_film_27 : decode cX4_film 27 = .ok (.getfield 45, 3) := by decide +kernel
theorem dX4_film_30 : decode cX4_film 30 = .ok (.iload_n 1, 1) := by decide +kernel
theorem dX4_film_31 : decode cX4_film 31 = .ok (.iconst 1, 1) := by decide +kernel
theorem dX4_film_32 : decode cX4_film 32 = .ok (.iload_n 2, 1) := by decide +kernel
theorem dX4_film_33 : decode cX4_film 33 = .ok (.invokevirtual 195, 3) := by decide +kernel
theorem dX4_film_36 : decode cX4_film 36 = .ok (.iconst 0, 1) := by decide +kernel
theorem dX4_film_37 : decode cX4_film 37 = .ok (.istore_n 3, 1) := by decide +kernel
theorem dX4_film_38 : decode cX4_film 38 = .ok (.iload_n 3, 1) := by decide +kernel
theorem dX4_film_39 : decode cX4_film 39 = .ok (.iload_n 2, 1) := by decide +kernel
theorem dX4_film_40 : decode cX4_film 40 = .ok (.if_icmp .ge 24, 3) := by decide +kernel
theorem dX4_film_43 : decode cX4_film 43 = .ok (.aload_n 0, 1) := by decide +kernel
theorem dX4_film_44 : decode cX4_film 44 = .ok (.getfield 45, 3) := by decide +kernel
theorem dX4_film_47 : decode cX4_film 47 = .ok (.iload_n 1, 1) := by decide +kernel
theorem dX4_film_48 : decode cX4_film 48 = .ok (.iload_n 3, 1) := by decide +kernel
theorem dX4_film_49 : decode cX4_film 49 = .ok (.aload_n 0, 1) := by decide +kernel
theorem dX4_film_50 : decode cX4_film 50 = .ok (.getfield 49, 3) := by decide +kernel
theorem dX4_film_53 : decode cX4_film 53 = .ok (.iload_n 3, 1) := by decide +kernel
theorem dX4_film_54 : decode cX4_film 54 = .ok (.iaload, 1) := by decide +kernel
theorem dX4_film_55 : decode cX4_film 55 = .ok (.invokevirtual 198, 3) := by decide +kernel
theorem dX4_film_58 : decode cX4_film 58 = .ok (.iinc 3 1, 3) := by decide +kernel
theorem dX4_film_61 : decode cX4_film 61 = .ok (.goto (-23), 3) := by decide +kernel
theorem dX4_film_64 : decode cX4_film 64 = .ok (.iload_n 2, 1) := by decide +kernel
theorem dX4_film_65 : decode cX4_film 65 = .ok (.ireturn, 1) := by decide +kernel
theorem dX4_drawn_0 : decode cX4_drawn 0 = .ok (.iload_n 2, 1) := by decide +kernel
theorem dX4_drawn_1 : decode cX4_drawn 1 = .ok (.invokestatic 129, 3) := by decide +kernel
theorem dX4_drawn_4 : decode cX4_drawn 4 = .ok (.ifCond .ne 6, 3) := by decide +kernel
theorem dX4_drawn_7 : decode cX4_drawn 7 = .ok (.bipush (-2), 2) := by decide +kernel
theorem dX4_drawn_9 : decode cX4_drawn 9 = .ok (.ireturn, 1) := by decide +kernel
theorem dX4_drawn_10 : decode cX4_drawn 10 = .ok (.aload_n 0, 1) := by decide +kernel
theorem dX4_drawn_11 : decode cX4_drawn 11 = .ok (.iload_n 1, 1) := by decide +kernel
theorem dX4_drawn_12 : decode cX4_drawn 12 = .ok (.iload_n 2, 1) := by decide +kernel
theorem dX4_drawn_13 : decode cX4_drawn 13 = .ok (.invokevirtual 199, 3) := by decide +kernel
theorem dX4_drawn_16 : decode cX4_drawn 16 = .ok (.ireturn, 1) := by decide +kernel
theorem dX4_chance_0 : decode cX4_chance 0 = .ok (.iload_n 2, 1) := by decide +kernel
theorem dX4_chance_1 : decode cX4_chance 1 = .ok (.iconst 1, 1) := by decide +kernel
theorem dX4_chance_2 : decode cX4_chance 2 = .ok (.if_icmp .lt 20, 3) := by decide +kernel
theorem dX4_chance_5 : decode cX4_chance 5 = .ok (.iload_n 2, 1) := by decide +kernel
theorem dX4_chance_6 : decode cX4_chance 6 = .ok (.bipush 20, 2) := by decide +kernel
theorem dX4_chance_8 : decode cX4_chance 8 = .ok (.if_icmp .gt 14, 3) := by decide +kernel
theorem dX4_chance_11 : decode cX4_chance 11 = .ok (.iload 4, 2) := by decide +kernel
theorem dX4_chance_13 : decode cX4_chance 13 = .ok (.ifCond .lt 9, 3) := by decide +kernel
theorem dX4_chance_16 : decode cX4_chance 16 = .ok (.iload 4, 2) := by decide +kernel
theorem dX4_chance_18 : decode cX4_chance 18 = .ok (.iconst 1, 1) := by decide +kernel
theorem dX4_chance_19 : decode cX4_chance 19 = .ok (.if_icmp .le 7, 3) := by decide +kernel
theorem dX4_chance_22 : decode cX4_chance 22 = .ok (.ldc2_w 202, 3) := by decide +kernel
theorem dX4_chance_25 : decode cX4_chance 25 = .ok (.lreturn, 1) := by decide +kernel
theorem dX4_chance_26 : decode cX4_chance 26 = .ok (.iload_n 3, 1) := by decide +kernel
theorem dX4_chance_27 : decode cX4_chance 27 = .ok (.bipush 100, 2) := by decide +kernel
theorem dX4_chance_29 : decode cX4_chance 29 = .ok (.idiv, 1) := by decide +kernel
theorem dX4_chance_30 : decode cX4_chance 30 = .ok (.istore 5, 2) := by decide +kernel
theorem dX4_chance_32 : decode cX4_chance 32 = .ok (.iload_n 3, 1) := by decide +kernel
theorem dX4_chance_33 : decode cX4_chance 33 = .ok (.bipush 100, 2) := by decide +kernel
theorem dX4_chance_35 : decode cX4_chance 35 = .ok (.irem, 1) := by decide +kernel
theorem dX4_chance_36 : decode cX4_chance 36 = .ok (.istore 6, 2) := by decide +kernel
theorem dX4_chance_38 : decode cX4_chance 38 = .ok (.iload_n 3, 1) := by decide +kernel
theorem dX4_chance_39 : decode cX4_chance 39 = .ok (.ifCond .lt 17, 3) := by decide +kernel
theorem dX4_chance_42 : decode cX4_chance 42 = .ok (.iload 5, 2) := by decide +kernel
theorem dX4_chance_44 : decode cX4_chance 44 = .ok (.bipush 30, 2) := by decide +kernel
theorem dX4_chance_46 : decode cX4_chance 46 = .ok (.if_icmp .gt 10, 3) := by decide +kernel
theorem dX4_chance_49 : decode cX4_chance 49 = .ok (.iload 6, 2) := by decide +kernel
theorem dX4_chance_51 : decode cX4_chance 51 = .ok (.bipush 12, 2) := by decide +kernel
theorem dX4_chance_53 : decode cX4_chance 53 = .ok (.if_icmp .le 7, 3) := by decide +kernel
theorem dX4_chance_56 : decode cX4_chance 56 = .ok (.ldc2_w 202, 3) := by decide +kernel
theorem dX4_chance_59 : decode cX4_chance 59 = .ok (.lreturn, 1) := by decide +kernel
theorem dX4_chance_60 : decode cX4_chance 60 = .ok (.iconst 0, 1) := by decide +kernel
theorem dX4_chance_61 : decode cX4_chance 61 = .ok (.istore 7, 2) := by decide +kernel
theorem dX4_chance_63 : decode cX4_chance 63 = .ok (.iconst 0, 1) := by decide +kernel
theorem dX4_chance_64 : decode cX4_chance 64 = .ok (.istore 8, 2) := by decide +kernel
theorem dX4_chance_66 : decode cX4_chance 66 = .ok (.iload 8, 2) := by decide +kernel
theorem dX4_chance_68 : decode cX4_chance 68 = .ok (.iload_n 2, 1) := by decide +kernel
theorem dX4_chance_69 : decode cX4_chance 69 = .ok (.if_icmp .ge 27, 3) := by decide +kernel
theorem dX4_chance_72 : decode cX4_chance 72 = .ok (.aload_n 0, 1) := by decide +kernel
theorem dX4_chance_73 : decode cX4_chance 73 = .ok (.iload_n 1, 1) := by decide +kernel
theorem dX4_chance_74 : decode cX4_chance 74 = .ok (.iload 8, 2) := by decide +kernel
theorem dX4_chance_76 : decode cX4_chance 76 = .ok (.iadd, 1) := by decide +kernel
theorem dX4_chance_77 : decode cX4_chance 77 = .ok (.iload 5, 2) := by decide +kernel
theorem dX4_chance_79 : decode cX4_chance 79 = .ok (.invokevirtual 199, 3) := by decide +kernel
theorem dX4_chance_82 : decode cX4_chance 82 = .ok (.iload 6, 2) := by decide +kernel
theorem dX4_chance_84 : decode cX4_chance 84 = .ok (.if_icmp .lt 6, 3) := by decide +kernel
theorem dX4_chance_87 : decode cX4_chance 87 = .ok (.iinc 7 1, 3) := by decide +kernel
theorem dX4_chance_90 : decode cX4_chance 90 = .ok (.iinc 8 1, 3) := by decide +kernel
theorem dX4_chance_93 : decode cX4_chance 93 = .ok (.goto (-27), 3) := by decide +kernel
theorem dX4_chance_96 : decode cX4_chance 96 = .ok (.iload 7, 2) := by decide +kernel
theorem dX4_chance_98 : decode cX4_chance 98 = .ok (.iload_n 2, 1) := by decide +kernel
theorem dX4_chance_99 : decode cX4_chance 99 = .ok (.invokestatic 204, 3) := by decide +kernel
theorem dX4_chance_102 : decode cX4_chance 102 = .ok (.istore 8, 2) := by decide +kernel
theorem dX4_chance_104 : decode cX4_chance 104 = .ok (.iload 4, 2) := by decide +kernel
theorem dX4_chance_106 : decode cX4_chance 106 = .ok (.ifCond .ne 12, 3) := by decide +kernel
theorem dX4_chance_109 : decode cX4_chance 109 = .ok (.iload 7, 2) := by decide +kernel
theorem dX4_chance_111 : decode cX4_chance 111 = .ok (.iload 8, 2) := by decide +kernel
theorem dX4_chance_113 : decode cX4_chance 113 = .ok (.idiv, 1) := by decide +kernel
theorem dX4_chance_114 : decode cX4_chance 114 = .ok (.i2l, 1) := by decide +kernel
theorem dX4_chance_115 : decode cX4_chance 115 = .ok (.goto 8, 3) := by decide +kernel
theorem dX4_chance_118 : decode cX4_chance 118 = .ok (.iload_n 2, 1) := by decide +kernel
theorem dX4_chance_119 : decode cX4_chance 119 = .ok (.iload 8, 2) := by decide +kernel
theorem dX4_chance_121 : decode cX4_chance 121 = .ok (.idiv, 1) := by decide +kernel
theorem dX4_chance_122 : decode cX4_chance 122 = .ok (.i2l, 1) := by decide +kernel
theorem dX4_chance_123 : decode cX4_chance 123 = .ok (.lreturn, 1) := by decide +kernel
theorem dX4_image_0 : decode cX4_image 0 = .ok (.aload_n 0, 1) := by decide +kernel
theorem dX4_image_1 : decode cX4_image 1 = .ok (.getfield 19, 3) := by decide +kernel
theorem dX4_image_4 : decode cX4_image 4 = .ok (.aload_n 0, 1) := by decide +kernel
theorem dX4_image_5 : decode cX4_image 5 = .ok (.getfield 10, 3) := by decide +kernel
theorem dX4_image_8 : decode cX4_image 8 = .ok (.invokevirtual 207, 3) := by decide +kernel
theorem dX4_image_11 : decode cX4_image 11 = .ok (.aload_n 0, 1) := by decide +kernel
theorem dX4_image_12 : decode cX4_image 12 = .ok (.iconst 1, 1) := by decide +kernel
theorem dX4_image_13 : decode cX4_image 13 = .ok (.putfield 211, 3) := by decide +kernel
theorem dX4_image_16 : decode cX4_image 16 = .ok (.aload_n 0, 1) := by decide +kernel
theorem dX4_image_17 : decode cX4_image 17 = .ok (.getfield 10, 3) := by decide +kernel
theorem dX4_image_20 : decode cX4_image 20 = .ok (.getfield 73, 3) := by decide +kernel
theorem dX4_image_23 : decode cX4_image 23 = .ok (.ireturn, 1) := by decide +kernel
theorem dX4_back_0 : decode cX4_back 0 = .ok (.aload_n 0, 1) := by decide +kernel
theorem dX4_back_1 : decode cX4_back 1 = .ok (.getfield 211, 3) := by decide +kernel
theorem dX4_back_4 : decode cX4_back 4 = .ok (.ifCond .ne 6, 3) := by decide +kernel
theorem dX4_back_7 : decode cX4_back 7 = .ok (.bipush (-3), 2) := by decide +kernel
theorem dX4_back_9 : decode cX4_back 9 = .ok (.ireturn, 1) := by decide +kernel
theorem dX4_back_10 : decode cX4_back 10 = .ok (.aload_n 0, 1) := by decide +kernel
theorem dX4_back_11 : decode cX4_back 11 = .ok (.getfield 10, 3) := by decide +kernel
theorem dX4_back_14 : decode cX4_back 14 = .ok (.aload_n 0, 1) := by decide +kernel
theorem dX4_back_15 : decode cX4_back 15 = .ok (.getfield 19, 3) := by decide +kernel
theorem dX4_back_18 : decode cX4_back 18 = .ok (.invokevirtual 207, 3) := by decide +kernel
theorem dX4_back_21 : decode cX4_back 21 = .ok (.aload_n 0, 1) := by decide +kernel
theorem dX4_back_22 : decode cX4_back 22 = .ok (.getfield 10, 3) := by decide +kernel
theorem dX4_back_25 : decode cX4_back 25 = .ok (.getfield 73, 3) := by decide +kernel
theorem dX4_back_28 : decode cX4_back 28 = .ok (.ireturn, 1) := by decide +kernel
theorem dX4_count_0 : decode cX4_count 0 = .ok (.iload_n 1, 1) := by decide +kernel
theorem dX4_count_1 : decode cX4_count 1 = .ok (.tableswitch 111 0 7 #[47, 55, 63, 74, 82, 90, 95, 103], 47) := by decide +kernel
theorem dX4_count_48 : decode cX4_count 48 = .ok (.aload_n 0, 1) := by decide +kernel
theorem dX4_count_49 : decode cX4_count 49 = .ok (.getfield 10, 3) := by decide +kernel
theorem dX4_count_52 : decode cX4_count 52 = .ok (.getfield 73, 3) := by decide +kernel
theorem dX4_count_55 : decode cX4_count 55 = .ok (.ireturn, 1) := by decide +kernel
theorem dX4_count_56 : decode cX4_count 56 = .ok (.aload_n 0, 1) := by decide +kernel
theorem dX4_count_57 : decode cX4_count 57 = .ok (.getfield 10, 3) := by decide +kernel
theorem dX4_count_60 : decode cX4_count 60 = .ok (.invokevirtual 215, 3) := by decide +kernel
theorem dX4_count_63 : decode cX4_count 63 = .ok (.ireturn, 1) := by decide +kernel
theorem dX4_count_64 : decode cX4_count 64 = .ok (.aload_n 0, 1) := by decide +kernel
theorem dX4_count_65 : decode cX4_count 65 = .ok (.getfield 10, 3) := by decide +kernel
theorem dX4_count_68 : decode cX4_count 68 = .ok (.invokevirtual 121, 3) := by decide +kernel
theorem dX4_count_71 : decode cX4_count 71 = .ok (.invokestatic 124, 3) := by decide +kernel
theorem dX4_count_74 : decode cX4_count 74 = .ok (.ireturn, 1) := by decide +kernel
theorem dX4_count_75 : decode cX4_count 75 = .ok (.aload_n 0, 1) := by decide +kernel
theorem dX4_count_76 : decode cX4_count 76 = .ok (.getfield 10, 3) := by decide +kernel
theorem dX4_count_79 : decode cX4_count 79 = .ok (.getfield 114, 3) := by decide +kernel
theorem dX4_count_82 : decode cX4_count 82 = .ok (.ireturn, 1) := by decide +kernel
theorem dX4_count_83 : decode cX4_count 83 = .ok (.aload_n 0, 1) := by decide +kernel
theorem dX4_count_84 : decode cX4_count 84 = .ok (.getfield 10, 3) := by decide +kernel
theorem dX4_count_87 : decode cX4_count 87 = .ok (.getfield 139, 3) := by decide +kernel
theorem dX4_count_90 : decode cX4_count 90 = .ok (.ireturn, 1) := by decide +kernel
theorem dX4_count_91 : decode cX4_count 91 = .ok (.aload_n 0, 1) := by decide +kernel
theorem dX4_count_92 : decode cX4_count 92 = .ok (.getfield 31, 3) := by decide +kernel
theorem dX4_count_95 : decode cX4_count 95 = .ok (.ireturn, 1) := by decide +kernel
theorem dX4_count_96 : decode cX4_count 96 = .ok (.aload_n 0, 1) := by decide +kernel
theorem dX4_count_97 : decode cX4_count 97 = .ok (.getfield 38, 3) := by decide +kernel
theorem dX4_count_100 : decode cX4_count 100 = .ok (.invokevirtual 93, 3) := by decide +kernel
theorem dX4_count_103 : decode cX4_count 103 = .ok (.ireturn, 1) := by decide +kernel
theorem dX4_count_104 : decode cX4_count 104 = .ok (.aload_n 0, 1) := by decide +kernel
theorem dX4_count_105 : decode cX4_count 105 = .ok (.getfield 10, 3) := by decide +kernel
theorem dX4_count_108 : decode cX4_count 108 = .ok (.getfield 104, 3) := by decide +kernel
theorem dX4_count_111 : decode cX4_count 111 = .ok (.ireturn, 1) := by decide +kernel
theorem dX4_count_112 : decode cX4_count 112 = .ok (.bipush (-2), 2) := by decide +kernel
theorem dX4_count_114 : decode cX4_count 114 = .ok (.ireturn, 1) := by decide +kernel
theorem dX4_sheet_0 : decode cX4_sheet 0 = .ok (.aload_n 0, 1) := by decide +kernel
theorem dX4_sheet_1 : decode cX4_sheet 1 = .ok (.getfield 45, 3) := by decide +kernel
theorem dX4_sheet_4 : decode cX4_sheet 4 = .ok (.iload_n 1, 1) := by decide +kernel
theorem dX4_sheet_5 : decode cX4_sheet 5 = .ok (.invokevirtual 169, 3) := by decide +kernel
theorem dX4_sheet_8 : decode cX4_sheet 8 = .ok (.ifCond .eq 13, 3) := by decide +kernel
theorem dX4_sheet_11 : decode cX4_sheet 11 = .ok (.iload_n 2, 1) := by decide +kernel
theorem dX4_sheet_12 : decode cX4_sheet 12 = .ok (.iconst (-1), 1) := by decide +kernel
theorem dX4_sheet_13 : decode cX4_sheet 13 = .ok (.if_icmp .lt 8, 3) := by decide +kernel
theorem dX4_sheet_16 : decode cX4_sheet 16 = .ok (.iload_n 2, 1) := by decide +kernel
theorem dX4_sheet_17 : decode cX4_sheet 17 = .ok (.iconst 3, 1) := by decide +kernel
theorem dX4_sheet_18 : decode cX4_sheet 18 = .ok (.if_icmp .lt 6, 3) := by decide +kernel
theorem dX4_sheet_21 : decode cX4_sheet 21 = .ok (.bipush (-2), 2) := by decide +kernel
theorem dX4_sheet_23 : decode cX4_sheet 23 = .ok (.ireturn, 1) := by decide +kernel
theorem dX4_sheet_24 : decode cX4_sheet 24 = .ok (.iload_n 2, 1) := by decide +kernel
theorem dX4_sheet_25 : decode cX4_sheet 25 = .ok (.iconst (-1), 1) := by decide +kernel
theorem dX4_sheet_26 : decode cX4_sheet 26 = .ok (.if_icmp .ne 13, 3) := by decide +kernel
theorem dX4_sheet_29 : decode cX4_sheet 29 = .ok (.aload_n 0, 1) := by decide +kernel
theorem dX4_sheet_30 : decode cX4_sheet 30 = .ok (.getfield 45, 3) := by decide +kernel
theorem dX4_sheet_33 : decode cX4_sheet 33 = .ok (.iload_n 1, 1) := by decide +kernel
theorem dX4_sheet_34 : decode cX4_sheet 34 = .ok (.invokevirtual 218, 3) := by decide +kernel
theorem dX4_sheet_37 : decode cX4_sheet 37 = .ok (.iconst 1, 1) := by decide +kernel
theorem dX4_sheet_38 : decode cX4_sheet 38 = .ok (.ireturn, 1) := by decide +kernel
theorem dX4_sheet_39 : decode cX4_sheet 39 = .ok (.iload_n 3, 1) := by decide +kernel
theorem dX4_sheet_40 : decode cX4_sheet 40 = .ok (.bipush 40, 2) := by decide +kernel
theorem dX4_sheet_42 : decode cX4_sheet 42 = .ok (.if_icmp .le 6, 3) := by decide +kernel
theorem dX4_sheet_45 : decode cX4_sheet 45 = .ok (.bipush (-2), 2) := by decide +kernel
theorem dX4_sheet_47 : decode cX4_sheet 47 = .ok (.ireturn, 1) := by decide +kernel
theorem dX4_sheet_48 : decode cX4_sheet 48 = .ok (.iload_n 3, 1) := by decide +kernel
theorem dX4_sheet_49 : decode cX4_sheet 49 = .ok (.ifCond .ge 6, 3) := by decide +kernel
theorem dX4_sheet_52 : decode cX4_sheet 52 = .ok (.bipush (-14), 2) := by decide +kernel
theorem dX4_sheet_54 : decode cX4_sheet 54 = .ok (.ireturn, 1) := by decide +kernel
theorem dX4_sheet_55 : decode cX4_sheet 55 = .ok (.aload_n 0, 1) := by decide +kernel
theorem dX4_sheet_56 : decode cX4_sheet 56 = .ok (.getfield 45, 3) := by decide +kernel
theorem dX4_sheet_59 : decode cX4_sheet 59 = .ok (.iload_n 1, 1) := by decide +kernel
theorem dX4_sheet_60 : decode cX4_sheet 60 = .ok (.iload_n 2, 1) := by decide +kernel
theorem dX4_sheet_61 : decode cX4_sheet 61 = .ok (.iload_n 3, 1) := by decide +kernel
theorem dX4_sheet_62 : decode cX4_sheet 62 = .ok (.invokevirtual 195, 3) := by decide +kernel
theorem dX4_sheet_65 : decode cX4_sheet 65 = .ok (.iconst 1, 1) := by decide +kernel
theorem dX4_sheet_66 : decode cX4_sheet 66 = .ok (.ireturn, 1) := by decide +kernel
theorem dX4_cell_0 : decode cX4_cell 0 = .ok (.aload_n 0, 1) := by decide +kernel
theorem dX4_cell_1 : decode cX4_cell 1 = .ok (.getfield 45, 3) := by decide +kernel
theorem dX4_cell_4 : decode cX4_cell 4 = .ok (.iload_n 1, 1) := by decide +kernel
theorem dX4_cell_5 : decode cX4_cell 5 = .ok (.invokevirtual 169, 3) := by decide +kernel
theorem dX4_cell_8 : decode cX4_cell 8 = .ok (.ifCond .ne 6, 3) := by decide +kernel
theorem dX4_cell_11 : decode cX4_cell 11 = .ok (.bipush (-2), 2) := by decide +kernel
theorem dX4_cell_13 : decode cX4_cell 13 = .ok (.ireturn, 1) := by decide +kernel
theorem dX4_cell_14 : decode cX4_cell 14 = .ok (.aload_n 0, 1) := by decide +kernel
theorem dX4_cell_15 : decode cX4_cell 15 = .ok (.getfield 45, 3) := by decide +kernel
theorem dX4_cell_18 : decode cX4_cell 18 = .ok (.iload_n 1, 1) := by decide +kernel
theorem dX4_cell_19 : decode cX4_cell 19 = .ok (.invokevirtual 174, 3) := by decide +kernel
theorem dX4_cell_22 : decode cX4_cell 22 = .ok (.ifCond .eq 6, 3) := by decide +kernel
theorem dX4_cell_25 : decode cX4_cell 25 = .ok (.bipush (-11), 2) := by decide +kernel
theorem dX4_cell_27 : decode cX4_cell 27 = .ok (.ireturn, 1) := by decide +kernel
theorem dX4_cell_28 : decode cX4_cell 28 = .ok (.aload_n 0, 1) := by decide +kernel
theorem dX4_cell_29 : decode cX4_cell 29 = .ok (.getfield 45, 3) := by decide +kernel
theorem dX4_cell_32 : decode cX4_cell 32 = .ok (.iload_n 1, 1) := by decide +kernel
theorem dX4_cell_33 : decode cX4_cell 33 = .ok (.iload_n 2, 1) := by decide +kernel
theorem dX4_cell_34 : decode cX4_cell 34 = .ok (.invokevirtual 221, 3) := by decide +kernel
theorem dX4_cell_37 : decode cX4_cell 37 = .ok (.ifCond .ne 6, 3) := by decide +kernel
theorem dX4_cell_40 : decode cX4_cell 40 = .ok (.bipush (-12), 2) := by decide +kernel
theorem dX4_cell_42 : decode cX4_cell 42 = .ok (.ireturn, 1) := by decide +kernel
theorem dX4_cell_43 : decode cX4_cell 43 = .ok (.aload_n 0, 1) := by decide +kernel
theorem dX4_cell_44 : decode cX4_cell 44 = .ok (.getfield 45, 3) := by decide +kernel
theorem dX4_cell_47 : decode cX4_cell 47 = .ok (.iload_n 1, 1) := by decide +kernel
theorem dX4_cell_48 : decode cX4_cell 48 = .ok (.iload_n 2, 1) := by decide +kernel
theorem dX4_cell_49 : decode cX4_cell 49 = .ok (.iload_n 3, 1) := by decide +kernel
theorem dX4_cell_50 : decode cX4_cell 50 = .ok (.invokevirtual 198, 3) := by decide +kernel
theorem dX4_cell_53 : decode cX4_cell 53 = .ok (.iconst 1, 1) := by decide +kernel
theorem dX4_cell_54 : decode cX4_cell 54 = .ok (.ireturn, 1) := by decide +kernel
theorem dX4_copy_0 : decode cX4_copy 0 = .ok (.aload_n 0, 1) := by decide +kernel
theorem dX4_copy_1 : decode cX4_copy 1 = .ok (.getfield 45, 3) := by decide +kernel
theorem dX4_copy_4 : decode cX4_copy 4 = .ok (.iload_n 1, 1) := by decide +kernel
theorem dX4_copy_5 : decode cX4_copy 5 = .ok (.invokevirtual 169, 3) := by decide +kernel
theorem dX4_copy_8 : decode cX4_copy 8 = .ok (.ifCond .eq 14, 3) := by decide +kernel
theorem dX4_copy_11 : decode cX4_copy 11 = .ok (.aload_n 0, 1) := by decide +kernel
theorem dX4_copy_12 : decode cX4_copy 12 = .ok (.getfield 45, 3) := by decide +kernel
theorem dX4_copy_15 : decode cX4_copy 15 = .ok (.iload_n 3, 1) := by decide +kernel
theorem dX4_copy_16 : decode cX4_copy 16 = .ok (.invokevirtual 169, 3) := by decide +kernel
theorem dX4_copy_19 : decode cX4_copy 19 = .ok (.ifCond .ne 6, 3) := by decide +kernel
theorem dX4_copy_22 : decode cX4_copy 22 = .ok (.bipush (-2), 2) := by decide +kernel
theorem dX4_copy_24 : decode cX4_copy 24 = .ok (.ireturn, 1) := by decide +kernel
theorem dX4_copy_25 : decode cX4_copy 25 = .ok (.aload_n 0, 1) := by decide +kernel
theorem dX4_copy_26 : decode cX4_copy 26 = .ok (.getfield 45, 3) := by decide +kernel
theorem dX4_copy_29 : decode cX4_copy 29 = .ok (.iload_n 1, 1) := by decide +kernel
theorem dX4_copy_30 : decode cX4_copy 30 = .ok (.invokevirtual 174, 3) := by decide +kernel
theorem dX4_copy_33 : decode cX4_copy 33 = .ok (.ifCond .ne 14, 3) := by decide +kernel
theorem dX4_copy_36 : decode cX4_copy 36 = .ok (.aload_n 0, 1) := by decide +kernel
theorem dX4_copy_37 : decode cX4_copy 37 = .ok (.getfield 45, 3) := by decide +kernel
theorem dX4_copy_40 : decode cX4_copy 40 = .ok (.iload_n 3, 1) := by decide +kernel
theorem dX4_copy_41 : decode cX4_copy 41 = .ok (.invokevirtual 174, 3) := by decide +kernel
theorem dX4_copy_44 : decode cX4_copy 44 = .ok (.ifCond .eq 6, 3) := by decide +kernel
theorem dX4_copy_47 : decode cX4_copy 47 = .ok (.bipush (-11), 2) := by decide +kernel
theorem dX4_copy_49 : decode cX4_copy 49 = .ok (.ireturn, 1) := by decide +kernel
theorem dX4_copy_50 : decode cX4_copy 50 = .ok (.aload_n 0, 1) := by decide +kernel
theorem dX4_copy_51 : decode cX4_copy 51 = .ok (.getfield 45, 3) := by decide +kernel
theorem dX4_copy_54 : decode cX4_copy 54 = .ok (.iload_n 1, 1) := by decide +kernel
theorem dX4_copy_55 : decode cX4_copy 55 = .ok (.invokevirtual 224, 3) := by decide +kernel
theorem dX4_copy_58 : decode cX4_copy 58 = .ok (.aload_n 0, 1) := by decide +kernel
theorem dX4_copy_59 : decode cX4_copy 59 = .ok (.getfield 45, 3) := by decide +kernel
theorem dX4_copy_62 : decode cX4_copy 62 = .ok (.iload_n 3, 1) := by decide +kernel
theorem dX4_copy_63 : decode cX4_copy 63 = .ok (.invokevirtual 224, 3) := by decide +kernel
theorem dX4_copy_66 : decode cX4_copy 66 = .ok (.if_icmp .eq 6, 3) := by decide +kernel
theorem dX4_copy_69 : decode cX4_copy 69 = .ok (.bipush (-13), 2) := by decide +kernel
theorem dX4_copy_71 : decode cX4_copy 71 = .ok (.ireturn, 1) := by decide +kernel
theorem dX4_copy_72 : decode cX4_copy 72 = .ok (.aload_n 0, 1) := by decide +kernel
theorem dX4_copy_73 : decode cX4_copy 73 = .ok (.getfield 45, 3) := by decide +kernel
theorem dX4_copy_76 : decode cX4_copy 76 = .ok (.iload_n 1, 1) := by decide +kernel
theorem dX4_copy_77 : decode cX4_copy 77 = .ok (.iload_n 2, 1) := by decide +kernel
theorem dX4_copy_78 : decode cX4_copy 78 = .ok (.iload 5, 2) := by decide +kernel
theorem dX4_copy_80 : decode cX4_copy 80 = .ok (.invokevirtual 227, 3) := by decide +kernel
theorem dX4_copy_83 : decode cX4_copy 83 = .ok (.ifCond .eq 18, 3) := by decide +kernel
theorem dX4_copy_86 : decode cX4_copy 86 = .ok (.aload_n 0, 1) := by decide +kernel
theorem dX4_copy_87 : decode cX4_copy 87 = .ok (.getfield 45, 3) := by decide +kernel
theorem dX4_copy_90 : decode cX4_copy 90 = .ok (.iload_n 3, 1) := by decide +kernel
theorem dX4_copy_91 : decode cX4_copy 91 = .ok (.iload 4, 2) := by decide +kernel
theorem dX4_copy_93 : decode cX4_copy 93 = .ok (.iload 5, 2) := by decide +kernel
theorem dX4_copy_95 : decode cX4_copy 95 = .ok (.invokevirtual 227, 3) := by decide +kernel
theorem dX4_copy_98 : decode cX4_copy 98 = .ok (.ifCond .ne 6, 3) := by decide +kernel
theorem dX4_copy_101 : decode cX4_copy 101 = .ok (.bipush (-12), 2) := by decide +kernel
theorem dX4_copy_103 : decode cX4_copy 103 = .ok (.ireturn, 1) := by decide +kernel
theorem dX4_copy_104 : decode cX4_copy 104 = .ok (.aload_n 0, 1) := by decide +kernel
theorem dX4_copy_105 : decode cX4_copy 105 = .ok (.getfield 45, 3) := by decide +kernel
theorem dX4_copy_108 : decode cX4_copy 108 = .ok (.iload_n 1, 1) := by decide +kernel
theorem dX4_copy_109 : decode cX4_copy 109 = .ok (.iload_n 2, 1) := by decide +kernel
theorem dX4_copy_110 : decode cX4_copy 110 = .ok (.iload_n 3, 1) := by decide +kernel
theorem dX4_copy_111 : decode cX4_copy 111 = .ok (.iload 4, 2) := by decide +kernel
theorem dX4_copy_113 : decode cX4_copy 113 = .ok (.iload 5, 2) := by decide +kernel
theorem dX4_copy_115 : decode cX4_copy 115 = .ok (.invokevirtual 230, 3) := by decide +kernel
theorem dX4_copy_118 : decode cX4_copy 118 = .ok (.iload 5, 2) := by decide +kernel
theorem dX4_copy_120 : decode cX4_copy 120 = .ok (.ireturn, 1) := by decide +kernel
theorem dX4_works_0 : decode cX4_works 0 = .ok (.aload_n 0, 1) := by decide +kernel
theorem dX4_works_1 : decode cX4_works 1 = .ok (.getfield 45, 3) := by decide +kernel
theorem dX4_works_4 : decode cX4_works 4 = .ok (.iload_n 1, 1) := by decide +kernel
theorem dX4_works_5 : decode cX4_works 5 = .ok (.invokevirtual 169, 3) := by decide +kernel
theorem dX4_works_8 : decode cX4_works 8 = .ok (.ifCond .eq 24, 3) := by decide +kernel
theorem dX4_works_11 : decode cX4_works 11 = .ok (.iload_n 2, 1) := by decide +kernel
theorem dX4_works_12 : decode cX4_works 12 = .ok (.ifCond .lt 20, 3) := by decide +kernel
theorem dX4_works_15 : decode cX4_works 15 = .ok (.iload_n 2, 1) := by decide +kernel
theorem dX4_works_16 : decode cX4_works 16 = .ok (.iconst 3, 1) := by decide +kernel
theorem dX4_works_17 : decode cX4_works 17 = .ok (.if_icmp .ge 15, 3) := by decide +kernel
theorem dX4_works_20 : decode cX4_works 20 = .ok (.iload 4, 2) := by decide +kernel
theorem dX4_works_22 : decode cX4_works 22 = .ok (.ifCond .lt 10, 3) := by decide +kernel
theorem dX4_works_25 : decode cX4_works 25 = .ok (.iload 4, 2) := by decide +kernel
theorem dX4_works_27 : decode cX4_works 27 = .ok (.bipush 6, 2) := by decide +kernel
theorem dX4_works_29 : decode cX4_works 29 = .ok (.if_icmp .le 6, 3) := by decide +kernel
theorem dX4_works_32 : decode cX4_works 32 = .ok (.bipush (-2), 2) := by decide +kernel
theorem dX4_works_34 : decode cX4_works 34 = .ok (.ireturn, 1) := by decide +kernel
theorem dX4_works_35 : decode cX4_works 35 = .ok (.aload_n 0, 1) := by decide +kernel
theorem dX4_works_36 : decode cX4_works 36 = .ok (.getfield 45, 3) := by decide +kernel
theorem dX4_works_39 : decode cX4_works 39 = .ok (.iload_n 1, 1) := by decide +kernel
theorem dX4_works_40 : decode cX4_works 40 = .ok (.invokevirtual 174, 3) := by decide +kernel
theorem dX4_works_43 : decode cX4_works 43 = .ok (.ifCond .eq 6, 3) := by decide +kernel
theorem dX4_works_46 : decode cX4_works 46 = .ok (.bipush (-11), 2) := by decide +kernel
theorem dX4_works_48 : decode cX4_works 48 = .ok (.ireturn, 1) := by decide +kernel
theorem dX4_works_49 : decode cX4_works 49 = .ok (.aload_n 0, 1) := by decide +kernel
theorem dX4_works_50 : decode cX4_works 50 = .ok (.getfield 45, 3) := by decide +kernel
theorem dX4_works_53 : decode cX4_works 53 = .ok (.iload_n 1, 1) := by decide +kernel
theorem dX4_works_54 : decode cX4_works 54 = .ok (.invokevirtual 224, 3) := by decide +kernel
theorem dX4_works_57 : decode cX4_works 57 = .ok (.iload_n 2, 1) := by decide +kernel
theorem dX4_works_58 : decode cX4_works 58 = .ok (.if_icmp .eq 6, 3) := by decide +kernel
theorem dX4_works_61 : decode cX4_works 61 = .ok (.bipush (-13), 2) := by decide +kernel
theorem dX4_works_63 : decode cX4_works 63 = .ok (.ireturn, 1) := by decide +kernel
theorem dX4_works_64 : decode cX4_works 64 = .ok (.iconst 0, 1) := by decide +kernel
theorem dX4_works_65 : decode cX4_works 65 = .ok (.istore 5, 2) := by decide +kernel
theorem dX4_works_67 : decode cX4_works 67 = .ok (.iconst 0, 1) := by decide +kernel
theorem dX4_works_68 : decode cX4_works 68 = .ok (.istore 6, 2) := by decide +kernel
theorem dX4_works_70 : decode cX4_works 70 = .ok (.iload 6, 2) := by decide +kernel
theorem dX4_works_72 : decode cX4_works 72 = .ok (.iload 4, 2) := by decide +kernel
theorem dX4_works_74 : decode cX4_works 74 = .ok (.if_icmp .ge 47, 3) := by decide +kernel
theorem dX4_works_77 : decode cX4_works 77 = .ok (.aload_n 0, 1) := by decide +kernel
theorem dX4_works_78 : decode cX4_works 78 = .ok (.getfield 45, 3) := by decide +kernel
theorem dX4_works_81 : decode cX4_works 81 = .ok (.iload_n 1, 1) := by decide +kernel
theorem dX4_works_82 : decode cX4_works 82 = .ok (.iload_n 3, 1) := by decide +kernel
theorem dX4_works_83 : decode cX4_works 83 = .ok (.iconst 3, 1) := by decide +kernel
theorem dX4_works_84 : decode cX4_works 84 = .ok (.iload 6, 2) := by decide +kernel
theorem dX4_works_86 : decode cX4_works 86 = .ok (.imul, 1) := by decide +kernel
theorem dX4_works_87 : decode cX4_works 87 = .ok (.iconst 3, 1) := by decide +kernel
theorem dX4_works_88 : decode cX4_works 88 = .ok (.iadd, 1) := by decide +kernel
theorem dX4_works_89 : decode cX4_works 89 = .ok (.invokevirtual 227, 3) := by decide +kernel
theorem dX4_works_92 : decode cX4_works 92 = .ok (.ifCond .ne 6, 3) := by decide +kernel
theorem dX4_works_95 : decode cX4_works 95 = .ok (.bipush (-12), 2) := by decide +kernel
theorem dX4_works_97 : decode cX4_works 97 = .ok (.ireturn, 1) := by decide +kernel
theorem dX4_works_98 : decode cX4_works 98 = .ok (.aload_n 0, 1) := by decide +kernel
theorem dX4_works_99 : decode cX4_works 99 = .ok (.iload_n 1, 1) := by decide +kernel
theorem dX4_works_100 : decode cX4_works 100 = .ok (.iload_n 3, 1) := by decide +kernel
theorem dX4_works_101 : decode cX4_works 101 = .ok (.iconst 3, 1) := by decide +kernel
theorem dX4_works_102 : decode cX4_works 102 = .ok (.iload 6, 2) := by decide +kernel
theorem dX4_works_104 : decode cX4_works 104 = .ok (.imul, 1) := by decide +kernel
theorem dX4_works_105 : decode cX4_works 105 = .ok (.iadd, 1) := by decide +kernel
theorem dX4_works_106 : decode cX4_works 106 = .ok (.invokevirtual 234, 3) := by decide +kernel
theorem dX4_works_109 : decode cX4_works 109 = .ok (.ifCond .eq 6, 3) := by decide +kernel
theorem dX4_works_112 : decode cX4_works 112 = .ok (.iinc 5 1, 3) := by decide +kernel
theorem dX4_works_115 : decode cX4_works 115 = .ok (.iinc 6 1, 3) := by decide +kernel
theorem dX4_works_118 : decode cX4_works 118 = .ok (.goto (-48), 3) := by decide +kernel
theorem dX4_works_121 : decode cX4_works 121 = .ok (.iload 5, 2) := by decide +kernel
theorem dX4_works_123 : decode cX4_works 123 = .ok (.ireturn, 1) := by decide +kernel
theorem dX4_taken_0 : decode cX4_taken 0 = .ok (.iload_n 2, 1) := by decide +kernel
theorem dX4_taken_1 : decode cX4_taken 1 = .ok (.ifCond .lt 9, 3) := by decide +kernel
theorem dX4_taken_4 : decode cX4_taken 4 = .ok (.iload_n 2, 1) := by decide +kernel
theorem dX4_taken_5 : decode cX4_taken 5 = .ok (.bipush 6, 2) := by decide +kernel
theorem dX4_taken_7 : decode cX4_taken 7 = .ok (.if_icmp .lt 6, 3) := by decide +kernel
theorem dX4_taken_10 : decode cX4_taken 10 = .ok (.bipush (-2), 2) := by decide +kernel
theorem dX4_taken_12 : decode cX4_taken 12 = .ok (.ireturn, 1) := by decide +kernel
theorem dX4_taken_13 : decode cX4_taken 13 = .ok (.iload_n 1, 1) := by decide +kernel
theorem dX4_taken_14 : decode cX4_taken 14 = .ok (.ifCond .lt 14, 3) := by decide +kernel
theorem dX4_taken_17 : decode cX4_taken 17 = .ok (.iload_n 1, 1) := by decide +kernel
theorem dX4_taken_18 : decode cX4_taken 18 = .ok (.aload_n 0, 1) := by decide +kernel
theorem dX4_taken_19 : decode cX4_taken 19 = .ok (.getfield 10, 3) := by decide +kernel
theorem dX4_taken_22 : decode cX4_taken 22 = .ok (.getfield 73, 3) := by decide +kernel
theorem dX4_taken_25 : decode cX4_taken 25 = .ok (.if_icmp .lt 6, 3) := by decide +kernel
theorem dX4_taken_28 : decode cX4_taken 28 = .ok (.bipush (-11), 2) := by decide +kernel
theorem dX4_taken_30 : decode cX4_taken 30 = .ok (.ireturn, 1) := by decide +kernel
theorem dX4_taken_31 : decode cX4_taken 31 = .ok (.aload_n 0, 1) := by decide +kernel
theorem dX4_taken_32 : decode cX4_taken 32 = .ok (.getfield 10, 3) := by decide +kernel
theorem dX4_taken_35 : decode cX4_taken 35 = .ok (.bipush 8, 2) := by decide +kernel
theorem dX4_taken_37 : decode cX4_taken 37 = .ok (.iload_n 1, 1) := by decide +kernel
theorem dX4_taken_38 : decode cX4_taken 38 = .ok (.invokevirtual 61, 3) := by decide +kernel
theorem dX4_taken_41 : decode cX4_taken 41 = .ok (.iload_n 2, 1) := by decide +kernel
theorem dX4_taken_42 : decode cX4_taken 42 = .ok (.invokestatic 237, 3) := by decide +kernel
theorem dX4_taken_45 : decode cX4_taken 45 = .ok (.ifCond .eq 15, 3) := by decide +kernel
theorem dX4_taken_48 : decode cX4_taken 48 = .ok (.aload_n 0, 1) := by decide +kernel
theorem dX4_taken_49 : decode cX4_taken 49 = .ok (.getfield 10, 3) := by decide +kernel
theorem dX4_taken_52 : decode cX4_taken 52 = .ok (.iconst 5, 1) := by decide +kernel
theorem dX4_taken_53 : decode cX4_taken 53 = .ok (.iload_n 1, 1) := by decide +kernel
theorem dX4_taken_54 : decode cX4_taken 54 = .ok (.invokevirtual 61, 3) := by decide +kernel
theorem dX4_taken_57 : decode cX4_taken 57 = .ok (.goto 5, 3) := by decide +kernel
theorem dX4_taken_60 : decode cX4_taken 60 = .ok (.bipush (-13), 2) := by decide +kernel
theorem dX4_taken_62 : decode cX4_taken 62 = .ok (.ireturn, 1) := by decide +kernel
theorem dX4_isCell_0 : decode cX4_isCell 0 = .ok (.iload_n 0, 1) := by decide +kernel
theorem dX4_isCell_1 : decode cX4_isCell 1 = .ok (.ifCond .lt 13, 3) := by decide +kernel
theorem dX4_isCell_4 : decode cX4_isCell 4 = .ok (.iload_n 0, 1) := by decide +kernel
theorem dX4_isCell_5 : decode cX4_isCell 5 = .ok (.bipush 12, 2) := by decide +kernel
theorem dX4_isCell_7 : decode cX4_isCell 7 = .ok (.if_icmp .ge 7, 3) := by decide +kernel
theorem dX4_isCell_10 : decode cX4_isCell 10 = .ok (.iconst 1, 1) := by decide +kernel
theorem dX4_isCell_11 : decode cX4_isCell 11 = .ok (.goto 4, 3) := by decide +kernel
theorem dX4_isCell_14 : decode cX4_isCell 14 = .ok (.iconst 0, 1) := by decide +kernel
theorem dX4_isCell_15 : decode cX4_isCell 15 = .ok (.ireturn, 1) := by decide +kernel
theorem dX4_isWork_0 : decode cX4_isWork 0 = .ok (.iload_n 0, 1) := by decide +kernel
theorem dX4_isWork_1 : decode cX4_isWork 1 = .ok (.ifCond .lt 30, 3) := by decide +kernel
theorem dX4_isWork_4 : decode cX4_isWork 4 = .ok (.iload_n 0, 1) := by decide +kernel
theorem dX4_isWork_5 : decode cX4_isWork 5 = .ok (.bipush 6, 2) := by decide +kernel
theorem dX4_isWork_7 : decode cX4_isWork 7 = .ok (.if_icmp .ge 24, 3) := by decide +kernel
theorem dX4_isWork_10 : decode cX4_isWork 10 = .ok (.iload_n 1, 1) := by decide +kernel
theorem dX4_isWork_11 : decode cX4_isWork 11 = .ok (.ifCond .lt 20, 3) := by decide +kernel
theorem dX4_isWork_14 : decode cX4_isWork 14 = .ok (.iload_n 1, 1) := by decide +kernel
theorem dX4_isWork_15 : decode cX4_isWork 15 = .ok (.bipush 10, 2) := by decide +kernel
theorem dX4_isWork_17 : decode cX4_isWork 17 = .ok (.if_icmp .ge 14, 3) := by decide +kernel
theorem dX4_isWork_20 : decode cX4_isWork 20 = .ok (.iload_n 2, 1) := by decide +kernel
theorem dX4_isWork_21 : decode cX4_isWork 21 = .ok (.invokestatic 107, 3) := by decide +kernel
theorem dX4_isWork_24 : decode cX4_isWork 24 = .ok (.ifCond .eq 7, 3) := by decide +kernel
theorem dX4_isWork_27 : decode cX4_isWork 27 = .ok (.iconst 1, 1) := by decide +kernel
theorem dX4_isWork_28 : decode cX4_isWork 28 = .ok (.goto 4, 3) := by decide +kernel
theorem dX4_isWork_31 : decode cX4_isWork 31 = .ok (.iconst 0, 1) := by decide +kernel
theorem dX4_isWork_32 : decode cX4_isWork 32 = .ok (.ireturn, 1) := by decide +kernel
theorem dX4_areYears_0 : decode cX4_areYears 0 = .ok (.iload_n 0, 1) := by decide +kernel
theorem dX4_areYears_1 : decode cX4_areYears 1 = .ok (.ifCond .lt 13, 3) := by decide +kernel
theorem dX4_areYears_4 : decode cX4_areYears 4 = .ok (.iload_n 0, 1) := by decide +kernel
theorem dX4_areYears_5 : decode cX4_areYears 5 = .ok (.bipush 30, 2) := by decide +kernel
theorem dX4_areYears_7 : decode cX4_areYears 7 = .ok (.if_icmp .gt 7, 3) := by decide +kernel
theorem dX4_areYears_10 : decode cX4_areYears 10 = .ok (.iconst 1, 1) := by decide +kernel
theorem dX4_areYears_11 : decode cX4_areYears 11 = .ok (.goto 4, 3) := by decide +kernel
theorem dX4_areYears_14 : decode cX4_areYears 14 = .ok (.iconst 0, 1) := by decide +kernel
theorem dX4_areYears_15 : decode cX4_areYears 15 = .ok (.ireturn, 1) := by decide +kernel
theorem dX4_isOfRun_0 : decode cX4_isOfRun 0 = .ok (.iload_n 0, 1) := by decide +kernel
theorem dX4_isOfRun_1 : decode cX4_isOfRun 1 = .ok (.ifCond .lt 8, 3) := by decide +kernel
theorem dX4_isOfRun_4 : decode cX4_isOfRun 4 = .ok (.iload_n 0, 1) := by decide +kernel
theorem dX4_isOfRun_5 : decode cX4_isOfRun 5 = .ok (.iconst 4, 1) := by decide +kernel
theorem dX4_isOfRun_6 : decode cX4_isOfRun 6 = .ok (.if_icmp .le 25, 3) := by decide +kernel
theorem dX4_isOfRun_9 : decode cX4_isOfRun 9 = .ok (.iload_n 0, 1) := by decide +kernel
theorem dX4_isOfRun_10 : decode cX4_isOfRun 10 = .ok (.bipush 100, 2) := by decide +kernel
theorem dX4_isOfRun_12 : decode cX4_isOfRun 12 = .ok (.if_icmp .lt 23, 3) := by decide +kernel
theorem dX4_isOfRun_15 : decode cX4_isOfRun 15 = .ok (.iload_n 0, 1) := by decide +kernel
theorem dX4_isOfRun_16 : decode cX4_isOfRun 16 = .ok (.sipush 400, 3) := by decide +kernel
theorem dX4_isOfRun_19 : decode cX4_isOfRun 19 = .ok (.if_icmp .ge 16, 3) := by decide +kernel
theorem dX4_isOfRun_22 : decode cX4_isOfRun 22 = .ok (.iload_n 0, 1) := by decide +kernel
theorem dX4_isOfRun_23 : decode cX4_isOfRun 23 = .ok (.bipush 100, 2) := by decide +kernel
theorem dX4_isOfRun_25 : decode cX4_isOfRun 25 = .ok (.irem, 1) := by decide +kernel
theorem dX4_isOfRun_26 : decode cX4_isOfRun 26 = .ok (.bipush 12, 2) := by decide +kernel
theorem dX4_isOfRun_28 : decode cX4_isOfRun 28 = .ok (.if_icmp .ge 7, 3) := by decide +kernel
theorem dX4_isOfRun_31 : decode cX4_isOfRun 31 = .ok (.iconst 1, 1) := by decide +kernel
theorem dX4_isOfRun_32 : decode cX4_isOfRun 32 = .ok (.goto 4, 3) := by decide +kernel
theorem dX4_isOfRun_35 : decode cX4_isOfRun 35 = .ok (.iconst 0, 1) := by decide +kernel
theorem dX4_isOfRun_36 : decode cX4_isOfRun 36 = .ok (.ireturn, 1) := by decide +kernel
theorem dX4_isOfTells_0 : decode cX4_isOfTells 0 = .ok (.iload_n 1, 1) := by decide +kernel
theorem dX4_isOfTells_1 : decode cX4_isOfTells 1 = .ok (.ifCond .lt 8, 3) := by decide +kernel
theorem dX4_isOfTells_4 : decode cX4_isOfTells 4 = .ok (.iload_n 1, 1) := by decide +kernel
theorem dX4_isOfTells_5 : decode cX4_isOfTells 5 = .ok (.iconst 3, 1) := by decide +kernel
theorem dX4_isOfTells_6 : decode cX4_isOfTells 6 = .ok (.if_icmp .le 29, 3) := by decide +kernel
theorem dX4_isOfTells_9 : decode cX4_isOfTells 9 = .ok (.iload_n 1, 1) := by decide +kernel
theorem dX4_isOfTells_10 : decode cX4_isOfTells 10 = .ok (.bipush 10, 2) := by decide +kernel
theorem dX4_isOfTells_12 : decode cX4_isOfTells 12 = .ok (.if_icmp .lt 27, 3) := by decide +kernel
theorem dX4_isOfTells_15 : decode cX4_isOfTells 15 = .ok (.iload_n 1, 1) := by decide +kernel
theorem dX4_isOfTells_16 : decode cX4_isOfTells 16 = .ok (.bipush 40, 2) := by decide +kernel
theorem dX4_isOfTells_18 : decode cX4_isOfTells 18 = .ok (.if_icmp .ge 21, 3) := by decide +kernel
theorem dX4_isOfTells_21 : decode cX4_isOfTells 21 = .ok (.iload_n 1, 1) := by decide +kernel
theorem dX4_isOfTells_22 : decode cX4_isOfTells 22 = .ok (.bipush 10, 2) := by decide +kernel
theorem dX4_isOfTells_24 : decode cX4_isOfTells 24 = .ok (.irem, 1) := by decide +kernel
theorem dX4_isOfTells_25 : decode cX4_isOfTells 25 = .ok (.aload_n 0, 1) := by decide +kernel
theorem dX4_isOfTells_26 : decode cX4_isOfTells 26 = .ok (.getfield 10, 3) := by decide +kernel
theorem dX4_isOfTells_29 : decode cX4_isOfTells 29 = .ok (.getfield 73, 3) := by decide +kernel
theorem dX4_isOfTells_32 : decode cX4_isOfTells 32 = .ok (.if_icmp .ge 7, 3) := by decide +kernel
theorem dX4_isOfTells_35 : decode cX4_isOfTells 35 = .ok (.iconst 1, 1) := by decide +kernel
theorem dX4_isOfTells_36 : decode cX4_isOfTells 36 = .ok (.goto 4, 3) := by decide +kernel
theorem dX4_isOfTells_39 : decode cX4_isOfTells 39 = .ok (.iconst 0, 1) := by decide +kernel
theorem dX4_isOfTells_40 : decode cX4_isOfTells 40 = .ok (.ireturn, 1) := by decide +kernel
theorem dX4_ruleOf_0 : decode cX4_ruleOf 0 = .ok (.aload_n 1, 1) := by decide +kernel
theorem dX4_ruleOf_1 : decode cX4_ruleOf 1 = .ok (.getfield 104, 3) := by decide +kernel
theorem dX4_ruleOf_4 : decode cX4_ruleOf 4 = .ok (.ifCond .lt 26, 3) := by decide +kernel
theorem dX4_ruleOf_7 : decode cX4_ruleOf 7 = .ok (.aload_n 1, 1) := by decide +kernel
theorem dX4_ruleOf_8 : decode cX4_ruleOf 8 = .ok (.getfield 104, 3) := by decide +kernel
theorem dX4_ruleOf_11 : decode cX4_ruleOf 11 = .ok (.aload_n 0, 1) := by decide +kernel
theorem dX4_ruleOf_12 : decode cX4_ruleOf 12 = .ok (.getfield 31, 3) := by decide +kernel
theorem dX4_ruleOf_15 : decode cX4_ruleOf 15 = .ok (.if_icmp .ge 15, 3) := by decide +kernel
theorem dX4_ruleOf_18 : decode cX4_ruleOf 18 = .ok (.aload_n 0, 1) := by decide +kernel
theorem dX4_ruleOf_19 : decode cX4_ruleOf 19 = .ok (.getfield 24, 3) := by decide +kernel
theorem dX4_ruleOf_22 : decode cX4_ruleOf 22 = .ok (.aload_n 1, 1) := by decide +kernel
theorem dX4_ruleOf_23 : decode cX4_ruleOf 23 = .ok (.getfield 104, 3) := by decide +kernel
theorem dX4_ruleOf_26 : decode cX4_ruleOf 26 = .ok (.aaload, 1) := by decide +kernel
theorem dX4_ruleOf_27 : decode cX4_ruleOf 27 = .ok (.goto 9, 3) := by decide +kernel
theorem dX4_ruleOf_30 : decode cX4_ruleOf 30 = .ok (.aload_n 0, 1) := by decide +kernel
theorem dX4_ruleOf_31 : decode cX4_ruleOf 31 = .ok (.getfield 24, 3) := by decide +kernel
theorem dX4_ruleOf_34 : decode cX4_ruleOf 34 = .ok (.iconst 0, 1) := by decide +kernel
theorem dX4_ruleOf_35 : decode cX4_ruleOf 35 = .ok (.aaload, 1) := by decide +kernel
theorem dX4_ruleOf_36 : decode cX4_ruleOf 36 = .ok (.areturn, 1) := by decide +kernel
theorem dX4_think_0 : decode cX4_think 0 = .ok (.aload_n 0, 1) := by decide +kernel
theorem dX4_think_1 : decode cX4_think 1 = .ok (.getfield 16, 3) := by decide +kernel
theorem dX4_think_4 : decode cX4_think 4 = .ok (.aload_n 0, 1) := by decide +kernel
theorem dX4_think_5 : decode cX4_think 5 = .ok (.getfield 10, 3) := by decide +kernel
theorem dX4_think_8 : decode cX4_think 8 = .ok (.invokevirtual 207, 3) := by decide +kernel
theorem dX4_think_11 : decode cX4_think 11 = .ok (.return_, 1) := by decide +kernel
theorem dX4_thinkYears_0 : decode cX4_thinkYears 0 = .ok (.aload_n 0, 1) := by decide +kernel
theorem dX4_thinkYears_1 : decode cX4_thinkYears 1 = .ok (.invokevirtual 154, 3) := by decide +kernel
theorem dX4_thinkYears_4 : decode cX4_thinkYears 4 = .ok (.iconst 0, 1) := by decide +kernel
theorem dX4_thinkYears_5 : decode cX4_thinkYears 5 = .ok (.istore_n 2, 1) := by decide +kernel
theorem dX4_thinkYears_6 : decode cX4_thinkYears 6 = .ok (.iload_n 2, 1) := by decide +kernel
theorem dX4_thinkYears_7 : decode cX4_thinkYears 7 = .ok (.iload_n 1, 1) := by decide +kernel
theorem dX4_thinkYears_8 : decode cX4_thinkYears 8 = .ok (.if_icmp .ge 46, 3) := by decide +kernel
theorem dX4_thinkYears_11 : decode cX4_thinkYears 11 = .ok (.iload_n 2, 1) := by decide +kernel
theorem dX4_thinkYears_12 : decode cX4_thinkYears 12 = .ok (.aload_n 0, 1) := by decide +kernel
theorem dX4_thinkYears_13 : decode cX4_thinkYears 13 = .ok (.getfield 49, 3) := by decide +kernel
theorem dX4_thinkYears_16 : decode cX4_thinkYears 16 = .ok (.arraylength, 1) := by decide +kernel
theorem dX4_thinkYears_17 : decode cX4_thinkYears 17 = .ok (.if_icmp .ge 37, 3) := by decide +kernel
theorem dX4_thinkYears_20 : decode cX4_thinkYears 20 = .ok (.aload_n 0, 1) := by decide +kernel
theorem dX4_thinkYears_21 : decode cX4_thinkYears 21 = .ok (.getfield 16, 3) := by decide +kernel
theorem dX4_thinkYears_24 : decode cX4_thinkYears 24 = .ok (.aload_n 0, 1) := by decide +kernel
theorem dX4_thinkYears_25 : decode cX4_thinkYears 25 = .ok (.aload_n 0, 1) := by decide +kernel
theorem dX4_thinkYears_26 : decode cX4_thinkYears 26 = .ok (.getfield 16, 3) := by decide +kernel
theorem dX4_thinkYears_29 : decode cX4_thinkYears 29 = .ok (.invokevirtual 82, 3) := by decide +kernel
theorem dX4_thinkYears_32 : decode cX4_thinkYears 32 = .ok (.invokevirtual 117, 3) := by decide +kernel
theorem dX4_thinkYears_35 : decode cX4_thinkYears 35 = .ok (.aload_n 0, 1) := by decide +kernel
theorem dX4_thinkYears_36 : decode cX4_thinkYears 36 = .ok (.getfield 49, 3) := by decide +kernel
theorem dX4_thinkYears_39 : decode cX4_thinkYears 39 = .ok (.iload_n 2, 1) := by decide +kernel
theorem dX4_thinkYears_40 : decode cX4_thinkYears 40 = .ok (.aload_n 0, 1) := by decide +kernel
theorem dX4_thinkYears_41 : decode cX4_thinkYears 41 = .ok (.getfield 16, 3) := by decide +kernel
theorem dX4_thinkYears_44 : decode cX4_thinkYears 44 = .ok (.invokevirtual 121, 3) := by decide +kernel
theorem dX4_thinkYears_47 : decode cX4_thinkYears 47 = .ok (.iastore, 1) := by decide +kernel
theorem dX4_thinkYears_48 : decode cX4_thinkYears 48 = .ok (.iinc 2 1, 3) := by decide +kernel
theorem dX4_thinkYears_51 : decode cX4_thinkYears 51 = .ok (.goto (-45), 3) := by decide +kernel
theorem dX4_thinkYears_54 : decode cX4_thinkYears 54 = .ok (.return_, 1) := by decide +kernel
