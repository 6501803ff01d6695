theorem dX5_force_0 : decode cX5_force 0 = .ok (.iload_n 1, 1) := by decide +kernel
theorem dX5_force_1 : decode cX5_force 1 = .ok (.i2l, 1) := by decide +kernel
theorem dX5_force_2 : decode cX5_force 2 = .ok (.lconst 0, 1) := by decide +kernel
theorem dX5_force_3 : decode cX5_force 3 = .ok (.aload_n 0, 1) := by decide +kernel
theorem dX5_force_4 : decode cX5_force 4 = .ok (.getfield 70, 3) := by decide +kernel
theorem dX5_force_7 : decode cX5_force 7 = .ok (.iconst 1, 1) := by decide +kernel
theorem dX5_force_8 : decode cX5_force 8 = .ok (.isub, 1) := by decide +kernel
theorem dX5_force_9 : decode cX5_force 9 = .ok (.i2l, 1) := by decide +kernel
theorem dX5_force_10 : decode cX5_force 10 = .ok (.invokestatic 76, 3) := by decide +kernel
theorem dX5_force_13 : decode cX5_force 13 = .ok (.ifCond .ne 6, 3) := by decide +kernel
theorem dX5_force_16 : decode cX5_force 16 = .ok (.bipush (-2), 2) := by decide +kernel
theorem dX5_force_18 : decode cX5_force 18 = .ok (.ireturn, 1) := by decide +kernel
theorem dX5_force_19 : decode cX5_force 19 = .ok (.aload_n 0, 1) := by decide +kernel
theorem dX5_force_20 : decode cX5_force 20 = .ok (.getfield 110, 3) := by decide +kernel
theorem dX5_force_23 : decode cX5_force 23 = .ok (.istore_n 2, 1) := by decide +kernel
theorem dX5_force_24 : decode cX5_force 24 = .ok (.aload_n 0, 1) := by decide +kernel
theorem dX5_force_25 : decode cX5_force 25 = .ok (.iload_n 1, 1) := by decide +kernel
theorem dX5_force_26 : decode cX5_force 26 = .ok (.putfield 110, 3) := by decide +kernel
theorem dX5_force_29 : decode cX5_force 29 = .ok (.iload_n 2, 1) := by decide +kernel
theorem dX5_force_30 : decode cX5_force 30 = .ok (.ireturn, 1) := by decide +kernel
theorem dX5_says_0 : decode cX5_says 0 = .ok (.aload_n 0, 1) := by decide +kernel
theorem dX5_says_1 : decode cX5_says 1 = .ok (.aload_n 0, 1) := by decide +kernel
theorem dX5_says_2 : decode cX5_says 2 = .ok (.getfield 26, 3) := by decide +kernel
theorem dX5_says_5 : decode cX5_says 5 = .ok (.iconst 3, 1) := by decide +kernel
theorem dX5_says_6 : decode cX5_says 6 = .ok (.iload_n 2, 1) := by decide +kernel
theorem dX5_says_7 : decode cX5_says 7 = .ok (.imul, 1) := by decide +kernel
theorem dX5_says_8 : decode cX5_says 8 = .ok (.iaload, 1) := by decide +kernel
theorem dX5_says_9 : decode cX5_says 9 = .ok (.putfield 186, 3) := by decide +kernel
theorem dX5_says_12 : decode cX5_says 12 = .ok (.aload_n 0, 1) := by decide +kernel
theorem dX5_says_13 : decode cX5_says 13 = .ok (.aload_n 0, 1) := by decide +kernel
theorem dX5_says_14 : decode cX5_says 14 = .ok (.getfield 26, 3) := by decide +kernel
theorem dX5_says_17 : decode cX5_says 17 = .ok (.iconst 3, 1) := by decide +kernel
theorem dX5_says_18 : decode cX5_says 18 = .ok (.iload_n 2, 1) := by decide +kernel
theorem dX5_says_19 : decode cX5_says 19 = .ok (.imul, 1) := by decide +kernel
theorem dX5_says_20 : decode cX5_says 20 = .ok (.iconst 1, 1) := by decide +kernel
theorem dX5_says_21 : decode cX5_says 21 = .ok (.iadd, 1) := by decide +kernel
theorem dX5_says_22 : decode cX5_says 22 = .ok (.iaload, 1) := by decide +kernel
theorem dX5_says_23 : decode cX5_says 23 = .ok (.putfield 189, 3) := by decide +kernel
theorem dX5_says_26 : decode cX5_says 26 = .ok (.aload_n 0, 1) := by decide +kernel
theorem dX5_says_27 : decode cX5_says 27 = .ok (.aload_n 0, 1) := by decide +kernel
theorem dX5_says_28 : decode cX5_says 28 = .ok (.getfield 107, 3) := by decide +kernel
theorem dX5_says_31 : decode cX5_says 31 = .ok (.putfield 192, 3) := by decide +kernel
theorem dX5_says_34 : decode cX5_says 34 = .ok (.aload_n 0, 1) := by decide +kernel
theorem dX5_says_35 : decode cX5_says 35 = .ok (.iload_n 3, 1) := by decide +kernel
theorem dX5_says_36 : decode cX5_says 36 = .ok (.putfield 195, 3) := by decide +kernel
theorem dX5_says_39 : decode cX5_says 39 = .ok (.aload_n 0, 1) := by decide +kernel
theorem dX5_says_40 : decode cX5_says 40 = .ok (.aload_n 0, 1) := by decide +kernel
theorem dX5_says_41 : decode cX5_says 41 = .ok (.getfield 26, 3) := by decide +kernel
theorem dX5_says_44 : decode cX5_says 44 = .ok (.iconst 3, 1) := by decide +kernel
theorem dX5_says_45 : decode cX5_says 45 = .ok (.iload_n 2, 1) := by decide +kernel
theorem dX5_says_46 : decode cX5_says 46 = .ok (.imul, 1) := by decide +kernel
theorem dX5_says_47 : decode cX5_says 47 = .ok (.iconst 2, 1) := by decide +kernel
theorem dX5_says_48 : decode cX5_says 48 = .ok (.iadd, 1) := by decide +kernel
theorem dX5_says_49 : decode cX5_says 49 = .ok (.iaload, 1) := by decide +kernel
theorem dX5_says_50 : decode cX5_says 50 = .ok (.putfield 198, 3) := by decide +kernel
theorem dX5_says_53 : decode cX5_says 53 = .ok (.aload_n 0, 1) := by decide +kernel
theorem dX5_says_54 : decode cX5_says 54 = .ok (.iload_n 2, 1) := by decide +kernel
theorem dX5_says_55 : decode cX5_says 55 = .ok (.putfield 201, 3) := by decide +kernel
theorem dX5_says_58 : decode cX5_says 58 = .ok (.aload_n 0, 1) := by decide +kernel
theorem dX5_says_59 : decode cX5_says 59 = .ok (.aload_n 0, 1) := by decide +kernel
theorem dX5_says_60 : decode cX5_says 60 = .ok (.getfield 110, 3) := by decide +kernel
theorem dX5_says_63 : decode cX5_says 63 = .ok (.iload_n 1, 1) := by decide +kernel
theorem dX5_says_64 : decode cX5_says 64 = .ok (.invokevirtual 331, 3) := by decide +kernel
theorem dX5_says_67 : decode cX5_says 67 = .ok (.iconst 0, 1) := by decide +kernel
theorem dX5_says_68 : decode cX5_says 68 = .ok (.iload_n 1, 1) := by decide +kernel
theorem dX5_says_69 : decode cX5_says 69 = .ok (.iconst 1, 1) := by decide +kernel
theorem dX5_says_70 : decode cX5_says 70 = .ok (.if_icmp .ne 8, 3) := by decide +kernel
theorem dX5_says_73 : decode cX5_says 73 = .ok (.bipush 20, 2) := by decide +kernel
theorem dX5_says_75 : decode cX5_says 75 = .ok (.goto 5, 3) := by decide +kernel
theorem dX5_says_78 : decode cX5_says 78 = .ok (.bipush 99, 2) := by decide +kernel
theorem dX5_says_80 : decode cX5_says 80 = .ok (.invokestatic 334, 3) := by decide +kernel
theorem dX5_says_83 : decode cX5_says 83 = .ok (.ireturn, 1) := by decide +kernel
theorem dX5_standOn_0 : decode cX5_standOn 0 = .ok (.iconst 0, 1) := by decide +kernel
theorem dX5_standOn_1 : decode cX5_standOn 1 = .ok (.istore_n 2, 1) := by decide +kernel
theorem dX5_standOn_2 : decode cX5_standOn 2 = .ok (.iconst 0, 1) := by decide +kernel
theorem dX5_standOn_3 : decode cX5_standOn 3 = .ok (.istore_n 3, 1) := by decide +kernel
theorem dX5_standOn_4 : decode cX5_standOn 4 = .ok (.iload_n 3, 1) := by decide +kernel
theorem dX5_standOn_5 : decode cX5_standOn 5 = .ok (.aload_n 0, 1) := by decide +kernel
theorem dX5_standOn_6 : decode cX5_standOn 6 = .ok (.getfield 73, 3) := by decide +kernel
theorem dX5_standOn_9 : decode cX5_standOn 9 = .ok (.if_icmp .ge 31, 3) := by decide +kernel
theorem dX5_standOn_12 : decode cX5_standOn 12 = .ok (.iload_n 2, 1) := by decide +kernel
theorem dX5_standOn_13 : decode cX5_standOn 13 = .ok (.aload_n 0, 1) := by decide +kernel
theorem dX5_standOn_14 : decode cX5_standOn 14 = .ok (.getfield 32, 3) := by decide +kernel
theorem dX5_standOn_17 : decode cX5_standOn 17 = .ok (.iconst 3, 1) := by decide +kernel
theorem dX5_standOn_18 : decode cX5_standOn 18 = .ok (.iload_n 3, 1) := by decide +kernel
theorem dX5_standOn_19 : decode cX5_standOn 19 = .ok (.imul, 1) := by decide +kernel
theorem dX5_standOn_20 : decode cX5_standOn 20 = .ok (.iconst 1, 1) := by decide +kernel
theorem dX5_standOn_21 : decode cX5_standOn 21 = .ok (.iadd, 1) := by decide +kernel
theorem dX5_standOn_22 : decode cX5_standOn 22 = .ok (.iaload, 1) := by decide +kernel
theorem dX5_standOn_23 : decode cX5_standOn 23 = .ok (.iload_n 1, 1) := by decide +kernel
theorem dX5_standOn_24 : decode cX5_standOn 24 = .ok (.if_icmp .ne 7, 3) := by decide +kernel
theorem dX5_standOn_27 : decode cX5_standOn 27 = .ok (.iconst 1, 1) := by decide +kernel
theorem dX5_standOn_28 : decode cX5_standOn 28 = .ok (.goto 4, 3) := by decide +kernel
theorem dX5_standOn_31 : decode cX5_standOn 31 = .ok (.iconst 0, 1) := by decide +kernel
theorem dX5_standOn_32 : decode cX5_standOn 32 = .ok (.iadd, 1) := by decide +kernel
theorem dX5_standOn_33 : decode cX5_standOn 33 = .ok (.istore_n 2, 1) := by decide +kernel
theorem dX5_standOn_34 : decode cX5_standOn 34 = .ok (.iinc 3 1, 3) := by decide +kernel
theorem dX5_standOn_37 : decode cX5_standOn 37 = .ok (.goto (-33), 3) := by decide +kernel
theorem dX5_standOn_40 : decode cX5_standOn 40 = .ok (.iload_n 2, 1) := by decide +kernel
theorem dX5_standOn_41 : decode cX5_standOn 41 = .ok (.ireturn, 1) := by decide +kernel
theorem dX5_asks_0 : decode cX5_asks 0 = .ok (.iload_n 1, 1) := by decide +kernel
theorem dX5_asks_1 : decode cX5_asks 1 = .ok (.i2l, 1) := by decide +kernel
theorem dX5_asks_2 : decode cX5_asks 2 = .ok (.lconst 0, 1) := by decide +kernel
theorem dX5_asks_3 : decode cX5_asks 3 = .ok (.lconst 1, 1) := by decide +kernel
theorem dX5_asks_4 : decode cX5_asks 4 = .ok (.invokestatic 76, 3) := by decide +kernel
theorem dX5_asks_7 : decode cX5_asks 7 = .ok (.ifCond .eq 24, 3) := by decide +kernel
theorem dX5_asks_10 : decode cX5_asks 10 = .ok (.iload_n 2, 1) := by decide +kernel
theorem dX5_asks_11 : decode cX5_asks 11 = .ok (.invokestatic 82, 3) := by decide +kernel
theorem dX5_asks_14 : decode cX5_asks 14 = .ok (.ifCond .eq 17, 3) := by decide +kernel
theorem dX5_asks_17 : decode cX5_asks 17 = .ok (.aload_n 0, 1) := by decide +kernel
theorem dX5_asks_18 : decode cX5_asks 18 = .ok (.iload_n 1, 1) := by decide +kernel
theorem dX5_asks_19 : decode cX5_asks 19 = .ok (.iload_n 2, 1) := by decide +kernel
theorem dX5_asks_20 : decode cX5_asks 20 = .ok (.aload_n 0, 1) := by decide +kernel
theorem dX5_asks_21 : decode cX5_asks 21 = .ok (.iload_n 2, 1) := by decide +kernel
theorem dX5_asks_22 : decode cX5_asks 22 = .ok (.invokevirtual 338, 3) := by decide +kernel
theorem dX5_asks_25 : decode cX5_asks 25 = .ok (.invokevirtual 341, 3) := by decide +kernel
theorem dX5_asks_28 : decode cX5_asks 28 = .ok (.goto 5, 3) := by decide +kernel
theorem dX5_asks_31 : decode cX5_asks 31 = .ok (.bipush (-2), 2) := by decide +kernel
theorem dX5_asks_33 : decode cX5_asks 33 = .ok (.ireturn, 1) := by decide +kernel
theorem dX5_drawsOf_0 : decode cX5_drawsOf 0 = .ok (.aload_n 0, 1) := by decide +kernel
theorem dX5_drawsOf_1 : decode cX5_drawsOf 1 = .ok (.getfield 29, 3) := by decide +kernel
theorem dX5_drawsOf_4 : decode cX5_drawsOf 4 = .ok (.iload_n 1, 1) := by decide +kernel
theorem dX5_drawsOf_5 : decode cX5_drawsOf 5 = .ok (.iaload, 1) := by decide +kernel
theorem dX5_drawsOf_6 : decode cX5_drawsOf 6 = .ok (.istore_n 3, 1) := by decide +kernel
theorem dX5_drawsOf_7 : decode cX5_drawsOf 7 = .ok (.aload_n 0, 1) := by decide +kernel
theorem dX5_drawsOf_8 : decode cX5_drawsOf 8 = .ok (.getfield 32, 3) := by decide +kernel
theorem dX5_drawsOf_11 : decode cX5_drawsOf 11 = .ok (.iconst 3, 1) := by decide +kernel
theorem dX5_drawsOf_12 : decode cX5_drawsOf 12 = .ok (.iload_n 1, 1) := by decide +kernel
theorem dX5_drawsOf_13 : decode cX5_drawsOf 13 = .ok (.imul, 1) := by decide +kernel
theorem dX5_drawsOf_14 : decode cX5_drawsOf 14 = .ok (.iaload, 1) := by decide +kernel
theorem dX5_drawsOf_15 : decode cX5_drawsOf 15 = .ok (.istore 4, 2) := by decide +kernel
theorem dX5_drawsOf_17 : decode cX5_drawsOf 17 = .ok (.aload_n 0, 1) := by decide +kernel
theorem dX5_drawsOf_18 : decode cX5_drawsOf 18 = .ok (.getfield 26, 3) := by decide +kernel
theorem dX5_drawsOf_21 : decode cX5_drawsOf 21 = .ok (.iconst 3, 1) := by decide +kernel
theorem dX5_drawsOf_22 : decode cX5_drawsOf 22 = .ok (.iload_n 2, 1) := by decide +kernel
theorem dX5_drawsOf_23 : decode cX5_drawsOf 23 = .ok (.imul, 1) := by decide +kernel
theorem dX5_drawsOf_24 : decode cX5_drawsOf 24 = .ok (.iconst 2, 1) := by decide +kernel
theorem dX5_drawsOf_25 : decode cX5_drawsOf 25 = .ok (.iadd, 1) := by decide +kernel
theorem dX5_drawsOf_26 : decode cX5_drawsOf 26 = .ok (.iaload, 1) := by decide +kernel
theorem dX5_drawsOf_27 : decode cX5_drawsOf 27 = .ok (.istore 5, 2) := by decide +kernel
theorem dX5_drawsOf_29 : decode cX5_drawsOf 29 = .ok (.iload_n 3, 1) := by decide +kernel
theorem dX5_drawsOf_30 : decode cX5_drawsOf 30 = .ok (.iconst 5, 1) := by decide +kernel
theorem dX5_drawsOf_31 : decode cX5_drawsOf 31 = .ok (.if_icmp .eq 18, 3) := by decide +kernel
theorem dX5_drawsOf_34 : decode cX5_drawsOf 34 = .ok (.iload_n 3, 1) := by decide +kernel
theorem dX5_drawsOf_35 : decode cX5_drawsOf 35 = .ok (.iconst 3, 1) := by decide +kernel
theorem dX5_drawsOf_36 : decode cX5_drawsOf 36 = .ok (.if_icmp .ne 15, 3) := by decide +kernel
theorem dX5_drawsOf_39 : decode cX5_drawsOf 39 = .ok (.aload_n 0, 1) := by decide +kernel
theorem dX5_drawsOf_40 : decode cX5_drawsOf 40 = .ok (.getfield 107, 3) := by decide +kernel
theorem dX5_drawsOf_43 : decode cX5_drawsOf 43 = .ok (.iconst 3, 1) := by decide +kernel
theorem dX5_drawsOf_44 : decode cX5_drawsOf 44 = .ok (.irem, 1) := by decide +kernel
theorem dX5_drawsOf_45 : decode cX5_drawsOf 45 = .ok (.iconst 2, 1) := by decide +kernel
theorem dX5_drawsOf_46 : decode cX5_drawsOf 46 = .ok (.if_icmp .ne 5, 3) := by decide +kernel
theorem dX5_drawsOf_49 : decode cX5_drawsOf 49 = .ok (.iconst 0, 1) := by decide +kernel
theorem dX5_drawsOf_50 : decode cX5_drawsOf 50 = .ok (.ireturn, 1) := by decide +kernel
theorem dX5_drawsOf_51 : decode cX5_drawsOf 51 = .ok (.iload_n 3, 1) := by decide +kernel
theorem dX5_drawsOf_52 : decode cX5_drawsOf 52 = .ok (.iconst 2, 1) := by decide +kernel
theorem dX5_drawsOf_53 : decode cX5_drawsOf 53 = .ok (.if_icmp .ne 10, 3) := by decide +kernel
theorem dX5_drawsOf_56 : decode cX5_drawsOf 56 = .ok (.iload 4, 2) := by decide +kernel
theorem dX5_drawsOf_58 : decode cX5_drawsOf 58 = .ok (.iconst 5, 1) := by decide +kernel
theorem dX5_drawsOf_59 : decode cX5_drawsOf 59 = .ok (.iadd, 1) := by decide +kernel
theorem dX5_drawsOf_60 : decode cX5_drawsOf 60 = .ok (.goto 48, 3) := by decide +kernel
theorem dX5_drawsOf_63 : decode cX5_drawsOf 63 = .ok (.iload_n 3, 1) := by decide +kernel
theorem dX5_drawsOf_64 : decode cX5_drawsOf 64 = .ok (.iconst 4, 1) := by decide +kernel
theorem dX5_drawsOf_65 : decode cX5_drawsOf 65 = .ok (.if_icmp .ne 12, 3) := by decide +kernel
theorem dX5_drawsOf_68 : decode cX5_drawsOf 68 = .ok (.iconst 2, 1) := by decide +kernel
theorem dX5_drawsOf_69 : decode cX5_drawsOf 69 = .ok (.iload 4, 2) := by decide +kernel
theorem dX5_drawsOf_71 : decode cX5_drawsOf 71 = .ok (.iconst 5, 1) := by decide +kernel
theorem dX5_drawsOf_72 : decode cX5_drawsOf 72 = .ok (.iadd, 1) := by decide +kernel
theorem dX5_drawsOf_73 : decode cX5_drawsOf 73 = .ok (.imul, 1) := by decide +kernel
theorem dX5_drawsOf_74 : decode cX5_drawsOf 74 = .ok (.goto 34, 3) := by decide +kernel
theorem dX5_drawsOf_77 : decode cX5_drawsOf 77 = .ok (.iload_n 3, 1) := by decide +kernel
theorem dX5_drawsOf_78 : decode cX5_drawsOf 78 = .ok (.ifCond .eq 28, 3) := by decide +kernel
theorem dX5_drawsOf_81 : decode cX5_drawsOf 81 = .ok (.aload_n 0, 1) := by decide +kernel
theorem dX5_drawsOf_82 : decode cX5_drawsOf 82 = .ok (.getfield 26, 3) := by decide +kernel
theorem dX5_drawsOf_85 : decode cX5_drawsOf 85 = .ok (.iconst 3, 1) := by decide +kernel
theorem dX5_drawsOf_86 : decode cX5_drawsOf 86 = .ok (.iload_n 2, 1) := by decide +kernel
theorem dX5_drawsOf_87 : decode cX5_drawsOf 87 = .ok (.imul, 1) := by decide +kernel
theorem dX5_drawsOf_88 : decode cX5_drawsOf 88 = .ok (.iaload, 1) := by decide +kernel
theorem dX5_drawsOf_89 : decode cX5_drawsOf 89 = .ok (.aload_n 0, 1) := by decide +kernel
theorem dX5_drawsOf_90 : decode cX5_drawsOf 90 = .ok (.getfield 23, 3) := by decide +kernel
theorem dX5_drawsOf_93 : decode cX5_drawsOf 93 = .ok (.if_icmp .le 13, 3) := by decide +kernel
theorem dX5_drawsOf_96 : decode cX5_drawsOf 96 = .ok (.iload 4, 2) := by decide +kernel
theorem dX5_drawsOf_98 : decode cX5_drawsOf 98 = .ok (.iload 5, 2) := by decide +kernel
theorem dX5_drawsOf_100 : decode cX5_drawsOf 100 = .ok (.iconst 2, 1) := by decide +kernel
theorem dX5_drawsOf_101 : decode cX5_drawsOf 101 = .ok (.idiv, 1) := by decide +kernel
theorem dX5_drawsOf_102 : decode cX5_drawsOf 102 = .ok (.iadd, 1) := by decide +kernel
theorem dX5_drawsOf_103 : decode cX5_drawsOf 103 = .ok (.goto 5, 3) := by decide +kernel
theorem dX5_drawsOf_106 : decode cX5_drawsOf 106 = .ok (.iload 4, 2) := by decide +kernel
theorem dX5_drawsOf_108 : decode cX5_drawsOf 108 = .ok (.istore 6, 2) := by decide +kernel
theorem dX5_drawsOf_110 : decode cX5_drawsOf 110 = .ok (.iload 6, 2) := by decide +kernel
theorem dX5_drawsOf_112 : decode cX5_drawsOf 112 = .ok (.iload 5, 2) := by decide +kernel
theorem dX5_drawsOf_114 : decode cX5_drawsOf 114 = .ok (.if_icmp .ge 8, 3) := by decide +kernel
theorem dX5_drawsOf_117 : decode cX5_drawsOf 117 = .ok (.iload 6, 2) := by decide +kernel
theorem dX5_drawsOf_119 : decode cX5_drawsOf 119 = .ok (.goto 5, 3) := by decide +kernel
theorem dX5_drawsOf_122 : decode cX5_drawsOf 122 = .ok (.iload 5, 2) := by decide +kernel
theorem dX5_drawsOf_124 : decode cX5_drawsOf 124 = .ok (.ireturn, 1) := by decide +kernel
theorem dX5_costsOf_0 : decode cX5_costsOf 0 = .ok (.aload_n 0, 1) := by decide +kernel
theorem dX5_costsOf_1 : decode cX5_costsOf 1 = .ok (.getfield 29, 3) := by decide +kernel
theorem dX5_costsOf_4 : decode cX5_costsOf 4 = .ok (.iload_n 1, 1) := by decide +kernel
theorem dX5_costsOf_5 : decode cX5_costsOf 5 = .ok (.iaload, 1) := by decide +kernel
theorem dX5_costsOf_6 : decode cX5_costsOf 6 = .ok (.istore_n 2, 1) := by decide +kernel
theorem dX5_costsOf_7 : decode cX5_costsOf 7 = .ok (.aload_n 0, 1) := by decide +kernel
theorem dX5_costsOf_8 : decode cX5_costsOf 8 = .ok (.getfield 32, 3) := by decide +kernel
theorem dX5_costsOf_11 : decode cX5_costsOf 11 = .ok (.iconst 3, 1) := by decide +kernel
theorem dX5_costsOf_12 : decode cX5_costsOf 12 = .ok (.iload_n 1, 1) := by decide +kernel
theorem dX5_costsOf_13 : decode cX5_costsOf 13 = .ok (.imul, 1) := by decide +kernel
theorem dX5_costsOf_14 : decode cX5_costsOf 14 = .ok (.iaload, 1) := by decide +kernel
theorem dX5_costsOf_15 : decode cX5_costsOf 15 = .ok (.istore_n 3, 1) := by decide +kernel
theorem dX5_costsOf_16 : decode cX5_costsOf 16 = .ok (.aload_n 0, 1) := by decide +kernel
theorem dX5_costsOf_17 : decode cX5_costsOf 17 = .ok (.iconst 2, 1) := by decide +kernel
theorem dX5_costsOf_18 : decode cX5_costsOf 18 = .ok (.aload_n 0, 1) := by decide +kernel
theorem dX5_costsOf_19 : decode cX5_costsOf 19 = .ok (.getfield 32, 3) := by decide +kernel
theorem dX5_costsOf_22 : decode cX5_costsOf 22 = .ok (.iconst 3, 1) := by decide +kernel
theorem dX5_costsOf_23 : decode cX5_costsOf 23 = .ok (.iload_n 1, 1) := by decide +kernel
theorem dX5_costsOf_24 : decode cX5_costsOf 24 = .ok (.imul, 1) := by decide +kernel
theorem dX5_costsOf_25 : decode cX5_costsOf 25 = .ok (.iconst 1, 1) := by decide +kernel
theorem dX5_costsOf_26 : decode cX5_costsOf 26 = .ok (.iadd, 1) := by decide +kernel
theorem dX5_costsOf_27 : decode cX5_costsOf 27 = .ok (.iaload, 1) := by decide +kernel
theorem dX5_costsOf_28 : decode cX5_costsOf 28 = .ok (.iload_n 3, 1) := by decide +kernel
theorem dX5_costsOf_29 : decode cX5_costsOf 29 = .ok (.invokevirtual 341, 3) := by decide +kernel
theorem dX5_costsOf_32 : decode cX5_costsOf 32 = .ok (.istore 4, 2) := by decide +kernel
theorem dX5_costsOf_34 : decode cX5_costsOf 34 = .ok (.iload_n 2, 1) := by decide +kernel
theorem dX5_costsOf_35 : decode cX5_costsOf 35 = .ok (.iconst 1, 1) := by decide +kernel
theorem dX5_costsOf_36 : decode cX5_costsOf 36 = .ok (.if_icmp .ne 10, 3) := by decide +kernel
theorem dX5_costsOf_39 : decode cX5_costsOf 39 = .ok (.iload 4, 2) := by decide +kernel
theorem dX5_costsOf_41 : decode cX5_costsOf 41 = .ok (.iconst 2, 1) := by decide +kernel
theorem dX5_costsOf_42 : decode cX5_costsOf 42 = .ok (.idiv, 1) := by decide +kernel
theorem dX5_costsOf_43 : decode cX5_costsOf 43 = .ok (.goto 45, 3) := by decide +kernel
theorem dX5_costsOf_46 : decode cX5_costsOf 46 = .ok (.iload_n 2, 1) := by decide +kernel
theorem dX5_costsOf_47 : decode cX5_costsOf 47 = .ok (.iconst 3, 1) := by decide +kernel
theorem dX5_costsOf_48 : decode cX5_costsOf 48 = .ok (.if_icmp .ne 12, 3) := by decide +kernel
theorem dX5_costsOf_51 : decode cX5_costsOf 51 = .ok (.iload 4, 2) := by decide +kernel
theorem dX5_costsOf_53 : decode cX5_costsOf 53 = .ok (.iconst 2, 1) := by decide +kernel
theorem dX5_costsOf_54 : decode cX5_costsOf 54 = .ok (.idiv, 1) := by decide +kernel
theorem dX5_costsOf_55 : decode cX5_costsOf 55 = .ok (.iload_n 3, 1) := by decide +kernel
theorem dX5_costsOf_56 : decode cX5_costsOf 56 = .ok (.iadd, 1) := by decide +kernel
theorem dX5_costsOf_57 : decode cX5_costsOf 57 = .ok (.goto 31, 3) := by decide +kernel
theorem dX5_costsOf_60 : decode cX5_costsOf 60 = .ok (.iload_n 2, 1) := by decide +kernel
theorem dX5_costsOf_61 : decode cX5_costsOf 61 = .ok (.iconst 2, 1) := by decide +kernel
theorem dX5_costsOf_62 : decode cX5_costsOf 62 = .ok (.if_icmp .ne 10, 3) := by decide +kernel
theorem dX5_costsOf_65 : decode cX5_costsOf 65 = .ok (.iconst 2, 1) := by decide +kernel
theorem dX5_costsOf_66 : decode cX5_costsOf 66 = .ok (.iload 4, 2) := by decide +kernel
theorem dX5_costsOf_68 : decode cX5_costsOf 68 = .ok (.imul, 1) := by decide +kernel
theorem dX5_costsOf_69 : decode cX5_costsOf 69 = .ok (.goto 19, 3) := by decide +kernel
theorem dX5_costsOf_72 : decode cX5_costsOf 72 = .ok (.iload_n 2, 1) := by decide +kernel
theorem dX5_costsOf_73 : decode cX5_costsOf 73 = .ok (.iconst 4, 1) := by decide +kernel
theorem dX5_costsOf_74 : decode cX5_costsOf 74 = .ok (.if_icmp .ne 12, 3) := by decide +kernel
theorem dX5_costsOf_77 : decode cX5_costsOf 77 = .ok (.iconst 2, 1) := by decide +kernel
theorem dX5_costsOf_78 : decode cX5_costsOf 78 = .ok (.iload 4, 2) := by decide +kernel
theorem dX5_costsOf_80 : decode cX5_costsOf 80 = .ok (.imul, 1) := by decide +kernel
theorem dX5_costsOf_81 : decode cX5_costsOf 81 = .ok (.iload_n 3, 1) := by decide +kernel
theorem dX5_costsOf_82 : decode cX5_costsOf 82 = .ok (.iadd, 1) := by decide +kernel
theorem dX5_costsOf_83 : decode cX5_costsOf 83 = .ok (.goto 5, 3) := by decide +kernel
theorem dX5_costsOf_86 : decode cX5_costsOf 86 = .ok (.iload 4, 2) := by decide +kernel
theorem dX5_costsOf_88 : decode cX5_costsOf 88 = .ok (.ireturn, 1) := by decide +kernel
theorem dX5_isHeld_0 : decode cX5_isHeld 0 = .ok (.iconst 0, 1) := by decide +kernel
theorem dX5_isHeld_1 : decode cX5_isHeld 1 = .ok (.istore_n 2, 1) := by decide +kernel
theorem dX5_isHeld_2 : decode cX5_isHeld 2 = .ok (.iload_n 2, 1) := by decide +kernel
theorem dX5_isHeld_3 : decode cX5_isHeld 3 = .ok (.aload_n 0, 1) := by decide +kernel
theorem dX5_isHeld_4 : decode cX5_isHeld 4 = .ok (.getfield 73, 3) := by decide +kernel
theorem dX5_isHeld_7 : decode cX5_isHeld 7 = .ok (.if_icmp .ge 49, 3) := by decide +kernel
theorem dX5_isHeld_10 : decode cX5_isHeld 10 = .ok (.aload_n 0, 1) := by decide +kernel
theorem dX5_isHeld_11 : decode cX5_isHeld 11 = .ok (.getfield 29, 3) := by decide +kernel
theorem dX5_isHeld_14 : decode cX5_isHeld 14 = .ok (.iload_n 2, 1) := by decide +kernel
theorem dX5_isHeld_15 : decode cX5_isHeld 15 = .ok (.iaload, 1) := by decide +kernel
theorem dX5_isHeld_16 : decode cX5_isHeld 16 = .ok (.iconst 5, 1) := by decide +kernel
theorem dX5_isHeld_17 : decode cX5_isHeld 17 = .ok (.if_icmp .ne 33, 3) := by decide +kernel
theorem dX5_isHeld_20 : decode cX5_isHeld 20 = .ok (.aload_n 0, 1) := by decide +kernel
theorem dX5_isHeld_21 : decode cX5_isHeld 21 = .ok (.getfield 32, 3) := by decide +kernel
theorem dX5_isHeld_24 : decode cX5_isHeld 24 = .ok (.iconst 3, 1) := by decide +kernel
theorem dX5_isHeld_25 : decode cX5_isHeld 25 = .ok (.iload_n 2, 1) := by decide +kernel
theorem dX5_isHeld_26 : decode cX5_isHeld 26 = .ok (.imul, 1) := by decide +kernel
theorem dX5_isHeld_27 : decode cX5_isHeld 27 = .ok (.iconst 2, 1) := by decide +kernel
theorem dX5_isHeld_28 : decode cX5_isHeld 28 = .ok (.iadd, 1) := by decide +kernel
theorem dX5_isHeld_29 : decode cX5_isHeld 29 = .ok (.iaload, 1) := by decide +kernel
theorem dX5_isHeld_30 : decode cX5_isHeld 30 = .ok (.iconst 1, 1) := by decide +kernel
theorem dX5_isHeld_31 : decode cX5_isHeld 31 = .ok (.if_icmp .ne 19, 3) := by decide +kernel
theorem dX5_isHeld_34 : decode cX5_isHeld 34 = .ok (.aload_n 0, 1) := by decide +kernel
theorem dX5_isHeld_35 : decode cX5_isHeld 35 = .ok (.getfield 32, 3) := by decide +kernel
theorem dX5_isHeld_38 : decode cX5_isHeld 38 = .ok (.iconst 3, 1) := by decide +kernel
theorem dX5_isHeld_39 : decode cX5_isHeld 39 = .ok (.iload_n 2, 1) := by decide +kernel
theorem dX5_isHeld_40 : decode cX5_isHeld 40 = .ok (.imul, 1) := by decide +kernel
theorem dX5_isHeld_41 : decode cX5_isHeld 41 = .ok (.iconst 1, 1) := by decide +kernel
theorem dX5_isHeld_42 : decode cX5_isHeld 42 = .ok (.iadd, 1) := by decide +kernel
theorem dX5_isHeld_43 : decode cX5_isHeld 43 = .ok (.iaload, 1) := by decide +kernel
theorem dX5_isHeld_44 : decode cX5_isHeld 44 = .ok (.iload_n 1, 1) := by decide +kernel
theorem dX5_isHeld_45 : decode cX5_isHeld 45 = .ok (.if_icmp .ne 5, 3) := by decide +kernel
theorem dX5_isHeld_48 : decode cX5_isHeld 48 = .ok (.iconst 1, 1) := by decide +kernel
theorem dX5_isHeld_49 : decode cX5_isHeld 49 = .ok (.ireturn, 1) := by decide +kernel
theorem dX5_isHeld_50 : decode cX5_isHeld 50 = .ok (.iinc 2 1, 3) := by decide +kernel
theorem dX5_isHeld_53 : decode cX5_isHeld 53 = .ok (.goto (-51), 3) := by decide +kernel
theorem dX5_isHeld_56 : decode cX5_isHeld 56 = .ok (.iconst 0, 1) := by decide +kernel
theorem dX5_isHeld_57 : decode cX5_isHeld 57 = .ok (.ireturn, 1) := by decide +kernel
theorem dX5_levelOf_0 : decode cX5_levelOf 0 = .ok (.aload_n 0, 1) := by decide +kernel
theorem dX5_levelOf_1 : decode cX5_levelOf 1 = .ok (.getfield 26, 3) := by decide +kernel
theorem dX5_levelOf_4 : decode cX5_levelOf 4 = .ok (.iconst 3, 1) := by decide +kernel
theorem dX5_levelOf_5 : decode cX5_levelOf 5 = .ok (.iload_n 1, 1) := by decide +kernel
theorem dX5_levelOf_6 : decode cX5_levelOf 6 = .ok (.imul, 1) := by decide +kernel
theorem dX5_levelOf_7 : decode cX5_levelOf 7 = .ok (.iaload, 1) := by decide +kernel
theorem dX5_levelOf_8 : decode cX5_levelOf 8 = .ok (.aload_n 0, 1) := by decide +kernel
theorem dX5_levelOf_9 : decode cX5_levelOf 9 = .ok (.getfield 26, 3) := by decide +kernel
theorem dX5_levelOf_12 : decode cX5_levelOf 12 = .ok (.iconst 3, 1) := by decide +kernel
theorem dX5_levelOf_13 : decode cX5_levelOf 13 = .ok (.iload_n 1, 1) := by decide +kernel
theorem dX5_levelOf_14 : decode cX5_levelOf 14 = .ok (.imul, 1) := by decide +kernel
theorem dX5_levelOf_15 : decode cX5_levelOf 15 = .ok (.iconst 2, 1) := by decide +kernel
theorem dX5_levelOf_16 : decode cX5_levelOf 16 = .ok (.iadd, 1) := by decide +kernel
theorem dX5_levelOf_17 : decode cX5_levelOf 17 = .ok (.iaload, 1) := by decide +kernel
theorem dX5_levelOf_18 : decode cX5_levelOf 18 = .ok (.iadd, 1) := by decide +kernel
theorem dX5_levelOf_19 : decode cX5_levelOf 19 = .ok (.ireturn, 1) := by decide +kernel
theorem dX5_adds_0 : decode cX5_adds 0 = .ok (.aload_n 0, 1) := by decide +kernel
theorem dX5_adds_1 : decode cX5_adds 1 = .ok (.getfield 26, 3) := by decide +kernel
theorem dX5_adds_4 : decode cX5_adds 4 = .ok (.iconst 3, 1) := by decide +kernel
theorem dX5_adds_5 : decode cX5_adds 5 = .ok (.iload_n 1, 1) := by decide +kernel
theorem dX5_adds_6 : decode cX5_adds 6 = .ok (.imul, 1) := by decide +kernel
theorem dX5_adds_7 : decode cX5_adds 7 = .ok (.iconst 2, 1) := by decide +kernel
theorem dX5_adds_8 : decode cX5_adds 8 = .ok (.iadd, 1) := by decide +kernel
theorem dX5_adds_9 : decode cX5_adds 9 = .ok (.aload_n 0, 1) := by decide +kernel
theorem dX5_adds_10 : decode cX5_adds 10 = .ok (.getfield 26, 3) := by decide +kernel
theorem dX5_adds_13 : decode cX5_adds 13 = .ok (.iconst 3, 1) := by decide +kernel
theorem dX5_adds_14 : decode cX5_adds 14 = .ok (.iload_n 1, 1) := by decide +kernel
theorem dX5_adds_15 : decode cX5_adds 15 = .ok (.imul, 1) := by decide +kernel
theorem dX5_adds_16 : decode cX5_adds 16 = .ok (.iconst 2, 1) := by decide +kernel
theorem dX5_adds_17 : decode cX5_adds 17 = .ok (.iadd, 1) := by decide +kernel
theorem dX5_adds_18 : decode cX5_adds 18 = .ok (.iaload, 1) := by decide +kernel
theorem dX5_adds_19 : decode cX5_adds 19 = .ok (.iload_n 2, 1) := by decide +kernel
theorem dX5_adds_20 : decode cX5_adds 20 = .ok (.iadd, 1) := by decide +kernel
theorem dX5_adds_21 : decode cX5_adds 21 = .ok (.iconst 0, 1) := by decide +kernel
theorem dX5_adds_22 : decode cX5_adds 22 = .ok (.sipush 999, 3) := by decide +kernel
theorem dX5_adds_25 : decode cX5_adds 25 = .ok (.invokestatic 334, 3) := by decide +kernel
theorem dX5_adds_28 : decode cX5_adds 28 = .ok (.iastore, 1) := by decide +kernel
theorem dX5_adds_29 : decode cX5_adds 29 = .ok (.return_, 1) := by decide +kernel
theorem dX5_draws_0 : decode cX5_draws 0 = .ok (.iload_n 2, 1) := by decide +kernel
theorem dX5_draws_1 : decode cX5_draws 1 = .ok (.invokestatic 82, 3) := by decide +kernel
theorem dX5_draws_4 : decode cX5_draws 4 = .ok (.ifCond .eq 22, 3) := by decide +kernel
theorem dX5_draws_7 : decode cX5_draws 7 = .ok (.aload_n 0, 1) := by decide +kernel
theorem dX5_draws_8 : decode cX5_draws 8 = .ok (.getfield 26, 3) := by decide +kernel
theorem dX5_draws_11 : decode cX5_draws 11 = .ok (.iconst 3, 1) := by decide +kernel
theorem dX5_draws_12 : decode cX5_draws 12 = .ok (.iload_n 2, 1) := by decide +kernel
theorem dX5_draws_13 : decode cX5_draws 13 = .ok (.imul, 1) := by decide +kernel
theorem dX5_draws_14 : decode cX5_draws 14 = .ok (.iconst 2, 1) := by decide +kernel
theorem dX5_draws_15 : decode cX5_draws 15 = .ok (.iadd, 1) := by decide +kernel
theorem dX5_draws_16 : decode cX5_draws 16 = .ok (.dup2, 1) := by decide +kernel
theorem dX5_draws_17 : decode cX5_draws 17 = .ok (.iaload, 1) := by decide +kernel
theorem dX5_draws_18 : decode cX5_draws 18 = .ok (.aload_n 0, 1) := by decide +kernel
theorem dX5_draws_19 : decode cX5_draws 19 = .ok (.iload_n 1, 1) := by decide +kernel
theorem dX5_draws_20 : decode cX5_draws 20 = .ok (.iload_n 2, 1) := by decide +kernel
theorem dX5_draws_21 : decode cX5_draws 21 = .ok (.invokevirtual 122, 3) := by decide +kernel
theorem dX5_draws_24 : decode cX5_draws 24 = .ok (.isub, 1) := by decide +kernel
theorem dX5_draws_25 : decode cX5_draws 25 = .ok (.iastore, 1) := by decide +kernel
theorem dX5_draws_26 : decode cX5_draws 26 = .ok (.return_, 1) := by decide +kernel
theorem dX5_lives_0 : decode cX5_lives 0 = .ok (.iconst 0, 1) := by decide +kernel
theorem dX5_lives_1 : decode cX5_lives 1 = .ok (.istore_n 1, 1) := by decide +kernel
theorem dX5_lives_2 : decode cX5_lives 2 = .ok (.iload_n 1, 1) := by decide +kernel
theorem dX5_lives_3 : decode cX5_lives 3 = .ok (.bipush 12, 2) := by decide +kernel
theorem dX5_lives_5 : decode cX5_lives 5 = .ok (.if_icmp .ge 25, 3) := by decide +kernel
theorem dX5_lives_8 : decode cX5_lives 8 = .ok (.aload_n 0, 1) := by decide +kernel
theorem dX5_lives_9 : decode cX5_lives 9 = .ok (.iload_n 1, 1) := by decide +kernel
theorem dX5_lives_10 : decode cX5_lives 10 = .ok (.aload_n 0, 1) := by decide +kernel
theorem dX5_lives_11 : decode cX5_lives 11 = .ok (.iconst 0, 1) := by decide +kernel
theorem dX5_lives_12 : decode cX5_lives 12 = .ok (.iload_n 1, 1) := by decide +kernel
theorem dX5_lives_13 : decode cX5_lives 13 = .ok (.aload_n 0, 1) := by decide +kernel
theorem dX5_lives_14 : decode cX5_lives 14 = .ok (.iload_n 1, 1) := by decide +kernel
theorem dX5_lives_15 : decode cX5_lives 15 = .ok (.invokevirtual 338, 3) := by decide +kernel
theorem dX5_lives_18 : decode cX5_lives 18 = .ok (.invokevirtual 341, 3) := by decide +kernel
theorem dX5_lives_21 : decode cX5_lives 21 = .ok (.invokevirtual 344, 3) := by decide +kernel
theorem dX5_lives_24 : decode cX5_lives 24 = .ok (.iinc 1 1, 3) := by decide +kernel
theorem dX5_lives_27 : decode cX5_lives 27 = .ok (.goto (-25), 3) := by decide +kernel
theorem dX5_lives_30 : decode cX5_lives 30 = .ok (.bipush 11, 2) := by decide +kernel
theorem dX5_lives_32 : decode cX5_lives 32 = .ok (.istore_n 1, 1) := by decide +kernel
theorem dX5_lives_33 : decode cX5_lives 33 = .ok (.iload_n 1, 1) := by decide +kernel
theorem dX5_lives_34 : decode cX5_lives 34 = .ok (.ifCond .le 85, 3) := by decide +kernel
theorem dX5_lives_37 : decode cX5_lives 37 = .ok (.aload_n 0, 1) := by decide +kernel
theorem dX5_lives_38 : decode cX5_lives 38 = .ok (.iload_n 1, 1) := by decide +kernel
theorem dX5_lives_39 : decode cX5_lives 39 = .ok (.invokevirtual 348, 3) := by decide +kernel
theorem dX5_lives_42 : decode cX5_lives 42 = .ok (.aload_n 0, 1) := by decide +kernel
theorem dX5_lives_43 : decode cX5_lives 43 = .ok (.iload_n 1, 1) := by decide +kernel
theorem dX5_lives_44 : decode cX5_lives 44 = .ok (.iconst 1, 1) := by decide +kernel
theorem dX5_lives_45 : decode cX5_lives 45 = .ok (.isub, 1) := by decide +kernel
theorem dX5_lives_46 : decode cX5_lives 46 = .ok (.invokevirtual 348, 3) := by decide +kernel
theorem dX5_lives_49 : decode cX5_lives 49 = .ok (.isub, 1) := by decide +kernel
theorem dX5_lives_50 : decode cX5_lives 50 = .ok (.istore_n 2, 1) := by decide +kernel
theorem dX5_lives_51 : decode cX5_lives 51 = .ok (.iload_n 2, 1) := by decide +kernel
theorem dX5_lives_52 : decode cX5_lives 52 = .ok (.ifCond .le 61, 3) := by decide +kernel
theorem dX5_lives_55 : decode cX5_lives 55 = .ok (.aload_n 0, 1) := by decide +kernel
theorem dX5_lives_56 : decode cX5_lives 56 = .ok (.iload_n 1, 1) := by decide +kernel
theorem dX5_lives_57 : decode cX5_lives 57 = .ok (.iconst 1, 1) := by decide +kernel
theorem dX5_lives_58 : decode cX5_lives 58 = .ok (.isub, 1) := by decide +kernel
theorem dX5_lives_59 : decode cX5_lives 59 = .ok (.invokevirtual 351, 3) := by decide +kernel
theorem dX5_lives_62 : decode cX5_lives 62 = .ok (.ifCond .ne 51, 3) := by decide +kernel
theorem dX5_lives_65 : decode cX5_lives 65 = .ok (.iload_n 2, 1) := by decide +kernel
theorem dX5_lives_66 : decode cX5_lives 66 = .ok (.iconst 2, 1) := by decide +kernel
theorem dX5_lives_67 : decode cX5_lives 67 = .ok (.idiv, 1) := by decide +kernel
theorem dX5_lives_68 : decode cX5_lives 68 = .ok (.aload_n 0, 1) := by decide +kernel
theorem dX5_lives_69 : decode cX5_lives 69 = .ok (.getfield 26, 3) := by decide +kernel
theorem dX5_lives_72 : decode cX5_lives 72 = .ok (.iconst 3, 1) := by decide +kernel
theorem dX5_lives_73 : decode cX5_lives 73 = .ok (.iload_n 1, 1) := by decide +kernel
theorem dX5_lives_74 : decode cX5_lives 74 = .ok (.imul, 1) := by decide +kernel
theorem dX5_lives_75 : decode cX5_lives 75 = .ok (.iconst 2, 1) := by decide +kernel
theorem dX5_lives_76 : decode cX5_lives 76 = .ok (.iadd, 1) := by decide +kernel
theorem dX5_lives_77 : decode cX5_lives 77 = .ok (.iaload, 1) := by decide +kernel
theorem dX5_lives_78 : decode cX5_lives 78 = .ok (.if_icmp .ge 9, 3) := by decide +kernel
theorem dX5_lives_81 : decode cX5_lives 81 = .ok (.iload_n 2, 1) := by decide +kernel
theorem dX5_lives_82 : decode cX5_lives 82 = .ok (.iconst 2, 1) := by decide +kernel
theorem dX5_lives_83 : decode cX5_lives 83 = .ok (.idiv, 1) := by decide +kernel
theorem dX5_lives_84 : decode cX5_lives 84 = .ok (.goto 13, 3) := by decide +kernel
theorem dX5_lives_87 : decode cX5_lives 87 = .ok (.aload_n 0, 1) := by decide +kernel
theorem dX5_lives_88 : decode cX5_lives 88 = .ok (.getfield 26, 3) := by decide +kernel
theorem dX5_lives_91 : decode cX5_lives 91 = .ok (.iconst 3, 1) := by decide +kernel
theorem dX5_lives_92 : decode cX5_lives 92 = .ok (.iload_n 1, 1) := by decide +kernel
theorem dX5_lives_93 : decode cX5_lives 93 = .ok (.imul, 1) := by decide +kernel
theorem dX5_lives_94 : decode cX5_lives 94 = .ok (.iconst 2, 1) := by decide +kernel
theorem dX5_lives_95 : decode cX5_lives 95 = .ok (.iadd, 1) := by decide +kernel
theorem dX5_lives_96 : decode cX5_lives 96 = .ok (.iaload, 1) := by decide +kernel
theorem dX5_lives_97 : decode cX5_lives 97 = .ok (.istore_n 3, 1) := by decide +kernel
theorem dX5_lives_98 : decode cX5_lives 98 = .ok (.aload_n 0, 1) := by decide +kernel
theorem dX5_lives_99 : decode cX5_lives 99 = .ok (.iload_n 1, 1) := by decide +kernel
theorem dX5_lives_100 : decode cX5_lives 100 = .ok (.iload_n 3, 1) := by decide +kernel
theorem dX5_lives_101 : decode cX5_lives 101 = .ok (.ineg, 1) := by decide +kernel
theorem dX5_lives_102 : decode cX5_lives 102 = .ok (.invokevirtual 344, 3) := by decide +kernel
theorem dX5_lives_105 : decode cX5_lives 105 = .ok (.aload_n 0, 1) := by decide +kernel
theorem dX5_lives_106 : decode cX5_lives 106 = .ok (.iload_n 1, 1) := by decide +kernel
theorem dX5_lives_107 : decode cX5_lives 107 = .ok (.iconst 1, 1) := by decide +kernel
theorem dX5_lives_108 : decode cX5_lives 108 = .ok (.isub, 1) := by decide +kernel
theorem dX5_lives_109 : decode cX5_lives 109 = .ok (.iload_n 3, 1) := by decide +kernel
theorem dX5_lives_110 : decode cX5_lives 110 = .ok (.invokevirtual 344, 3) := by decide +kernel
theorem dX5_lives_113 : decode cX5_lives 113 = .ok (.iinc 1 (-1), 3) := by decide +kernel
theorem dX5_lives_116 : decode cX5_lives 116 = .ok (.goto (-83), 3) := by decide +kernel
theorem dX5_lives_119 : decode cX5_lives 119 = .ok (.aload_n 0, 1) := by decide +kernel
theorem dX5_lives_120 : decode cX5_lives 120 = .ok (.iconst 0, 1) := by decide +kernel
theorem dX5_lives_121 : decode cX5_lives 121 = .ok (.invokevirtual 348, 3) := by decide +kernel
theorem dX5_lives_124 : decode cX5_lives 124 = .ok (.aload_n 0, 1) := by decide +kernel
theorem dX5_lives_125 : decode cX5_lives 125 = .ok (.getfield 23, 3) := by decide +kernel
theorem dX5_lives_128 : decode cX5_lives 128 = .ok (.isub, 1) := by decide +kernel
theorem dX5_lives_129 : decode cX5_lives 129 = .ok (.istore_n 1, 1) := by decide +kernel
theorem dX5_lives_130 : decode cX5_lives 130 = .ok (.iload_n 1, 1) := by decide +kernel
theorem dX5_lives_131 : decode cX5_lives 131 = .ok (.ifCond .le 36, 3) := by decide +kernel
theorem dX5_lives_134 : decode cX5_lives 134 = .ok (.aload_n 0, 1) := by decide +kernel
theorem dX5_lives_135 : decode cX5_lives 135 = .ok (.iconst 0, 1) := by decide +kernel
theorem dX5_lives_136 : decode cX5_lives 136 = .ok (.iload_n 1, 1) := by decide +kernel
theorem dX5_lives_137 : decode cX5_lives 137 = .ok (.iconst 2, 1) := by decide +kernel
theorem dX5_lives_138 : decode cX5_lives 138 = .ok (.idiv, 1) := by decide +kernel
theorem dX5_lives_139 : decode cX5_lives 139 = .ok (.aload_n 0, 1) := by decide +kernel
theorem dX5_lives_140 : decode cX5_lives 140 = .ok (.getfield 26, 3) := by decide +kernel
theorem dX5_lives_143 : decode cX5_lives 143 = .ok (.iconst 2, 1) := by decide +kernel
theorem dX5_lives_144 : decode cX5_lives 144 = .ok (.iaload, 1) := by decide +kernel
theorem dX5_lives_145 : decode cX5_lives 145 = .ok (.if_icmp .ge 9, 3) := by decide +kernel
theorem dX5_lives_148 : decode cX5_lives 148 = .ok (.iload_n 1, 1) := by decide +kernel
theorem dX5_lives_149 : decode cX5_lives 149 = .ok (.iconst 2, 1) := by decide +kernel
theorem dX5_lives_150 : decode cX5_lives 150 = .ok (.idiv, 1) := by decide +kernel
theorem dX5_lives_151 : decode cX5_lives 151 = .ok (.goto 9, 3) := by decide +kernel
theorem dX5_lives_154 : decode cX5_lives 154 = .ok (.aload_n 0, 1) := by decide +kernel
theorem dX5_lives_155 : decode cX5_lives 155 = .ok (.getfield 26, 3) := by decide +kernel
theorem dX5_lives_158 : decode cX5_lives 158 = .ok (.iconst 2, 1) := by decide +kernel
theorem dX5_lives_159 : decode cX5_lives 159 = .ok (.iaload, 1) := by decide +kernel
theorem dX5_lives_160 : decode cX5_lives 160 = .ok (.ineg, 1) := by decide +kernel
theorem dX5_lives_161 : decode cX5_lives 161 = .ok (.invokevirtual 344, 3) := by decide +kernel
theorem dX5_lives_164 : decode cX5_lives 164 = .ok (.goto 20, 3) := by decide +kernel
theorem dX5_lives_167 : decode cX5_lives 167 = .ok (.aload_n 0, 1) := by decide +kernel
theorem dX5_lives_168 : decode cX5_lives 168 = .ok (.iconst 0, 1) := by decide +kernel
theorem dX5_lives_169 : decode cX5_lives 169 = .ok (.invokevirtual 351, 3) := by decide +kernel
theorem dX5_lives_172 : decode cX5_lives 172 = .ok (.ifCond .ne 12, 3) := by decide +kernel
theorem dX5_lives_175 : decode cX5_lives 175 = .ok (.aload_n 0, 1) := by decide +kernel
theorem dX5_lives_176 : decode cX5_lives 176 = .ok (.iconst 0, 1) := by decide +kernel
theorem dX5_lives_177 : decode cX5_lives 177 = .ok (.iload_n 1, 1) := by decide +kernel
theorem dX5_lives_178 : decode cX5_lives 178 = .ok (.ineg, 1) := by decide +kernel
theorem dX5_lives_179 : decode cX5_lives 179 = .ok (.iconst 2, 1) := by decide +kernel
theorem dX5_lives_180 : decode cX5_lives 180 = .ok (.idiv, 1) := by decide +kernel
theorem dX5_lives_181 : decode cX5_lives 181 = .ok (.invokevirtual 344, 3) := by decide +kernel
theorem dX5_lives_184 : decode cX5_lives 184 = .ok (.iconst 0, 1) := by decide +kernel
theorem dX5_lives_185 : decode cX5_lives 185 = .ok (.istore_n 2, 1) := by decide +kernel
theorem dX5_lives_186 : decode cX5_lives 186 = .ok (.iload_n 2, 1) := by decide +kernel
theorem dX5_lives_187 : decode cX5_lives 187 = .ok (.aload_n 0, 1) := by decide +kernel
theorem dX5_lives_188 : decode cX5_lives 188 = .ok (.getfield 73, 3) := by decide +kernel
theorem dX5_lives_191 : decode cX5_lives 191 = .ok (.if_icmp .ge 90, 3) := by decide +kernel
theorem dX5_lives_194 : decode cX5_lives 194 = .ok (.aload_n 0, 1) := by decide +kernel
theorem dX5_lives_195 : decode cX5_lives 195 = .ok (.getfield 32, 3) := by decide +kernel
theorem dX5_lives_198 : decode cX5_lives 198 = .ok (.iconst 3, 1) := by decide +kernel
theorem dX5_lives_199 : decode cX5_lives 199 = .ok (.iload_n 2, 1) := by decide +kernel
theorem dX5_lives_200 : decode cX5_lives 200 = .ok (.imul, 1) := by decide +kernel
theorem dX5_lives_201 : decode cX5_lives 201 = .ok (.iconst 2, 1) := by decide +kernel
theorem dX5_lives_202 : decode cX5_lives 202 = .ok (.iadd, 1) := by decide +kernel
theorem dX5_lives_203 : decode cX5_lives 203 = .ok (.iaload, 1) := by decide +kernel
theorem dX5_lives_204 : decode cX5_lives 204 = .ok (.iconst 1, 1) := by decide +kernel
theorem dX5_lives_205 : decode cX5_lives 205 = .ok (.if_icmp .ne 70, 3) := by decide +kernel
theorem dX5_lives_208 : decode cX5_lives 208 = .ok (.aload_n 0, 1) := by decide +kernel
theorem dX5_lives_209 : decode cX5_lives 209 = .ok (.getfield 32, 3) := by decide +kernel
theorem dX5_lives_212 : decode cX5_lives 212 = .ok (.iconst 3, 1) := by decide +kernel
theorem dX5_lives_213 : decode cX5_lives 213 = .ok (.iload_n 2, 1) := by decide +kernel
theorem dX5_lives_214 : decode cX5_lives 214 = .ok (.imul, 1) := by decide +kernel
theorem dX5_lives_215 : decode cX5_lives 215 = .ok (.iconst 1, 1) := by decide +kernel
theorem dX5_lives_216 : decode cX5_lives 216 = .ok (.iadd, 1) := by decide +kernel
theorem dX5_lives_217 : decode cX5_lives 217 = .ok (.iaload, 1) := by decide +kernel
theorem dX5_lives_218 : decode cX5_lives 218 = .ok (.istore_n 3, 1) := by decide +kernel
theorem dX5_lives_219 : decode cX5_lives 219 = .ok (.aload_n 0, 1) := by decide +kernel
theorem dX5_lives_220 : decode cX5_lives 220 = .ok (.iload_n 2, 1) := by decide +kernel
theorem dX5_lives_221 : decode cX5_lives 221 = .ok (.iload_n 3, 1) := by decide +kernel
theorem dX5_lives_222 : decode cX5_lives 222 = .ok (.invokevirtual 354, 3) := by decide +kernel
theorem dX5_lives_225 : decode cX5_lives 225 = .ok (.aload_n 0, 1) := by decide +kernel
theorem dX5_lives_226 : decode cX5_lives 226 = .ok (.getfield 29, 3) := by decide +kernel
theorem dX5_lives_229 : decode cX5_lives 229 = .ok (.iload_n 2, 1) := by decide +kernel
theorem dX5_lives_230 : decode cX5_lives 230 = .ok (.iaload, 1) := by decide +kernel
theorem dX5_lives_231 : decode cX5_lives 231 = .ok (.iconst 1, 1) := by decide +kernel
theorem dX5_lives_232 : decode cX5_lives 232 = .ok (.if_icmp .eq 13, 3) := by decide +kernel
theorem dX5_lives_235 : decode cX5_lives 235 = .ok (.aload_n 0, 1) := by decide +kernel
theorem dX5_lives_236 : decode cX5_lives 236 = .ok (.getfield 29, 3) := by decide +kernel
theorem dX5_lives_239 : decode cX5_lives 239 = .ok (.iload_n 2, 1) := by decide +kernel
theorem dX5_lives_240 : decode cX5_lives 240 = .ok (.iaload, 1) := by decide +kernel
theorem dX5_lives_241 : decode cX5_lives 241 = .ok (.iconst 4, 1) := by decide +kernel
theorem dX5_lives_242 : decode cX5_lives 242 = .ok (.if_icmp .ne 19, 3) := by decide +kernel
theorem dX5_lives_245 : decode cX5_lives 245 = .ok (.aload_n 0, 1) := by decide +kernel
theorem dX5_lives_246 : decode cX5_lives 246 = .ok (.iload_n 2, 1) := by decide +kernel
theorem dX5_lives_247 : decode cX5_lives 247 = .ok (.iload_n 3, 1) := by decide +kernel
theorem dX5_lives_248 : decode cX5_lives 248 = .ok (.iconst 1, 1) := by decide +kernel
theorem dX5_lives_249 : decode cX5_lives 249 = .ok (.isub, 1) := by decide +kernel
theorem dX5_lives_250 : decode cX5_lives 250 = .ok (.invokevirtual 354, 3) := by decide +kernel
theorem dX5_lives_253 : decode cX5_lives 253 = .ok (.aload_n 0, 1) := by decide +kernel
theorem dX5_lives_254 : decode cX5_lives 254 = .ok (.iload_n 2, 1) := by decide +kernel
theorem dX5_lives_255 : decode cX5_lives 255 = .ok (.iload_n 3, 1) := by decide +kernel
theorem dX5_lives_256 : decode cX5_lives 256 = .ok (.iconst 1, 1) := by decide +kernel
theorem dX5_lives_257 : decode cX5_lives 257 = .ok (.iadd, 1) := by decide +kernel
theorem dX5_lives_258 : decode cX5_lives 258 = .ok (.invokevirtual 354, 3) := by decide +kernel
theorem dX5_lives_261 : decode cX5_lives 261 = .ok (.aload_n 0, 1) := by decide +kernel
theorem dX5_lives_262 : decode cX5_lives 262 = .ok (.dup, 1) := by decide +kernel
theorem dX5_lives_263 : decode cX5_lives 263 = .ok (.getfield 357, 3) := by decide +kernel
theorem dX5_lives_266 : decode cX5_lives 266 = .ok (.aload_n 0, 1) := by decide +kernel
theorem dX5_lives_267 : decode cX5_lives 267 = .ok (.iload_n 2, 1) := by decide +kernel
theorem dX5_lives_268 : decode cX5_lives 268 = .ok (.invokevirtual 125, 3) := by decide +kernel
theorem dX5_lives_271 : decode cX5_lives 271 = .ok (.iadd, 1) := by decide +kernel
theorem dX5_lives_272 : decode cX5_lives 272 = .ok (.putfield 357, 3) := by decide +kernel
theorem dX5_lives_275 : decode cX5_lives 275 = .ok (.iinc 2 1, 3) := by decide +kernel
theorem dX5_lives_278 : decode cX5_lives 278 = .ok (.goto (-92), 3) := by decide +kernel
theorem dX5_lives_281 : decode cX5_lives 281 = .ok (.iconst 0, 1) := by decide +kernel
theorem dX5_lives_282 : decode cX5_lives 282 = .ok (.istore_n 2, 1) := by decide +kernel
theorem dX5_lives_283 : decode cX5_lives 283 = .ok (.iload_n 2, 1) := by decide +kernel
theorem dX5_lives_284 : decode cX5_lives 284 = .ok (.bipush 12, 2) := by decide +kernel
theorem dX5_lives_286 : decode cX5_lives 286 = .ok (.if_icmp .ge 117, 3) := by decide +kernel
theorem dX5_lives_289 : decode cX5_lives 289 = .ok (.aload_n 0, 1) := by decide +kernel
theorem dX5_lives_290 : decode cX5_lives 290 = .ok (.getfield 26, 3) := by decide +kernel
theorem dX5_lives_293 : decode cX5_lives 293 = .ok (.iconst 3, 1) := by decide +kernel
theorem dX5_lives_294 : decode cX5_lives 294 = .ok (.iload_n 2, 1) := by decide +kernel
theorem dX5_lives_295 : decode cX5_lives 295 = .ok (.imul, 1) := by decide +kernel
theorem dX5_lives_296 : decode cX5_lives 296 = .ok (.iconst 2, 1) := by decide +kernel
theorem dX5_lives_297 : decode cX5_lives 297 = .ok (.iadd, 1) := by decide +kernel
theorem dX5_lives_298 : decode cX5_lives 298 = .ok (.iaload, 1) := by decide +kernel
theorem dX5_lives_299 : decode cX5_lives 299 = .ok (.ifCond .ne 98, 3) := by decide +kernel
theorem dX5_lives_302 : decode cX5_lives 302 = .ok (.aload_n 0, 1) := by decide +kernel
theorem dX5_lives_303 : decode cX5_lives 303 = .ok (.iconst 1, 1) := by decide +kernel
theorem dX5_lives_304 : decode cX5_lives 304 = .ok (.iload_n 2, 1) := by decide +kernel
theorem dX5_lives_305 : decode cX5_lives 305 = .ok (.aload_n 0, 1) := by decide +kernel
theorem dX5_lives_306 : decode cX5_lives 306 = .ok (.iload_n 2, 1) := by decide +kernel
theorem dX5_lives_307 : decode cX5_lives 307 = .ok (.invokevirtual 338, 3) := by decide +kernel
theorem dX5_lives_310 : decode cX5_lives 310 = .ok (.invokevirtual 341, 3) := by decide +kernel
theorem dX5_lives_313 : decode cX5_lives 313 = .ok (.istore_n 3, 1) := by decide +kernel
theorem dX5_lives_314 : decode cX5_lives 314 = .ok (.aload_n 0, 1) := by decide +kernel
theorem dX5_lives_315 : decode cX5_lives 315 = .ok (.getfield 26, 3) := by decide +kernel
theorem dX5_lives_318 : decode cX5_lives 318 = .ok (.iconst 3, 1) := by decide +kernel
theorem dX5_lives_319 : decode cX5_lives 319 = .ok (.iload_n 2, 1) := by decide +kernel
theorem dX5_lives_320 : decode cX5_lives 320 = .ok (.imul, 1) := by decide +kernel
theorem dX5_lives_321 : decode cX5_lives 321 = .ok (.iaload, 1) := by decide +kernel
theorem dX5_lives_322 : decode cX5_lives 322 = .ok (.aload_n 0, 1) := by decide +kernel
theorem dX5_lives_323 : decode cX5_lives 323 = .ok (.getfield 26, 3) := by decide +kernel
theorem dX5_lives_326 : decode cX5_lives 326 = .ok (.iconst 3, 1) := by decide +kernel
theorem dX5_lives_327 : decode cX5_lives 327 = .ok (.iload_n 2, 1) := by decide +kernel
theorem dX5_lives_328 : decode cX5_lives 328 = .ok (.imul, 1) := by decide +kernel
theorem dX5_lives_329 : decode cX5_lives 329 = .ok (.iconst 1, 1) := by decide +kernel
theorem dX5_lives_330 : decode cX5_lives 330 = .ok (.iadd, 1) := by decide +kernel
theorem dX5_lives_331 : decode cX5_lives 331 = .ok (.iaload, 1) := by decide +kernel
theorem dX5_lives_332 : decode cX5_lives 332 = .ok (.if_icmp .ge 14, 3) := by decide +kernel
theorem dX5_lives_335 : decode cX5_lives 335 = .ok (.aload_n 0, 1) := by decide +kernel
theorem dX5_lives_336 : decode cX5_lives 336 = .ok (.getfield 26, 3) := by decide +kernel
theorem dX5_lives_339 : decode cX5_lives 339 = .ok (.iconst 3, 1) := by decide +kernel
theorem dX5_lives_340 : decode cX5_lives 340 = .ok (.iload_n 2, 1) := by decide +kernel
theorem dX5_lives_341 : decode cX5_lives 341 = .ok (.imul, 1) := by decide +kernel
theorem dX5_lives_342 : decode cX5_lives 342 = .ok (.iaload, 1) := by decide +kernel
theorem dX5_lives_343 : decode cX5_lives 343 = .ok (.goto 13, 3) := by decide +kernel
theorem dX5_lives_346 : decode cX5_lives 346 = .ok (.aload_n 0, 1) := by decide +kernel
theorem dX5_lives_347 : decode cX5_lives 347 = .ok (.getfield 26, 3) := by decide +kernel
theorem dX5_lives_350 : decode cX5_lives 350 = .ok (.iconst 3, 1) := by decide +kernel
theorem dX5_lives_351 : decode cX5_lives 351 = .ok (.iload_n 2, 1) := by decide +kernel
theorem dX5_lives_352 : decode cX5_lives 352 = .ok (.imul, 1) := by decide +kernel
theorem dX5_lives_353 : decode cX5_lives 353 = .ok (.iconst 1, 1) := by decide +kernel
theorem dX5_lives_354 : decode cX5_lives 354 = .ok (.iadd, 1) := by decide +kernel
theorem dX5_lives_355 : decode cX5_lives 355 = .ok (.iaload, 1) := by decide +kernel
theorem dX5_lives_356 : decode cX5_lives 356 = .ok (.istore 4, 2) := by decide +kernel
theorem dX5_lives_358 : decode cX5_lives 358 = .ok (.iload_n 3, 1) := by decide +kernel
theorem dX5_lives_359 : decode cX5_lives 359 = .ok (.iload 4, 2) := by decide +kernel
theorem dX5_lives_361 : decode cX5_lives 361 = .ok (.if_icmp .ge 7, 3) := by decide +kernel
theorem dX5_lives_364 : decode cX5_lives 364 = .ok (.iload_n 3, 1) := by decide +kernel
theorem dX5_lives_365 : decode cX5_lives 365 = .ok (.goto 5, 3) := by decide +kernel
theorem dX5_lives_368 : decode cX5_lives 368 = .ok (.iload 4, 2) := by decide +kernel
theorem dX5_lives_370 : decode cX5_lives 370 = .ok (.istore_n 3, 1) := by decide +kernel
theorem dX5_lives_371 : decode cX5_lives 371 = .ok (.aload_n 0, 1) := by decide +kernel
theorem dX5_lives_372 : decode cX5_lives 372 = .ok (.getfield 26, 3) := by decide +kernel
theorem dX5_lives_375 : decode cX5_lives 375 = .ok (.iconst 3, 1) := by decide +kernel
theorem dX5_lives_376 : decode cX5_lives 376 = .ok (.iload_n 2, 1) := by decide +kernel
theorem dX5_lives_377 : decode cX5_lives 377 = .ok (.imul, 1) := by decide +kernel
theorem dX5_lives_378 : decode cX5_lives 378 = .ok (.dup2, 1) := by decide +kernel
theorem dX5_lives_379 : decode cX5_lives 379 = .ok (.iaload, 1) := by decide +kernel
theorem dX5_lives_380 : decode cX5_lives 380 = .ok (.iload_n 3, 1) := by decide +kernel
theorem dX5_lives_381 : decode cX5_lives 381 = .ok (.isub, 1) := by decide +kernel
theorem dX5_lives_382 : decode cX5_lives 382 = .ok (.iastore, 1) := by decide +kernel
theorem dX5_lives_383 : decode cX5_lives 383 = .ok (.aload_n 0, 1) := by decide +kernel
theorem dX5_lives_384 : decode cX5_lives 384 = .ok (.getfield 26, 3) := by decide +kernel
theorem dX5_lives_387 : decode cX5_lives 387 = .ok (.iconst 3, 1) := by decide +kernel
theorem dX5_lives_388 : decode cX5_lives 388 = .ok (.iload_n 2, 1) := by decide +kernel
theorem dX5_lives_389 : decode cX5_lives 389 = .ok (.imul, 1) := by decide +kernel
theorem dX5_lives_390 : decode cX5_lives 390 = .ok (.iconst 1, 1) := by decide +kernel
theorem dX5_lives_391 : decode cX5_lives 391 = .ok (.iadd, 1) := by decide +kernel
theorem dX5_lives_392 : decode cX5_lives 392 = .ok (.dup2, 1) := by decide +kernel
theorem dX5_lives_393 : decode cX5_lives 393 = .ok (.iaload, 1) := by decide +kernel
theorem dX5_lives_394 : decode cX5_lives 394 = .ok (.iload_n 3, 1) := by decide +kernel
theorem dX5_lives_395 : decode cX5_lives 395 = .ok (.isub, 1) := by decide +kernel
theorem dX5_lives_396 : decode cX5_lives 396 = .ok (.iastore, 1) := by decide +kernel
theorem dX5_lives_397 : decode cX5_lives 397 = .ok (.iinc 2 1, 3) := by decide +kernel
theorem dX5_lives_400 : decode cX5_lives 400 = .ok (.goto (-117), 3) := by decide +kernel
theorem dX5_lives_403 : decode cX5_lives 403 = .ok (.aload_n 0, 1) := by decide +kernel
theorem dX5_lives_404 : decode cX5_lives 404 = .ok (.dup, 1) := by decide +kernel
theorem dX5_lives_405 : decode cX5_lives 405 = .ok (.getfield 107, 3) := by decide +kernel
theorem dX5_lives_408 : decode cX5_lives 408 = .ok (.iconst 1, 1) := by decide +kernel
theorem dX5_lives_409 : decode cX5_lives 409 = .ok (.iadd, 1) := by decide +kernel
theorem dX5_lives_410 : decode cX5_lives 410 = .ok (.putfield 107, 3) := by decide +kernel
theorem dX5_lives_413 : decode cX5_lives 413 = .ok (.return_, 1) := by decide +kernel
theorem dX5_drySet_0 : decode cX5_drySet 0 = .ok (.iconst 0, 1) := by decide +kernel
theorem dX5_drySet_1 : decode cX5_drySet 1 = .ok (.istore_n 1, 1) := by decide +kernel
theorem dX5_drySet_2 : decode cX5_drySet 2 = .ok (.iconst 0, 1) := by decide +kernel
theorem dX5_drySet_3 : decode cX5_drySet 3 = .ok (.istore_n 2, 1) := by decide +kernel
theorem dX5_drySet_4 : decode cX5_drySet 4 = .ok (.iload_n 2, 1) := by decide +kernel
theorem dX5_drySet_5 : decode cX5_drySet 5 = .ok (.bipush 12, 2) := by decide +kernel
theorem dX5_drySet_7 : decode cX5_drySet 7 = .ok (.if_icmp .ge 32, 3) := by decide +kernel
theorem dX5_drySet_10 : decode cX5_drySet 10 = .ok (.iload_n 1, 1) := by decide +kernel
theorem dX5_drySet_11 : decode cX5_drySet 11 = .ok (.aload_n 0, 1) := by decide +kernel
theorem dX5_drySet_12 : decode cX5_drySet 12 = .ok (.getfield 26, 3) := by decide +kernel
theorem dX5_drySet_15 : decode cX5_drySet 15 = .ok (.iconst 3, 1) := by decide +kernel
theorem dX5_drySet_16 : decode cX5_drySet 16 = .ok (.iload_n 2, 1) := by decide +kernel
theorem dX5_drySet_17 : decode cX5_drySet 17 = .ok (.imul, 1) := by decide +kernel
theorem dX5_drySet_18 : decode cX5_drySet 18 = .ok (.iconst 2, 1) := by decide +kernel
theorem dX5_drySet_19 : decode cX5_drySet 19 = .ok (.iadd, 1) := by decide +kernel
theorem dX5_drySet_20 : decode cX5_drySet 20 = .ok (.iaload, 1) := by decide +kernel
theorem dX5_drySet_21 : decode cX5_drySet 21 = .ok (.ifCond .ne 7, 3) := by decide +kernel
theorem dX5_drySet_24 : decode cX5_drySet 24 = .ok (.iconst 1, 1) := by decide +kernel
theorem dX5_drySet_25 : decode cX5_drySet 25 = .ok (.goto 4, 3) := by decide +kernel
theorem dX5_drySet_28 : decode cX5_drySet 28 = .ok (.iconst 0, 1) := by decide +kernel
theorem dX5_drySet_29 : decode cX5_drySet 29 = .ok (.iload_n 2, 1) := by decide +kernel
theorem dX5_drySet_30 : decode cX5_drySet 30 = .ok (.ishl, 1) := by decide +kernel
theorem dX5_drySet_31 : decode cX5_drySet 31 = .ok (.ior, 1) := by decide +kernel
theorem dX5_drySet_32 : decode cX5_drySet 32 = .ok (.istore_n 1, 1) := by decide +kernel
theorem dX5_drySet_33 : decode cX5_drySet 33 = .ok (.iinc 2 1, 3) := by decide +kernel
theorem dX5_drySet_36 : decode cX5_drySet 36 = .ok (.goto (-32), 3) := by decide +kernel
theorem dX5_drySet_39 : decode cX5_drySet 39 = .ok (.iload_n 1, 1) := by decide +kernel
theorem dX5_drySet_40 : decode cX5_drySet 40 = .ok (.ireturn, 1) := by decide +kernel
theorem dX5_bitsOf_0 : decode cX5_bitsOf 0 = .ok (.iconst 0, 1) := by decide +kernel
theorem dX5_bitsOf_1 : decode cX5_bitsOf 1 = .ok (.istore_n 1, 1) := by decide +kernel
theorem dX5_bitsOf_2 : decode cX5_bitsOf 2 = .ok (.iload_n 0, 1) := by decide +kernel
theorem dX5_bitsOf_3 : decode cX5_bitsOf 3 = .ok (.istore_n 2, 1) := by decide +kernel
theorem dX5_bitsOf_4 : decode cX5_bitsOf 4 = .ok (.iload_n 2, 1) := by decide +kernel
theorem dX5_bitsOf_5 : decode cX5_bitsOf 5 = .ok (.ifCond .eq 15, 3) := by decide +kernel
theorem dX5_bitsOf_8 : decode cX5_bitsOf 8 = .ok (.iinc 1 1, 3) := by decide +kernel
theorem dX5_bitsOf_11 : decode cX5_bitsOf 11 = .ok (.iload_n 2, 1) := by decide +kernel
theorem dX5_bitsOf_12 : decode cX5_bitsOf 12 = .ok (.iload_n 2, 1) := by decide +kernel
theorem dX5_bitsOf_13 : decode cX5_bitsOf 13 = .ok (.iconst 1, 1) := by decide +kernel
theorem dX5_bitsOf_14 : decode cX5_bitsOf 14 = .ok (.isub, 1) := by decide +kernel
theorem dX5_bitsOf_15 : decode cX5_bitsOf 15 = .ok (.iand, 1) := by decide +kernel
theorem dX5_bitsOf_16 : decode cX5_bitsOf 16 = .ok (.istore_n 2, 1) := by decide +kernel
theorem dX5_bitsOf_17 : decode cX5_bitsOf 17 = .ok (.goto (-13), 3) := by decide +kernel
theorem dX5_bitsOf_20 : decode cX5_bitsOf 20 = .ok (.iload_n 1, 1) := by decide +kernel
theorem dX5_bitsOf_21 : decode cX5_bitsOf 21 = .ok (.ireturn, 1) := by decide +kernel
theorem dX5_year_0 : decode cX5_year 0 = .ok (.aload_n 0, 1) := by decide +kernel
theorem dX5_year_1 : decode cX5_year 1 = .ok (.getfield 107, 3) := by decide +kernel
theorem dX5_year_4 : decode cX5_year 4 = .ok (.sipush 999, 3) := by decide +kernel
theorem dX5_year_7 : decode cX5_year 7 = .ok (.if_icmp .ne 6, 3) := by decide +kernel
theorem dX5_year_10 : decode cX5_year 10 = .ok (.bipush (-3), 2) := by decide +kernel
theorem dX5_year_12 : decode cX5_year 12 = .ok (.ireturn, 1) := by decide +kernel
theorem dX5_year_13 : decode cX5_year 13 = .ok (.aload_n 0, 1) := by decide +kernel
theorem dX5_year_14 : decode cX5_year 14 = .ok (.invokevirtual 360, 3) := by decide +kernel
theorem dX5_year_17 : decode cX5_year 17 = .ok (.aload_n 0, 1) := by decide +kernel
theorem dX5_year_18 : decode cX5_year 18 = .ok (.invokevirtual 363, 3) := by decide +kernel
theorem dX5_year_21 : decode cX5_year 21 = .ok (.invokestatic 366, 3) := by decide +kernel
theorem dX5_year_24 : decode cX5_year 24 = .ok (.ireturn, 1) := by decide +kernel
theorem dX5_runs_0 : decode cX5_runs 0 = .ok (.aload_n 0, 1) := by decide +kernel
theorem dX5_runs_1 : decode cX5_runs 1 = .ok (.getfield 107, 3) := by decide +kernel
theorem dX5_runs_4 : decode cX5_runs 4 = .ok (.istore 4, 2) := by decide +kernel
theorem dX5_runs_6 : decode cX5_runs 6 = .ok (.aload_n 0, 1) := by decide +kernel
theorem dX5_runs_7 : decode cX5_runs 7 = .ok (.getfield 357, 3) := by decide +kernel
theorem dX5_runs_10 : decode cX5_runs 10 = .ok (.istore 5, 2) := by decide +kernel
theorem dX5_runs_12 : decode cX5_runs 12 = .ok (.iload_n 3, 1) := by decide +kernel
theorem dX5_runs_13 : decode cX5_runs 13 = .ok (.istore 6, 2) := by decide +kernel
theorem dX5_runs_15 : decode cX5_runs 15 = .ok (.iconst 0, 1) := by decide +kernel
theorem dX5_runs_16 : decode cX5_runs 16 = .ok (.istore 7, 2) := by decide +kernel
theorem dX5_runs_18 : decode cX5_runs 18 = .ok (.iload 7, 2) := by decide +kernel
theorem dX5_runs_20 : decode cX5_runs 20 = .ok (.bipush 36, 2) := by decide +kernel
theorem dX5_runs_22 : decode cX5_runs 22 = .ok (.if_icmp .ge 23, 3) := by decide +kernel
theorem dX5_runs_25 : decode cX5_runs 25 = .ok (.aload_n 0, 1) := by decide +kernel
theorem dX5_runs_26 : decode cX5_runs 26 = .ok (.getfield 35, 3) := by decide +kernel
theorem dX5_runs_29 : decode cX5_runs 29 = .ok (.iload 7, 2) := by decide +kernel
theorem dX5_runs_31 : decode cX5_runs 31 = .ok (.aload_n 0, 1) := by decide +kernel
theorem dX5_runs_32 : decode cX5_runs 32 = .ok (.getfield 26, 3) := by decide +kernel
theorem dX5_runs_35 : decode cX5_runs 35 = .ok (.iload 7, 2) := by decide +kernel
theorem dX5_runs_37 : decode cX5_runs 37 = .ok (.iaload, 1) := by decide +kernel
theorem dX5_runs_38 : decode cX5_runs 38 = .ok (.iastore, 1) := by decide +kernel
theorem dX5_runs_39 : decode cX5_runs 39 = .ok (.iinc 7 1, 3) := by decide +kernel
theorem dX5_runs_42 : decode cX5_runs 42 = .ok (.goto (-24), 3) := by decide +kernel
theorem dX5_runs_45 : decode cX5_runs 45 = .ok (.iconst 0, 1) := by decide +kernel
theorem dX5_runs_46 : decode cX5_runs 46 = .ok (.istore 7, 2) := by decide +kernel
theorem dX5_runs_48 : decode cX5_runs 48 = .ok (.iload 7, 2) := by decide +kernel
theorem dX5_runs_50 : decode cX5_runs 50 = .ok (.iload_n 1, 1) := by decide +kernel
theorem dX5_runs_51 : decode cX5_runs 51 = .ok (.if_icmp .ge 70, 3) := by decide +kernel
theorem dX5_runs_54 : decode cX5_runs 54 = .ok (.iload 6, 2) := by decide +kernel
theorem dX5_runs_56 : decode cX5_runs 56 = .ok (.ldc_w 369, 3) := by decide +kernel
theorem dX5_runs_59 : decode cX5_runs 59 = .ok (.imul, 1) := by decide +kernel
theorem dX5_runs_60 : decode cX5_runs 60 = .ok (.sipush 12345, 3) := by decide +kernel
theorem dX5_runs_63 : decode cX5_runs 63 = .ok (.iadd, 1) := by decide +kernel
theorem dX5_runs_64 : decode cX5_runs 64 = .ok (.istore 6, 2) := by decide +kernel
theorem dX5_runs_66 : decode cX5_runs 66 = .ok (.iconst 0, 1) := by decide +kernel
theorem dX5_runs_67 : decode cX5_runs 67 = .ok (.istore 8, 2) := by decide +kernel
theorem dX5_runs_69 : decode cX5_runs 69 = .ok (.iload 8, 2) := by decide +kernel
theorem dX5_runs_71 : decode cX5_runs 71 = .ok (.bipush 12, 2) := by decide +kernel
theorem dX5_runs_73 : decode cX5_runs 73 = .ok (.if_icmp .ge 27, 3) := by decide +kernel
theorem dX5_runs_76 : decode cX5_runs 76 = .ok (.iload_n 2, 1) := by decide +kernel
theorem dX5_runs_77 : decode cX5_runs 77 = .ok (.ifCond .eq 23, 3) := by decide +kernel
theorem dX5_runs_80 : decode cX5_runs 80 = .ok (.aload_n 0, 1) := by decide +kernel
theorem dX5_runs_81 : decode cX5_runs 81 = .ok (.iload 8, 2) := by decide +kernel
theorem dX5_runs_83 : decode cX5_runs 83 = .ok (.iload 6, 2) := by decide +kernel
theorem dX5_runs_85 : decode cX5_runs 85 = .ok (.bipush 9, 2) := by decide +kernel
theorem dX5_runs_87 : decode cX5_runs 87 = .ok (.iushr, 1) := by decide +kernel
theorem dX5_runs_88 : decode cX5_runs 88 = .ok (.bipush 10, 2) := by decide +kernel
theorem dX5_runs_90 : decode cX5_runs 90 = .ok (.irem, 1) := by decide +kernel
theorem dX5_runs_91 : decode cX5_runs 91 = .ok (.invokevirtual 344, 3) := by decide +kernel
theorem dX5_runs_94 : decode cX5_runs 94 = .ok (.iinc 8 1, 3) := by decide +kernel
theorem dX5_runs_97 : decode cX5_runs 97 = .ok (.goto (-28), 3) := by decide +kernel
theorem dX5_runs_100 : decode cX5_runs 100 = .ok (.aload_n 0, 1) := by decide +kernel
theorem dX5_runs_101 : decode cX5_runs 101 = .ok (.invokevirtual 360, 3) := by decide +kernel
theorem dX5_runs_104 : decode cX5_runs 104 = .ok (.aload_n 0, 1) := by decide +kernel
theorem dX5_runs_105 : decode cX5_runs 105 = .ok (.getfield 41, 3) := by decide +kernel
theorem dX5_runs_108 : decode cX5_runs 108 = .ok (.iload 7, 2) := by decide +kernel
theorem dX5_runs_110 : decode cX5_runs 110 = .ok (.aload_n 0, 1) := by decide +kernel
theorem dX5_runs_111 : decode cX5_runs 111 = .ok (.invokevirtual 363, 3) := by decide +kernel
theorem dX5_runs_114 : decode cX5_runs 114 = .ok (.iastore, 1) := by decide +kernel
theorem dX5_runs_115 : decode cX5_runs 115 = .ok (.iinc 7 1, 3) := by decide +kernel
theorem dX5_runs_118 : decode cX5_runs 118 = .ok (.goto (-70), 3) := by decide +kernel
theorem dX5_runs_121 : decode cX5_runs 121 = .ok (.aload_n 0, 1) := by decide +kernel
theorem dX5_runs_122 : decode cX5_runs 122 = .ok (.aload_n 0, 1) := by decide +kernel
theorem dX5_runs_123 : decode cX5_runs 123 = .ok (.invokevirtual 363, 3) := by decide +kernel
theorem dX5_runs_126 : decode cX5_runs 126 = .ok (.putfield 370, 3) := by decide +kernel
theorem dX5_runs_129 : decode cX5_runs 129 = .ok (.aload_n 0, 1) := by decide +kernel
theorem dX5_runs_130 : decode cX5_runs 130 = .ok (.aload_n 0, 1) := by decide +kernel
theorem dX5_runs_131 : decode cX5_runs 131 = .ok (.getfield 357, 3) := by decide +kernel
theorem dX5_runs_134 : decode cX5_runs 134 = .ok (.iload 5, 2) := by decide +kernel
theorem dX5_runs_136 : decode cX5_runs 136 = .ok (.isub, 1) := by decide +kernel
theorem dX5_runs_137 : decode cX5_runs 137 = .ok (.putfield 373, 3) := by decide +kernel
theorem dX5_runs_140 : decode cX5_runs 140 = .ok (.iconst 0, 1) := by decide +kernel
theorem dX5_runs_141 : decode cX5_runs 141 = .ok (.istore 7, 2) := by decide +kernel
theorem dX5_runs_143 : decode cX5_runs 143 = .ok (.iload 7, 2) := by decide +kernel
theorem dX5_runs_145 : decode cX5_runs 145 = .ok (.bipush 36, 2) := by decide +kernel
theorem dX5_runs_147 : decode cX5_runs 147 = .ok (.if_icmp .ge 37, 3) := by decide +kernel
theorem dX5_runs_150 : decode cX5_runs 150 = .ok (.aload_n 0, 1) := by decide +kernel
theorem dX5_runs_151 : decode cX5_runs 151 = .ok (.getfield 38, 3) := by decide +kernel
theorem dX5_runs_154 : decode cX5_runs 154 = .ok (.iload 7, 2) := by decide +kernel
theorem dX5_runs_156 : decode cX5_runs 156 = .ok (.aload_n 0, 1) := by decide +kernel
theorem dX5_runs_157 : decode cX5_runs 157 = .ok (.getfield 26, 3) := by decide +kernel
theorem dX5_runs_160 : decode cX5_runs 160 = .ok (.iload 7, 2) := by decide +kernel
theorem dX5_runs_162 : decode cX5_runs 162 = .ok (.iaload, 1) := by decide +kernel
theorem dX5_runs_163 : decode cX5_runs 163 = .ok (.iastore, 1) := by decide +kernel
theorem dX5_runs_164 : decode cX5_runs 164 = .ok (.aload_n 0, 1) := by decide +kernel
theorem dX5_runs_165 : decode cX5_runs 165 = .ok (.getfield 26, 3) := by decide +kernel
theorem dX5_runs_168 : decode cX5_runs 168 = .ok (.iload 7, 2) := by decide +kernel
theorem dX5_runs_170 : decode cX5_runs 170 = .ok (.aload_n 0, 1) := by decide +kernel
theorem dX5_runs_171 : decode cX5_runs 171 = .ok (.getfield 35, 3) := by decide +kernel
theorem dX5_runs_174 : decode cX5_runs 174 = .ok (.iload 7, 2) := by decide +kernel
theorem dX5_runs_176 : decode cX5_runs 176 = .ok (.iaload, 1) := by decide +kernel
theorem dX5_runs_177 : decode cX5_runs 177 = .ok (.iastore, 1) := by decide +kernel
theorem dX5_runs_178 : decode cX5_runs 178 = .ok (.iinc 7 1, 3) := by decide +kernel
theorem dX5_runs_181 : decode cX5_runs 181 = .ok (.goto (-38), 3) := by decide +kernel
theorem dX5_runs_184 : decode cX5_runs 184 = .ok (.aload_n 0, 1) := by decide +kernel
theorem dX5_runs_185 : decode cX5_runs 185 = .ok (.iload 4, 2) := by decide +kernel
theorem dX5_runs_187 : decode cX5_runs 187 = .ok (.putfield 107, 3) := by decide +kernel
theorem dX5_runs_190 : decode cX5_runs 190 = .ok (.aload_n 0, 1) := by decide +kernel
theorem dX5_runs_191 : decode cX5_runs 191 = .ok (.iload 5, 2) := by decide +kernel
theorem dX5_runs_193 : decode cX5_runs 193 = .ok (.putfield 357, 3) := by decide +kernel
theorem dX5_runs_196 : decode cX5_runs 196 = .ok (.return_, 1) := by decide +kernel
theorem dX5_dryBehind_0 : decode cX5_dryBehind 0 = .ok (.aload_n 0, 1) := by decide +kernel
theorem dX5_dryBehind_1 : decode cX5_dryBehind 1 = .ok (.iload_n 1, 1) := by decide +kernel
theorem dX5_dryBehind_2 : decode cX5_dryBehind 2 = .ok (.iconst 0, 1) := by decide +kernel
theorem dX5_dryBehind_3 : decode cX5_dryBehind 3 = .ok (.iconst 0, 1) := by decide +kernel
theorem dX5_dryBehind_4 : decode cX5_dryBehind 4 = .ok (.invokevirtual 376, 3) := by decide +kernel
theorem dX5_dryBehind_7 : decode cX5_dryBehind 7 = .ok (.aload_n 0, 1) := by decide +kernel
theorem dX5_dryBehind_8 : decode cX5_dryBehind 8 = .ok (.getfield 370, 3) := by decide +kernel
theorem dX5_dryBehind_11 : decode cX5_dryBehind 11 = .ok (.ireturn, 1) := by decide +kernel
theorem dX5_judged_0 : decode cX5_judged 0 = .ok (.iconst (-1), 1) := by decide +kernel
theorem dX5_judged_1 : decode cX5_judged 1 = .ok (.istore_n 2, 1) := by decide +kernel
theorem dX5_judged_2 : decode cX5_judged 2 = .ok (.iconst 0, 1) := by decide +kernel
theorem dX5_judged_3 : decode cX5_judged 3 = .ok (.istore_n 3, 1) := by decide +kernel
theorem dX5_judged_4 : decode cX5_judged 4 = .ok (.iload_n 3, 1) := by decide +kernel
theorem dX5_judged_5 : decode cX5_judged 5 = .ok (.iload_n 1, 1) := by decide +kernel
theorem dX5_judged_6 : decode cX5_judged 6 = .ok (.if_icmp .ge 41, 3) := by decide +kernel
theorem dX5_judged_9 : decode cX5_judged 9 = .ok (.iload_n 2, 1) := by decide +kernel
theorem dX5_judged_10 : decode cX5_judged 10 = .ok (.iconst (-1), 1) := by decide +kernel
theorem dX5_judged_11 : decode cX5_judged 11 = .ok (.if_icmp .eq 24, 3) := by decide +kernel
theorem dX5_judged_14 : decode cX5_judged 14 = .ok (.aload_n 0, 1) := by decide +kernel
theorem dX5_judged_15 : decode cX5_judged 15 = .ok (.getfield 41, 3) := by decide +kernel
theorem dX5_judged_18 : decode cX5_judged 18 = .ok (.iload_n 3, 1) := by decide +kernel
theorem dX5_judged_19 : decode cX5_judged 19 = .ok (.iaload, 1) := by decide +kernel
theorem dX5_judged_20 : decode cX5_judged 20 = .ok (.invokestatic 366, 3) := by decide +kernel
theorem dX5_judged_23 : decode cX5_judged 23 = .ok (.aload_n 0, 1) := by decide +kernel
theorem dX5_judged_24 : decode cX5_judged 24 = .ok (.getfield 41, 3) := by decide +kernel
theorem dX5_judged_27 : decode cX5_judged 27 = .ok (.iload_n 2, 1) := by decide +kernel
theorem dX5_judged_28 : decode cX5_judged 28 = .ok (.iaload, 1) := by decide +kernel
theorem dX5_judged_29 : decode cX5_judged 29 = .ok (.invokestatic 366, 3) := by decide +kernel
theorem dX5_judged_32 : decode cX5_judged 32 = .ok (.if_icmp .le 7, 3) := by decide +kernel
theorem dX5_judged_35 : decode cX5_judged 35 = .ok (.iload_n 3, 1) := by decide +kernel
theorem dX5_judged_36 : decode cX5_judged 36 = .ok (.goto 4, 3) := by decide +kernel
theorem dX5_judged_39 : decode cX5_judged 39 = .ok (.iload_n 2, 1) := by decide +kernel
theorem dX5_judged_40 : decode cX5_judged 40 = .ok (.istore_n 2, 1) := by decide +kernel
theorem dX5_judged_41 : decode cX5_judged 41 = .ok (.iinc 3 1, 3) := by decide +kernel
theorem dX5_judged_44 : decode cX5_judged 44 = .ok (.goto (-40), 3) := by decide +kernel
theorem dX5_judged_47 : decode cX5_judged 47 = .ok (.iload_n 2, 1) := by decide +kernel
theorem dX5_judged_48 : decode cX5_judged 48 = .ok (.ireturn, 1) := by decide +kernel
theorem dX5_kept_0 : decode cX5_kept 0 = .ok (.iconst 0, 1) := by decide +kernel
theorem dX5_kept_1 : decode cX5_kept 1 = .ok (.istore_n 2, 1) := by decide +kernel
theorem dX5_kept_2 : decode cX5_kept 2 = .ok (.iconst 0, 1) := by decide +kernel
theorem dX5_kept_3 : decode cX5_kept 3 = .ok (.istore_n 3, 1) := by decide +kernel
theorem dX5_kept_4 : decode cX5_kept 4 = .ok (.iconst 0, 1) := by decide +kernel
theorem dX5_kept_5 : decode cX5_kept 5 = .ok (.istore 4, 2) := by decide +kernel
theorem dX5_kept_7 : decode cX5_kept 7 = .ok (.iload 4, 2) := by decide +kernel
theorem dX5_kept_9 : decode cX5_kept 9 = .ok (.iload_n 1, 1) := by decide +kernel
theorem dX5_kept_10 : decode cX5_kept 10 = .ok (.if_icmp .ge 48, 3) := by decide +kernel
theorem dX5_kept_13 : decode cX5_kept 13 = .ok (.aload_n 0, 1) := by decide +kernel
theorem dX5_kept_14 : decode cX5_kept 14 = .ok (.getfield 41, 3) := by decide +kernel
theorem dX5_kept_17 : decode cX5_kept 17 = .ok (.iload 4, 2) := by decide +kernel
theorem dX5_kept_19 : decode cX5_kept 19 = .ok (.iaload, 1) := by decide +kernel
theorem dX5_kept_20 : decode cX5_kept 20 = .ok (.invokestatic 366, 3) := by decide +kernel
theorem dX5_kept_23 : decode cX5_kept 23 = .ok (.istore 5, 2) := by decide +kernel
theorem dX5_kept_25 : decode cX5_kept 25 = .ok (.iload_n 3, 1) := by decide +kernel
theorem dX5_kept_26 : decode cX5_kept 26 = .ok (.iload 5, 2) := by decide +kernel
theorem dX5_kept_28 : decode cX5_kept 28 = .ok (.iload_n 2, 1) := by decide +kernel
theorem dX5_kept_29 : decode cX5_kept 29 = .ok (.if_icmp .lt 7, 3) := by decide +kernel
theorem dX5_kept_32 : decode cX5_kept 32 = .ok (.iconst 1, 1) := by decide +kernel
theorem dX5_kept_33 : decode cX5_kept 33 = .ok (.goto 4, 3) := by decide +kernel
theorem dX5_kept_36 : decode cX5_kept 36 = .ok (.iconst 0, 1) := by decide +kernel
theorem dX5_kept_37 : decode cX5_kept 37 = .ok (.iadd, 1) := by decide +kernel
theorem dX5_kept_38 : decode cX5_kept 38 = .ok (.istore_n 3, 1) := by decide +kernel
theorem dX5_kept_39 : decode cX5_kept 39 = .ok (.iload 5, 2) := by decide +kernel
theorem dX5_kept_41 : decode cX5_kept 41 = .ok (.iload_n 2, 1) := by decide +kernel
theorem dX5_kept_42 : decode cX5_kept 42 = .ok (.if_icmp .le 8, 3) := by decide +kernel
theorem dX5_kept_45 : decode cX5_kept 45 = .ok (.iload 5, 2) := by decide +kernel
theorem dX5_kept_47 : decode cX5_kept 47 = .ok (.goto 4, 3) := by decide +kernel
theorem dX5_kept_50 : decode cX5_kept 50 = .ok (.iload_n 2, 1) := by decide +kernel
theorem dX5_kept_51 : decode cX5_kept 51 = .ok (.istore_n 2, 1) := by decide +kernel
theorem dX5_kept_52 : decode cX5_kept 52 = .ok (.iinc 4 1, 3) := by decide +kernel
theorem dX5_kept_55 : decode cX5_kept 55 = .ok (.goto (-48), 3) := by decide +kernel
theorem dX5_kept_58 : decode cX5_kept 58 = .ok (.iload_n 3, 1) := by decide +kernel
theorem dX5_kept_59 : decode cX5_kept 59 = .ok (.ireturn, 1) := by decide +kernel
theorem dX5_run_0 : decode cX5_run 0 = .ok (.iload_n 2, 1) := by decide +kernel
theorem dX5_run_1 : decode cX5_run 1 = .ok (.i2l, 1) := by decide +kernel
theorem dX5_run_2 : decode cX5_run 2 = .ok (.lconst 0, 1) := by decide +kernel
theorem dX5_run_3 : decode cX5_run 3 = .ok (.ldc2_w 380, 3) := by decide +kernel
theorem dX5_run_6 : decode cX5_run 6 = .ok (.invokestatic 76, 3) := by decide +kernel
theorem dX5_run_9 : decode cX5_run 9 = .ok (.ifCond .ne 33, 3) := by decide +kernel
theorem dX5_run_12 : decode cX5_run 12 = .ok (.iload_n 2, 1) := by decide +kernel
theorem dX5_run_13 : decode cX5_run 13 = .ok (.bipush 100, 2) := by decide +kernel
theorem dX5_run_15 : decode cX5_run 15 = .ok (.idiv, 1) := by decide +kernel
theorem dX5_run_16 : decode cX5_run 16 = .ok (.i2l, 1) := by decide +kernel
theorem dX5_run_17 : decode cX5_run 17 = .ok (.lconst 1, 1) := by decide +kernel
theorem dX5_run_18 : decode cX5_run 18 = .ok (.ldc2_w 382, 3) := by decide +kernel
theorem dX5_run_21 : decode cX5_run 21 = .ok (.invokestatic 76, 3) := by decide +kernel
theorem dX5_run_24 : decode cX5_run 24 = .ok (.ifCond .eq 22, 3) := by decide +kernel
theorem dX5_run_27 : decode cX5_run 27 = .ok (.iload_n 2, 1) := by decide +kernel
theorem dX5_run_28 : decode cX5_run 28 = .ok (.bipush 100, 2) := by decide +kernel
theorem dX5_run_30 : decode cX5_run 30 = .ok (.irem, 1) := by decide +kernel
theorem dX5_run_31 : decode cX5_run 31 = .ok (.i2l, 1) := by decide +kernel
theorem dX5_run_32 : decode cX5_run 32 = .ok (.lconst 0, 1) := by decide +kernel
theorem dX5_run_33 : decode cX5_run 33 = .ok (.ldc2_w 80, 3) := by decide +kernel
theorem dX5_run_36 : decode cX5_run 36 = .ok (.invokestatic 76, 3) := by decide +kernel
theorem dX5_run_39 : decode cX5_run 39 = .ok (.ifCond .eq 7, 3) := by decide +kernel
theorem dX5_run_42 : decode cX5_run 42 = .ok (.iconst 1, 1) := by decide +kernel
theorem dX5_run_43 : decode cX5_run 43 = .ok (.goto 4, 3) := by decide +kernel
theorem dX5_run_46 : decode cX5_run 46 = .ok (.iconst 0, 1) := by decide +kernel
theorem dX5_run_47 : decode cX5_run 47 = .ok (.istore_n 3, 1) := by decide +kernel
theorem dX5_run_48 : decode cX5_run 48 = .ok (.iload_n 1, 1) := by decide +kernel
theorem dX5_run_49 : decode cX5_run 49 = .ok (.i2l, 1) := by decide +kernel
theorem dX5_run_50 : decode cX5_run 50 = .ok (.lconst 0, 1) := by decide +kernel
theorem dX5_run_51 : decode cX5_run 51 = .ok (.ldc2_w 384, 3) := by decide +kernel
theorem dX5_run_54 : decode cX5_run 54 = .ok (.invokestatic 76, 3) := by decide +kernel
theorem dX5_run_57 : decode cX5_run 57 = .ok (.ifCond .eq 7, 3) := by decide +kernel
theorem dX5_run_60 : decode cX5_run 60 = .ok (.iload_n 3, 1) := by decide +kernel
theorem dX5_run_61 : decode cX5_run 61 = .ok (.ifCond .ne 6, 3) := by decide +kernel
theorem dX5_run_64 : decode cX5_run 64 = .ok (.bipush (-2), 2) := by decide +kernel
theorem dX5_run_66 : decode cX5_run 66 = .ok (.ireturn, 1) := by decide +kernel
theorem dX5_run_67 : decode cX5_run 67 = .ok (.aload_n 0, 1) := by decide +kernel
theorem dX5_run_68 : decode cX5_run 68 = .ok (.iload_n 1, 1) := by decide +kernel
theorem dX5_run_69 : decode cX5_run 69 = .ok (.iconst 0, 1) := by decide +kernel
theorem dX5_run_70 : decode cX5_run 70 = .ok (.iconst 0, 1) := by decide +kernel
theorem dX5_run_71 : decode cX5_run 71 = .ok (.invokevirtual 376, 3) := by decide +kernel
theorem dX5_run_74 : decode cX5_run 74 = .ok (.iload_n 2, 1) := by decide +kernel
theorem dX5_run_75 : decode cX5_run 75 = .ok (.iconst 4, 1) := by decide +kernel
theorem dX5_run_76 : decode cX5_run 76 = .ok (.if_icmp .le 22, 3) := by decide +kernel
theorem dX5_run_79 : decode cX5_run 79 = .ok (.aload_n 0, 1) := by decide +kernel
theorem dX5_run_80 : decode cX5_run 80 = .ok (.getfield 38, 3) := by decide +kernel
theorem dX5_run_83 : decode cX5_run 83 = .ok (.iconst 3, 1) := by decide +kernel
theorem dX5_run_84 : decode cX5_run 84 = .ok (.iload_n 2, 1) := by decide +kernel
theorem dX5_run_85 : decode cX5_run 85 = .ok (.bipush 100, 2) := by decide +kernel
theorem dX5_run_87 : decode cX5_run 87 = .ok (.irem, 1) := by decide +kernel
theorem dX5_run_88 : decode cX5_run 88 = .ok (.imul, 1) := by decide +kernel
theorem dX5_run_89 : decode cX5_run 89 = .ok (.iload_n 2, 1) := by decide +kernel
theorem dX5_run_90 : decode cX5_run 90 = .ok (.bipush 100, 2) := by decide +kernel
theorem dX5_run_92 : decode cX5_run 92 = .ok (.idiv, 1) := by decide +kernel
theorem dX5_run_93 : decode cX5_run 93 = .ok (.iadd, 1) := by decide +kernel
theorem dX5_run_94 : decode cX5_run 94 = .ok (.iconst 1, 1) := by decide +kernel
theorem dX5_run_95 : decode cX5_run 95 = .ok (.isub, 1) := by decide +kernel
theorem dX5_run_96 : decode cX5_run 96 = .ok (.iaload, 1) := by decide +kernel
theorem dX5_run_97 : decode cX5_run 97 = .ok (.ireturn, 1) := by decide +kernel
theorem dX5_run_98 : decode cX5_run 98 = .ok (.iload_n 2, 1) := by decide +kernel
theorem dX5_run_99 : decode cX5_run 99 = .ok (.iconst 2, 1) := by decide +kernel
theorem dX5_run_100 : decode cX5_run 100 = .ok (.if_icmp .ge 19, 3) := by decide +kernel
theorem dX5_run_103 : decode cX5_run 103 = .ok (.iload_n 2, 1) := by decide +kernel
theorem dX5_run_104 : decode cX5_run 104 = .ok (.ifCond .ne 10, 3) := by decide +kernel
theorem dX5_run_107 : decode cX5_run 107 = .ok (.aload_n 0, 1) := by decide +kernel
theorem dX5_run_108 : decode cX5_run 108 = .ok (.getfield 370, 3) := by decide +kernel
theorem dX5_run_111 : decode cX5_run 111 = .ok (.goto 7, 3) := by decide +kernel
theorem dX5_run_114 : decode cX5_run 114 = .ok (.aload_n 0, 1) := by decide +kernel
theorem dX5_run_115 : decode cX5_run 115 = .ok (.getfield 373, 3) := by decide +kernel
theorem dX5_run_118 : decode cX5_run 118 = .ok (.ireturn, 1) := by decide +kernel
theorem dX5_run_119 : decode cX5_run 119 = .ok (.aload_n 0, 1) := by decide +kernel
theorem dX5_run_120 : decode cX5_run 120 = .ok (.iload_n 1, 1) := by decide +kernel
theorem dX5_run_121 : decode cX5_run 121 = .ok (.invokevirtual 386, 3) := by decide +kernel
theorem dX5_run_124 : decode cX5_run 124 = .ok (.istore 4, 2) := by decide +kernel
theorem dX5_run_126 : decode cX5_run 126 = .ok (.iload_n 2, 1) := by decide +kernel
theorem dX5_run_127 : decode cX5_run 127 = .ok (.iconst 2, 1) := by decide +kernel
theorem dX5_run_128 : decode cX5_run 128 = .ok (.if_icmp .ne 8, 3) := by decide +kernel
theorem dX5_run_131 : decode cX5_run 131 = .ok (.iload 4, 2) := by decide +kernel
theorem dX5_run_133 : decode cX5_run 133 = .ok (.goto 36, 3) := by decide +kernel
theorem dX5_run_136 : decode cX5_run 136 = .ok (.iload_n 2, 1) := by decide +kernel
theorem dX5_run_137 : decode cX5_run 137 = .ok (.iconst 4, 1) := by decide +kernel
theorem dX5_run_138 : decode cX5_run 138 = .ok (.if_icmp .ne 11, 3) := by decide +kernel
theorem dX5_run_141 : decode cX5_run 141 = .ok (.aload_n 0, 1) := by decide +kernel
theorem dX5_run_142 : decode cX5_run 142 = .ok (.iload_n 1, 1) := by decide +kernel
theorem dX5_run_143 : decode cX5_run 143 = .ok (.invokevirtual 389, 3) := by decide +kernel
theorem dX5_run_146 : decode cX5_run 146 = .ok (.goto 23, 3) := by decide +kernel
theorem dX5_run_149 : decode cX5_run 149 = .ok (.iload 4, 2) := by decide +kernel
theorem dX5_run_151 : decode cX5_run 151 = .ok (.iconst (-1), 1) := by decide +kernel
theorem dX5_run_152 : decode cX5_run 152 = .ok (.if_icmp .ne 7, 3) := by decide +kernel
theorem dX5_run_155 : decode cX5_run 155 = .ok (.iconst (-1), 1) := by decide +kernel
theorem dX5_run_156 : decode cX5_run 156 = .ok (.goto 13, 3) := by decide +kernel
theorem dX5_run_159 : decode cX5_run 159 = .ok (.aload_n 0, 1) := by decide +kernel
theorem dX5_run_160 : decode cX5_run 160 = .ok (.getfield 41, 3) := by decide +kernel
theorem dX5_run_163 : decode cX5_run 163 = .ok (.iload 4, 2) := by decide +kernel
theorem dX5_run_165 : decode cX5_run 165 = .ok (.iaload, 1) := by decide +kernel
theorem dX5_run_166 : decode cX5_run 166 = .ok (.invokestatic 366, 3) := by decide +kernel
theorem dX5_run_169 : decode cX5_run 169 = .ok (.ireturn, 1) := by decide +kernel
theorem dX5_first_0 : decode cX5_first 0 = .ok (.iload_n 1, 1) := by decide +kernel
theorem dX5_first_1 : decode cX5_first 1 = .ok (.i2l, 1) := by decide +kernel
theorem dX5_first_2 : decode cX5_first 2 = .ok (.lconst 0, 1) := by decide +kernel
theorem dX5_first_3 : decode cX5_first 3 = .ok (.ldc2_w 384, 3) := by decide +kernel
theorem dX5_first_6 : decode cX5_first 6 = .ok (.invokestatic 76, 3) := by decide +kernel
theorem dX5_first_9 : decode cX5_first 9 = .ok (.ifCond .eq 15, 3) := by decide +kernel
theorem dX5_first_12 : decode cX5_first 12 = .ok (.iload_n 2, 1) := by decide +kernel
theorem dX5_first_13 : decode cX5_first 13 = .ok (.i2l, 1) := by decide +kernel
theorem dX5_first_14 : decode cX5_first 14 = .ok (.lconst 1, 1) := by decide +kernel
theorem dX5_first_15 : decode cX5_first 15 = .ok (.ldc2_w 392, 3) := by decide +kernel
theorem dX5_first_18 : decode cX5_first 18 = .ok (.invokestatic 76, 3) := by decide +kernel
theorem dX5_first_21 : decode cX5_first 21 = .ok (.ifCond .ne 6, 3) := by decide +kernel
theorem dX5_first_24 : decode cX5_first 24 = .ok (.bipush (-2), 2) := by decide +kernel
theorem dX5_first_26 : decode cX5_first 26 = .ok (.ireturn, 1) := by decide +kernel
theorem dX5_first_27 : decode cX5_first 27 = .ok (.aload_n 0, 1) := by decide +kernel
theorem dX5_first_28 : decode cX5_first 28 = .ok (.iload_n 1, 1) := by decide +kernel
theorem dX5_first_29 : decode cX5_first 29 = .ok (.iconst 0, 1) := by decide +kernel
theorem dX5_first_30 : decode cX5_first 30 = .ok (.iconst 0, 1) := by decide +kernel
theorem dX5_first_31 : decode cX5_first 31 = .ok (.invokevirtual 376, 3) := by decide +kernel
theorem dX5_first_34 : decode cX5_first 34 = .ok (.iconst 0, 1) := by decide +kernel
theorem dX5_first_35 : decode cX5_first 35 = .ok (.istore_n 3, 1) := by decide +kernel
theorem dX5_first_36 : decode cX5_first 36 = .ok (.iload_n 3, 1) := by decide +kernel
theorem dX5_first_37 : decode cX5_first 37 = .ok (.iload_n 1, 1) := by decide +kernel
theorem dX5_first_38 : decode cX5_first 38 = .ok (.if_icmp .ge 24, 3) := by decide +kernel
theorem dX5_first_41 : decode cX5_first 41 = .ok (.aload_n 0, 1) := by decide +kernel
theorem dX5_first_42 : decode cX5_first 42 = .ok (.getfield 41, 3) := by decide +kernel
theorem dX5_first_45 : decode cX5_first 45 = .ok (.iload_n 3, 1) := by decide +kernel
theorem dX5_first_46 : decode cX5_first 46 = .ok (.iaload, 1) := by decide +kernel
theorem dX5_first_47 : decode cX5_first 47 = .ok (.invokestatic 366, 3) := by decide +kernel
theorem dX5_first_50 : decode cX5_first 50 = .ok (.iload_n 2, 1) := by decide +kernel
theorem dX5_first_51 : decode cX5_first 51 = .ok (.if_icmp .lt 5, 3) := by decide +kernel
theorem dX5_first_54 : decode cX5_first 54 = .ok (.iload_n 3, 1) := by decide +kernel
theorem dX5_first_55 : decode cX5_first 55 = .ok (.ireturn, 1) := by decide +kernel
theorem dX5_first_56 : decode cX5_first 56 = .ok (.iinc 3 1, 3) := by decide +kernel
theorem dX5_first_59 : decode cX5_first 59 = .ok (.goto (-23), 3) := by decide +kernel
theorem dX5_first_62 : decode cX5_first 62 = .ok (.iconst (-1), 1) := by decide +kernel
theorem dX5_first_63 : decode cX5_first 63 = .ok (.ireturn, 1) := by decide +kernel
theorem dX5_where_0 : decode cX5_where 0 = .ok (.iload_n 1, 1) := by decide +kernel
theorem dX5_where_1 : decode cX5_where 1 = .ok (.i2l, 1) := by decide +kernel
theorem dX5_where_2 : decode cX5_where 2 = .ok (.lconst 0, 1) := by decide +kernel
theorem dX5_where_3 : decode cX5_where 3 = .ok (.ldc2_w 394, 3) := by decide +kernel
theorem dX5_where_6 : decode cX5_where 6 = .ok (.invokestatic 76, 3) := by decide +kernel
theorem dX5_where_9 : decode cX5_where 9 = .ok (.ifCond .eq 25, 3) := by decide +kernel
theorem dX5_where_12 : decode cX5_where 12 = .ok (.iload_n 2, 1) := by decide +kernel
theorem dX5_where_13 : decode cX5_where 13 = .ok (.i2l, 1) := by decide +kernel
theorem dX5_where_14 : decode cX5_where 14 = .ok (.lconst 0, 1) := by decide +kernel
theorem dX5_where_15 : decode cX5_where 15 = .ok (.ldc2_w 384, 3) := by decide +kernel
theorem dX5_where_18 : decode cX5_where 18 = .ok (.invokestatic 76, 3) := by decide +kernel
theorem dX5_where_21 : decode cX5_where 21 = .ok (.ifCond .eq 13, 3) := by decide +kernel
theorem dX5_where_24 : decode cX5_where 24 = .ok (.iload_n 3, 1) := by decide +kernel
theorem dX5_where_25 : decode cX5_where 25 = .ok (.i2l, 1) := by decide +kernel
theorem dX5_where_26 : decode cX5_where 26 = .ok (.lconst 0, 1) := by decide +kernel
theorem dX5_where_27 : decode cX5_where 27 = .ok (.lconst 1, 1) := by decide +kernel
theorem dX5_where_28 : decode cX5_where 28 = .ok (.invokestatic 76, 3) := by decide +kernel
theorem dX5_where_31 : decode cX5_where 31 = .ok (.ifCond .ne 6, 3) := by decide +kernel
theorem dX5_where_34 : decode cX5_where 34 = .ok (.bipush (-2), 2) := by decide +kernel
theorem dX5_where_36 : decode cX5_where 36 = .ok (.ireturn, 1) := by decide +kernel
theorem dX5_where_37 : decode cX5_where 37 = .ok (.aload_n 0, 1) := by decide +kernel
theorem dX5_where_38 : decode cX5_where 38 = .ok (.getfield 73, 3) := by decide +kernel
theorem dX5_where_41 : decode cX5_where 41 = .ok (.bipush 6, 2) := by decide +kernel
theorem dX5_where_43 : decode cX5_where 43 = .ok (.if_icmp .ne 6, 3) := by decide +kernel
theorem dX5_where_46 : decode cX5_where 46 = .ok (.bipush (-4), 2) := by decide +kernel
theorem dX5_where_48 : decode cX5_where 48 = .ok (.ireturn, 1) := by decide +kernel
theorem dX5_where_49 : decode cX5_where 49 = .ok (.iconst (-1), 1) := by decide +kernel
theorem dX5_where_50 : decode cX5_where 50 = .ok (.istore 4, 2) := by decide +kernel
theorem dX5_where_52 : decode cX5_where 52 = .ok (.iconst (-1), 1) := by decide +kernel
theorem dX5_where_53 : decode cX5_where 53 = .ok (.istore 5, 2) := by decide +kernel
theorem dX5_where_55 : decode cX5_where 55 = .ok (.iconst 0, 1) := by decide +kernel
theorem dX5_where_56 : decode cX5_where 56 = .ok (.istore 6, 2) := by decide +kernel
theorem dX5_where_58 : decode cX5_where 58 = .ok (.iload 6, 2) := by decide +kernel
theorem dX5_where_60 : decode cX5_where 60 = .ok (.bipush 12, 2) := by decide +kernel
theorem dX5_where_62 : decode cX5_where 62 = .ok (.if_icmp .ge 58, 3) := by decide +kernel
theorem dX5_where_65 : decode cX5_where 65 = .ok (.aload_n 0, 1) := by decide +kernel
theorem dX5_where_66 : decode cX5_where 66 = .ok (.iload_n 1, 1) := by decide +kernel
theorem dX5_where_67 : decode cX5_where 67 = .ok (.bipush 10, 2) := by decide +kernel
theorem dX5_where_69 : decode cX5_where 69 = .ok (.idiv, 1) := by decide +kernel
theorem dX5_where_70 : decode cX5_where 70 = .ok (.iload_n 1, 1) := by decide +kernel
theorem dX5_where_71 : decode cX5_where 71 = .ok (.bipush 10, 2) := by decide +kernel
theorem dX5_where_73 : decode cX5_where 73 = .ok (.irem, 1) := by decide +kernel
theorem dX5_where_74 : decode cX5_where 74 = .ok (.iload 6, 2) := by decide +kernel
theorem dX5_where_76 : decode cX5_where 76 = .ok (.invokevirtual 117, 3) := by decide +kernel
theorem dX5_where_79 : decode cX5_where 79 = .ok (.aload_n 0, 1) := by decide +kernel
theorem dX5_where_80 : decode cX5_where 80 = .ok (.iload_n 2, 1) := by decide +kernel
theorem dX5_where_81 : decode cX5_where 81 = .ok (.invokevirtual 396, 3) := by decide +kernel
theorem dX5_where_84 : decode cX5_where 84 = .ok (.invokestatic 366, 3) := by decide +kernel
theorem dX5_where_87 : decode cX5_where 87 = .ok (.istore 7, 2) := by decide +kernel
theorem dX5_where_89 : decode cX5_where 89 = .ok (.aload_n 0, 1) := by decide +kernel
theorem dX5_where_90 : decode cX5_where 90 = .ok (.dup, 1) := by decide +kernel
theorem dX5_where_91 : decode cX5_where 91 = .ok (.getfield 73, 3) := by decide +kernel
theorem dX5_where_94 : decode cX5_where 94 = .ok (.iconst 1, 1) := by decide +kernel
theorem dX5_where_95 : decode cX5_where 95 = .ok (.isub, 1) := by decide +kernel
theorem dX5_where_96 : decode cX5_where 96 = .ok (.putfield 73, 3) := by decide +kernel
theorem dX5_where_99 : decode cX5_where 99 = .ok (.iload 7, 2) := by decide +kernel
theorem dX5_where_101 : decode cX5_where 101 = .ok (.iload 5, 2) := by decide +kernel
theorem dX5_where_103 : decode cX5_where 103 = .ok (.if_icmp .le 11, 3) := by decide +kernel
theorem dX5_where_106 : decode cX5_where 106 = .ok (.iload 6, 2) := by decide +kernel
theorem dX5_where_108 : decode cX5_where 108 = .ok (.istore 4, 2) := by decide +kernel
theorem dX5_where_110 : decode cX5_where 110 = .ok (.iload 7, 2) := by decide +kernel
theorem dX5_where_112 : decode cX5_where 112 = .ok (.istore 5, 2) := by decide +kernel
theorem dX5_where_114 : decode cX5_where 114 = .ok (.iinc 6 1, 3) := by decide +kernel
theorem dX5_where_117 : decode cX5_where 117 = .ok (.goto (-59), 3) := by decide +kernel
theorem dX5_where_120 : decode cX5_where 120 = .ok (.iload_n 3, 1) := by decide +kernel
theorem dX5_where_121 : decode cX5_where 121 = .ok (.ifCond .ne 8, 3) := by decide +kernel
theorem dX5_where_124 : decode cX5_where 124 = .ok (.iload 4, 2) := by decide +kernel
theorem dX5_where_126 : decode cX5_where 126 = .ok (.goto 5, 3) := by decide +kernel
theorem dX5_where_129 : decode cX5_where 129 = .ok (.iload 5, 2) := by decide +kernel
theorem dX5_where_131 : decode cX5_where 131 = .ok (.ireturn, 1) := by decide +kernel
theorem dX5_dryWithout_0 : decode cX5_dryWithout 0 = .ok (.aload_n 0, 1) := by decide +kernel
theorem dX5_dryWithout_1 : decode cX5_dryWithout 1 = .ok (.getfield 32, 3) := by decide +kernel
theorem dX5_dryWithout_4 : decode cX5_dryWithout 4 = .ok (.iconst 3, 1) := by decide +kernel
theorem dX5_dryWithout_5 : decode cX5_dryWithout 5 = .ok (.iload_n 1, 1) := by decide +kernel
theorem dX5_dryWithout_6 : decode cX5_dryWithout 6 = .ok (.imul, 1) := by decide +kernel
theorem dX5_dryWithout_7 : decode cX5_dryWithout 7 = .ok (.iconst 2, 1) := by decide +kernel
theorem dX5_dryWithout_8 : decode cX5_dryWithout 8 = .ok (.iadd, 1) := by decide +kernel
theorem dX5_dryWithout_9 : decode cX5_dryWithout 9 = .ok (.iaload, 1) := by decide +kernel
theorem dX5_dryWithout_10 : decode cX5_dryWithout 10 = .ok (.istore_n 3, 1) := by decide +kernel
theorem dX5_dryWithout_11 : decode cX5_dryWithout 11 = .ok (.aload_n 0, 1) := by decide +kernel
theorem dX5_dryWithout_12 : decode cX5_dryWithout 12 = .ok (.getfield 32, 3) := by decide +kernel
theorem dX5_dryWithout_15 : decode cX5_dryWithout 15 = .ok (.iconst 3, 1) := by decide +kernel
theorem dX5_dryWithout_16 : decode cX5_dryWithout 16 = .ok (.iload_n 1, 1) := by decide +kernel
theorem dX5_dryWithout_17 : decode cX5_dryWithout 17 = .ok (.imul, 1) := by decide +kernel
theorem dX5_dryWithout_18 : decode cX5_dryWithout 18 = .ok (.iconst 2, 1) := by decide +kernel
theorem dX5_dryWithout_19 : decode cX5_dryWithout 19 = .ok (.iadd, 1) := by decide +kernel
theorem dX5_dryWithout_20 : decode cX5_dryWithout 20 = .ok (.iconst 0, 1) := by decide +kernel
theorem dX5_dryWithout_21 : decode cX5_dryWithout 21 = .ok (.iastore, 1) := by decide +kernel
theorem dX5_dryWithout_22 : decode cX5_dryWithout 22 = .ok (.aload_n 0, 1) := by decide +kernel
theorem dX5_dryWithout_23 : decode cX5_dryWithout 23 = .ok (.iload_n 2, 1) := by decide +kernel
theorem dX5_dryWithout_24 : decode cX5_dryWithout 24 = .ok (.invokevirtual 396, 3) := by decide +kernel
theorem dX5_dryWithout_27 : decode cX5_dryWithout 27 = .ok (.istore 4, 2) := by decide +kernel
theorem dX5_dryWithout_29 : decode cX5_dryWithout 29 = .ok (.aload_n 0, 1) := by decide +kernel
theorem dX5_dryWithout_30 : decode cX5_dryWithout 30 = .ok (.getfield 32, 3) := by decide +kernel
theorem dX5_dryWithout_33 : decode cX5_dryWithout 33 = .ok (.iconst 3, 1) := by decide +kernel
theorem dX5_dryWithout_34 : decode cX5_dryWithout 34 = .ok (.iload_n 1, 1) := by decide +kernel
theorem dX5_dryWithout_35 : decode cX5_dryWithout 35 = .ok (.imul, 1) := by decide +kernel
theorem dX5_dryWithout_36 : decode cX5_dryWithout 36 = .ok (.iconst 2, 1) := by decide +kernel
theorem dX5_dryWithout_37 : decode cX5_dryWithout 37 = .ok (.iadd, 1) := by decide +kernel
theorem dX5_dryWithout_38 : decode cX5_dryWithout 38 = .ok (.iload_n 3, 1) := by decide +kernel
theorem dX5_dryWithout_39 : decode cX5_dryWithout 39 = .ok (.iastore, 1) := by decide +kernel
theorem dX5_dryWithout_40 : decode cX5_dryWithout 40 = .ok (.iload 4, 2) := by decide +kernel
theorem dX5_dryWithout_42 : decode cX5_dryWithout 42 = .ok (.ireturn, 1) := by decide +kernel
theorem dX5_idle_0 : decode cX5_idle 0 = .ok (.iload_n 1, 1) := by decide +kernel
theorem dX5_idle_1 : decode cX5_idle 1 = .ok (.i2l, 1) := by decide +kernel
theorem dX5_idle_2 : decode cX5_idle 2 = .ok (.lconst 0, 1) := by decide +kernel
theorem dX5_idle_3 : decode cX5_idle 3 = .ok (.ldc2_w 384, 3) := by decide +kernel
theorem dX5_idle_6 : decode cX5_idle 6 = .ok (.invokestatic 76, 3) := by decide +kernel
theorem dX5_idle_9 : decode cX5_idle 9 = .ok (.ifCond .ne 6, 3) := by decide +kernel
theorem dX5_idle_12 : decode cX5_idle 12 = .ok (.bipush (-2), 2) := by decide +kernel
theorem dX5_idle_14 : decode cX5_idle 14 = .ok (.ireturn, 1) := by decide +kernel
theorem dX5_idle_15 : decode cX5_idle 15 = .ok (.aload_n 0, 1) := by decide +kernel
theorem dX5_idle_16 : decode cX5_idle 16 = .ok (.iload_n 1, 1) := by decide +kernel
theorem dX5_idle_17 : decode cX5_idle 17 = .ok (.invokevirtual 396, 3) := by decide +kernel
theorem dX5_idle_20 : decode cX5_idle 20 = .ok (.invokestatic 366, 3) := by decide +kernel
theorem dX5_idle_23 : decode cX5_idle 23 = .ok (.istore_n 2, 1) := by decide +kernel
theorem dX5_idle_24 : decode cX5_idle 24 = .ok (.iconst 0, 1) := by decide +kernel
theorem dX5_idle_25 : decode cX5_idle 25 = .ok (.istore_n 3, 1) := by decide +kernel
theorem dX5_idle_26 : decode cX5_idle 26 = .ok (.iload_n 3, 1) := by decide +kernel
theorem dX5_idle_27 : decode cX5_idle 27 = .ok (.aload_n 0, 1) := by decide +kernel
theorem dX5_idle_28 : decode cX5_idle 28 = .ok (.getfield 73, 3) := by decide +kernel
theorem dX5_idle_31 : decode cX5_idle 31 = .ok (.if_icmp .ge 38, 3) := by decide +kernel
theorem dX5_idle_34 : decode cX5_idle 34 = .ok (.aload_n 0, 1) := by decide +kernel
theorem dX5_idle_35 : decode cX5_idle 35 = .ok (.getfield 32, 3) := by decide +kernel
theorem dX5_idle_38 : decode cX5_idle 38 = .ok (.iconst 3, 1) := by decide +kernel
theorem dX5_idle_39 : decode cX5_idle 39 = .ok (.iload_n 3, 1) := by decide +kernel
theorem dX5_idle_40 : decode cX5_idle 40 = .ok (.imul, 1) := by decide +kernel
theorem dX5_idle_41 : decode cX5_idle 41 = .ok (.iconst 2, 1) := by decide +kernel
theorem dX5_idle_42 : decode cX5_idle 42 = .ok (.iadd, 1) := by decide +kernel
theorem dX5_idle_43 : decode cX5_idle 43 = .ok (.iaload, 1) := by decide +kernel
theorem dX5_idle_44 : decode cX5_idle 44 = .ok (.iconst 1, 1) := by decide +kernel
theorem dX5_idle_45 : decode cX5_idle 45 = .ok (.if_icmp .ne 18, 3) := by decide +kernel
theorem dX5_idle_48 : decode cX5_idle 48 = .ok (.aload_n 0, 1) := by decide +kernel
theorem dX5_idle_49 : decode cX5_idle 49 = .ok (.iload_n 3, 1) := by decide +kernel
theorem dX5_idle_50 : decode cX5_idle 50 = .ok (.iload_n 1, 1) := by decide +kernel
theorem dX5_idle_51 : decode cX5_idle 51 = .ok (.invokevirtual 399, 3) := by decide +kernel
theorem dX5_idle_54 : decode cX5_idle 54 = .ok (.invokestatic 366, 3) := by decide +kernel
theorem dX5_idle_57 : decode cX5_idle 57 = .ok (.iload_n 2, 1) := by decide +kernel
theorem dX5_idle_58 : decode cX5_idle 58 = .ok (.if_icmp .lt 5, 3) := by decide +kernel
theorem dX5_idle_61 : decode cX5_idle 61 = .ok (.iload_n 3, 1) := by decide +kernel
theorem dX5_idle_62 : decode cX5_idle 62 = .ok (.ireturn, 1) := by decide +kernel
theorem dX5_idle_63 : decode cX5_idle 63 = .ok (.iinc 3 1, 3) := by decide +kernel
theorem dX5_idle_66 : decode cX5_idle 66 = .ok (.goto (-40), 3) := by decide +kernel
theorem dX5_idle_69 : decode cX5_idle 69 = .ok (.iconst (-1), 1) := by decide +kernel
theorem dX5_idle_70 : decode cX5_idle 70 = .ok (.ireturn, 1) := by decide +kernel
theorem dX5_low_0 : decode cX5_low 0 = .ok (.iload_n 1, 1) := by decide +kernel
theorem dX5_low_1 : decode cX5_low 1 = .ok (.i2l, 1) := by decide +kernel
theorem dX5_low_2 : decode cX5_low 2 = .ok (.lconst 0, 1) := by decide +kernel
theorem dX5_low_3 : decode cX5_low 3 = .ok (.ldc2_w 384, 3) := by decide +kernel
theorem dX5_low_6 : decode cX5_low 6 = .ok (.invokestatic 76, 3) := by decide +kernel
theorem dX5_low_9 : decode cX5_low 9 = .ok (.ifCond .eq 15, 3) := by decide +kernel
theorem dX5_low_12 : decode cX5_low 12 = .ok (.iload_n 2, 1) := by decide +kernel
theorem dX5_low_13 : decode cX5_low 13 = .ok (.i2l, 1) := by decide +kernel
theorem dX5_low_14 : decode cX5_low 14 = .ok (.lconst 1, 1) := by decide +kernel
theorem dX5_low_15 : decode cX5_low 15 = .ok (.ldc2_w 392, 3) := by decide +kernel
theorem dX5_low_18 : decode cX5_low 18 = .ok (.invokestatic 76, 3) := by decide +kernel
theorem dX5_low_21 : decode cX5_low 21 = .ok (.ifCond .ne 6, 3) := by decide +kernel
theorem dX5_low_24 : decode cX5_low 24 = .ok (.bipush (-2), 2) := by decide +kernel
theorem dX5_low_26 : decode cX5_low 26 = .ok (.ireturn, 1) := by decide +kernel
theorem dX5_low_27 : decode cX5_low 27 = .ok (.aload_n 0, 1) := by decide +kernel
theorem dX5_low_28 : decode cX5_low 28 = .ok (.getfield 23, 3) := by decide +kernel
theorem dX5_low_31 : decode cX5_low 31 = .ok (.istore_n 3, 1) := by decide +kernel
theorem dX5_low_32 : decode cX5_low 32 = .ok (.iconst (-1), 1) := by decide +kernel
theorem dX5_low_33 : decode cX5_low 33 = .ok (.istore 4, 2) := by decide +kernel
theorem dX5_low_35 : decode cX5_low 35 = .ok (.bipush 99, 2) := by decide +kernel
theorem dX5_low_37 : decode cX5_low 37 = .ok (.istore 5, 2) := by decide +kernel
theorem dX5_low_39 : decode cX5_low 39 = .ok (.iload 5, 2) := by decide +kernel
theorem dX5_low_41 : decode cX5_low 41 = .ok (.ifCond .lt 41, 3) := by decide +kernel
theorem dX5_low_44 : decode cX5_low 44 = .ok (.iload 4, 2) := by decide +kernel
theorem dX5_low_46 : decode cX5_low 46 = .ok (.iconst (-1), 1) := by decide +kernel
theorem dX5_low_47 : decode cX5_low 47 = .ok (.if_icmp .ne 35, 3) := by decide +kernel
theorem dX5_low_50 : decode cX5_low 50 = .ok (.aload_n 0, 1) := by decide +kernel
theorem dX5_low_51 : decode cX5_low 51 = .ok (.iload 5, 2) := by decide +kernel
theorem dX5_low_53 : decode cX5_low 53 = .ok (.putfield 23, 3) := by decide +kernel
theorem dX5_low_56 : decode cX5_low 56 = .ok (.aload_n 0, 1) := by decide +kernel
theorem dX5_low_57 : decode cX5_low 57 = .ok (.iload_n 1, 1) := by decide +kernel
theorem dX5_low_58 : decode cX5_low 58 = .ok (.invokevirtual 396, 3) := by decide +kernel
theorem dX5_low_61 : decode cX5_low 61 = .ok (.invokestatic 366, 3) := by decide +kernel
theorem dX5_low_64 : decode cX5_low 64 = .ok (.iload_n 2, 1) := by decide +kernel
theorem dX5_low_65 : decode cX5_low 65 = .ok (.if_icmp .lt 8, 3) := by decide +kernel
theorem dX5_low_68 : decode cX5_low 68 = .ok (.iload 5, 2) := by decide +kernel
theorem dX5_low_70 : decode cX5_low 70 = .ok (.goto 4, 3) := by decide +kernel
theorem dX5_low_73 : decode cX5_low 73 = .ok (.iconst (-1), 1) := by decide +kernel
theorem dX5_low_74 : decode cX5_low 74 = .ok (.istore 4, 2) := by decide +kernel
theorem dX5_low_76 : decode cX5_low 76 = .ok (.iinc 5 (-1), 3) := by decide +kernel
theorem dX5_low_79 : decode cX5_low 79 = .ok (.goto (-40), 3) := by decide +kernel
theorem dX5_low_82 : decode cX5_low 82 = .ok (.aload_n 0, 1) := by decide +kernel
theorem dX5_low_83 : decode cX5_low 83 = .ok (.iload_n 3, 1) := by decide +kernel
theorem dX5_low_84 : decode cX5_low 84 = .ok (.putfield 23, 3) := by decide +kernel
theorem dX5_low_87 : decode cX5_low 87 = .ok (.iload 4, 2) := by decide +kernel
theorem dX5_low_89 : decode cX5_low 89 = .ok (.ireturn, 1) := by decide +kernel
theorem dX5_floods_0 : decode cX5_floods 0 = .ok (.aload_n 0, 1) := by decide +kernel
theorem dX5_floods_1 : decode cX5_floods 1 = .ok (.iload_n 1, 1) := by decide +kernel
theorem dX5_floods_2 : decode cX5_floods 2 = .ok (.invokevirtual 86, 3) := by decide +kernel
theorem dX5_floods_5 : decode cX5_floods 5 = .ok (.ifCond .eq 15, 3) := by decide +kernel
theorem dX5_floods_8 : decode cX5_floods 8 = .ok (.iload_n 2, 1) := by decide +kernel
theorem dX5_floods_9 : decode cX5_floods 9 = .ok (.i2l, 1) := by decide +kernel
theorem dX5_floods_10 : decode cX5_floods 10 = .ok (.lconst 0, 1) := by decide +kernel
theorem dX5_floods_11 : decode cX5_floods 11 = .ok (.ldc2_w 384, 3) := by decide +kernel
theorem dX5_floods_14 : decode cX5_floods 14 = .ok (.invokestatic 76, 3) := by decide +kernel
theorem dX5_floods_17 : decode cX5_floods 17 = .ok (.ifCond .ne 6, 3) := by decide +kernel
theorem dX5_floods_20 : decode cX5_floods 20 = .ok (.bipush (-2), 2) := by decide +kernel
theorem dX5_floods_22 : decode cX5_floods 22 = .ok (.ireturn, 1) := by decide +kernel
theorem dX5_floods_23 : decode cX5_floods 23 = .ok (.aload_n 0, 1) := by decide +kernel
theorem dX5_floods_24 : decode cX5_floods 24 = .ok (.iload_n 1, 1) := by decide +kernel
theorem dX5_floods_25 : decode cX5_floods 25 = .ok (.iload_n 2, 1) := by decide +kernel
theorem dX5_floods_26 : decode cX5_floods 26 = .ok (.invokevirtual 399, 3) := by decide +kernel
theorem dX5_floods_29 : decode cX5_floods 29 = .ok (.istore_n 3, 1) := by decide +kernel
theorem dX5_floods_30 : decode cX5_floods 30 = .ok (.iload_n 3, 1) := by decide +kernel
theorem dX5_floods_31 : decode cX5_floods 31 = .ok (.aload_n 0, 1) := by decide +kernel
theorem dX5_floods_32 : decode cX5_floods 32 = .ok (.iload_n 2, 1) := by decide +kernel
theorem dX5_floods_33 : decode cX5_floods 33 = .ok (.invokevirtual 396, 3) := by decide +kernel
theorem dX5_floods_36 : decode cX5_floods 36 = .ok (.iconst (-1), 1) := by decide +kernel
theorem dX5_floods_37 : decode cX5_floods 37 = .ok (.ixor, 1) := by decide +kernel
theorem dX5_floods_38 : decode cX5_floods 38 = .ok (.iand, 1) := by decide +kernel
theorem dX5_floods_39 : decode cX5_floods 39 = .ok (.ireturn, 1) := by decide +kernel
theorem dX5_firstOther_0 : decode cX5_firstOther 0 = .ok (.aload_n 0, 1) := by decide +kernel
theorem dX5_firstOther_1 : decode cX5_firstOther 1 = .ok (.aload_n 0, 1) := by decide +kernel
theorem dX5_firstOther_2 : decode cX5_firstOther 2 = .ok (.getfield 60, 3) := by decide +kernel
theorem dX5_firstOther_5 : decode cX5_firstOther 5 = .ok (.iload_n 1, 1) := by decide +kernel
theorem dX5_firstOther_6 : decode cX5_firstOther 6 = .ok (.iaload, 1) := by decide +kernel
theorem dX5_firstOther_7 : decode cX5_firstOther 7 = .ok (.iconst 0, 1) := by decide +kernel
theorem dX5_firstOther_8 : decode cX5_firstOther 8 = .ok (.iconst 0, 1) := by decide +kernel
theorem dX5_firstOther_9 : decode cX5_firstOther 9 = .ok (.invokevirtual 376, 3) := by decide +kernel
theorem dX5_firstOther_12 : decode cX5_firstOther 12 = .ok (.iconst 0, 1) := by decide +kernel
theorem dX5_firstOther_13 : decode cX5_firstOther 13 = .ok (.istore_n 2, 1) := by decide +kernel
theorem dX5_firstOther_14 : decode cX5_firstOther 14 = .ok (.iload_n 2, 1) := by decide +kernel
theorem dX5_firstOther_15 : decode cX5_firstOther 15 = .ok (.aload_n 0, 1) := by decide +kernel
theorem dX5_firstOther_16 : decode cX5_firstOther 16 = .ok (.getfield 60, 3) := by decide +kernel
theorem dX5_firstOther_19 : decode cX5_firstOther 19 = .ok (.iload_n 1, 1) := by decide +kernel
theorem dX5_firstOther_20 : decode cX5_firstOther 20 = .ok (.iaload, 1) := by decide +kernel
theorem dX5_firstOther_21 : decode cX5_firstOther 21 = .ok (.if_icmp .ge 31, 3) := by decide +kernel
theorem dX5_firstOther_24 : decode cX5_firstOther 24 = .ok (.aload_n 0, 1) := by decide +kernel
theorem dX5_firstOther_25 : decode cX5_firstOther 25 = .ok (.getfield 41, 3) := by decide +kernel
theorem dX5_firstOther_28 : decode cX5_firstOther 28 = .ok (.iload_n 2, 1) := by decide +kernel
theorem dX5_firstOther_29 : decode cX5_firstOther 29 = .ok (.iaload, 1) := by decide +kernel
theorem dX5_firstOther_30 : decode cX5_firstOther 30 = .ok (.aload_n 0, 1) := by decide +kernel
theorem dX5_firstOther_31 : decode cX5_firstOther 31 = .ok (.getfield 63, 3) := by decide +kernel
theorem dX5_firstOther_34 : decode cX5_firstOther 34 = .ok (.bipush 40, 2) := by decide +kernel
theorem dX5_firstOther_36 : decode cX5_firstOther 36 = .ok (.iload_n 1, 1) := by decide +kernel
theorem dX5_firstOther_37 : decode cX5_firstOther 37 = .ok (.imul, 1) := by decide +kernel
theorem dX5_firstOther_38 : decode cX5_firstOther 38 = .ok (.iload_n 2, 1) := by decide +kernel
theorem dX5_firstOther_39 : decode cX5_firstOther 39 = .ok (.iadd, 1) := by decide +kernel
theorem dX5_firstOther_40 : decode cX5_firstOther 40 = .ok (.iaload, 1) := by decide +kernel
theorem dX5_firstOther_41 : decode cX5_firstOther 41 = .ok (.if_icmp .eq 5, 3) := by decide +kernel
theorem dX5_firstOther_44 : decode cX5_firstOther 44 = .ok (.iload_n 2, 1) := by decide +kernel
theorem dX5_firstOther_45 : decode cX5_firstOther 45 = .ok (.ireturn, 1) := by decide +kernel
theorem dX5_firstOther_46 : decode cX5_firstOther 46 = .ok (.iinc 2 1, 3) := by decide +kernel
theorem dX5_firstOther_49 : decode cX5_firstOther 49 = .ok (.goto (-35), 3) := by decide +kernel
theorem dX5_firstOther_52 : decode cX5_firstOther 52 = .ok (.iconst (-1), 1) := by decide +kernel
theorem dX5_firstOther_53 : decode cX5_firstOther 53 = .ok (.ireturn, 1) := by decide +kernel
theorem dX5_tells_0 : decode cX5_tells 0 = .ok (.iload_n 1, 1) := by decide +kernel
theorem dX5_tells_1 : decode cX5_tells 1 = .ok (.invokestatic 402, 3) := by decide +kernel
theorem dX5_tells_4 : decode cX5_tells 4 = .ok (.ifCond .eq 40, 3) := by decide +kernel
theorem dX5_tells_7 : decode cX5_tells 7 = .ok (.iload_n 2, 1) := by decide +kernel
theorem dX5_tells_8 : decode cX5_tells 8 = .ok (.i2l, 1) := by decide +kernel
theorem dX5_tells_9 : decode cX5_tells 9 = .ok (.lconst 0, 1) := by decide +kernel
theorem dX5_tells_10 : decode cX5_tells 10 = .ok (.ldc2_w 382, 3) := by decide +kernel
theorem dX5_tells_13 : decode cX5_tells 13 = .ok (.invokestatic 76, 3) := by decide +kernel
theorem dX5_tells_16 : decode cX5_tells 16 = .ok (.ifCond .ne 31, 3) := by decide +kernel
theorem dX5_tells_19 : decode cX5_tells 19 = .ok (.iload_n 2, 1) := by decide +kernel
theorem dX5_tells_20 : decode cX5_tells 20 = .ok (.i2l, 1) := by decide +kernel
theorem dX5_tells_21 : decode cX5_tells 21 = .ok (.ldc2_w 120, 3) := by decide +kernel
theorem dX5_tells_24 : decode cX5_tells 24 = .ok (.ldc2_w 405, 3) := by decide +kernel
theorem dX5_tells_27 : decode cX5_tells 27 = .ok (.invokestatic 76, 3) := by decide +kernel
theorem dX5_tells_30 : decode cX5_tells 30 = .ok (.ifCond .eq 14, 3) := by decide +kernel
theorem dX5_tells_33 : decode cX5_tells 33 = .ok (.aload_n 0, 1) := by decide +kernel
theorem dX5_tells_34 : decode cX5_tells 34 = .ok (.iload_n 2, 1) := by decide +kernel
theorem dX5_tells_35 : decode cX5_tells 35 = .ok (.bipush 10, 2) := by decide +kernel
theorem dX5_tells_37 : decode cX5_tells 37 = .ok (.irem, 1) := by decide +kernel
theorem dX5_tells_38 : decode cX5_tells 38 = .ok (.invokevirtual 86, 3) := by decide +kernel
theorem dX5_tells_41 : decode cX5_tells 41 = .ok (.ifCond .ne 6, 3) := by decide +kernel
theorem dX5_tells_44 : decode cX5_tells 44 = .ok (.bipush (-2), 2) := by decide +kernel
theorem dX5_tells_46 : decode cX5_tells 46 = .ok (.ireturn, 1) := by decide +kernel
theorem dX5_tells_47 : decode cX5_tells 47 = .ok (.aload_n 0, 1) := by decide +kernel
theorem dX5_tells_48 : decode cX5_tells 48 = .ok (.getfield 53, 3) := by decide +kernel
theorem dX5_tells_51 : decode cX5_tells 51 = .ok (.iload_n 1, 1) := by decide +kernel
theorem dX5_tells_52 : decode cX5_tells 52 = .ok (.baload, 1) := by decide +kernel
theorem dX5_tells_53 : decode cX5_tells 53 = .ok (.ifCond .ne 6, 3) := by decide +kernel
theorem dX5_tells_56 : decode cX5_tells 56 = .ok (.bipush (-11), 2) := by decide +kernel
theorem dX5_tells_58 : decode cX5_tells 58 = .ok (.ireturn, 1) := by decide +kernel
theorem dX5_tells_59 : decode cX5_tells 59 = .ok (.aload_n 0, 1) := by decide +kernel
theorem dX5_tells_60 : decode cX5_tells 60 = .ok (.getfield 60, 3) := by decide +kernel
theorem dX5_tells_63 : decode cX5_tells 63 = .ok (.iload_n 1, 1) := by decide +kernel
theorem dX5_tells_64 : decode cX5_tells 64 = .ok (.iaload, 1) := by decide +kernel
theorem dX5_tells_65 : decode cX5_tells 65 = .ok (.bipush 30, 2) := by decide +kernel
theorem dX5_tells_67 : decode cX5_tells 67 = .ok (.if_icmp .le 6, 3) := by decide +kernel
theorem dX5_tells_70 : decode cX5_tells 70 = .ok (.bipush (-2), 2) := by decide +kernel
theorem dX5_tells_72 : decode cX5_tells 72 = .ok (.ireturn, 1) := by decide +kernel
theorem dX5_tells_73 : decode cX5_tells 73 = .ok (.iload_n 2, 1) := by decide +kernel
theorem dX5_tells_74 : decode cX5_tells 74 = .ok (.ifCond .ne 9, 3) := by decide +kernel
theorem dX5_tells_77 : decode cX5_tells 77 = .ok (.aload_n 0, 1) := by decide +kernel
theorem dX5_tells_78 : decode cX5_tells 78 = .ok (.iload_n 1, 1) := by decide +kernel
theorem dX5_tells_79 : decode cX5_tells 79 = .ok (.invokevirtual 407, 3) := by decide +kernel
theorem dX5_tells_82 : decode cX5_tells 82 = .ok (.ireturn, 1) := by decide +kernel
theorem dX5_tells_83 : decode cX5_tells 83 = .ok (.iload_n 2, 1) := by decide +kernel
theorem dX5_tells_84 : decode cX5_tells 84 = .ok (.bipush 10, 2) := by decide +kernel
theorem dX5_tells_86 : decode cX5_tells 86 = .ok (.irem, 1) := by decide +kernel
theorem dX5_tells_87 : decode cX5_tells 87 = .ok (.istore_n 3, 1) := by decide +kernel
theorem dX5_tells_88 : decode cX5_tells 88 = .ok (.iload_n 2, 1) := by decide +kernel
theorem dX5_tells_89 : decode cX5_tells 89 = .ok (.iconst 1, 1) := by decide +kernel
theorem dX5_tells_90 : decode cX5_tells 90 = .ok (.if_icmp .ne 8, 3) := by decide +kernel
theorem dX5_tells_93 : decode cX5_tells 93 = .ok (.bipush 9, 2) := by decide +kernel
theorem dX5_tells_95 : decode cX5_tells 95 = .ok (.goto 35, 3) := by decide +kernel
theorem dX5_tells_98 : decode cX5_tells 98 = .ok (.iload_n 2, 1) := by decide +kernel
theorem dX5_tells_99 : decode cX5_tells 99 = .ok (.iconst 4, 1) := by decide +kernel
theorem dX5_tells_100 : decode cX5_tells 100 = .ok (.if_icmp .ge 7, 3) := by decide +kernel
theorem dX5_tells_103 : decode cX5_tells 103 = .ok (.iconst 0, 1) := by decide +kernel
theorem dX5_tells_104 : decode cX5_tells 104 = .ok (.goto 26, 3) := by decide +kernel
theorem dX5_tells_107 : decode cX5_tells 107 = .ok (.iload_n 2, 1) := by decide +kernel
theorem dX5_tells_108 : decode cX5_tells 108 = .ok (.bipush 20, 2) := by decide +kernel
theorem dX5_tells_110 : decode cX5_tells 110 = .ok (.if_icmp .ge 8, 3) := by decide +kernel
theorem dX5_tells_113 : decode cX5_tells 113 = .ok (.bipush 8, 2) := by decide +kernel
theorem dX5_tells_115 : decode cX5_tells 115 = .ok (.goto 15, 3) := by decide +kernel
theorem dX5_tells_118 : decode cX5_tells 118 = .ok (.iload_n 2, 1) := by decide +kernel
theorem dX5_tells_119 : decode cX5_tells 119 = .ok (.bipush 30, 2) := by decide +kernel
theorem dX5_tells_121 : decode cX5_tells 121 = .ok (.if_icmp .ge 7, 3) := by decide +kernel
theorem dX5_tells_124 : decode cX5_tells 124 = .ok (.iconst 5, 1) := by decide +kernel
theorem dX5_tells_125 : decode cX5_tells 125 = .ok (.goto 5, 3) := by decide +kernel
theorem dX5_tells_128 : decode cX5_tells 128 = .ok (.bipush 6, 2) := by decide +kernel
theorem dX5_tells_130 : decode cX5_tells 130 = .ok (.istore 4, 2) := by decide +kernel
theorem dX5_tells_132 : decode cX5_tells 132 = .ok (.iload 4, 2) := by decide +kernel
theorem dX5_tells_134 : decode cX5_tells 134 = .ok (.bipush 9, 2) := by decide +kernel
theorem dX5_tells_136 : decode cX5_tells 136 = .ok (.if_icmp .ne 10, 3) := by decide +kernel
theorem dX5_tells_139 : decode cX5_tells 139 = .ok (.aload_n 0, 1) := by decide +kernel
theorem dX5_tells_140 : decode cX5_tells 140 = .ok (.getfield 110, 3) := by decide +kernel
theorem dX5_tells_143 : decode cX5_tells 143 = .ok (.goto 10, 3) := by decide +kernel
theorem dX5_tells_146 : decode cX5_tells 146 = .ok (.aload_n 0, 1) := by decide +kernel
theorem dX5_tells_147 : decode cX5_tells 147 = .ok (.iload_n 3, 1) := by decide +kernel
theorem dX5_tells_148 : decode cX5_tells 148 = .ok (.iload 4, 2) := by decide +kernel
theorem dX5_tells_150 : decode cX5_tells 150 = .ok (.invokevirtual 99, 3) := by decide +kernel
theorem dX5_tells_153 : decode cX5_tells 153 = .ok (.istore 5, 2) := by decide +kernel
theorem dX5_tells_155 : decode cX5_tells 155 = .ok (.iload 4, 2) := by decide +kernel
theorem dX5_tells_157 : decode cX5_tells 157 = .ok (.bipush 9, 2) := by decide +kernel
theorem dX5_tells_159 : decode cX5_tells 159 = .ok (.if_icmp .ne 12, 3) := by decide +kernel
theorem dX5_tells_162 : decode cX5_tells 162 = .ok (.aload_n 0, 1) := by decide +kernel
theorem dX5_tells_163 : decode cX5_tells 163 = .ok (.getfield 70, 3) := by decide +kernel
theorem dX5_tells_166 : decode cX5_tells 166 = .ok (.iconst 1, 1) := by decide +kernel
theorem dX5_tells_167 : decode cX5_tells 167 = .ok (.isub, 1) := by decide +kernel
theorem dX5_tells_168 : decode cX5_tells 168 = .ok (.goto 19, 3) := by decide +kernel
theorem dX5_tells_171 : decode cX5_tells 171 = .ok (.iload 4, 2) := by decide +kernel
theorem dX5_tells_173 : decode cX5_tells 173 = .ok (.bipush 8, 2) := by decide +kernel
theorem dX5_tells_175 : decode cX5_tells 175 = .ok (.if_icmp .ne 7, 3) := by decide +kernel
theorem dX5_tells_178 : decode cX5_tells 178 = .ok (.iconst 5, 1) := by decide +kernel
theorem dX5_tells_179 : decode cX5_tells 179 = .ok (.goto 8, 3) := by decide +kernel
theorem dX5_tells_182 : decode cX5_tells 182 = .ok (.iload 4, 2) := by decide +kernel
theorem dX5_tells_184 : decode cX5_tells 184 = .ok (.invokestatic 95, 3) := by decide +kernel
theorem dX5_tells_187 : decode cX5_tells 187 = .ok (.istore 6, 2) := by decide +kernel
theorem dX5_tells_189 : decode cX5_tells 189 = .ok (.iconst 0, 1) := by decide +kernel
theorem dX5_tells_190 : decode cX5_tells 190 = .ok (.istore 7, 2) := by decide +kernel
theorem dX5_tells_192 : decode cX5_tells 192 = .ok (.iconst 0, 1) := by decide +kernel
theorem dX5_tells_193 : decode cX5_tells 193 = .ok (.istore 8, 2) := by decide +kernel
theorem dX5_tells_195 : decode cX5_tells 195 = .ok (.iconst (-1), 1) := by decide +kernel
theorem dX5_tells_196 : decode cX5_tells 196 = .ok (.istore 9, 2) := by decide +kernel
theorem dX5_tells_198 : decode cX5_tells 198 = .ok (.iconst 0, 1) := by decide +kernel
theorem dX5_tells_199 : decode cX5_tells 199 = .ok (.istore 10, 2) := by decide +kernel
theorem dX5_tells_201 : decode cX5_tells 201 = .ok (.iload 10, 2) := by decide +kernel
theorem dX5_tells_203 : decode cX5_tells 203 = .ok (.iload 6, 2) := by decide +kernel
theorem dX5_tells_205 : decode cX5_tells 205 = .ok (.if_icmp .gt 52, 3) := by decide +kernel
theorem dX5_tells_208 : decode cX5_tells 208 = .ok (.aload_n 0, 1) := by decide +kernel
theorem dX5_tells_209 : decode cX5_tells 209 = .ok (.iload 4, 2) := by decide +kernel
theorem dX5_tells_211 : decode cX5_tells 211 = .ok (.iload_n 3, 1) := by decide +kernel
theorem dX5_tells_212 : decode cX5_tells 212 = .ok (.iload 10, 2) := by decide +kernel
theorem dX5_tells_214 : decode cX5_tells 214 = .ok (.invokevirtual 103, 3) := by decide +kernel
theorem dX5_tells_217 : decode cX5_tells 217 = .ok (.aload_n 0, 1) := by decide +kernel
theorem dX5_tells_218 : decode cX5_tells 218 = .ok (.iload_n 1, 1) := by decide +kernel
theorem dX5_tells_219 : decode cX5_tells 219 = .ok (.invokevirtual 407, 3) := by decide +kernel
theorem dX5_tells_222 : decode cX5_tells 222 = .ok (.iconst (-1), 1) := by decide +kernel
theorem dX5_tells_223 : decode cX5_tells 223 = .ok (.if_icmp .ne 28, 3) := by decide +kernel
theorem dX5_tells_226 : decode cX5_tells 226 = .ok (.iload 7, 2) := by decide +kernel
theorem dX5_tells_228 : decode cX5_tells 228 = .ok (.iload 4, 2) := by decide +kernel
theorem dX5_tells_230 : decode cX5_tells 230 = .ok (.ifCond .ne 7, 3) := by decide +kernel
theorem dX5_tells_233 : decode cX5_tells 233 = .ok (.iconst 0, 1) := by decide +kernel
theorem dX5_tells_234 : decode cX5_tells 234 = .ok (.goto 7, 3) := by decide +kernel
theorem dX5_tells_237 : decode cX5_tells 237 = .ok (.iconst 1, 1) := by decide +kernel
theorem dX5_tells_238 : decode cX5_tells 238 = .ok (.iload 10, 2) := by decide +kernel
theorem dX5_tells_240 : decode cX5_tells 240 = .ok (.ishl, 1) := by decide +kernel
theorem dX5_tells_241 : decode cX5_tells 241 = .ok (.ior, 1) := by decide +kernel
theorem dX5_tells_242 : decode cX5_tells 242 = .ok (.istore 7, 2) := by decide +kernel
theorem dX5_tells_244 : decode cX5_tells 244 = .ok (.iinc 8 1, 3) := by decide +kernel
theorem dX5_tells_247 : decode cX5_tells 247 = .ok (.iload 10, 2) := by decide +kernel
theorem dX5_tells_249 : decode cX5_tells 249 = .ok (.istore 9, 2) := by decide +kernel
theorem dX5_tells_251 : decode cX5_tells 251 = .ok (.iinc 10 1, 3) := by decide +kernel
theorem dX5_tells_254 : decode cX5_tells 254 = .ok (.goto (-53), 3) := by decide +kernel
theorem dX5_tells_257 : decode cX5_tells 257 = .ok (.aload_n 0, 1) := by decide +kernel
theorem dX5_tells_258 : decode cX5_tells 258 = .ok (.iload 4, 2) := by decide +kernel
theorem dX5_tells_260 : decode cX5_tells 260 = .ok (.iload_n 3, 1) := by decide +kernel
theorem dX5_tells_261 : decode cX5_tells 261 = .ok (.iload 5, 2) := by decide +kernel
theorem dX5_tells_263 : decode cX5_tells 263 = .ok (.invokevirtual 103, 3) := by decide +kernel
theorem dX5_tells_266 : decode cX5_tells 266 = .ok (.iload_n 2, 1) := by decide +kernel
theorem dX5_tells_267 : decode cX5_tells 267 = .ok (.iconst 2, 1) := by decide +kernel
theorem dX5_tells_268 : decode cX5_tells 268 = .ok (.if_icmp .ne 8, 3) := by decide +kernel
theorem dX5_tells_271 : decode cX5_tells 271 = .ok (.iload 8, 2) := by decide +kernel
theorem dX5_tells_273 : decode cX5_tells 273 = .ok (.goto 15, 3) := by decide +kernel
theorem dX5_tells_276 : decode cX5_tells 276 = .ok (.iload_n 2, 1) := by decide +kernel
theorem dX5_tells_277 : decode cX5_tells 277 = .ok (.iconst 3, 1) := by decide +kernel
theorem dX5_tells_278 : decode cX5_tells 278 = .ok (.if_icmp .ne 8, 3) := by decide +kernel
theorem dX5_tells_281 : decode cX5_tells 281 = .ok (.iload 9, 2) := by decide +kernel
theorem dX5_tells_283 : decode cX5_tells 283 = .ok (.goto 5, 3) := by decide +kernel
theorem dX5_tells_286 : decode cX5_tells 286 = .ok (.iload 7, 2) := by decide +kernel
theorem dX5_tells_288 : decode cX5_tells 288 = .ok (.ireturn, 1) := by decide +kernel
theorem dX5_film_0 : decode cX5_film 0 = .ok (.iload_n 1, 1) := by decide +kernel
theorem dX5_film_1 : decode cX5_film 1 = .ok (.invokestatic 402, 3) := by decide +kernel
theorem dX5_film_4 : decode cX5_film 4 = .ok (.ifCond .eq 15, 3) := by decide +kernel
theorem dX5_film_7 : decode cX5_film 7 = .ok (.iload_n 2, 1) := by decide +kernel
theorem dX5_film_8 : decode cX5_film 8 = .ok (.i2l, 1) := by decide +kernel
theorem dX5_film_9 : decode cX5_film 9 = .ok (.lconst 0, 1) := by decide +kernel
theorem dX5_film_10 : decode cX5_film 10 = .ok (.ldc2_w 384, 3) := by decide +kernel
theorem dX5_film_13 : decode cX5_film 13 = .ok (.invokestatic 76, 3) := by decide +kernel
theorem dX5_film_16 : decode cX5_film 16 = .ok (.ifCond .ne 6, 3) := by decide +kernel
theorem dX5_film_19 : decode cX5_film 19 = .ok (.bipush (-2), 2) := by decide +kernel
theorem dX5_film_21 : decode cX5_film 21 = .ok (.ireturn, 1) := by decide +kernel
theorem dX5_film_22 : decode cX5_film 22 = .ok (.aload_n 0, 1) := by decide +kernel
theorem dX5_film_23 : decode cX5_film 23 = .ok (.iload_n 2, 1) := by decide +kernel
theorem dX5_film_24 : decode cX5_film 24 = .ok (.iconst 0, 1) := by decide +kernel
theorem dX5_film_25 : decode cX5_film 25 = .ok (.iconst 0, 1) := by decide +kernel
theorem dX5_film_26 : decode cX5_film 26 = .ok (.invokevirtual 376, 3) := by decide +kernel
theorem dX5_film_29 : decode cX5_film 29 = .ok (.aload_n 0, 1) := by decide +kernel
theorem dX5_film_30 : decode cX5_film 30 = .ok (.iload_n 1, 1) := by decide +kernel
theorem dX5_film_31 : decode cX5_film 31 = .ok (.iconst 1, 1) := by decide +kernel
theorem dX5_film_32 : decode cX5_film 32 = .ok (.iload_n 2, 1) := by decide +kernel
theorem dX5_film_33 : decode cX5_film 33 = .ok (.invokevirtual 410, 3) := by decide +kernel
theorem dX5_film_36 : decode cX5_film 36 = .ok (.pop, 1) := by decide +kernel
theorem dX5_film_37 : decode cX5_film 37 = .ok (.iconst 0, 1) := by decide +kernel
theorem dX5_film_38 : decode cX5_film 38 = .ok (.istore_n 3, 1) := by decide +kernel
theorem dX5_film_39 : decode cX5_film 39 = .ok (.iload_n 3, 1) := by decide +kernel
theorem dX5_film_40 : decode cX5_film 40 = .ok (.iload_n 2, 1) := by decide +kernel
theorem dX5_film_41 : decode cX5_film 41 = .ok (.if_icmp .ge 26, 3) := by decide +kernel
theorem dX5_film_44 : decode cX5_film 44 = .ok (.aload_n 0, 1) := by decide +kernel
theorem dX5_film_45 : decode cX5_film 45 = .ok (.getfield 63, 3) := by decide +kernel
theorem dX5_film_48 : decode cX5_film 48 = .ok (.bipush 40, 2) := by decide +kernel
theorem dX5_film_50 : decode cX5_film 50 = .ok (.iload_n 1, 1) := by decide +kernel
theorem dX5_film_51 : decode cX5_film 51 = .ok (.imul, 1) := by decide +kernel
theorem dX5_film_52 : decode cX5_film 52 = .ok (.iload_n 3, 1) := by decide +kernel
theorem dX5_film_53 : decode cX5_film 53 = .ok (.iadd, 1) := by decide +kernel
theorem dX5_film_54 : decode cX5_film 54 = .ok (.aload_n 0, 1) := by decide +kernel
theorem dX5_film_55 : decode cX5_film 55 = .ok (.getfield 41, 3) := by decide +kernel
theorem dX5_film_58 : decode cX5_film 58 = .ok (.iload_n 3, 1) := by decide +kernel
theorem dX5_film_59 : decode cX5_film 59 = .ok (.iaload, 1) := by decide +kernel
theorem dX5_film_60 : decode cX5_film 60 = .ok (.iastore, 1) := by decide +kernel
theorem dX5_film_61 : decode cX5_film 61 = .ok (.iinc 3 1, 3) := by decide +kernel
theorem dX5_film_64 : decode cX5_film 64 = .ok (.goto (-25), 3) := by decide +kernel
theorem dX5_film_67 : decode cX5_film 67 = .ok (.iload_n 2, 1) := by decide +kernel
theorem dX5_film_68 : decode cX5_film 68 = .ok (.ireturn, 1) := by decide +kernel
theorem dX5_dryBy_0 : decode cX5_dryBy 0 = .ok (.aload_n 0, 1) := by decide +kernel
theorem dX5_dryBy_1 : decode cX5_dryBy 1 = .ok (.iload_n 2, 1) := by decide +kernel
theorem dX5_dryBy_2 : decode cX5_dryBy 2 = .ok (.iconst 1, 1) := by decide +kernel
theorem dX5_dryBy_3 : decode cX5_dryBy 3 = .ok (.iload_n 1, 1) := by decide +kernel
theorem dX5_dryBy_4 : decode cX5_dryBy 4 = .ok (.invokevirtual 376, 3) := by decide +kernel
theorem dX5_dryBy_7 : decode cX5_dryBy 7 = .ok (.aload_n 0, 1) := by decide +kernel
theorem dX5_dryBy_8 : decode cX5_dryBy 8 = .ok (.getfield 370, 3) := by decide +kernel
theorem dX5_dryBy_11 : decode cX5_dryBy 11 = .ok (.invokestatic 366, 3) := by decide +kernel
theorem dX5_dryBy_14 : decode cX5_dryBy 14 = .ok (.ireturn, 1) := by decide +kernel
theorem dX5_drawn_0 : decode cX5_drawn 0 = .ok (.iload_n 2, 1) := by decide +kernel
theorem dX5_drawn_1 : decode cX5_drawn 1 = .ok (.i2l, 1) := by decide +kernel
theorem dX5_drawn_2 : decode cX5_drawn 2 = .ok (.lconst 0, 1) := by decide +kernel
theorem dX5_drawn_3 : decode cX5_drawn 3 = .ok (.ldc2_w 384, 3) := by decide +kernel
theorem dX5_drawn_6 : decode cX5_drawn 6 = .ok (.invokestatic 76, 3) := by decide +kernel
theorem dX5_drawn_9 : decode cX5_drawn 9 = .ok (.ifCond .eq 12, 3) := by decide +kernel
theorem dX5_drawn_12 : decode cX5_drawn 12 = .ok (.aload_n 0, 1) := by decide +kernel
theorem dX5_drawn_13 : decode cX5_drawn 13 = .ok (.iload_n 1, 1) := by decide +kernel
theorem dX5_drawn_14 : decode cX5_drawn 14 = .ok (.iload_n 2, 1) := by decide +kernel
theorem dX5_drawn_15 : decode cX5_drawn 15 = .ok (.invokevirtual 413, 3) := by decide +kernel
theorem dX5_drawn_18 : decode cX5_drawn 18 = .ok (.goto 5, 3) := by decide +kernel
theorem dX5_drawn_21 : decode cX5_drawn 21 = .ok (.bipush (-2), 2) := by decide +kernel
theorem dX5_drawn_23 : decode cX5_drawn 23 = .ok (.ireturn, 1) := by decide +kernel
theorem dX5_chance_0 : decode cX5_chance 0 = .ok (.iload_n 2, 1) := by decide +kernel
theorem dX5_chance_1 : decode cX5_chance 1 = .ok (.i2l, 1) := by decide +kernel
theorem dX5_chance_2 : decode cX5_chance 2 = .ok (.lconst 1, 1) := by decide +kernel
theorem dX5_chance_3 : decode cX5_chance 3 = .ok (.ldc2_w 416, 3) := by decide +kernel
theorem dX5_chance_6 : decode cX5_chance 6 = .ok (.invokestatic 76, 3) := by decide +kernel
theorem dX5_chance_9 : decode cX5_chance 9 = .ok (.ifCond .eq 35, 3) := by decide +kernel
theorem dX5_chance_12 : decode cX5_chance 12 = .ok (.iload_n 3, 1) := by decide +kernel
theorem dX5_chance_13 : decode cX5_chance 13 = .ok (.i2l, 1) := by decide +kernel
theorem dX5_chance_14 : decode cX5_chance 14 = .ok (.lconst 0, 1) := by decide +kernel
theorem dX5_chance_15 : decode cX5_chance 15 = .ok (.ldc2_w 418, 3) := by decide +kernel
theorem dX5_chance_18 : decode cX5_chance 18 = .ok (.invokestatic 76, 3) := by decide +kernel
theorem dX5_chance_21 : decode cX5_chance 21 = .ok (.ifCond .eq 23, 3) := by decide +kernel
theorem dX5_chance_24 : decode cX5_chance 24 = .ok (.iload_n 3, 1) := by decide +kernel
theorem dX5_chance_25 : decode cX5_chance 25 = .ok (.bipush 100, 2) := by decide +kernel
theorem dX5_chance_27 : decode cX5_chance 27 = .ok (.irem, 1) := by decide +kernel
theorem dX5_chance_28 : decode cX5_chance 28 = .ok (.bipush 12, 2) := by decide +kernel
theorem dX5_chance_30 : decode cX5_chance 30 = .ok (.if_icmp .gt 14, 3) := by decide +kernel
theorem dX5_chance_33 : decode cX5_chance 33 = .ok (.iload 4, 2) := by decide +kernel
theorem dX5_chance_35 : decode cX5_chance 35 = .ok (.i2l, 1) := by decide +kernel
theorem dX5_chance_36 : decode cX5_chance 36 = .ok (.lconst 0, 1) := by decide +kernel
theorem dX5_chance_37 : decode cX5_chance 37 = .ok (.lconst 1, 1) := by decide +kernel
theorem dX5_chance_38 : decode cX5_chance 38 = .ok (.invokestatic 76, 3) := by decide +kernel
theorem dX5_chance_41 : decode cX5_chance 41 = .ok (.ifCond .ne 7, 3) := by decide +kernel
theorem dX5_chance_44 : decode cX5_chance 44 = .ok (.ldc2_w 420, 3) := by decide +kernel
theorem dX5_chance_47 : decode cX5_chance 47 = .ok (.lreturn, 1) := by decide +kernel
theorem dX5_chance_48 : decode cX5_chance 48 = .ok (.lconst 0, 1) := by decide +kernel
theorem dX5_chance_49 : decode cX5_chance 49 = .ok (.lstore 5, 2) := by decide +kernel
theorem dX5_chance_51 : decode cX5_chance 51 = .ok (.iconst 0, 1) := by decide +kernel
theorem dX5_chance_52 : decode cX5_chance 52 = .ok (.istore 7, 2) := by decide +kernel
theorem dX5_chance_54 : decode cX5_chance 54 = .ok (.iload 7, 2) := by decide +kernel
theorem dX5_chance_56 : decode cX5_chance 56 = .ok (.iload_n 2, 1) := by decide +kernel
theorem dX5_chance_57 : decode cX5_chance 57 = .ok (.if_icmp .ge 38, 3) := by decide +kernel
theorem dX5_chance_60 : decode cX5_chance 60 = .ok (.lload 5, 2) := by decide +kernel
theorem dX5_chance_62 : decode cX5_chance 62 = .ok (.aload_n 0, 1) := by decide +kernel
theorem dX5_chance_63 : decode cX5_chance 63 = .ok (.iload_n 1, 1) := by decide +kernel
theorem dX5_chance_64 : decode cX5_chance 64 = .ok (.iload 7, 2) := by decide +kernel
theorem dX5_chance_66 : decode cX5_chance 66 = .ok (.iadd, 1) := by decide +kernel
theorem dX5_chance_67 : decode cX5_chance 67 = .ok (.iload_n 3, 1) := by decide +kernel
theorem dX5_chance_68 : decode cX5_chance 68 = .ok (.bipush 100, 2) := by decide +kernel
theorem dX5_chance_70 : decode cX5_chance 70 = .ok (.idiv, 1) := by decide +kernel
theorem dX5_chance_71 : decode cX5_chance 71 = .ok (.invokevirtual 413, 3) := by decide +kernel
theorem dX5_chance_74 : decode cX5_chance 74 = .ok (.iload_n 3, 1) := by decide +kernel
theorem dX5_chance_75 : decode cX5_chance 75 = .ok (.bipush 100, 2) := by decide +kernel
theorem dX5_chance_77 : decode cX5_chance 77 = .ok (.irem, 1) := by decide +kernel
theorem dX5_chance_78 : decode cX5_chance 78 = .ok (.if_icmp .lt 7, 3) := by decide +kernel
theorem dX5_chance_81 : decode cX5_chance 81 = .ok (.lconst 1, 1) := by decide +kernel
theorem dX5_chance_82 : decode cX5_chance 82 = .ok (.goto 4, 3) := by decide +kernel
theorem dX5_chance_85 : decode cX5_chance 85 = .ok (.lconst 0, 1) := by decide +kernel
theorem dX5_chance_86 : decode cX5_chance 86 = .ok (.ladd, 1) := by decide +kernel
theorem dX5_chance_87 : decode cX5_chance 87 = .ok (.lstore 5, 2) := by decide +kernel
theorem dX5_chance_89 : decode cX5_chance 89 = .ok (.iinc 7 1, 3) := by decide +kernel
theorem dX5_chance_92 : decode cX5_chance 92 = .ok (.goto (-38), 3) := by decide +kernel
theorem dX5_chance_95 : decode cX5_chance 95 = .ok (.lload 5, 2) := by decide +kernel
theorem dX5_chance_97 : decode cX5_chance 97 = .ok (.lstore 7, 2) := by decide +kernel
theorem dX5_chance_99 : decode cX5_chance 99 = .ok (.iload_n 2, 1) := by decide +kernel
theorem dX5_chance_100 : decode cX5_chance 100 = .ok (.i2l, 1) := by decide +kernel
theorem dX5_chance_101 : decode cX5_chance 101 = .ok (.lstore 9, 2) := by decide +kernel
theorem dX5_chance_103 : decode cX5_chance 103 = .ok (.lload 9, 2) := by decide +kernel
theorem dX5_chance_105 : decode cX5_chance 105 = .ok (.lconst 0, 1) := by decide +kernel
theorem dX5_chance_106 : decode cX5_chance 106 = .ok (.lcmp, 1) := by decide +kernel
theorem dX5_chance_107 : decode cX5_chance 107 = .ok (.ifCond .eq 21, 3) := by decide +kernel
theorem dX5_chance_110 : decode cX5_chance 110 = .ok (.lload 7, 2) := by decide +kernel
theorem dX5_chance_112 : decode cX5_chance 112 = .ok (.lload 9, 2) := by decide +kernel
theorem dX5_chance_114 : decode cX5_chance 114 = .ok (.lrem, 1) := by decide +kernel
theorem dX5_chance_115 : decode cX5_chance 115 = .ok (.lstore 11, 2) := by decide +kernel
theorem dX5_chance_117 : decode cX5_chance 117 = .ok (.lload 9, 2) := by decide +kernel
theorem dX5_chance_119 : decode cX5_chance 119 = .ok (.lstore 7, 2) := by decide +kernel
theorem dX5_chance_121 : decode cX5_chance 121 = .ok (.lload 11, 2) := by decide +kernel
theorem dX5_chance_123 : decode cX5_chance 123 = .ok (.lstore 9, 2) := by decide +kernel
theorem dX5_chance_125 : decode cX5_chance 125 = .ok (.goto (-22), 3) := by decide +kernel
theorem dX5_chance_128 : decode cX5_chance 128 = .ok (.iload 4, 2) := by decide +kernel
theorem dX5_chance_130 : decode cX5_chance 130 = .ok (.ifCond .ne 11, 3) := by decide +kernel
theorem dX5_chance_133 : decode cX5_chance 133 = .ok (.lload 5, 2) := by decide +kernel
theorem dX5_chance_135 : decode cX5_chance 135 = .ok (.lload 7, 2) := by decide +kernel
theorem dX5_chance_137 : decode cX5_chance 137 = .ok (.ldiv, 1) := by decide +kernel
theorem dX5_chance_138 : decode cX5_chance 138 = .ok (.goto 8, 3) := by decide +kernel
theorem dX5_chance_141 : decode cX5_chance 141 = .ok (.iload_n 2, 1) := by decide +kernel
theorem dX5_chance_142 : decode cX5_chance 142 = .ok (.i2l, 1) := by decide +kernel
theorem dX5_chance_143 : decode cX5_chance 143 = .ok (.lload 7, 2) := by decide +kernel
theorem dX5_chance_145 : decode cX5_chance 145 = .ok (.ldiv, 1) := by decide +kernel
theorem dX5_chance_146 : decode cX5_chance 146 = .ok (.lreturn, 1) := by decide +kernel
