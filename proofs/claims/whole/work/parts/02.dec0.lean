theorem dX0_init_0 : decode cX0_init 0 = .ok (.aload_n 0, 1) := by decide +kernel
theorem dX0_init_1 : decode cX0_init 1 = .ok (.invokespecial 3, 3) := by decide +kernel
theorem dX0_init_4 : decode cX0_init 4 = .ok (.aload_n 0, 1) := by decide +kernel
theorem dX0_init_5 : decode cX0_init 5 = .ok (.bipush 12, 2) := by decide +kernel
theorem dX0_init_7 : decode cX0_init 7 = .ok (.newarray .int, 2) := by decide +kernel
theorem dX0_init_9 : decode cX0_init 9 = .ok (.putfield 9, 3) := by decide +kernel
theorem dX0_init_12 : decode cX0_init 12 = .ok (.aload_n 0, 1) := by decide +kernel
theorem dX0_init_13 : decode cX0_init 13 = .ok (.bipush 12, 2) := by decide +kernel
theorem dX0_init_15 : decode cX0_init 15 = .ok (.newarray .int, 2) := by decide +kernel
theorem dX0_init_17 : decode cX0_init 17 = .ok (.putfield 15, 3) := by decide +kernel
theorem dX0_init_20 : decode cX0_init 20 = .ok (.aload_n 0, 1) := by decide +kernel
theorem dX0_init_21 : decode cX0_init 21 = .ok (.bipush 12, 2) := by decide +kernel
theorem dX0_init_23 : decode cX0_init 23 = .ok (.newarray .int, 2) := by decide +kernel
theorem dX0_init_25 : decode cX0_init 25 = .ok (.putfield 18, 3) := by decide +kernel
theorem dX0_init_28 : decode cX0_init 28 = .ok (.aload_n 0, 1) := by decide +kernel
theorem dX0_init_29 : decode cX0_init 29 = .ok (.bipush 6, 2) := by decide +kernel
theorem dX0_init_31 : decode cX0_init 31 = .ok (.newarray .int, 2) := by decide +kernel
theorem dX0_init_33 : decode cX0_init 33 = .ok (.putfield 21, 3) := by decide +kernel
theorem dX0_init_36 : decode cX0_init 36 = .ok (.aload_n 0, 1) := by decide +kernel
theorem dX0_init_37 : decode cX0_init 37 = .ok (.bipush 6, 2) := by decide +kernel
theorem dX0_init_39 : decode cX0_init 39 = .ok (.newarray .int, 2) := by decide +kernel
theorem dX0_init_41 : decode cX0_init 41 = .ok (.putfield 24, 3) := by decide +kernel
theorem dX0_init_44 : decode cX0_init 44 = .ok (.aload_n 0, 1) := by decide +kernel
theorem dX0_init_45 : decode cX0_init 45 = .ok (.bipush 6, 2) := by decide +kernel
theorem dX0_init_47 : decode cX0_init 47 = .ok (.newarray .int, 2) := by decide +kernel
theorem dX0_init_49 : decode cX0_init 49 = .ok (.putfield 27, 3) := by decide +kernel
theorem dX0_init_52 : decode cX0_init 52 = .ok (.aload_n 0, 1) := by decide +kernel
theorem dX0_init_53 : decode cX0_init 53 = .ok (.bipush 6, 2) := by decide +kernel
theorem dX0_init_55 : decode cX0_init 55 = .ok (.newarray .int, 2) := by decide +kernel
theorem dX0_init_57 : decode cX0_init 57 = .ok (.putfield 30, 3) := by decide +kernel
theorem dX0_init_60 : decode cX0_init 60 = .ok (.aload_n 0, 1) := by decide +kernel
theorem dX0_init_61 : decode cX0_init 61 = .ok (.bipush 31, 2) := by decide +kernel
theorem dX0_init_63 : decode cX0_init 63 = .ok (.newarray .int, 2) := by decide +kernel
theorem dX0_init_65 : decode cX0_init 65 = .ok (.putfield 33, 3) := by decide +kernel
theorem dX0_init_68 : decode cX0_init 68 = .ok (.aload_n 0, 1) := by decide +kernel
theorem dX0_init_69 : decode cX0_init 69 = .ok (.bipush 35, 2) := by decide +kernel
theorem dX0_init_71 : decode cX0_init 71 = .ok (.putfield 36, 3) := by decide +kernel
theorem dX0_init_74 : decode cX0_init 74 = .ok (.iconst 0, 1) := by decide +kernel
theorem dX0_init_75 : decode cX0_init 75 = .ok (.istore_n 1, 1) := by decide +kernel
theorem dX0_init_76 : decode cX0_init 76 = .ok (.iload_n 1, 1) := by decide +kernel
theorem dX0_init_77 : decode cX0_init 77 = .ok (.bipush 12, 2) := by decide +kernel
theorem dX0_init_79 : decode cX0_init 79 = .ok (.if_icmp .ge 32, 3) := by decide +kernel
theorem dX0_init_82 : decode cX0_init 82 = .ok (.aload_n 0, 1) := by decide +kernel
theorem dX0_init_83 : decode cX0_init 83 = .ok (.getfield 9, 3) := by decide +kernel
theorem dX0_init_86 : decode cX0_init 86 = .ok (.iload_n 1, 1) := by decide +kernel
theorem dX0_init_87 : decode cX0_init 87 = .ok (.bipush 40, 2) := by decide +kernel
theorem dX0_init_89 : decode cX0_init 89 = .ok (.iastore, 1) := by decide +kernel
theorem dX0_init_90 : decode cX0_init 90 = .ok (.aload_n 0, 1) := by decide +kernel
theorem dX0_init_91 : decode cX0_init 91 = .ok (.getfield 15, 3) := by decide +kernel
theorem dX0_init_94 : decode cX0_init 94 = .ok (.iload_n 1, 1) := by decide +kernel
theorem dX0_init_95 : decode cX0_init 95 = .ok (.bipush 20, 2) := by decide +kernel
theorem dX0_init_97 : decode cX0_init 97 = .ok (.iastore, 1) := by decide +kernel
theorem dX0_init_98 : decode cX0_init 98 = .ok (.aload_n 0, 1) := by decide +kernel
theorem dX0_init_99 : decode cX0_init 99 = .ok (.getfield 18, 3) := by decide +kernel
theorem dX0_init_102 : decode cX0_init 102 = .ok (.iload_n 1, 1) := by decide +kernel
theorem dX0_init_103 : decode cX0_init 103 = .ok (.iconst 5, 1) := by decide +kernel
theorem dX0_init_104 : decode cX0_init 104 = .ok (.iastore, 1) := by decide +kernel
theorem dX0_init_105 : decode cX0_init 105 = .ok (.iinc 1 1, 3) := by decide +kernel
theorem dX0_init_108 : decode cX0_init 108 = .ok (.goto (-32), 3) := by decide +kernel
theorem dX0_init_111 : decode cX0_init 111 = .ok (.return_, 1) := by decide +kernel
theorem dX0_take_0 : decode cX0_take 0 = .ok (.aload_n 1, 1) := by decide +kernel
theorem dX0_take_1 : decode cX0_take 1 = .ok (.getfield 9, 3) := by decide +kernel
theorem dX0_take_4 : decode cX0_take 4 = .ok (.iconst 0, 1) := by decide +kernel
theorem dX0_take_5 : decode cX0_take 5 = .ok (.aload_n 0, 1) := by decide +kernel
theorem dX0_take_6 : decode cX0_take 6 = .ok (.getfield 9, 3) := by decide +kernel
theorem dX0_take_9 : decode cX0_take 9 = .ok (.iconst 0, 1) := by decide +kernel
theorem dX0_take_10 : decode cX0_take 10 = .ok (.bipush 12, 2) := by decide +kernel
theorem dX0_take_12 : decode cX0_take 12 = .ok (.invokestatic 40, 3) := by decide +kernel
theorem dX0_take_15 : decode cX0_take 15 = .ok (.aload_n 1, 1) := by decide +kernel
theorem dX0_take_16 : decode cX0_take 16 = .ok (.getfield 15, 3) := by decide +kernel
theorem dX0_take_19 : decode cX0_take 19 = .ok (.iconst 0, 1) := by decide +kernel
theorem dX0_take_20 : decode cX0_take 20 = .ok (.aload_n 0, 1) := by decide +kernel
theorem dX0_take_21 : decode cX0_take 21 = .ok (.getfield 15, 3) := by decide +kernel
theorem dX0_take_24 : decode cX0_take 24 = .ok (.iconst 0, 1) := by decide +kernel
theorem dX0_take_25 : decode cX0_take 25 = .ok (.bipush 12, 2) := by decide +kernel
theorem dX0_take_27 : decode cX0_take 27 = .ok (.invokestatic 40, 3) := by decide +kernel
theorem dX0_take_30 : decode cX0_take 30 = .ok (.aload_n 1, 1) := by decide +kernel
theorem dX0_take_31 : decode cX0_take 31 = .ok (.getfield 18, 3) := by decide +kernel
theorem dX0_take_34 : decode cX0_take 34 = .ok (.iconst 0, 1) := by decide +kernel
theorem dX0_take_35 : decode cX0_take 35 = .ok (.aload_n 0, 1) := by decide +kernel
theorem dX0_take_36 : decode cX0_take 36 = .ok (.getfield 18, 3) := by decide +kernel
theorem dX0_take_39 : decode cX0_take 39 = .ok (.iconst 0, 1) := by decide +kernel
theorem dX0_take_40 : decode cX0_take 40 = .ok (.bipush 12, 2) := by decide +kernel
theorem dX0_take_42 : decode cX0_take 42 = .ok (.invokestatic 40, 3) := by decide +kernel
theorem dX0_take_45 : decode cX0_take 45 = .ok (.aload_n 1, 1) := by decide +kernel
theorem dX0_take_46 : decode cX0_take 46 = .ok (.getfield 21, 3) := by decide +kernel
theorem dX0_take_49 : decode cX0_take 49 = .ok (.iconst 0, 1) := by decide +kernel
theorem dX0_take_50 : decode cX0_take 50 = .ok (.aload_n 0, 1) := by decide +kernel
theorem dX0_take_51 : decode cX0_take 51 = .ok (.getfield 21, 3) := by decide +kernel
theorem dX0_take_54 : decode cX0_take 54 = .ok (.iconst 0, 1) := by decide +kernel
theorem dX0_take_55 : decode cX0_take 55 = .ok (.bipush 6, 2) := by decide +kernel
theorem dX0_take_57 : decode cX0_take 57 = .ok (.invokestatic 40, 3) := by decide +kernel
theorem dX0_take_60 : decode cX0_take 60 = .ok (.aload_n 1, 1) := by decide +kernel
theorem dX0_take_61 : decode cX0_take 61 = .ok (.getfield 24, 3) := by decide +kernel
theorem dX0_take_64 : decode cX0_take 64 = .ok (.iconst 0, 1) := by decide +kernel
theorem dX0_take_65 : decode cX0_take 65 = .ok (.aload_n 0, 1) := by decide +kernel
theorem dX0_take_66 : decode cX0_take 66 = .ok (.getfield 24, 3) := by decide +kernel
theorem dX0_take_69 : decode cX0_take 69 = .ok (.iconst 0, 1) := by decide +kernel
theorem dX0_take_70 : decode cX0_take 70 = .ok (.bipush 6, 2) := by decide +kernel
theorem dX0_take_72 : decode cX0_take 72 = .ok (.invokestatic 40, 3) := by decide +kernel
theorem dX0_take_75 : decode cX0_take 75 = .ok (.aload_n 1, 1) := by decide +kernel
theorem dX0_take_76 : decode cX0_take 76 = .ok (.getfield 27, 3) := by decide +kernel
theorem dX0_take_79 : decode cX0_take 79 = .ok (.iconst 0, 1) := by decide +kernel
theorem dX0_take_80 : decode cX0_take 80 = .ok (.aload_n 0, 1) := by decide +kernel
theorem dX0_take_81 : decode cX0_take 81 = .ok (.getfield 27, 3) := by decide +kernel
theorem dX0_take_84 : decode cX0_take 84 = .ok (.iconst 0, 1) := by decide +kernel
theorem dX0_take_85 : decode cX0_take 85 = .ok (.bipush 6, 2) := by decide +kernel
theorem dX0_take_87 : decode cX0_take 87 = .ok (.invokestatic 40, 3) := by decide +kernel
theorem dX0_take_90 : decode cX0_take 90 = .ok (.aload_n 1, 1) := by decide +kernel
theorem dX0_take_91 : decode cX0_take 91 = .ok (.getfield 30, 3) := by decide +kernel
theorem dX0_take_94 : decode cX0_take 94 = .ok (.iconst 0, 1) := by decide +kernel
theorem dX0_take_95 : decode cX0_take 95 = .ok (.aload_n 0, 1) := by decide +kernel
theorem dX0_take_96 : decode cX0_take 96 = .ok (.getfield 30, 3) := by decide +kernel
theorem dX0_take_99 : decode cX0_take 99 = .ok (.iconst 0, 1) := by decide +kernel
theorem dX0_take_100 : decode cX0_take 100 = .ok (.bipush 6, 2) := by decide +kernel
theorem dX0_take_102 : decode cX0_take 102 = .ok (.invokestatic 40, 3) := by decide +kernel
theorem dX0_take_105 : decode cX0_take 105 = .ok (.aload_n 0, 1) := by decide +kernel
theorem dX0_take_106 : decode cX0_take 106 = .ok (.aload_n 1, 1) := by decide +kernel
theorem dX0_take_107 : decode cX0_take 107 = .ok (.getfield 36, 3) := by decide +kernel
theorem dX0_take_110 : decode cX0_take 110 = .ok (.putfield 36, 3) := by decide +kernel
theorem dX0_take_113 : decode cX0_take 113 = .ok (.aload_n 0, 1) := by decide +kernel
theorem dX0_take_114 : decode cX0_take 114 = .ok (.aload_n 1, 1) := by decide +kernel
theorem dX0_take_115 : decode cX0_take 115 = .ok (.getfield 46, 3) := by decide +kernel
theorem dX0_take_118 : decode cX0_take 118 = .ok (.putfield 46, 3) := by decide +kernel
theorem dX0_take_121 : decode cX0_take 121 = .ok (.aload_n 0, 1) := by decide +kernel
theorem dX0_take_122 : decode cX0_take 122 = .ok (.aload_n 1, 1) := by decide +kernel
theorem dX0_take_123 : decode cX0_take 123 = .ok (.getfield 49, 3) := by decide +kernel
theorem dX0_take_126 : decode cX0_take 126 = .ok (.putfield 49, 3) := by decide +kernel
theorem dX0_take_129 : decode cX0_take 129 = .ok (.aload_n 0, 1) := by decide +kernel
theorem dX0_take_130 : decode cX0_take 130 = .ok (.aload_n 1, 1) := by decide +kernel
theorem dX0_take_131 : decode cX0_take 131 = .ok (.getfield 52, 3) := by decide +kernel
theorem dX0_take_134 : decode cX0_take 134 = .ok (.putfield 52, 3) := by decide +kernel
theorem dX0_take_137 : decode cX0_take 137 = .ok (.aload_n 0, 1) := by decide +kernel
theorem dX0_take_138 : decode cX0_take 138 = .ok (.aload_n 1, 1) := by decide +kernel
theorem dX0_take_139 : decode cX0_take 139 = .ok (.getfield 55, 3) := by decide +kernel
theorem dX0_take_142 : decode cX0_take 142 = .ok (.putfield 55, 3) := by decide +kernel
theorem dX0_take_145 : decode cX0_take 145 = .ok (.return_, 1) := by decide +kernel
theorem dX0_add_0 : decode cX0_add 0 = .ok (.aload_n 0, 1) := by decide +kernel
theorem dX0_add_1 : decode cX0_add 1 = .ok (.getfield 52, 3) := by decide +kernel
theorem dX0_add_4 : decode cX0_add 4 = .ok (.bipush 6, 2) := by decide +kernel
theorem dX0_add_6 : decode cX0_add 6 = .ok (.if_icmp .ge 53, 3) := by decide +kernel
theorem dX0_add_9 : decode cX0_add 9 = .ok (.aload_n 0, 1) := by decide +kernel
theorem dX0_add_10 : decode cX0_add 10 = .ok (.getfield 21, 3) := by decide +kernel
theorem dX0_add_13 : decode cX0_add 13 = .ok (.aload_n 0, 1) := by decide +kernel
theorem dX0_add_14 : decode cX0_add 14 = .ok (.getfield 52, 3) := by decide +kernel
theorem dX0_add_17 : decode cX0_add 17 = .ok (.iload_n 1, 1) := by decide +kernel
theorem dX0_add_18 : decode cX0_add 18 = .ok (.iastore, 1) := by decide +kernel
theorem dX0_add_19 : decode cX0_add 19 = .ok (.aload_n 0, 1) := by decide +kernel
theorem dX0_add_20 : decode cX0_add 20 = .ok (.getfield 24, 3) := by decide +kernel
theorem dX0_add_23 : decode cX0_add 23 = .ok (.aload_n 0, 1) := by decide +kernel
theorem dX0_add_24 : decode cX0_add 24 = .ok (.getfield 52, 3) := by decide +kernel
theorem dX0_add_27 : decode cX0_add 27 = .ok (.iload_n 2, 1) := by decide +kernel
theorem dX0_add_28 : decode cX0_add 28 = .ok (.iastore, 1) := by decide +kernel
theorem dX0_add_29 : decode cX0_add 29 = .ok (.aload_n 0, 1) := by decide +kernel
theorem dX0_add_30 : decode cX0_add 30 = .ok (.getfield 27, 3) := by decide +kernel
theorem dX0_add_33 : decode cX0_add 33 = .ok (.aload_n 0, 1) := by decide +kernel
theorem dX0_add_34 : decode cX0_add 34 = .ok (.getfield 52, 3) := by decide +kernel
theorem dX0_add_37 : decode cX0_add 37 = .ok (.iload_n 3, 1) := by decide +kernel
theorem dX0_add_38 : decode cX0_add 38 = .ok (.iastore, 1) := by decide +kernel
theorem dX0_add_39 : decode cX0_add 39 = .ok (.aload_n 0, 1) := by decide +kernel
theorem dX0_add_40 : decode cX0_add 40 = .ok (.getfield 30, 3) := by decide +kernel
theorem dX0_add_43 : decode cX0_add 43 = .ok (.aload_n 0, 1) := by decide +kernel
theorem dX0_add_44 : decode cX0_add 44 = .ok (.getfield 52, 3) := by decide +kernel
theorem dX0_add_47 : decode cX0_add 47 = .ok (.iconst 1, 1) := by decide +kernel
theorem dX0_add_48 : decode cX0_add 48 = .ok (.iastore, 1) := by decide +kernel
theorem dX0_add_49 : decode cX0_add 49 = .ok (.aload_n 0, 1) := by decide +kernel
theorem dX0_add_50 : decode cX0_add 50 = .ok (.dup, 1) := by decide +kernel
theorem dX0_add_51 : decode cX0_add 51 = .ok (.getfield 52, 3) := by decide +kernel
theorem dX0_add_54 : decode cX0_add 54 = .ok (.iconst 1, 1) := by decide +kernel
theorem dX0_add_55 : decode cX0_add 55 = .ok (.iadd, 1) := by decide +kernel
theorem dX0_add_56 : decode cX0_add 56 = .ok (.putfield 52, 3) := by decide +kernel
theorem dX0_add_59 : decode cX0_add 59 = .ok (.return_, 1) := by decide +kernel
theorem dX0_most_0 : decode cX0_most 0 = .ok (.iload_n 0, 1) := by decide +kernel
theorem dX0_most_1 : decode cX0_most 1 = .ok (.ifCond .lt 19, 3) := by decide +kernel
theorem dX0_most_4 : decode cX0_most 4 = .ok (.iload_n 0, 1) := by decide +kernel
theorem dX0_most_5 : decode cX0_most 5 = .ok (.getstatic 58, 3) := by decide +kernel
theorem dX0_most_8 : decode cX0_most 8 = .ok (.arraylength, 1) := by decide +kernel
theorem dX0_most_9 : decode cX0_most 9 = .ok (.if_icmp .ge 11, 3) := by decide +kernel
theorem dX0_most_12 : decode cX0_most 12 = .ok (.getstatic 58, 3) := by decide +kernel
theorem dX0_most_15 : decode cX0_most 15 = .ok (.iload_n 0, 1) := by decide +kernel
theorem dX0_most_16 : decode cX0_most 16 = .ok (.iaload, 1) := by decide +kernel
theorem dX0_most_17 : decode cX0_most 17 = .ok (.goto 4, 3) := by decide +kernel
theorem dX0_most_20 : decode cX0_most 20 = .ok (.iconst 0, 1) := by decide +kernel
theorem dX0_most_21 : decode cX0_most 21 = .ok (.ireturn, 1) := by decide +kernel
theorem dX0_has_0 : decode cX0_has 0 = .ok (.iload_n 1, 1) := by decide +kernel
theorem dX0_has_1 : decode cX0_has 1 = .ok (.ifCond .eq 8, 3) := by decide +kernel
theorem dX0_has_4 : decode cX0_has 4 = .ok (.iload_n 1, 1) := by decide +kernel
theorem dX0_has_5 : decode cX0_has 5 = .ok (.iconst 1, 1) := by decide +kernel
theorem dX0_has_6 : decode cX0_has 6 = .ok (.if_icmp .ne 5, 3) := by decide +kernel
theorem dX0_has_9 : decode cX0_has 9 = .ok (.iconst 1, 1) := by decide +kernel
theorem dX0_has_10 : decode cX0_has 10 = .ok (.ireturn, 1) := by decide +kernel
theorem dX0_has_11 : decode cX0_has 11 = .ok (.iload_n 1, 1) := by decide +kernel
theorem dX0_has_12 : decode cX0_has 12 = .ok (.iconst 2, 1) := by decide +kernel
theorem dX0_has_13 : decode cX0_has 13 = .ok (.if_icmp .lt 13, 3) := by decide +kernel
theorem dX0_has_16 : decode cX0_has 16 = .ok (.iload_n 1, 1) := by decide +kernel
theorem dX0_has_17 : decode cX0_has 17 = .ok (.iconst 4, 1) := by decide +kernel
theorem dX0_has_18 : decode cX0_has 18 = .ok (.if_icmp .gt 8, 3) := by decide +kernel
theorem dX0_has_21 : decode cX0_has 21 = .ok (.iload_n 2, 1) := by decide +kernel
theorem dX0_has_22 : decode cX0_has 22 = .ok (.invokestatic 61, 3) := by decide +kernel
theorem dX0_has_25 : decode cX0_has 25 = .ok (.ireturn, 1) := by decide +kernel
theorem dX0_has_26 : decode cX0_has 26 = .ok (.iload_n 1, 1) := by decide +kernel
theorem dX0_has_27 : decode cX0_has 27 = .ok (.iconst 5, 1) := by decide +kernel
theorem dX0_has_28 : decode cX0_has 28 = .ok (.if_icmp .lt 25, 3) := by decide +kernel
theorem dX0_has_31 : decode cX0_has 31 = .ok (.iload_n 1, 1) := by decide +kernel
theorem dX0_has_32 : decode cX0_has 32 = .ok (.bipush 10, 2) := by decide +kernel
theorem dX0_has_34 : decode cX0_has 34 = .ok (.if_icmp .gt 19, 3) := by decide +kernel
theorem dX0_has_37 : decode cX0_has 37 = .ok (.iload_n 2, 1) := by decide +kernel
theorem dX0_has_38 : decode cX0_has 38 = .ok (.ifCond .lt 15, 3) := by decide +kernel
theorem dX0_has_41 : decode cX0_has 41 = .ok (.iload_n 2, 1) := by decide +kernel
theorem dX0_has_42 : decode cX0_has 42 = .ok (.aload_n 0, 1) := by decide +kernel
theorem dX0_has_43 : decode cX0_has 43 = .ok (.getfield 52, 3) := by decide +kernel
theorem dX0_has_46 : decode cX0_has 46 = .ok (.if_icmp .ge 7, 3) := by decide +kernel
theorem dX0_has_49 : decode cX0_has 49 = .ok (.iconst 1, 1) := by decide +kernel
theorem dX0_has_50 : decode cX0_has 50 = .ok (.goto 4, 3) := by decide +kernel
theorem dX0_has_53 : decode cX0_has 53 = .ok (.iconst 0, 1) := by decide +kernel
theorem dX0_has_54 : decode cX0_has 54 = .ok (.ireturn, 1) := by decide +kernel
theorem dX0_rowOf_0 : decode cX0_rowOf 0 = .ok (.iload_n 1, 1) := by decide +kernel
theorem dX0_rowOf_1 : decode cX0_rowOf 1 = .ok (.tableswitch 69 2 7 #[39, 44, 49, 54, 59, 64], 39) := by decide +kernel
theorem dX0_rowOf_40 : decode cX0_rowOf 40 = .ok (.aload_n 0, 1) := by decide +kernel
theorem dX0_rowOf_41 : decode cX0_rowOf 41 = .ok (.getfield 9, 3) := by decide +kernel
theorem dX0_rowOf_44 : decode cX0_rowOf 44 = .ok (.areturn, 1) := by decide +kernel
theorem dX0_rowOf_45 : decode cX0_rowOf 45 = .ok (.aload_n 0, 1) := by decide +kernel
theorem dX0_rowOf_46 : decode cX0_rowOf 46 = .ok (.getfield 15, 3) := by decide +kernel
theorem dX0_rowOf_49 : decode cX0_rowOf 49 = .ok (.areturn, 1) := by decide +kernel
theorem dX0_rowOf_50 : decode cX0_rowOf 50 = .ok (.aload_n 0, 1) := by decide +kernel
theorem dX0_rowOf_51 : decode cX0_rowOf 51 = .ok (.getfield 18, 3) := by decide +kernel
theorem dX0_rowOf_54 : decode cX0_rowOf 54 = .ok (.areturn, 1) := by decide +kernel
theorem dX0_rowOf_55 : decode cX0_rowOf 55 = .ok (.aload_n 0, 1) := by decide +kernel
theorem dX0_rowOf_56 : decode cX0_rowOf 56 = .ok (.getfield 24, 3) := by decide +kernel
theorem dX0_rowOf_59 : decode cX0_rowOf 59 = .ok (.areturn, 1) := by decide +kernel
theorem dX0_rowOf_60 : decode cX0_rowOf 60 = .ok (.aload_n 0, 1) := by decide +kernel
theorem dX0_rowOf_61 : decode cX0_rowOf 61 = .ok (.getfield 27, 3) := by decide +kernel
theorem dX0_rowOf_64 : decode cX0_rowOf 64 = .ok (.areturn, 1) := by decide +kernel
theorem dX0_rowOf_65 : decode cX0_rowOf 65 = .ok (.aload_n 0, 1) := by decide +kernel
theorem dX0_rowOf_66 : decode cX0_rowOf 66 = .ok (.getfield 30, 3) := by decide +kernel
theorem dX0_rowOf_69 : decode cX0_rowOf 69 = .ok (.areturn, 1) := by decide +kernel
theorem dX0_rowOf_70 : decode cX0_rowOf 70 = .ok (.aload_n 0, 1) := by decide +kernel
theorem dX0_rowOf_71 : decode cX0_rowOf 71 = .ok (.getfield 21, 3) := by decide +kernel
theorem dX0_rowOf_74 : decode cX0_rowOf 74 = .ok (.areturn, 1) := by decide +kernel
theorem dX0_get_0 : decode cX0_get 0 = .ok (.iload_n 1, 1) := by decide +kernel
theorem dX0_get_1 : decode cX0_get 1 = .ok (.lookupswitch 50 #[(0, 35), (1, 40), (11, 45)], 35) := by decide +kernel
theorem dX0_get_36 : decode cX0_get 36 = .ok (.aload_n 0, 1) := by decide +kernel
theorem dX0_get_37 : decode cX0_get 37 = .ok (.getfield 36, 3) := by decide +kernel
theorem dX0_get_40 : decode cX0_get 40 = .ok (.ireturn, 1) := by decide +kernel
theorem dX0_get_41 : decode cX0_get 41 = .ok (.aload_n 0, 1) := by decide +kernel
theorem dX0_get_42 : decode cX0_get 42 = .ok (.getfield 46, 3) := by decide +kernel
theorem dX0_get_45 : decode cX0_get 45 = .ok (.ireturn, 1) := by decide +kernel
theorem dX0_get_46 : decode cX0_get 46 = .ok (.aload_n 0, 1) := by decide +kernel
theorem dX0_get_47 : decode cX0_get 47 = .ok (.getfield 55, 3) := by decide +kernel
theorem dX0_get_50 : decode cX0_get 50 = .ok (.ireturn, 1) := by decide +kernel
theorem dX0_get_51 : decode cX0_get 51 = .ok (.aload_n 0, 1) := by decide +kernel
theorem dX0_get_52 : decode cX0_get 52 = .ok (.iload_n 1, 1) := by decide +kernel
theorem dX0_get_53 : decode cX0_get 53 = .ok (.invokevirtual 65, 3) := by decide +kernel
theorem dX0_get_56 : decode cX0_get 56 = .ok (.astore_n 3, 1) := by decide +kernel
theorem dX0_get_57 : decode cX0_get 57 = .ok (.iload_n 2, 1) := by decide +kernel
theorem dX0_get_58 : decode cX0_get 58 = .ok (.ifCond .lt 15, 3) := by decide +kernel
theorem dX0_get_61 : decode cX0_get 61 = .ok (.iload_n 2, 1) := by decide +kernel
theorem dX0_get_62 : decode cX0_get 62 = .ok (.aload_n 3, 1) := by decide +kernel
theorem dX0_get_63 : decode cX0_get 63 = .ok (.arraylength, 1) := by decide +kernel
theorem dX0_get_64 : decode cX0_get 64 = .ok (.if_icmp .ge 9, 3) := by decide +kernel
theorem dX0_get_67 : decode cX0_get 67 = .ok (.aload_n 3, 1) := by decide +kernel
theorem dX0_get_68 : decode cX0_get 68 = .ok (.iload_n 2, 1) := by decide +kernel
theorem dX0_get_69 : decode cX0_get 69 = .ok (.iaload, 1) := by decide +kernel
theorem dX0_get_70 : decode cX0_get 70 = .ok (.goto 4, 3) := by decide +kernel
theorem dX0_get_73 : decode cX0_get 73 = .ok (.iconst 0, 1) := by decide +kernel
theorem dX0_get_74 : decode cX0_get 74 = .ok (.ireturn, 1) := by decide +kernel
theorem dX0_put_0 : decode cX0_put 0 = .ok (.iload_n 1, 1) := by decide +kernel
theorem dX0_put_1 : decode cX0_put 1 = .ok (.lookupswitch 59 #[(0, 35), (1, 43), (11, 51)], 35) := by decide +kernel
theorem dX0_put_36 : decode cX0_put 36 = .ok (.aload_n 0, 1) := by decide +kernel
theorem dX0_put_37 : decode cX0_put 37 = .ok (.iload_n 3, 1) := by decide +kernel
theorem dX0_put_38 : decode cX0_put 38 = .ok (.putfield 36, 3) := by decide +kernel
theorem dX0_put_41 : decode cX0_put 41 = .ok (.goto 42, 3) := by decide +kernel
theorem dX0_put_44 : decode cX0_put 44 = .ok (.aload_n 0, 1) := by decide +kernel
theorem dX0_put_45 : decode cX0_put 45 = .ok (.iload_n 3, 1) := by decide +kernel
theorem dX0_put_46 : decode cX0_put 46 = .ok (.putfield 46, 3) := by decide +kernel
theorem dX0_put_49 : decode cX0_put 49 = .ok (.goto 34, 3) := by decide +kernel
theorem dX0_put_52 : decode cX0_put 52 = .ok (.aload_n 0, 1) := by decide +kernel
theorem dX0_put_53 : decode cX0_put 53 = .ok (.iload_n 3, 1) := by decide +kernel
theorem dX0_put_54 : decode cX0_put 54 = .ok (.putfield 55, 3) := by decide +kernel
theorem dX0_put_57 : decode cX0_put 57 = .ok (.goto 26, 3) := by decide +kernel
theorem dX0_put_60 : decode cX0_put 60 = .ok (.aload_n 0, 1) := by decide +kernel
theorem dX0_put_61 : decode cX0_put 61 = .ok (.iload_n 1, 1) := by decide +kernel
theorem dX0_put_62 : decode cX0_put 62 = .ok (.invokevirtual 65, 3) := by decide +kernel
theorem dX0_put_65 : decode cX0_put 65 = .ok (.astore 4, 2) := by decide +kernel
theorem dX0_put_67 : decode cX0_put 67 = .ok (.iload_n 2, 1) := by decide +kernel
theorem dX0_put_68 : decode cX0_put 68 = .ok (.ifCond .lt 15, 3) := by decide +kernel
theorem dX0_put_71 : decode cX0_put 71 = .ok (.iload_n 2, 1) := by decide +kernel
theorem dX0_put_72 : decode cX0_put 72 = .ok (.aload 4, 2) := by decide +kernel
theorem dX0_put_74 : decode cX0_put 74 = .ok (.arraylength, 1) := by decide +kernel
theorem dX0_put_75 : decode cX0_put 75 = .ok (.if_icmp .ge 8, 3) := by decide +kernel
theorem dX0_put_78 : decode cX0_put 78 = .ok (.aload 4, 2) := by decide +kernel
theorem dX0_put_80 : decode cX0_put 80 = .ok (.iload_n 2, 1) := by decide +kernel
theorem dX0_put_81 : decode cX0_put 81 = .ok (.iload_n 3, 1) := by decide +kernel
theorem dX0_put_82 : decode cX0_put 82 = .ok (.iastore, 1) := by decide +kernel
theorem dX0_put_83 : decode cX0_put 83 = .ok (.return_, 1) := by decide +kernel
theorem dX0_goes_0 : decode cX0_goes 0 = .ok (.iload_n 1, 1) := by decide +kernel
theorem dX0_goes_1 : decode cX0_goes 1 = .ok (.ifCond .lt 25, 3) := by decide +kernel
theorem dX0_goes_4 : decode cX0_goes 4 = .ok (.iload_n 1, 1) := by decide +kernel
theorem dX0_goes_5 : decode cX0_goes 5 = .ok (.aload_n 0, 1) := by decide +kernel
theorem dX0_goes_6 : decode cX0_goes 6 = .ok (.getfield 52, 3) := by decide +kernel
theorem dX0_goes_9 : decode cX0_goes 9 = .ok (.if_icmp .ge 17, 3) := by decide +kernel
theorem dX0_goes_12 : decode cX0_goes 12 = .ok (.aload_n 0, 1) := by decide +kernel
theorem dX0_goes_13 : decode cX0_goes 13 = .ok (.getfield 30, 3) := by decide +kernel
theorem dX0_goes_16 : decode cX0_goes 16 = .ok (.iload_n 1, 1) := by decide +kernel
theorem dX0_goes_17 : decode cX0_goes 17 = .ok (.iaload, 1) := by decide +kernel
theorem dX0_goes_18 : decode cX0_goes 18 = .ok (.iconst 1, 1) := by decide +kernel
theorem dX0_goes_19 : decode cX0_goes 19 = .ok (.if_icmp .ne 7, 3) := by decide +kernel
theorem dX0_goes_22 : decode cX0_goes 22 = .ok (.iconst 1, 1) := by decide +kernel
theorem dX0_goes_23 : decode cX0_goes 23 = .ok (.goto 4, 3) := by decide +kernel
theorem dX0_goes_26 : decode cX0_goes 26 = .ok (.iconst 0, 1) := by decide +kernel
theorem dX0_goes_27 : decode cX0_goes 27 = .ok (.ireturn, 1) := by decide +kernel
theorem dX0_goingWorks_0 : decode cX0_goingWorks 0 = .ok (.iconst 0, 1) := by decide +kernel
theorem dX0_goingWorks_1 : decode cX0_goingWorks 1 = .ok (.istore_n 1, 1) := by decide +kernel
theorem dX0_goingWorks_2 : decode cX0_goingWorks 2 = .ok (.iconst 0, 1) := by decide +kernel
theorem dX0_goingWorks_3 : decode cX0_goingWorks 3 = .ok (.istore_n 2, 1) := by decide +kernel
theorem dX0_goingWorks_4 : decode cX0_goingWorks 4 = .ok (.iload_n 2, 1) := by decide +kernel
theorem dX0_goingWorks_5 : decode cX0_goingWorks 5 = .ok (.bipush 6, 2) := by decide +kernel
theorem dX0_goingWorks_7 : decode cX0_goingWorks 7 = .ok (.if_icmp .ge 20, 3) := by decide +kernel
theorem dX0_goingWorks_10 : decode cX0_goingWorks 10 = .ok (.aload_n 0, 1) := by decide +kernel
theorem dX0_goingWorks_11 : decode cX0_goingWorks 11 = .ok (.iload_n 2, 1) := by decide +kernel
theorem dX0_goingWorks_12 : decode cX0_goingWorks 12 = .ok (.invokevirtual 69, 3) := by decide +kernel
theorem dX0_goingWorks_15 : decode cX0_goingWorks 15 = .ok (.ifCond .eq 6, 3) := by decide +kernel
theorem dX0_goingWorks_18 : decode cX0_goingWorks 18 = .ok (.iinc 1 1, 3) := by decide +kernel
theorem dX0_goingWorks_21 : decode cX0_goingWorks 21 = .ok (.iinc 2 1, 3) := by decide +kernel
theorem dX0_goingWorks_24 : decode cX0_goingWorks 24 = .ok (.goto (-20), 3) := by decide +kernel
theorem dX0_goingWorks_27 : decode cX0_goingWorks 27 = .ok (.iload_n 1, 1) := by decide +kernel
theorem dX0_goingWorks_28 : decode cX0_goingWorks 28 = .ok (.ireturn, 1) := by decide +kernel
theorem dX0_dryCells_0 : decode cX0_dryCells 0 = .ok (.iconst 0, 1) := by decide +kernel
theorem dX0_dryCells_1 : decode cX0_dryCells 1 = .ok (.istore_n 1, 1) := by decide +kernel
theorem dX0_dryCells_2 : decode cX0_dryCells 2 = .ok (.iconst 0, 1) := by decide +kernel
theorem dX0_dryCells_3 : decode cX0_dryCells 3 = .ok (.istore_n 2, 1) := by decide +kernel
theorem dX0_dryCells_4 : decode cX0_dryCells 4 = .ok (.iload_n 2, 1) := by decide +kernel
theorem dX0_dryCells_5 : decode cX0_dryCells 5 = .ok (.bipush 12, 2) := by decide +kernel
theorem dX0_dryCells_7 : decode cX0_dryCells 7 = .ok (.if_icmp .ge 24, 3) := by decide +kernel
theorem dX0_dryCells_10 : decode cX0_dryCells 10 = .ok (.aload_n 0, 1) := by decide +kernel
theorem dX0_dryCells_11 : decode cX0_dryCells 11 = .ok (.getfield 18, 3) := by decide +kernel
theorem dX0_dryCells_14 : decode cX0_dryCells 14 = .ok (.iload_n 2, 1) := by decide +kernel
theorem dX0_dryCells_15 : decode cX0_dryCells 15 = .ok (.iaload, 1) := by decide +kernel
theorem dX0_dryCells_16 : decode cX0_dryCells 16 = .ok (.ifCond .ne 9, 3) := by decide +kernel
theorem dX0_dryCells_19 : decode cX0_dryCells 19 = .ok (.iload_n 1, 1) := by decide +kernel
theorem dX0_dryCells_20 : decode cX0_dryCells 20 = .ok (.iconst 1, 1) := by decide +kernel
theorem dX0_dryCells_21 : decode cX0_dryCells 21 = .ok (.iload_n 2, 1) := by decide +kernel
theorem dX0_dryCells_22 : decode cX0_dryCells 22 = .ok (.ishl, 1) := by decide +kernel
theorem dX0_dryCells_23 : decode cX0_dryCells 23 = .ok (.ior, 1) := by decide +kernel
theorem dX0_dryCells_24 : decode cX0_dryCells 24 = .ok (.istore_n 1, 1) := by decide +kernel
theorem dX0_dryCells_25 : decode cX0_dryCells 25 = .ok (.iinc 2 1, 3) := by decide +kernel
theorem dX0_dryCells_28 : decode cX0_dryCells 28 = .ok (.goto (-24), 3) := by decide +kernel
theorem dX0_dryCells_31 : decode cX0_dryCells 31 = .ok (.iload_n 1, 1) := by decide +kernel
theorem dX0_dryCells_32 : decode cX0_dryCells 32 = .ok (.ireturn, 1) := by decide +kernel
theorem dX0_isUnder_0 : decode cX0_isUnder 0 = .ok (.iload_n 0, 1) := by decide +kernel
theorem dX0_isUnder_1 : decode cX0_isUnder 1 = .ok (.istore_n 2, 1) := by decide +kernel
theorem dX0_isUnder_2 : decode cX0_isUnder 2 = .ok (.iconst 0, 1) := by decide +kernel
theorem dX0_isUnder_3 : decode cX0_isUnder 3 = .ok (.istore_n 3, 1) := by decide +kernel
theorem dX0_isUnder_4 : decode cX0_isUnder 4 = .ok (.iload_n 3, 1) := by decide +kernel
theorem dX0_isUnder_5 : decode cX0_isUnder 5 = .ok (.bipush 6, 2) := by decide +kernel
theorem dX0_isUnder_7 : decode cX0_isUnder 7 = .ok (.if_icmp .ge 34, 3) := by decide +kernel
theorem dX0_isUnder_10 : decode cX0_isUnder 10 = .ok (.iload_n 2, 1) := by decide +kernel
theorem dX0_isUnder_11 : decode cX0_isUnder 11 = .ok (.ifCond .lt 30, 3) := by decide +kernel
theorem dX0_isUnder_14 : decode cX0_isUnder 14 = .ok (.iload_n 2, 1) := by decide +kernel
theorem dX0_isUnder_15 : decode cX0_isUnder 15 = .ok (.getstatic 72, 3) := by decide +kernel
theorem dX0_isUnder_18 : decode cX0_isUnder 18 = .ok (.arraylength, 1) := by decide +kernel
theorem dX0_isUnder_19 : decode cX0_isUnder 19 = .ok (.if_icmp .ge 22, 3) := by decide +kernel
theorem dX0_isUnder_22 : decode cX0_isUnder 22 = .ok (.iload_n 2, 1) := by decide +kernel
theorem dX0_isUnder_23 : decode cX0_isUnder 23 = .ok (.iload_n 1, 1) := by decide +kernel
theorem dX0_isUnder_24 : decode cX0_isUnder 24 = .ok (.if_icmp .ne 5, 3) := by decide +kernel
theorem dX0_isUnder_27 : decode cX0_isUnder 27 = .ok (.iconst 1, 1) := by decide +kernel
theorem dX0_isUnder_28 : decode cX0_isUnder 28 = .ok (.ireturn, 1) := by decide +kernel
theorem dX0_isUnder_29 : decode cX0_isUnder 29 = .ok (.getstatic 72, 3) := by decide +kernel
theorem dX0_isUnder_32 : decode cX0_isUnder 32 = .ok (.iload_n 2, 1) := by decide +kernel
theorem dX0_isUnder_33 : decode cX0_isUnder 33 = .ok (.iaload, 1) := by decide +kernel
theorem dX0_isUnder_34 : decode cX0_isUnder 34 = .ok (.istore_n 2, 1) := by decide +kernel
theorem dX0_isUnder_35 : decode cX0_isUnder 35 = .ok (.iinc 3 1, 3) := by decide +kernel
theorem dX0_isUnder_38 : decode cX0_isUnder 38 = .ok (.goto (-34), 3) := by decide +kernel
theorem dX0_isUnder_41 : decode cX0_isUnder 41 = .ok (.iconst 0, 1) := by decide +kernel
theorem dX0_isUnder_42 : decode cX0_isUnder 42 = .ok (.ireturn, 1) := by decide +kernel
theorem dX0_spreads_0 : decode cX0_spreads 0 = .ok (.iload_n 0, 1) := by decide +kernel
theorem dX0_spreads_1 : decode cX0_spreads 1 = .ok (.iconst 1, 1) := by decide +kernel
theorem dX0_spreads_2 : decode cX0_spreads 2 = .ok (.if_icmp .eq 8, 3) := by decide +kernel
theorem dX0_spreads_5 : decode cX0_spreads 5 = .ok (.iload_n 0, 1) := by decide +kernel
theorem dX0_spreads_6 : decode cX0_spreads 6 = .ok (.iconst 4, 1) := by decide +kernel
theorem dX0_spreads_7 : decode cX0_spreads 7 = .ok (.if_icmp .ne 7, 3) := by decide +kernel
theorem dX0_spreads_10 : decode cX0_spreads 10 = .ok (.iconst 1, 1) := by decide +kernel
theorem dX0_spreads_11 : decode cX0_spreads 11 = .ok (.goto 4, 3) := by decide +kernel
theorem dX0_spreads_14 : decode cX0_spreads 14 = .ok (.iconst 0, 1) := by decide +kernel
theorem dX0_spreads_15 : decode cX0_spreads 15 = .ok (.ireturn, 1) := by decide +kernel
theorem dX0_holds_0 : decode cX0_holds 0 = .ok (.iload_n 0, 1) := by decide +kernel
theorem dX0_holds_1 : decode cX0_holds 1 = .ok (.iconst 5, 1) := by decide +kernel
theorem dX0_holds_2 : decode cX0_holds 2 = .ok (.if_icmp .ne 7, 3) := by decide +kernel
theorem dX0_holds_5 : decode cX0_holds 5 = .ok (.iconst 1, 1) := by decide +kernel
theorem dX0_holds_6 : decode cX0_holds 6 = .ok (.goto 4, 3) := by decide +kernel
theorem dX0_holds_9 : decode cX0_holds 9 = .ok (.iconst 0, 1) := by decide +kernel
theorem dX0_holds_10 : decode cX0_holds 10 = .ok (.ireturn, 1) := by decide +kernel
theorem dX0_draws_0 : decode cX0_draws 0 = .ok (.aload_n 0, 1) := by decide +kernel
theorem dX0_draws_1 : decode cX0_draws 1 = .ok (.getfield 24, 3) := by decide +kernel
theorem dX0_draws_4 : decode cX0_draws 4 = .ok (.iload_n 1, 1) := by decide +kernel
theorem dX0_draws_5 : decode cX0_draws 5 = .ok (.iaload, 1) := by decide +kernel
theorem dX0_draws_6 : decode cX0_draws 6 = .ok (.istore_n 3, 1) := by decide +kernel
theorem dX0_draws_7 : decode cX0_draws 7 = .ok (.aload_n 0, 1) := by decide +kernel
theorem dX0_draws_8 : decode cX0_draws 8 = .ok (.getfield 9, 3) := by decide +kernel
theorem dX0_draws_11 : decode cX0_draws 11 = .ok (.iload_n 2, 1) := by decide +kernel
theorem dX0_draws_12 : decode cX0_draws 12 = .ok (.iaload, 1) := by decide +kernel
theorem dX0_draws_13 : decode cX0_draws 13 = .ok (.aload_n 0, 1) := by decide +kernel
theorem dX0_draws_14 : decode cX0_draws 14 = .ok (.getfield 36, 3) := by decide +kernel
theorem dX0_draws_17 : decode cX0_draws 17 = .ok (.if_icmp .le 16, 3) := by decide +kernel
theorem dX0_draws_20 : decode cX0_draws 20 = .ok (.aload_n 0, 1) := by decide +kernel
theorem dX0_draws_21 : decode cX0_draws 21 = .ok (.getfield 18, 3) := by decide +kernel
theorem dX0_draws_24 : decode cX0_draws 24 = .ok (.iload_n 2, 1) := by decide +kernel
theorem dX0_draws_25 : decode cX0_draws 25 = .ok (.iaload, 1) := by decide +kernel
theorem dX0_draws_26 : decode cX0_draws 26 = .ok (.iconst 2, 1) := by decide +kernel
theorem dX0_draws_27 : decode cX0_draws 27 = .ok (.idiv, 1) := by decide +kernel
theorem dX0_draws_28 : decode cX0_draws 28 = .ok (.iload_n 3, 1) := by decide +kernel
theorem dX0_draws_29 : decode cX0_draws 29 = .ok (.iadd, 1) := by decide +kernel
theorem dX0_draws_30 : decode cX0_draws 30 = .ok (.goto 4, 3) := by decide +kernel
theorem dX0_draws_33 : decode cX0_draws 33 = .ok (.iload_n 3, 1) := by decide +kernel
theorem dX0_draws_34 : decode cX0_draws 34 = .ok (.istore 4, 2) := by decide +kernel
theorem dX0_draws_36 : decode cX0_draws 36 = .ok (.aload_n 0, 1) := by decide +kernel
theorem dX0_draws_37 : decode cX0_draws 37 = .ok (.getfield 21, 3) := by decide +kernel
theorem dX0_draws_40 : decode cX0_draws 40 = .ok (.iload_n 1, 1) := by decide +kernel
theorem dX0_draws_41 : decode cX0_draws 41 = .ok (.iaload, 1) := by decide +kernel
theorem dX0_draws_42 : decode cX0_draws 42 = .ok (.tableswitch 86 1 5 #[34, 41, 49, 70, 80], 34) := by decide +kernel
theorem dX0_draws_76 : decode cX0_draws 76 = .ok (.iload 4, 2) := by decide +kernel
theorem dX0_draws_78 : decode cX0_draws 78 = .ok (.istore 5, 2) := by decide +kernel
theorem dX0_draws_80 : decode cX0_draws 80 = .ok (.goto 51, 3) := by decide +kernel
theorem dX0_draws_83 : decode cX0_draws 83 = .ok (.iload_n 3, 1) := by decide +kernel
theorem dX0_draws_84 : decode cX0_draws 84 = .ok (.iconst 5, 1) := by decide +kernel
theorem dX0_draws_85 : decode cX0_draws 85 = .ok (.iadd, 1) := by decide +kernel
theorem dX0_draws_86 : decode cX0_draws 86 = .ok (.istore 5, 2) := by decide +kernel
theorem dX0_draws_88 : decode cX0_draws 88 = .ok (.goto 43, 3) := by decide +kernel
theorem dX0_draws_91 : decode cX0_draws 91 = .ok (.aload_n 0, 1) := by decide +kernel
theorem dX0_draws_92 : decode cX0_draws 92 = .ok (.getfield 46, 3) := by decide +kernel
theorem dX0_draws_95 : decode cX0_draws 95 = .ok (.iconst 3, 1) := by decide +kernel
theorem dX0_draws_96 : decode cX0_draws 96 = .ok (.irem, 1) := by decide +kernel
theorem dX0_draws_97 : decode cX0_draws 97 = .ok (.iconst 2, 1) := by decide +kernel
theorem dX0_draws_98 : decode cX0_draws 98 = .ok (.if_icmp .ne 7, 3) := by decide +kernel
theorem dX0_draws_101 : decode cX0_draws 101 = .ok (.iconst 0, 1) := by decide +kernel
theorem dX0_draws_102 : decode cX0_draws 102 = .ok (.goto 5, 3) := by decide +kernel
theorem dX0_draws_105 : decode cX0_draws 105 = .ok (.iload 4, 2) := by decide +kernel
theorem dX0_draws_107 : decode cX0_draws 107 = .ok (.istore 5, 2) := by decide +kernel
theorem dX0_draws_109 : decode cX0_draws 109 = .ok (.goto 22, 3) := by decide +kernel
theorem dX0_draws_112 : decode cX0_draws 112 = .ok (.iconst 2, 1) := by decide +kernel
theorem dX0_draws_113 : decode cX0_draws 113 = .ok (.iload_n 3, 1) := by decide +kernel
theorem dX0_draws_114 : decode cX0_draws 114 = .ok (.iconst 5, 1) := by decide +kernel
theorem dX0_draws_115 : decode cX0_draws 115 = .ok (.iadd, 1) := by decide +kernel
theorem dX0_draws_116 : decode cX0_draws 116 = .ok (.imul, 1) := by decide +kernel
theorem dX0_draws_117 : decode cX0_draws 117 = .ok (.istore 5, 2) := by decide +kernel
theorem dX0_draws_119 : decode cX0_draws 119 = .ok (.goto 12, 3) := by decide +kernel
theorem dX0_draws_122 : decode cX0_draws 122 = .ok (.iconst 0, 1) := by decide +kernel
theorem dX0_draws_123 : decode cX0_draws 123 = .ok (.istore 5, 2) := by decide +kernel
theorem dX0_draws_125 : decode cX0_draws 125 = .ok (.goto 6, 3) := by decide +kernel
theorem dX0_draws_128 : decode cX0_draws 128 = .ok (.iload_n 3, 1) := by decide +kernel
theorem dX0_draws_129 : decode cX0_draws 129 = .ok (.istore 5, 2) := by decide +kernel
theorem dX0_draws_131 : decode cX0_draws 131 = .ok (.iload 5, 2) := by decide +kernel
theorem dX0_draws_133 : decode cX0_draws 133 = .ok (.aload_n 0, 1) := by decide +kernel
theorem dX0_draws_134 : decode cX0_draws 134 = .ok (.getfield 18, 3) := by decide +kernel
theorem dX0_draws_137 : decode cX0_draws 137 = .ok (.iload_n 2, 1) := by decide +kernel
theorem dX0_draws_138 : decode cX0_draws 138 = .ok (.iaload, 1) := by decide +kernel
theorem dX0_draws_139 : decode cX0_draws 139 = .ok (.invokestatic 75, 3) := by decide +kernel
theorem dX0_draws_142 : decode cX0_draws 142 = .ok (.ireturn, 1) := by decide +kernel
theorem dX0_drawsOfOwn_0 : decode cX0_drawsOfOwn 0 = .ok (.iload_n 1, 1) := by decide +kernel
theorem dX0_drawsOfOwn_1 : decode cX0_drawsOfOwn 1 = .ok (.ifCond .lt 23, 3) := by decide +kernel
theorem dX0_drawsOfOwn_4 : decode cX0_drawsOfOwn 4 = .ok (.iload_n 1, 1) := by decide +kernel
theorem dX0_drawsOfOwn_5 : decode cX0_drawsOfOwn 5 = .ok (.aload_n 0, 1) := by decide +kernel
theorem dX0_drawsOfOwn_6 : decode cX0_drawsOfOwn 6 = .ok (.getfield 52, 3) := by decide +kernel
theorem dX0_drawsOfOwn_9 : decode cX0_drawsOfOwn 9 = .ok (.if_icmp .ge 15, 3) := by decide +kernel
theorem dX0_drawsOfOwn_12 : decode cX0_drawsOfOwn 12 = .ok (.aload_n 0, 1) := by decide +kernel
theorem dX0_drawsOfOwn_13 : decode cX0_drawsOfOwn 13 = .ok (.getfield 27, 3) := by decide +kernel
theorem dX0_drawsOfOwn_16 : decode cX0_drawsOfOwn 16 = .ok (.iload_n 1, 1) := by decide +kernel
theorem dX0_drawsOfOwn_17 : decode cX0_drawsOfOwn 17 = .ok (.iaload, 1) := by decide +kernel
theorem dX0_drawsOfOwn_18 : decode cX0_drawsOfOwn 18 = .ok (.invokestatic 61, 3) := by decide +kernel
theorem dX0_drawsOfOwn_21 : decode cX0_drawsOfOwn 21 = .ok (.ifCond .ne 5, 3) := by decide +kernel
theorem dX0_drawsOfOwn_24 : decode cX0_drawsOfOwn 24 = .ok (.iconst 0, 1) := by decide +kernel
theorem dX0_drawsOfOwn_25 : decode cX0_drawsOfOwn 25 = .ok (.ireturn, 1) := by decide +kernel
theorem dX0_drawsOfOwn_26 : decode cX0_drawsOfOwn 26 = .ok (.aload_n 0, 1) := by decide +kernel
theorem dX0_drawsOfOwn_27 : decode cX0_drawsOfOwn 27 = .ok (.iload_n 1, 1) := by decide +kernel
theorem dX0_drawsOfOwn_28 : decode cX0_drawsOfOwn 28 = .ok (.aload_n 0, 1) := by decide +kernel
theorem dX0_drawsOfOwn_29 : decode cX0_drawsOfOwn 29 = .ok (.getfield 27, 3) := by decide +kernel
theorem dX0_drawsOfOwn_32 : decode cX0_drawsOfOwn 32 = .ok (.iload_n 1, 1) := by decide +kernel
theorem dX0_drawsOfOwn_33 : decode cX0_drawsOfOwn 33 = .ok (.iaload, 1) := by decide +kernel
theorem dX0_drawsOfOwn_34 : decode cX0_drawsOfOwn 34 = .ok (.invokevirtual 81, 3) := by decide +kernel
theorem dX0_drawsOfOwn_37 : decode cX0_drawsOfOwn 37 = .ok (.ireturn, 1) := by decide +kernel
theorem dX0_costs_0 : decode cX0_costs 0 = .ok (.iload_n 2, 1) := by decide +kernel
theorem dX0_costs_1 : decode cX0_costs 1 = .ok (.ifCond .lt 11, 3) := by decide +kernel
theorem dX0_costs_4 : decode cX0_costs 4 = .ok (.iload_n 2, 1) := by decide +kernel
theorem dX0_costs_5 : decode cX0_costs 5 = .ok (.aload_n 0, 1) := by decide +kernel
theorem dX0_costs_6 : decode cX0_costs 6 = .ok (.getfield 52, 3) := by decide +kernel
theorem dX0_costs_9 : decode cX0_costs 9 = .ok (.if_icmp .lt 5, 3) := by decide +kernel
theorem dX0_costs_12 : decode cX0_costs 12 = .ok (.iconst 0, 1) := by decide +kernel
theorem dX0_costs_13 : decode cX0_costs 13 = .ok (.ireturn, 1) := by decide +kernel
theorem dX0_costs_14 : decode cX0_costs 14 = .ok (.aload_n 0, 1) := by decide +kernel
theorem dX0_costs_15 : decode cX0_costs 15 = .ok (.aload_n 1, 1) := by decide +kernel
theorem dX0_costs_16 : decode cX0_costs 16 = .ok (.iconst 2, 1) := by decide +kernel
theorem dX0_costs_17 : decode cX0_costs 17 = .ok (.aload_n 0, 1) := by decide +kernel
theorem dX0_costs_18 : decode cX0_costs 18 = .ok (.getfield 27, 3) := by decide +kernel
theorem dX0_costs_21 : decode cX0_costs 21 = .ok (.iload_n 2, 1) := by decide +kernel
theorem dX0_costs_22 : decode cX0_costs 22 = .ok (.iaload, 1) := by decide +kernel
theorem dX0_costs_23 : decode cX0_costs 23 = .ok (.iload_n 2, 1) := by decide +kernel
theorem dX0_costs_24 : decode cX0_costs 24 = .ok (.invokevirtual 84, 3) := by decide +kernel
theorem dX0_costs_27 : decode cX0_costs 27 = .ok (.istore_n 3, 1) := by decide +kernel
theorem dX0_costs_28 : decode cX0_costs 28 = .ok (.aload_n 0, 1) := by decide +kernel
theorem dX0_costs_29 : decode cX0_costs 29 = .ok (.getfield 21, 3) := by decide +kernel
theorem dX0_costs_32 : decode cX0_costs 32 = .ok (.iload_n 2, 1) := by decide +kernel
theorem dX0_costs_33 : decode cX0_costs 33 = .ok (.iaload, 1) := by decide +kernel
theorem dX0_costs_34 : decode cX0_costs 34 = .ok (.tableswitch 60 1 4 #[30, 34, 38, 49], 30) := by decide +kernel
theorem dX0_costs_64 : decode cX0_costs 64 = .ok (.iload_n 3, 1) := by decide +kernel
theorem dX0_costs_65 : decode cX0_costs 65 = .ok (.iconst 2, 1) := by decide +kernel
theorem dX0_costs_66 : decode cX0_costs 66 = .ok (.idiv, 1) := by decide +kernel
theorem dX0_costs_67 : decode cX0_costs 67 = .ok (.ireturn, 1) := by decide +kernel
theorem dX0_costs_68 : decode cX0_costs 68 = .ok (.iconst 2, 1) := by decide +kernel
theorem dX0_costs_69 : decode cX0_costs 69 = .ok (.iload_n 3, 1) := by decide +kernel
theorem dX0_costs_70 : decode cX0_costs 70 = .ok (.imul, 1) := by decide +kernel
theorem dX0_costs_71 : decode cX0_costs 71 = .ok (.ireturn, 1) := by decide +kernel
theorem dX0_costs_72 : decode cX0_costs 72 = .ok (.iload_n 3, 1) := by decide +kernel
theorem dX0_costs_73 : decode cX0_costs 73 = .ok (.iconst 2, 1) := by decide +kernel
theorem dX0_costs_74 : decode cX0_costs 74 = .ok (.idiv, 1) := by decide +kernel
theorem dX0_costs_75 : decode cX0_costs 75 = .ok (.aload_n 0, 1) := by decide +kernel
theorem dX0_costs_76 : decode cX0_costs 76 = .ok (.getfield 24, 3) := by decide +kernel
theorem dX0_costs_79 : decode cX0_costs 79 = .ok (.iload_n 2, 1) := by decide +kernel
theorem dX0_costs_80 : decode cX0_costs 80 = .ok (.iaload, 1) := by decide +kernel
theorem dX0_costs_81 : decode cX0_costs 81 = .ok (.iadd, 1) := by decide +kernel
theorem dX0_costs_82 : decode cX0_costs 82 = .ok (.ireturn, 1) := by decide +kernel
theorem dX0_costs_83 : decode cX0_costs 83 = .ok (.iconst 2, 1) := by decide +kernel
theorem dX0_costs_84 : decode cX0_costs 84 = .ok (.iload_n 3, 1) := by decide +kernel
theorem dX0_costs_85 : decode cX0_costs 85 = .ok (.imul, 1) := by decide +kernel
theorem dX0_costs_86 : decode cX0_costs 86 = .ok (.aload_n 0, 1) := by decide +kernel
theorem dX0_costs_87 : decode cX0_costs 87 = .ok (.getfield 24, 3) := by decide +kernel
theorem dX0_costs_90 : decode cX0_costs 90 = .ok (.iload_n 2, 1) := by decide +kernel
theorem dX0_costs_91 : decode cX0_costs 91 = .ok (.iaload, 1) := by decide +kernel
theorem dX0_costs_92 : decode cX0_costs 92 = .ok (.iadd, 1) := by decide +kernel
theorem dX0_costs_93 : decode cX0_costs 93 = .ok (.ireturn, 1) := by decide +kernel
theorem dX0_costs_94 : decode cX0_costs 94 = .ok (.iload_n 3, 1) := by decide +kernel
theorem dX0_costs_95 : decode cX0_costs 95 = .ok (.ireturn, 1) := by decide +kernel
theorem dX0_passYear_0 : decode cX0_passYear 0 = .ok (.aload_n 0, 1) := by decide +kernel
theorem dX0_passYear_1 : decode cX0_passYear 1 = .ok (.aload_n 1, 1) := by decide +kernel
theorem dX0_passYear_2 : decode cX0_passYear 2 = .ok (.invokevirtual 88, 3) := by decide +kernel
theorem dX0_passYear_5 : decode cX0_passYear 5 = .ok (.aload_n 0, 1) := by decide +kernel
theorem dX0_passYear_6 : decode cX0_passYear 6 = .ok (.invokevirtual 92, 3) := by decide +kernel
theorem dX0_passYear_9 : decode cX0_passYear 9 = .ok (.aload_n 0, 1) := by decide +kernel
theorem dX0_passYear_10 : decode cX0_passYear 10 = .ok (.aload_n 1, 1) := by decide +kernel
theorem dX0_passYear_11 : decode cX0_passYear 11 = .ok (.invokevirtual 95, 3) := by decide +kernel
theorem dX0_passYear_14 : decode cX0_passYear 14 = .ok (.aload_n 0, 1) := by decide +kernel
theorem dX0_passYear_15 : decode cX0_passYear 15 = .ok (.aload_n 1, 1) := by decide +kernel
theorem dX0_passYear_16 : decode cX0_passYear 16 = .ok (.invokevirtual 98, 3) := by decide +kernel
theorem dX0_passYear_19 : decode cX0_passYear 19 = .ok (.aload_n 0, 1) := by decide +kernel
theorem dX0_passYear_20 : decode cX0_passYear 20 = .ok (.dup, 1) := by decide +kernel
theorem dX0_passYear_21 : decode cX0_passYear 21 = .ok (.getfield 46, 3) := by decide +kernel
theorem dX0_passYear_24 : decode cX0_passYear 24 = .ok (.iconst 1, 1) := by decide +kernel
theorem dX0_passYear_25 : decode cX0_passYear 25 = .ok (.iadd, 1) := by decide +kernel
theorem dX0_passYear_26 : decode cX0_passYear 26 = .ok (.putfield 46, 3) := by decide +kernel
theorem dX0_passYear_29 : decode cX0_passYear 29 = .ok (.return_, 1) := by decide +kernel
theorem dX0_pour_0 : decode cX0_pour 0 = .ok (.aload_n 0, 1) := by decide +kernel
theorem dX0_pour_1 : decode cX0_pour 1 = .ok (.getfield 18, 3) := by decide +kernel
theorem dX0_pour_4 : decode cX0_pour 4 = .ok (.iload_n 1, 1) := by decide +kernel
theorem dX0_pour_5 : decode cX0_pour 5 = .ok (.sipush 999, 3) := by decide +kernel
theorem dX0_pour_8 : decode cX0_pour 8 = .ok (.aload_n 0, 1) := by decide +kernel
theorem dX0_pour_9 : decode cX0_pour 9 = .ok (.getfield 18, 3) := by decide +kernel
theorem dX0_pour_12 : decode cX0_pour 12 = .ok (.iload_n 1, 1) := by decide +kernel
theorem dX0_pour_13 : decode cX0_pour 13 = .ok (.iaload, 1) := by decide +kernel
theorem dX0_pour_14 : decode cX0_pour 14 = .ok (.iload_n 2, 1) := by decide +kernel
theorem dX0_pour_15 : decode cX0_pour 15 = .ok (.iadd, 1) := by decide +kernel
theorem dX0_pour_16 : decode cX0_pour 16 = .ok (.invokestatic 75, 3) := by decide +kernel
theorem dX0_pour_19 : decode cX0_pour 19 = .ok (.iastore, 1) := by decide +kernel
theorem dX0_pour_20 : decode cX0_pour 20 = .ok (.return_, 1) := by decide +kernel
theorem dX0_pourOnAll_0 : decode cX0_pourOnAll 0 = .ok (.iconst 0, 1) := by decide +kernel
theorem dX0_pourOnAll_1 : decode cX0_pourOnAll 1 = .ok (.istore_n 2, 1) := by decide +kernel
theorem dX0_pourOnAll_2 : decode cX0_pourOnAll 2 = .ok (.iload_n 2, 1) := by decide +kernel
theorem dX0_pourOnAll_3 : decode cX0_pourOnAll 3 = .ok (.bipush 12, 2) := by decide +kernel
theorem dX0_pourOnAll_5 : decode cX0_pourOnAll 5 = .ok (.if_icmp .ge 15, 3) := by decide +kernel
theorem dX0_pourOnAll_8 : decode cX0_pourOnAll 8 = .ok (.aload_n 0, 1) := by decide +kernel
theorem dX0_pourOnAll_9 : decode cX0_pourOnAll 9 = .ok (.iload_n 2, 1) := by decide +kernel
theorem dX0_pourOnAll_10 : decode cX0_pourOnAll 10 = .ok (.iload_n 1, 1) := by decide +kernel
theorem dX0_pourOnAll_11 : decode cX0_pourOnAll 11 = .ok (.invokevirtual 101, 3) := by decide +kernel
theorem dX0_pourOnAll_14 : decode cX0_pourOnAll 14 = .ok (.iinc 2 1, 3) := by decide +kernel
theorem dX0_pourOnAll_17 : decode cX0_pourOnAll 17 = .ok (.goto (-15), 3) := by decide +kernel
theorem dX0_pourOnAll_20 : decode cX0_pourOnAll 20 = .ok (.return_, 1) := by decide +kernel
theorem dX0_rain_0 : decode cX0_rain 0 = .ok (.iconst 0, 1) := by decide +kernel
theorem dX0_rain_1 : decode cX0_rain 1 = .ok (.istore_n 2, 1) := by decide +kernel
theorem dX0_rain_2 : decode cX0_rain 2 = .ok (.iload_n 2, 1) := by decide +kernel
theorem dX0_rain_3 : decode cX0_rain 3 = .ok (.bipush 12, 2) := by decide +kernel
theorem dX0_rain_5 : decode cX0_rain 5 = .ok (.if_icmp .ge 22, 3) := by decide +kernel
theorem dX0_rain_8 : decode cX0_rain 8 = .ok (.aload_n 0, 1) := by decide +kernel
theorem dX0_rain_9 : decode cX0_rain 9 = .ok (.iload_n 2, 1) := by decide +kernel
theorem dX0_rain_10 : decode cX0_rain 10 = .ok (.aload_n 0, 1) := by decide +kernel
theorem dX0_rain_11 : decode cX0_rain 11 = .ok (.aload_n 1, 1) := by decide +kernel
theorem dX0_rain_12 : decode cX0_rain 12 = .ok (.iconst 0, 1) := by decide +kernel
theorem dX0_rain_13 : decode cX0_rain 13 = .ok (.iload_n 2, 1) := by decide +kernel
theorem dX0_rain_14 : decode cX0_rain 14 = .ok (.iconst (-1), 1) := by decide +kernel
theorem dX0_rain_15 : decode cX0_rain 15 = .ok (.invokevirtual 84, 3) := by decide +kernel
theorem dX0_rain_18 : decode cX0_rain 18 = .ok (.invokevirtual 101, 3) := by decide +kernel
theorem dX0_rain_21 : decode cX0_rain 21 = .ok (.iinc 2 1, 3) := by decide +kernel
theorem dX0_rain_24 : decode cX0_rain 24 = .ok (.goto (-22), 3) := by decide +kernel
theorem dX0_rain_27 : decode cX0_rain 27 = .ok (.return_, 1) := by decide +kernel
theorem dX0_heldCells_0 : decode cX0_heldCells 0 = .ok (.iconst 0, 1) := by decide +kernel
theorem dX0_heldCells_1 : decode cX0_heldCells 1 = .ok (.istore_n 1, 1) := by decide +kernel
theorem dX0_heldCells_2 : decode cX0_heldCells 2 = .ok (.iconst 0, 1) := by decide +kernel
theorem dX0_heldCells_3 : decode cX0_heldCells 3 = .ok (.istore_n 2, 1) := by decide +kernel
theorem dX0_heldCells_4 : decode cX0_heldCells 4 = .ok (.iload_n 2, 1) := by decide +kernel
theorem dX0_heldCells_5 : decode cX0_heldCells 5 = .ok (.bipush 6, 2) := by decide +kernel
theorem dX0_heldCells_7 : decode cX0_heldCells 7 = .ok (.if_icmp .ge 40, 3) := by decide +kernel
theorem dX0_heldCells_10 : decode cX0_heldCells 10 = .ok (.aload_n 0, 1) := by decide +kernel
theorem dX0_heldCells_11 : decode cX0_heldCells 11 = .ok (.iload_n 2, 1) := by decide +kernel
theorem dX0_heldCells_12 : decode cX0_heldCells 12 = .ok (.invokevirtual 69, 3) := by decide +kernel
theorem dX0_heldCells_15 : decode cX0_heldCells 15 = .ok (.ifCond .eq 26, 3) := by decide +kernel
theorem dX0_heldCells_18 : decode cX0_heldCells 18 = .ok (.aload_n 0, 1) := by decide +kernel
theorem dX0_heldCells_19 : decode cX0_heldCells 19 = .ok (.getfield 21, 3) := by decide +kernel
theorem dX0_heldCells_22 : decode cX0_heldCells 22 = .ok (.iload_n 2, 1) := by decide +kernel
theorem dX0_heldCells_23 : decode cX0_heldCells 23 = .ok (.iaload, 1) := by decide +kernel
theorem dX0_heldCells_24 : decode cX0_heldCells 24 = .ok (.invokestatic 105, 3) := by decide +kernel
theorem dX0_heldCells_27 : decode cX0_heldCells 27 = .ok (.ifCond .eq 14, 3) := by decide +kernel
theorem dX0_heldCells_30 : decode cX0_heldCells 30 = .ok (.iload_n 1, 1) := by decide +kernel
theorem dX0_heldCells_31 : decode cX0_heldCells 31 = .ok (.iconst 1, 1) := by decide +kernel
theorem dX0_heldCells_32 : decode cX0_heldCells 32 = .ok (.aload_n 0, 1) := by decide +kernel
theorem dX0_heldCells_33 : decode cX0_heldCells 33 = .ok (.getfield 27, 3) := by decide +kernel
theorem dX0_heldCells_36 : decode cX0_heldCells 36 = .ok (.iload_n 2, 1) := by decide +kernel
theorem dX0_heldCells_37 : decode cX0_heldCells 37 = .ok (.iaload, 1) := by decide +kernel
theorem dX0_heldCells_38 : decode cX0_heldCells 38 = .ok (.ishl, 1) := by decide +kernel
theorem dX0_heldCells_39 : decode cX0_heldCells 39 = .ok (.ior, 1) := by decide +kernel
theorem dX0_heldCells_40 : decode cX0_heldCells 40 = .ok (.istore_n 1, 1) := by decide +kernel
theorem dX0_heldCells_41 : decode cX0_heldCells 41 = .ok (.iinc 2 1, 3) := by decide +kernel
theorem dX0_heldCells_44 : decode cX0_heldCells 44 = .ok (.goto (-40), 3) := by decide +kernel
theorem dX0_heldCells_47 : decode cX0_heldCells 47 = .ok (.iload_n 1, 1) := by decide +kernel
theorem dX0_heldCells_48 : decode cX0_heldCells 48 = .ok (.ireturn, 1) := by decide +kernel
theorem dX0_flow_0 : decode cX0_flow 0 = .ok (.aload_n 0, 1) := by decide +kernel
theorem dX0_flow_1 : decode cX0_flow 1 = .ok (.invokevirtual 108, 3) := by decide +kernel
theorem dX0_flow_4 : decode cX0_flow 4 = .ok (.istore_n 1, 1) := by decide +kernel
theorem dX0_flow_5 : decode cX0_flow 5 = .ok (.bipush 11, 2) := by decide +kernel
theorem dX0_flow_7 : decode cX0_flow 7 = .ok (.istore_n 2, 1) := by decide +kernel
theorem dX0_flow_8 : decode cX0_flow 8 = .ok (.iload_n 2, 1) := by decide +kernel
theorem dX0_flow_9 : decode cX0_flow 9 = .ok (.ifCond .le 89, 3) := by decide +kernel
theorem dX0_flow_12 : decode cX0_flow 12 = .ok (.aload_n 0, 1) := by decide +kernel
theorem dX0_flow_13 : decode cX0_flow 13 = .ok (.getfield 9, 3) := by decide +kernel
theorem dX0_flow_16 : decode cX0_flow 16 = .ok (.iload_n 2, 1) := by decide +kernel
theorem dX0_flow_17 : decode cX0_flow 17 = .ok (.iaload, 1) := by decide +kernel
theorem dX0_flow_18 : decode cX0_flow 18 = .ok (.aload_n 0, 1) := by decide +kernel
theorem dX0_flow_19 : decode cX0_flow 19 = .ok (.getfield 18, 3) := by decide +kernel
theorem dX0_flow_22 : decode cX0_flow 22 = .ok (.iload_n 2, 1) := by decide +kernel
theorem dX0_flow_23 : decode cX0_flow 23 = .ok (.iaload, 1) := by decide +kernel
theorem dX0_flow_24 : decode cX0_flow 24 = .ok (.iadd, 1) := by decide +kernel
theorem dX0_flow_25 : decode cX0_flow 25 = .ok (.aload_n 0, 1) := by decide +kernel
theorem dX0_flow_26 : decode cX0_flow 26 = .ok (.getfield 9, 3) := by decide +kernel
theorem dX0_flow_29 : decode cX0_flow 29 = .ok (.iload_n 2, 1) := by decide +kernel
theorem dX0_flow_30 : decode cX0_flow 30 = .ok (.iconst 1, 1) := by decide +kernel
theorem dX0_flow_31 : decode cX0_flow 31 = .ok (.isub, 1) := by decide +kernel
theorem dX0_flow_32 : decode cX0_flow 32 = .ok (.iaload, 1) := by decide +kernel
theorem dX0_flow_33 : decode cX0_flow 33 = .ok (.isub, 1) := by decide +kernel
theorem dX0_flow_34 : decode cX0_flow 34 = .ok (.aload_n 0, 1) := by decide +kernel
theorem dX0_flow_35 : decode cX0_flow 35 = .ok (.getfield 18, 3) := by decide +kernel
theorem dX0_flow_38 : decode cX0_flow 38 = .ok (.iload_n 2, 1) := by decide +kernel
theorem dX0_flow_39 : decode cX0_flow 39 = .ok (.iconst 1, 1) := by decide +kernel
theorem dX0_flow_40 : decode cX0_flow 40 = .ok (.isub, 1) := by decide +kernel
theorem dX0_flow_41 : decode cX0_flow 41 = .ok (.iaload, 1) := by decide +kernel
theorem dX0_flow_42 : decode cX0_flow 42 = .ok (.isub, 1) := by decide +kernel
theorem dX0_flow_43 : decode cX0_flow 43 = .ok (.istore_n 3, 1) := by decide +kernel
theorem dX0_flow_44 : decode cX0_flow 44 = .ok (.iload_n 3, 1) := by decide +kernel
theorem dX0_flow_45 : decode cX0_flow 45 = .ok (.ifCond .le 47, 3) := by decide +kernel
theorem dX0_flow_48 : decode cX0_flow 48 = .ok (.iload_n 1, 1) := by decide +kernel
theorem dX0_flow_49 : decode cX0_flow 49 = .ok (.iload_n 2, 1) := by decide +kernel
theorem dX0_flow_50 : decode cX0_flow 50 = .ok (.iconst 1, 1) := by decide +kernel
theorem dX0_flow_51 : decode cX0_flow 51 = .ok (.isub, 1) := by decide +kernel
theorem dX0_flow_52 : decode cX0_flow 52 = .ok (.ishr, 1) := by decide +kernel
theorem dX0_flow_53 : decode cX0_flow 53 = .ok (.iconst 1, 1) := by decide +kernel
theorem dX0_flow_54 : decode cX0_flow 54 = .ok (.iand, 1) := by decide +kernel
theorem dX0_flow_55 : decode cX0_flow 55 = .ok (.ifCond .ne 37, 3) := by decide +kernel
theorem dX0_flow_58 : decode cX0_flow 58 = .ok (.iload_n 3, 1) := by decide +kernel
theorem dX0_flow_59 : decode cX0_flow 59 = .ok (.iconst 2, 1) := by decide +kernel
theorem dX0_flow_60 : decode cX0_flow 60 = .ok (.idiv, 1) := by decide +kernel
theorem dX0_flow_61 : decode cX0_flow 61 = .ok (.aload_n 0, 1) := by decide +kernel
theorem dX0_flow_62 : decode cX0_flow 62 = .ok (.getfield 18, 3) := by decide +kernel
theorem dX0_flow_65 : decode cX0_flow 65 = .ok (.iload_n 2, 1) := by decide +kernel
theorem dX0_flow_66 : decode cX0_flow 66 = .ok (.iaload, 1) := by decide +kernel
theorem dX0_flow_67 : decode cX0_flow 67 = .ok (.invokestatic 75, 3) := by decide +kernel
theorem dX0_flow_70 : decode cX0_flow 70 = .ok (.istore 4, 2) := by decide +kernel
theorem dX0_flow_72 : decode cX0_flow 72 = .ok (.aload_n 0, 1) := by decide +kernel
theorem dX0_flow_73 : decode cX0_flow 73 = .ok (.getfield 18, 3) := by decide +kernel
theorem dX0_flow_76 : decode cX0_flow 76 = .ok (.iload_n 2, 1) := by decide +kernel
theorem dX0_flow_77 : decode cX0_flow 77 = .ok (.dup2, 1) := by decide +kernel
theorem dX0_flow_78 : decode cX0_flow 78 = .ok (.iaload, 1) := by decide +kernel
theorem dX0_flow_79 : decode cX0_flow 79 = .ok (.iload 4, 2) := by decide +kernel
theorem dX0_flow_81 : decode cX0_flow 81 = .ok (.isub, 1) := by decide +kernel
theorem dX0_flow_82 : decode cX0_flow 82 = .ok (.iastore, 1) := by decide +kernel
theorem dX0_flow_83 : decode cX0_flow 83 = .ok (.aload_n 0, 1) := by decide +kernel
theorem dX0_flow_84 : decode cX0_flow 84 = .ok (.iload_n 2, 1) := by decide +kernel
theorem dX0_flow_85 : decode cX0_flow 85 = .ok (.iconst 1, 1) := by decide +kernel
theorem dX0_flow_86 : decode cX0_flow 86 = .ok (.isub, 1) := by decide +kernel
theorem dX0_flow_87 : decode cX0_flow 87 = .ok (.iload 4, 2) := by decide +kernel
theorem dX0_flow_89 : decode cX0_flow 89 = .ok (.invokevirtual 101, 3) := by decide +kernel
theorem dX0_flow_92 : decode cX0_flow 92 = .ok (.iinc 2 (-1), 3) := by decide +kernel
theorem dX0_flow_95 : decode cX0_flow 95 = .ok (.goto (-87), 3) := by decide +kernel
theorem dX0_flow_98 : decode cX0_flow 98 = .ok (.aload_n 0, 1) := by decide +kernel
theorem dX0_flow_99 : decode cX0_flow 99 = .ok (.iload_n 1, 1) := by decide +kernel
theorem dX0_flow_100 : decode cX0_flow 100 = .ok (.iconst 1, 1) := by decide +kernel
theorem dX0_flow_101 : decode cX0_flow 101 = .ok (.iand, 1) := by decide +kernel
theorem dX0_flow_102 : decode cX0_flow 102 = .ok (.ifCond .eq 7, 3) := by decide +kernel
theorem dX0_flow_105 : decode cX0_flow 105 = .ok (.iconst 1, 1) := by decide +kernel
theorem dX0_flow_106 : decode cX0_flow 106 = .ok (.goto 4, 3) := by decide +kernel
theorem dX0_flow_109 : decode cX0_flow 109 = .ok (.iconst 0, 1) := by decide +kernel
theorem dX0_flow_110 : decode cX0_flow 110 = .ok (.invokevirtual 112, 3) := by decide +kernel
theorem dX0_flow_113 : decode cX0_flow 113 = .ok (.return_, 1) := by decide +kernel
theorem dX0_meetRiver_0 : decode cX0_meetRiver 0 = .ok (.aload_n 0, 1) := by decide +kernel
theorem dX0_meetRiver_1 : decode cX0_meetRiver 1 = .ok (.getfield 9, 3) := by decide +kernel
theorem dX0_meetRiver_4 : decode cX0_meetRiver 4 = .ok (.iconst 0, 1) := by decide +kernel
theorem dX0_meetRiver_5 : decode cX0_meetRiver 5 = .ok (.iaload, 1) := by decide +kernel
theorem dX0_meetRiver_6 : decode cX0_meetRiver 6 = .ok (.aload_n 0, 1) := by decide +kernel
theorem dX0_meetRiver_7 : decode cX0_meetRiver 7 = .ok (.getfield 18, 3) := by decide +kernel
theorem dX0_meetRiver_10 : decode cX0_meetRiver 10 = .ok (.iconst 0, 1) := by decide +kernel
theorem dX0_meetRiver_11 : decode cX0_meetRiver 11 = .ok (.iaload, 1) := by decide +kernel
theorem dX0_meetRiver_12 : decode cX0_meetRiver 12 = .ok (.iadd, 1) := by decide +kernel
theorem dX0_meetRiver_13 : decode cX0_meetRiver 13 = .ok (.aload_n 0, 1) := by decide +kernel
theorem dX0_meetRiver_14 : decode cX0_meetRiver 14 = .ok (.getfield 36, 3) := by decide +kernel
theorem dX0_meetRiver_17 : decode cX0_meetRiver 17 = .ok (.isub, 1) := by decide +kernel
theorem dX0_meetRiver_18 : decode cX0_meetRiver 18 = .ok (.istore_n 2, 1) := by decide +kernel
theorem dX0_meetRiver_19 : decode cX0_meetRiver 19 = .ok (.iload_n 2, 1) := by decide +kernel
theorem dX0_meetRiver_20 : decode cX0_meetRiver 20 = .ok (.ifCond .le 27, 3) := by decide +kernel
theorem dX0_meetRiver_23 : decode cX0_meetRiver 23 = .ok (.aload_n 0, 1) := by decide +kernel
theorem dX0_meetRiver_24 : decode cX0_meetRiver 24 = .ok (.getfield 18, 3) := by decide +kernel
theorem dX0_meetRiver_27 : decode cX0_meetRiver 27 = .ok (.iconst 0, 1) := by decide +kernel
theorem dX0_meetRiver_28 : decode cX0_meetRiver 28 = .ok (.dup2, 1) := by decide +kernel
theorem dX0_meetRiver_29 : decode cX0_meetRiver 29 = .ok (.iaload, 1) := by decide +kernel
theorem dX0_meetRiver_30 : decode cX0_meetRiver 30 = .ok (.iload_n 2, 1) := by decide +kernel
theorem dX0_meetRiver_31 : decode cX0_meetRiver 31 = .ok (.iconst 2, 1) := by decide +kernel
theorem dX0_meetRiver_32 : decode cX0_meetRiver 32 = .ok (.idiv, 1) := by decide +kernel
theorem dX0_meetRiver_33 : decode cX0_meetRiver 33 = .ok (.aload_n 0, 1) := by decide +kernel
theorem dX0_meetRiver_34 : decode cX0_meetRiver 34 = .ok (.getfield 18, 3) := by decide +kernel
theorem dX0_meetRiver_37 : decode cX0_meetRiver 37 = .ok (.iconst 0, 1) := by decide +kernel
theorem dX0_meetRiver_38 : decode cX0_meetRiver 38 = .ok (.iaload, 1) := by decide +kernel
theorem dX0_meetRiver_39 : decode cX0_meetRiver 39 = .ok (.invokestatic 75, 3) := by decide +kernel
theorem dX0_meetRiver_42 : decode cX0_meetRiver 42 = .ok (.isub, 1) := by decide +kernel
theorem dX0_meetRiver_43 : decode cX0_meetRiver 43 = .ok (.iastore, 1) := by decide +kernel
theorem dX0_meetRiver_44 : decode cX0_meetRiver 44 = .ok (.goto 16, 3) := by decide +kernel
theorem dX0_meetRiver_47 : decode cX0_meetRiver 47 = .ok (.iload_n 1, 1) := by decide +kernel
theorem dX0_meetRiver_48 : decode cX0_meetRiver 48 = .ok (.ifCond .ne 12, 3) := by decide +kernel
theorem dX0_meetRiver_51 : decode cX0_meetRiver 51 = .ok (.aload_n 0, 1) := by decide +kernel
theorem dX0_meetRiver_52 : decode cX0_meetRiver 52 = .ok (.iconst 0, 1) := by decide +kernel
theorem dX0_meetRiver_53 : decode cX0_meetRiver 53 = .ok (.iload_n 2, 1) := by decide +kernel
theorem dX0_meetRiver_54 : decode cX0_meetRiver 54 = .ok (.ineg, 1) := by decide +kernel
theorem dX0_meetRiver_55 : decode cX0_meetRiver 55 = .ok (.iconst 2, 1) := by decide +kernel
theorem dX0_meetRiver_56 : decode cX0_meetRiver 56 = .ok (.idiv, 1) := by decide +kernel
theorem dX0_meetRiver_57 : decode cX0_meetRiver 57 = .ok (.invokevirtual 101, 3) := by decide +kernel
theorem dX0_meetRiver_60 : decode cX0_meetRiver 60 = .ok (.return_, 1) := by decide +kernel
theorem dX0_drain_0 : decode cX0_drain 0 = .ok (.iconst 0, 1) := by decide +kernel
theorem dX0_drain_1 : decode cX0_drain 1 = .ok (.istore_n 2, 1) := by decide +kernel
theorem dX0_drain_2 : decode cX0_drain 2 = .ok (.iload_n 2, 1) := by decide +kernel
theorem dX0_drain_3 : decode cX0_drain 3 = .ok (.bipush 6, 2) := by decide +kernel
theorem dX0_drain_5 : decode cX0_drain 5 = .ok (.if_icmp .ge 81, 3) := by decide +kernel
theorem dX0_drain_8 : decode cX0_drain 8 = .ok (.aload_n 0, 1) := by decide +kernel
theorem dX0_drain_9 : decode cX0_drain 9 = .ok (.iload_n 2, 1) := by decide +kernel
theorem dX0_drain_10 : decode cX0_drain 10 = .ok (.invokevirtual 69, 3) := by decide +kernel
theorem dX0_drain_13 : decode cX0_drain 13 = .ok (.ifCond .eq 67, 3) := by decide +kernel
theorem dX0_drain_16 : decode cX0_drain 16 = .ok (.aload_n 0, 1) := by decide +kernel
theorem dX0_drain_17 : decode cX0_drain 17 = .ok (.iload_n 2, 1) := by decide +kernel
theorem dX0_drain_18 : decode cX0_drain 18 = .ok (.aload_n 0, 1) := by decide +kernel
theorem dX0_drain_19 : decode cX0_drain 19 = .ok (.getfield 27, 3) := by decide +kernel
theorem dX0_drain_22 : decode cX0_drain 22 = .ok (.iload_n 2, 1) := by decide +kernel
theorem dX0_drain_23 : decode cX0_drain 23 = .ok (.iaload, 1) := by decide +kernel
theorem dX0_drain_24 : decode cX0_drain 24 = .ok (.invokevirtual 116, 3) := by decide +kernel
theorem dX0_drain_27 : decode cX0_drain 27 = .ok (.aload_n 0, 1) := by decide +kernel
theorem dX0_drain_28 : decode cX0_drain 28 = .ok (.getfield 21, 3) := by decide +kernel
theorem dX0_drain_31 : decode cX0_drain 31 = .ok (.iload_n 2, 1) := by decide +kernel
theorem dX0_drain_32 : decode cX0_drain 32 = .ok (.iaload, 1) := by decide +kernel
theorem dX0_drain_33 : decode cX0_drain 33 = .ok (.invokestatic 119, 3) := by decide +kernel
theorem dX0_drain_36 : decode cX0_drain 36 = .ok (.ifCond .eq 29, 3) := by decide +kernel
theorem dX0_drain_39 : decode cX0_drain 39 = .ok (.aload_n 0, 1) := by decide +kernel
theorem dX0_drain_40 : decode cX0_drain 40 = .ok (.iload_n 2, 1) := by decide +kernel
theorem dX0_drain_41 : decode cX0_drain 41 = .ok (.aload_n 0, 1) := by decide +kernel
theorem dX0_drain_42 : decode cX0_drain 42 = .ok (.getfield 27, 3) := by decide +kernel
theorem dX0_drain_45 : decode cX0_drain 45 = .ok (.iload_n 2, 1) := by decide +kernel
theorem dX0_drain_46 : decode cX0_drain 46 = .ok (.iaload, 1) := by decide +kernel
theorem dX0_drain_47 : decode cX0_drain 47 = .ok (.iconst 1, 1) := by decide +kernel
theorem dX0_drain_48 : decode cX0_drain 48 = .ok (.isub, 1) := by decide +kernel
theorem dX0_drain_49 : decode cX0_drain 49 = .ok (.invokevirtual 116, 3) := by decide +kernel
theorem dX0_drain_52 : decode cX0_drain 52 = .ok (.aload_n 0, 1) := by decide +kernel
theorem dX0_drain_53 : decode cX0_drain 53 = .ok (.iload_n 2, 1) := by decide +kernel
theorem dX0_drain_54 : decode cX0_drain 54 = .ok (.aload_n 0, 1) := by decide +kernel
theorem dX0_drain_55 : decode cX0_drain 55 = .ok (.getfield 27, 3) := by decide +kernel
theorem dX0_drain_58 : decode cX0_drain 58 = .ok (.iload_n 2, 1) := by decide +kernel
theorem dX0_drain_59 : decode cX0_drain 59 = .ok (.iaload, 1) := by decide +kernel
theorem dX0_drain_60 : decode cX0_drain 60 = .ok (.iconst 1, 1) := by decide +kernel
theorem dX0_drain_61 : decode cX0_drain 61 = .ok (.iadd, 1) := by decide +kernel
theorem dX0_drain_62 : decode cX0_drain 62 = .ok (.invokevirtual 116, 3) := by decide +kernel
theorem dX0_drain_65 : decode cX0_drain 65 = .ok (.aload_n 0, 1) := by decide +kernel
theorem dX0_drain_66 : decode cX0_drain 66 = .ok (.dup, 1) := by decide +kernel
theorem dX0_drain_67 : decode cX0_drain 67 = .ok (.getfield 49, 3) := by decide +kernel
theorem dX0_drain_70 : decode cX0_drain 70 = .ok (.aload_n 0, 1) := by decide +kernel
theorem dX0_drain_71 : decode cX0_drain 71 = .ok (.aload_n 1, 1) := by decide +kernel
theorem dX0_drain_72 : decode cX0_drain 72 = .ok (.iload_n 2, 1) := by decide +kernel
theorem dX0_drain_73 : decode cX0_drain 73 = .ok (.invokevirtual 122, 3) := by decide +kernel
theorem dX0_drain_76 : decode cX0_drain 76 = .ok (.iadd, 1) := by decide +kernel
theorem dX0_drain_77 : decode cX0_drain 77 = .ok (.putfield 49, 3) := by decide +kernel
theorem dX0_drain_80 : decode cX0_drain 80 = .ok (.iinc 2 1, 3) := by decide +kernel
theorem dX0_drain_83 : decode cX0_drain 83 = .ok (.goto (-81), 3) := by decide +kernel
theorem dX0_drain_86 : decode cX0_drain 86 = .ok (.return_, 1) := by decide +kernel
theorem dX0_drawFrom_0 : decode cX0_drawFrom 0 = .ok (.iload_n 2, 1) := by decide +kernel
theorem dX0_drawFrom_1 : decode cX0_drawFrom 1 = .ok (.invokestatic 61, 3) := by decide +kernel
theorem dX0_drawFrom_4 : decode cX0_drawFrom 4 = .ok (.ifCond .eq 18, 3) := by decide +kernel
theorem dX0_drawFrom_7 : decode cX0_drawFrom 7 = .ok (.aload_n 0, 1) := by decide +kernel
theorem dX0_drawFrom_8 : decode cX0_drawFrom 8 = .ok (.getfield 18, 3) := by decide +kernel
theorem dX0_drawFrom_11 : decode cX0_drawFrom 11 = .ok (.iload_n 2, 1) := by decide +kernel
theorem dX0_drawFrom_12 : decode cX0_drawFrom 12 = .ok (.dup2, 1) := by decide +kernel
theorem dX0_drawFrom_13 : decode cX0_drawFrom 13 = .ok (.iaload, 1) := by decide +kernel
theorem dX0_drawFrom_14 : decode cX0_drawFrom 14 = .ok (.aload_n 0, 1) := by decide +kernel
theorem dX0_drawFrom_15 : decode cX0_drawFrom 15 = .ok (.iload_n 1, 1) := by decide +kernel
theorem dX0_drawFrom_16 : decode cX0_drawFrom 16 = .ok (.iload_n 2, 1) := by decide +kernel
theorem dX0_drawFrom_17 : decode cX0_drawFrom 17 = .ok (.invokevirtual 81, 3) := by decide +kernel
theorem dX0_drawFrom_20 : decode cX0_drawFrom 20 = .ok (.isub, 1) := by decide +kernel
theorem dX0_drawFrom_21 : decode cX0_drawFrom 21 = .ok (.iastore, 1) := by decide +kernel
theorem dX0_drawFrom_22 : decode cX0_drawFrom 22 = .ok (.return_, 1) := by decide +kernel
theorem dX0_shrink_0 : decode cX0_shrink 0 = .ok (.iconst 0, 1) := by decide +kernel
theorem dX0_shrink_1 : decode cX0_shrink 1 = .ok (.istore_n 2, 1) := by decide +kernel
theorem dX0_shrink_2 : decode cX0_shrink 2 = .ok (.iload_n 2, 1) := by decide +kernel
theorem dX0_shrink_3 : decode cX0_shrink 3 = .ok (.bipush 12, 2) := by decide +kernel
theorem dX0_shrink_5 : decode cX0_shrink 5 = .ok (.if_icmp .ge 65, 3) := by decide +kernel
theorem dX0_shrink_8 : decode cX0_shrink 8 = .ok (.aload_n 0, 1) := by decide +kernel
theorem dX0_shrink_9 : decode cX0_shrink 9 = .ok (.getfield 18, 3) := by decide +kernel
theorem dX0_shrink_12 : decode cX0_shrink 12 = .ok (.iload_n 2, 1) := by decide +kernel
theorem dX0_shrink_13 : decode cX0_shrink 13 = .ok (.iaload, 1) := by decide +kernel
theorem dX0_shrink_14 : decode cX0_shrink 14 = .ok (.ifCond .ne 50, 3) := by decide +kernel
theorem dX0_shrink_17 : decode cX0_shrink 17 = .ok (.aload_n 0, 1) := by decide +kernel
theorem dX0_shrink_18 : decode cX0_shrink 18 = .ok (.aload_n 1, 1) := by decide +kernel
theorem dX0_shrink_19 : decode cX0_shrink 19 = .ok (.iconst 1, 1) := by decide +kernel
theorem dX0_shrink_20 : decode cX0_shrink 20 = .ok (.iload_n 2, 1) := by decide +kernel
theorem dX0_shrink_21 : decode cX0_shrink 21 = .ok (.iconst (-1), 1) := by decide +kernel
theorem dX0_shrink_22 : decode cX0_shrink 22 = .ok (.invokevirtual 84, 3) := by decide +kernel
theorem dX0_shrink_25 : decode cX0_shrink 25 = .ok (.aload_n 0, 1) := by decide +kernel
theorem dX0_shrink_26 : decode cX0_shrink 26 = .ok (.getfield 15, 3) := by decide +kernel
theorem dX0_shrink_29 : decode cX0_shrink 29 = .ok (.iload_n 2, 1) := by decide +kernel
theorem dX0_shrink_30 : decode cX0_shrink 30 = .ok (.iaload, 1) := by decide +kernel
theorem dX0_shrink_31 : decode cX0_shrink 31 = .ok (.aload_n 0, 1) := by decide +kernel
theorem dX0_shrink_32 : decode cX0_shrink 32 = .ok (.getfield 9, 3) := by decide +kernel
theorem dX0_shrink_35 : decode cX0_shrink 35 = .ok (.iload_n 2, 1) := by decide +kernel
theorem dX0_shrink_36 : decode cX0_shrink 36 = .ok (.iaload, 1) := by decide +kernel
theorem dX0_shrink_37 : decode cX0_shrink 37 = .ok (.invokestatic 75, 3) := by decide +kernel
theorem dX0_shrink_40 : decode cX0_shrink 40 = .ok (.invokestatic 75, 3) := by decide +kernel
theorem dX0_shrink_43 : decode cX0_shrink 43 = .ok (.istore_n 3, 1) := by decide +kernel
theorem dX0_shrink_44 : decode cX0_shrink 44 = .ok (.aload_n 0, 1) := by decide +kernel
theorem dX0_shrink_45 : decode cX0_shrink 45 = .ok (.getfield 15, 3) := by decide +kernel
theorem dX0_shrink_48 : decode cX0_shrink 48 = .ok (.iload_n 2, 1) := by decide +kernel
theorem dX0_shrink_49 : decode cX0_shrink 49 = .ok (.dup2, 1) := by decide +kernel
theorem dX0_shrink_50 : decode cX0_shrink 50 = .ok (.iaload, 1) := by decide +kernel
theorem dX0_shrink_51 : decode cX0_shrink 51 = .ok (.iload_n 3, 1) := by decide +kernel
theorem dX0_shrink_52 : decode cX0_shrink 52 = .ok (.isub, 1) := by decide +kernel
theorem dX0_shrink_53 : decode cX0_shrink 53 = .ok (.iastore, 1) := by decide +kernel
theorem dX0_shrink_54 : decode cX0_shrink 54 = .ok (.aload_n 0, 1) := by decide +kernel
theorem dX0_shrink_55 : decode cX0_shrink 55 = .ok (.getfield 9, 3) := by decide +kernel
theorem dX0_shrink_58 : decode cX0_shrink 58 = .ok (.iload_n 2, 1) := by decide +kernel
theorem dX0_shrink_59 : decode cX0_shrink 59 = .ok (.dup2, 1) := by decide +kernel
theorem dX0_shrink_60 : decode cX0_shrink 60 = .ok (.iaload, 1) := by decide +kernel
theorem dX0_shrink_61 : decode cX0_shrink 61 = .ok (.iload_n 3, 1) := by decide +kernel
theorem dX0_shrink_62 : decode cX0_shrink 62 = .ok (.isub, 1) := by decide +kernel
theorem dX0_shrink_63 : decode cX0_shrink 63 = .ok (.iastore, 1) := by decide +kernel
theorem dX0_shrink_64 : decode cX0_shrink 64 = .ok (.iinc 2 1, 3) := by decide +kernel
theorem dX0_shrink_67 : decode cX0_shrink 67 = .ok (.goto (-65), 3) := by decide +kernel
theorem dX0_shrink_70 : decode cX0_shrink 70 = .ok (.return_, 1) := by decide +kernel
theorem dX0_says_0 : decode cX0_says 0 = .ok (.aload_n 1, 1) := by decide +kernel
theorem dX0_says_1 : decode cX0_says 1 = .ok (.iload_n 2, 1) := by decide +kernel
theorem dX0_says_2 : decode cX0_says 2 = .ok (.invokevirtual 126, 3) := by decide +kernel
theorem dX0_says_5 : decode cX0_says 5 = .ok (.astore 5, 2) := by decide +kernel
theorem dX0_says_7 : decode cX0_says 7 = .ok (.iconst 0, 1) := by decide +kernel
theorem dX0_says_8 : decode cX0_says 8 = .ok (.istore 6, 2) := by decide +kernel
theorem dX0_says_10 : decode cX0_says 10 = .ok (.iconst 0, 1) := by decide +kernel
theorem dX0_says_11 : decode cX0_says 11 = .ok (.istore 7, 2) := by decide +kernel
theorem dX0_says_13 : decode cX0_says 13 = .ok (.iload 7, 2) := by decide +kernel
theorem dX0_says_15 : decode cX0_says 15 = .ok (.aload 5, 2) := by decide +kernel
theorem dX0_says_17 : decode cX0_says 17 = .ok (.arraylength, 1) := by decide +kernel
theorem dX0_says_18 : decode cX0_says 18 = .ok (.if_icmp .ge 139, 3) := by decide +kernel
theorem dX0_says_21 : decode cX0_says 21 = .ok (.aload 5, 2) := by decide +kernel
theorem dX0_says_23 : decode cX0_says 23 = .ok (.iload 7, 2) := by decide +kernel
theorem dX0_says_25 : decode cX0_says 25 = .ok (.iaload, 1) := by decide +kernel
theorem dX0_says_26 : decode cX0_says 26 = .ok (.istore 8, 2) := by decide +kernel
theorem dX0_says_28 : decode cX0_says 28 = .ok (.iload 8, 2) := by decide +kernel
theorem dX0_says_30 : decode cX0_says 30 = .ok (.bipush (-7), 2) := by decide +kernel
theorem dX0_says_32 : decode cX0_says 32 = .ok (.if_icmp .le 42, 3) := by decide +kernel
theorem dX0_says_35 : decode cX0_says 35 = .ok (.iload 6, 2) := by decide +kernel
theorem dX0_says_37 : decode cX0_says 37 = .ok (.bipush 31, 2) := by decide +kernel
theorem dX0_says_39 : decode cX0_says 39 = .ok (.if_icmp .ge 112, 3) := by decide +kernel
theorem dX0_says_42 : decode cX0_says 42 = .ok (.aload_n 0, 1) := by decide +kernel
theorem dX0_says_43 : decode cX0_says 43 = .ok (.getfield 33, 3) := by decide +kernel
theorem dX0_says_46 : decode cX0_says 46 = .ok (.iload 6, 2) := by decide +kernel
theorem dX0_says_48 : decode cX0_says 48 = .ok (.iload 8, 2) := by decide +kernel
theorem dX0_says_50 : decode cX0_says 50 = .ok (.ifCond .lt 8, 3) := by decide +kernel
theorem dX0_says_53 : decode cX0_says 53 = .ok (.iload 8, 2) := by decide +kernel
theorem dX0_says_55 : decode cX0_says 55 = .ok (.goto 12, 3) := by decide +kernel
theorem dX0_says_58 : decode cX0_says 58 = .ok (.aload_n 0, 1) := by decide +kernel
theorem dX0_says_59 : decode cX0_says 59 = .ok (.iload 8, 2) := by decide +kernel
theorem dX0_says_61 : decode cX0_says 61 = .ok (.iload_n 3, 1) := by decide +kernel
theorem dX0_says_62 : decode cX0_says 62 = .ok (.iload 4, 2) := by decide +kernel
theorem dX0_says_64 : decode cX0_says 64 = .ok (.invokevirtual 131, 3) := by decide +kernel
theorem dX0_says_67 : decode cX0_says 67 = .ok (.iastore, 1) := by decide +kernel
theorem dX0_says_68 : decode cX0_says 68 = .ok (.iinc 6 1, 3) := by decide +kernel
theorem dX0_says_71 : decode cX0_says 71 = .ok (.goto 80, 3) := by decide +kernel
theorem dX0_says_74 : decode cX0_says 74 = .ok (.iload 8, 2) := by decide +kernel
theorem dX0_says_76 : decode cX0_says 76 = .ok (.bipush (-8), 2) := by decide +kernel
theorem dX0_says_78 : decode cX0_says 78 = .ok (.if_icmp .lt 34, 3) := by decide +kernel
theorem dX0_says_81 : decode cX0_says 81 = .ok (.iload 6, 2) := by decide +kernel
theorem dX0_says_83 : decode cX0_says 83 = .ok (.ifCond .le 68, 3) := by decide +kernel
theorem dX0_says_86 : decode cX0_says 86 = .ok (.aload_n 0, 1) := by decide +kernel
theorem dX0_says_87 : decode cX0_says 87 = .ok (.getfield 33, 3) := by decide +kernel
theorem dX0_says_90 : decode cX0_says 90 = .ok (.iload 6, 2) := by decide +kernel
theorem dX0_says_92 : decode cX0_says 92 = .ok (.iconst 1, 1) := by decide +kernel
theorem dX0_says_93 : decode cX0_says 93 = .ok (.isub, 1) := by decide +kernel
theorem dX0_says_94 : decode cX0_says 94 = .ok (.iload 8, 2) := by decide +kernel
theorem dX0_says_96 : decode cX0_says 96 = .ok (.aload_n 0, 1) := by decide +kernel
theorem dX0_says_97 : decode cX0_says 97 = .ok (.getfield 33, 3) := by decide +kernel
theorem dX0_says_100 : decode cX0_says 100 = .ok (.iload 6, 2) := by decide +kernel
theorem dX0_says_102 : decode cX0_says 102 = .ok (.iconst 1, 1) := by decide +kernel
theorem dX0_says_103 : decode cX0_says 103 = .ok (.isub, 1) := by decide +kernel
theorem dX0_says_104 : decode cX0_says 104 = .ok (.iaload, 1) := by decide +kernel
theorem dX0_says_105 : decode cX0_says 105 = .ok (.invokestatic 135, 3) := by decide +kernel
theorem dX0_says_108 : decode cX0_says 108 = .ok (.iastore, 1) := by decide +kernel
theorem dX0_says_109 : decode cX0_says 109 = .ok (.goto 42, 3) := by decide +kernel
theorem dX0_says_112 : decode cX0_says 112 = .ok (.iload 6, 2) := by decide +kernel
theorem dX0_says_114 : decode cX0_says 114 = .ok (.iconst 1, 1) := by decide +kernel
theorem dX0_says_115 : decode cX0_says 115 = .ok (.if_icmp .le 36, 3) := by decide +kernel
theorem dX0_says_118 : decode cX0_says 118 = .ok (.iinc 6 (-1), 3) := by decide +kernel
theorem dX0_says_121 : decode cX0_says 121 = .ok (.aload_n 0, 1) := by decide +kernel
theorem dX0_says_122 : decode cX0_says 122 = .ok (.getfield 33, 3) := by decide +kernel
theorem dX0_says_125 : decode cX0_says 125 = .ok (.iload 6, 2) := by decide +kernel
theorem dX0_says_127 : decode cX0_says 127 = .ok (.iconst 1, 1) := by decide +kernel
theorem dX0_says_128 : decode cX0_says 128 = .ok (.isub, 1) := by decide +kernel
theorem dX0_says_129 : decode cX0_says 129 = .ok (.iload 8, 2) := by decide +kernel
theorem dX0_says_131 : decode cX0_says 131 = .ok (.aload_n 0, 1) := by decide +kernel
theorem dX0_says_132 : decode cX0_says 132 = .ok (.getfield 33, 3) := by decide +kernel
theorem dX0_says_135 : decode cX0_says 135 = .ok (.iload 6, 2) := by decide +kernel
theorem dX0_says_137 : decode cX0_says 137 = .ok (.iconst 1, 1) := by decide +kernel
theorem dX0_says_138 : decode cX0_says 138 = .ok (.isub, 1) := by decide +kernel
theorem dX0_says_139 : decode cX0_says 139 = .ok (.iaload, 1) := by decide +kernel
theorem dX0_says_140 : decode cX0_says 140 = .ok (.aload_n 0, 1) := by decide +kernel
theorem dX0_says_141 : decode cX0_says 141 = .ok (.getfield 33, 3) := by decide +kernel
theorem dX0_says_144 : decode cX0_says 144 = .ok (.iload 6, 2) := by decide +kernel
theorem dX0_says_146 : decode cX0_says 146 = .ok (.iaload, 1) := by decide +kernel
theorem dX0_says_147 : decode cX0_says 147 = .ok (.invokestatic 138, 3) := by decide +kernel
theorem dX0_says_150 : decode cX0_says 150 = .ok (.iastore, 1) := by decide +kernel
theorem dX0_says_151 : decode cX0_says 151 = .ok (.iinc 7 1, 3) := by decide +kernel
theorem dX0_says_154 : decode cX0_says 154 = .ok (.goto (-141), 3) := by decide +kernel
theorem dX0_says_157 : decode cX0_says 157 = .ok (.iload_n 2, 1) := by decide +kernel
theorem dX0_says_158 : decode cX0_says 158 = .ok (.ifCond .lt 19, 3) := by decide +kernel
theorem dX0_says_161 : decode cX0_says 161 = .ok (.iload_n 2, 1) := by decide +kernel
theorem dX0_says_162 : decode cX0_says 162 = .ok (.getstatic 141, 3) := by decide +kernel
theorem dX0_says_165 : decode cX0_says 165 = .ok (.arraylength, 1) := by decide +kernel
theorem dX0_says_166 : decode cX0_says 166 = .ok (.if_icmp .ge 11, 3) := by decide +kernel
theorem dX0_says_169 : decode cX0_says 169 = .ok (.getstatic 141, 3) := by decide +kernel
theorem dX0_says_172 : decode cX0_says 172 = .ok (.iload_n 2, 1) := by decide +kernel
theorem dX0_says_173 : decode cX0_says 173 = .ok (.iaload, 1) := by decide +kernel
theorem dX0_says_174 : decode cX0_says 174 = .ok (.goto 4, 3) := by decide +kernel
theorem dX0_says_177 : decode cX0_says 177 = .ok (.iconst 0, 1) := by decide +kernel
theorem dX0_says_178 : decode cX0_says 178 = .ok (.istore 7, 2) := by decide +kernel
theorem dX0_says_180 : decode cX0_says 180 = .ok (.iconst 0, 1) := by decide +kernel
theorem dX0_says_181 : decode cX0_says 181 = .ok (.iload 7, 2) := by decide +kernel
theorem dX0_says_183 : decode cX0_says 183 = .ok (.iload 6, 2) := by decide +kernel
theorem dX0_says_185 : decode cX0_says 185 = .ok (.ifCond .le 12, 3) := by decide +kernel
theorem dX0_says_188 : decode cX0_says 188 = .ok (.aload_n 0, 1) := by decide +kernel
theorem dX0_says_189 : decode cX0_says 189 = .ok (.getfield 33, 3) := by decide +kernel
theorem dX0_says_192 : decode cX0_says 192 = .ok (.iconst 0, 1) := by decide +kernel
theorem dX0_says_193 : decode cX0_says 193 = .ok (.iaload, 1) := by decide +kernel
theorem dX0_says_194 : decode cX0_says 194 = .ok (.goto 4, 3) := by decide +kernel
theorem dX0_says_197 : decode cX0_says 197 = .ok (.iconst 0, 1) := by decide +kernel
theorem dX0_says_198 : decode cX0_says 198 = .ok (.invokestatic 75, 3) := by decide +kernel
theorem dX0_says_201 : decode cX0_says 201 = .ok (.invokestatic 144, 3) := by decide +kernel
theorem dX0_says_204 : decode cX0_says 204 = .ok (.ireturn, 1) := by decide +kernel
theorem dX0_named_0 : decode cX0_named 0 = .ok (.iload_n 2, 1) := by decide +kernel
theorem dX0_named_1 : decode cX0_named 1 = .ok (.ifCond .lt 9, 3) := by decide +kernel
theorem dX0_named_4 : decode cX0_named 4 = .ok (.iload_n 2, 1) := by decide +kernel
theorem dX0_named_5 : decode cX0_named 5 = .ok (.bipush 12, 2) := by decide +kernel
theorem dX0_named_7 : decode cX0_named 7 = .ok (.if_icmp .lt 5, 3) := by decide +kernel
theorem dX0_named_10 : decode cX0_named 10 = .ok (.iconst 0, 1) := by decide +kernel
theorem dX0_named_11 : decode cX0_named 11 = .ok (.ireturn, 1) := by decide +kernel
theorem dX0_named_12 : decode cX0_named 12 = .ok (.iload_n 1, 1) := by decide +kernel
theorem dX0_named_13 : decode cX0_named 13 = .ok (.tableswitch 67 (-6) (-1) #[65, 58, 67, 53, 46, 39], 39) := by decide +kernel
theorem dX0_named_52 : decode cX0_named 52 = .ok (.aload_n 0, 1) := by decide +kernel
theorem dX0_named_53 : decode cX0_named 53 = .ok (.getfield 9, 3) := by decide +kernel
theorem dX0_named_56 : decode cX0_named 56 = .ok (.iload_n 2, 1) := by decide +kernel
theorem dX0_named_57 : decode cX0_named 57 = .ok (.iaload, 1) := by decide +kernel
theorem dX0_named_58 : decode cX0_named 58 = .ok (.ireturn, 1) := by decide +kernel
theorem dX0_named_59 : decode cX0_named 59 = .ok (.aload_n 0, 1) := by decide +kernel
theorem dX0_named_60 : decode cX0_named 60 = .ok (.getfield 15, 3) := by decide +kernel
theorem dX0_named_63 : decode cX0_named 63 = .ok (.iload_n 2, 1) := by decide +kernel
theorem dX0_named_64 : decode cX0_named 64 = .ok (.iaload, 1) := by decide +kernel
theorem dX0_named_65 : decode cX0_named 65 = .ok (.ireturn, 1) := by decide +kernel
theorem dX0_named_66 : decode cX0_named 66 = .ok (.aload_n 0, 1) := by decide +kernel
theorem dX0_named_67 : decode cX0_named 67 = .ok (.getfield 46, 3) := by decide +kernel
theorem dX0_named_70 : decode cX0_named 70 = .ok (.ireturn, 1) := by decide +kernel
theorem dX0_named_71 : decode cX0_named 71 = .ok (.aload_n 0, 1) := by decide +kernel
theorem dX0_named_72 : decode cX0_named 72 = .ok (.getfield 18, 3) := by decide +kernel
theorem dX0_named_75 : decode cX0_named 75 = .ok (.iload_n 2, 1) := by decide +kernel
theorem dX0_named_76 : decode cX0_named 76 = .ok (.iaload, 1) := by decide +kernel
theorem dX0_named_77 : decode cX0_named 77 = .ok (.ireturn, 1) := by decide +kernel
theorem dX0_named_78 : decode cX0_named 78 = .ok (.iload_n 2, 1) := by decide +kernel
theorem dX0_named_79 : decode cX0_named 79 = .ok (.ireturn, 1) := by decide +kernel
theorem dX0_named_80 : decode cX0_named 80 = .ok (.iload_n 3, 1) := by decide +kernel
theorem dX0_named_81 : decode cX0_named 81 = .ok (.ifCond .lt 16, 3) := by decide +kernel
theorem dX0_named_84 : decode cX0_named 84 = .ok (.iload_n 3, 1) := by decide +kernel
theorem dX0_named_85 : decode cX0_named 85 = .ok (.bipush 6, 2) := by decide +kernel
theorem dX0_named_87 : decode cX0_named 87 = .ok (.if_icmp .ge 10, 3) := by decide +kernel
theorem dX0_named_90 : decode cX0_named 90 = .ok (.aload_n 0, 1) := by decide +kernel
theorem dX0_named_91 : decode cX0_named 91 = .ok (.getfield 24, 3) := by decide +kernel
theorem dX0_named_94 : decode cX0_named 94 = .ok (.iload_n 3, 1) := by decide +kernel
theorem dX0_named_95 : decode cX0_named 95 = .ok (.iaload, 1) := by decide +kernel
theorem dX0_named_96 : decode cX0_named 96 = .ok (.ireturn, 1) := by decide +kernel
theorem dX0_named_97 : decode cX0_named 97 = .ok (.iconst 0, 1) := by decide +kernel
theorem dX0_named_98 : decode cX0_named 98 = .ok (.istore 4, 2) := by decide +kernel
theorem dX0_named_100 : decode cX0_named 100 = .ok (.iconst 0, 1) := by decide +kernel
theorem dX0_named_101 : decode cX0_named 101 = .ok (.istore 5, 2) := by decide +kernel
theorem dX0_named_103 : decode cX0_named 103 = .ok (.iload 5, 2) := by decide +kernel
theorem dX0_named_105 : decode cX0_named 105 = .ok (.aload_n 0, 1) := by decide +kernel
theorem dX0_named_106 : decode cX0_named 106 = .ok (.getfield 52, 3) := by decide +kernel
theorem dX0_named_109 : decode cX0_named 109 = .ok (.if_icmp .ge 30, 3) := by decide +kernel
theorem dX0_named_112 : decode cX0_named 112 = .ok (.iload 5, 2) := by decide +kernel
theorem dX0_named_114 : decode cX0_named 114 = .ok (.bipush 6, 2) := by decide +kernel
theorem dX0_named_116 : decode cX0_named 116 = .ok (.if_icmp .ge 23, 3) := by decide +kernel
theorem dX0_named_119 : decode cX0_named 119 = .ok (.aload_n 0, 1) := by decide +kernel
theorem dX0_named_120 : decode cX0_named 120 = .ok (.getfield 27, 3) := by decide +kernel
theorem dX0_named_123 : decode cX0_named 123 = .ok (.iload 5, 2) := by decide +kernel
theorem dX0_named_125 : decode cX0_named 125 = .ok (.iaload, 1) := by decide +kernel
theorem dX0_named_126 : decode cX0_named 126 = .ok (.iload_n 2, 1) := by decide +kernel
theorem dX0_named_127 : decode cX0_named 127 = .ok (.if_icmp .ne 6, 3) := by decide +kernel
theorem dX0_named_130 : decode cX0_named 130 = .ok (.iinc 4 1, 3) := by decide +kernel
theorem dX0_named_133 : decode cX0_named 133 = .ok (.iinc 5 1, 3) := by decide +kernel
theorem dX0_named_136 : decode cX0_named 136 = .ok (.goto (-33), 3) := by decide +kernel
theorem dX0_named_139 : decode cX0_named 139 = .ok (.iload 4, 2) := by decide +kernel
theorem dX0_named_141 : decode cX0_named 141 = .ok (.ireturn, 1) := by decide +kernel
theorem dX1_init_0 : decode cX1_init 0 = .ok (.aload_n 0, 1) := by decide +kernel
theorem dX1_init_1 : decode cX1_init 1 = .ok (.invokespecial 5, 3) := by decide +kernel
theorem dX1_init_4 : decode cX1_init 4 = .ok (.aload_n 0, 1) := by decide +kernel
theorem dX1_init_5 : decode cX1_init 5 = .ok (.sipush 160, 3) := by decide +kernel
theorem dX1_init_8 : decode cX1_init 8 = .ok (.newarray .int, 2) := by decide +kernel
theorem dX1_init_10 : decode cX1_init 10 = .ok (.putfield 11, 3) := by decide +kernel
theorem dX1_init_13 : decode cX1_init 13 = .ok (.aload_n 0, 1) := by decide +kernel
theorem dX1_init_14 : decode cX1_init 14 = .ok (.sipush 160, 3) := by decide +kernel
theorem dX1_init_17 : decode cX1_init 17 = .ok (.newarray .int, 2) := by decide +kernel
theorem dX1_init_19 : decode cX1_init 19 = .ok (.putfield 15, 3) := by decide +kernel
theorem dX1_init_22 : decode cX1_init 22 = .ok (.return_, 1) := by decide +kernel
theorem dX1_put_0 : decode cX1_put 0 = .ok (.aload_n 0, 1) := by decide +kernel
theorem dX1_put_1 : decode cX1_put 1 = .ok (.getfield 18, 3) := by decide +kernel
theorem dX1_put_4 : decode cX1_put 4 = .ok (.sipush 160, 3) := by decide +kernel
theorem dX1_put_7 : decode cX1_put 7 = .ok (.if_icmp .lt 5, 3) := by decide +kernel
theorem dX1_put_10 : decode cX1_put 10 = .ok (.iconst 0, 1) := by decide +kernel
theorem dX1_put_11 : decode cX1_put 11 = .ok (.ireturn, 1) := by decide +kernel
theorem dX1_put_12 : decode cX1_put 12 = .ok (.aload_n 0, 1) := by decide +kernel
theorem dX1_put_13 : decode cX1_put 13 = .ok (.getfield 11, 3) := by decide +kernel
theorem dX1_put_16 : decode cX1_put 16 = .ok (.aload_n 0, 1) := by decide +kernel
theorem dX1_put_17 : decode cX1_put 17 = .ok (.getfield 18, 3) := by decide +kernel
theorem dX1_put_20 : decode cX1_put 20 = .ok (.iload_n 1, 1) := by decide +kernel
theorem dX1_put_21 : decode cX1_put 21 = .ok (.iastore, 1) := by decide +kernel
theorem dX1_put_22 : decode cX1_put 22 = .ok (.aload_n 0, 1) := by decide +kernel
theorem dX1_put_23 : decode cX1_put 23 = .ok (.dup, 1) := by decide +kernel
theorem dX1_put_24 : decode cX1_put 24 = .ok (.getfield 18, 3) := by decide +kernel
theorem dX1_put_27 : decode cX1_put 27 = .ok (.iconst 1, 1) := by decide +kernel
theorem dX1_put_28 : decode cX1_put 28 = .ok (.iadd, 1) := by decide +kernel
theorem dX1_put_29 : decode cX1_put 29 = .ok (.putfield 18, 3) := by decide +kernel
theorem dX1_put_32 : decode cX1_put 32 = .ok (.iconst 1, 1) := by decide +kernel
theorem dX1_put_33 : decode cX1_put 33 = .ok (.ireturn, 1) := by decide +kernel
theorem dX1_size_0 : decode cX1_size 0 = .ok (.aload_n 0, 1) := by decide +kernel
theorem dX1_size_1 : decode cX1_size 1 = .ok (.getfield 18, 3) := by decide +kernel
theorem dX1_size_4 : decode cX1_size 4 = .ok (.ireturn, 1) := by decide +kernel
theorem dX1_fault_0 : decode cX1_fault 0 = .ok (.aload_n 0, 1) := by decide +kernel
theorem dX1_fault_1 : decode cX1_fault 1 = .ok (.getfield 22, 3) := by decide +kernel
theorem dX1_fault_4 : decode cX1_fault 4 = .ok (.ireturn, 1) := by decide +kernel
theorem dX1_read_0 : decode cX1_read 0 = .ok (.aload_n 0, 1) := by decide +kernel
theorem dX1_read_1 : decode cX1_read 1 = .ok (.iconst 0, 1) := by decide +kernel
theorem dX1_read_2 : decode cX1_read 2 = .ok (.putfield 25, 3) := by decide +kernel
theorem dX1_read_5 : decode cX1_read 5 = .ok (.aload_n 0, 1) := by decide +kernel
theorem dX1_read_6 : decode cX1_read 6 = .ok (.iconst (-1), 1) := by decide +kernel
theorem dX1_read_7 : decode cX1_read 7 = .ok (.putfield 22, 3) := by decide +kernel
theorem dX1_read_10 : decode cX1_read 10 = .ok (.aload_n 0, 1) := by decide +kernel
theorem dX1_read_11 : decode cX1_read 11 = .ok (.invokevirtual 28, 3) := by decide +kernel
theorem dX1_read_14 : decode cX1_read 14 = .ok (.aload_n 0, 1) := by decide +kernel
theorem dX1_read_15 : decode cX1_read 15 = .ok (.iconst 0, 1) := by decide +kernel
theorem dX1_read_16 : decode cX1_read 16 = .ok (.invokevirtual 31, 3) := by decide +kernel
theorem dX1_read_19 : decode cX1_read 19 = .ok (.astore_n 1, 1) := by decide +kernel
theorem dX1_read_20 : decode cX1_read 20 = .ok (.aload_n 0, 1) := by decide +kernel
theorem dX1_read_21 : decode cX1_read 21 = .ok (.iconst 1, 1) := by decide +kernel
theorem dX1_read_22 : decode cX1_read 22 = .ok (.invokevirtual 31, 3) := by decide +kernel
theorem dX1_read_25 : decode cX1_read 25 = .ok (.astore_n 2, 1) := by decide +kernel
theorem dX1_read_26 : decode cX1_read 26 = .ok (.aload_n 0, 1) := by decide +kernel
theorem dX1_read_27 : decode cX1_read 27 = .ok (.iconst 2, 1) := by decide +kernel
theorem dX1_read_28 : decode cX1_read 28 = .ok (.invokevirtual 31, 3) := by decide +kernel
theorem dX1_read_31 : decode cX1_read 31 = .ok (.astore_n 3, 1) := by decide +kernel
theorem dX1_read_32 : decode cX1_read 32 = .ok (.aload_n 0, 1) := by decide +kernel
theorem dX1_read_33 : decode cX1_read 33 = .ok (.iconst 0, 1) := by decide +kernel
theorem dX1_read_34 : decode cX1_read 34 = .ok (.invokevirtual 35, 3) := by decide +kernel
theorem dX1_read_37 : decode cX1_read 37 = .ok (.aload_n 0, 1) := by decide +kernel
theorem dX1_read_38 : decode cX1_read 38 = .ok (.iconst 0, 1) := by decide +kernel
theorem dX1_read_39 : decode cX1_read 39 = .ok (.putfield 18, 3) := by decide +kernel
theorem dX1_read_42 : decode cX1_read 42 = .ok (.aload_n 0, 1) := by decide +kernel
theorem dX1_read_43 : decode cX1_read 43 = .ok (.getfield 22, 3) := by decide +kernel
theorem dX1_read_46 : decode cX1_read 46 = .ok (.iconst (-1), 1) := by decide +kernel
theorem dX1_read_47 : decode cX1_read 47 = .ok (.if_icmp .ne 16, 3) := by decide +kernel
theorem dX1_read_50 : decode cX1_read 50 = .ok (.new 39, 3) := by decide +kernel
theorem dX1_read_53 : decode cX1_read 53 = .ok (.dup, 1) := by decide +kernel
theorem dX1_read_54 : decode cX1_read 54 = .ok (.aload_n 1, 1) := by decide +kernel
theorem dX1_read_55 : decode cX1_read 55 = .ok (.aload_n 2, 1) := by decide +kernel
theorem dX1_read_56 : decode cX1_read 56 = .ok (.aload_n 3, 1) := by decide +kernel
theorem dX1_read_57 : decode cX1_read 57 = .ok (.invokespecial 41, 3) := by decide +kernel
theorem dX1_read_60 : decode cX1_read 60 = .ok (.goto 4, 3) := by decide +kernel
theorem dX1_read_63 : decode cX1_read 63 = .ok (.aconst_null, 1) := by decide +kernel
theorem dX1_read_64 : decode cX1_read 64 = .ok (.areturn, 1) := by decide +kernel
theorem dX1_next_0 : decode cX1_next 0 = .ok (.aload_n 0, 1) := by decide +kernel
theorem dX1_next_1 : decode cX1_next 1 = .ok (.getfield 22, 3) := by decide +kernel
theorem dX1_next_4 : decode cX1_next 4 = .ok (.iconst (-1), 1) := by decide +kernel
theorem dX1_next_5 : decode cX1_next 5 = .ok (.if_icmp .eq 4, 3) := by decide +kernel
theorem dX1_next_8 : decode cX1_next 8 = .ok (.return_, 1) := by decide +kernel
theorem dX1_next_9 : decode cX1_next 9 = .ok (.aload_n 0, 1) := by decide +kernel
theorem dX1_next_10 : decode cX1_next 10 = .ok (.getfield 25, 3) := by decide +kernel
theorem dX1_next_13 : decode cX1_next 13 = .ok (.aload_n 0, 1) := by decide +kernel
theorem dX1_next_14 : decode cX1_next 14 = .ok (.getfield 18, 3) := by decide +kernel
theorem dX1_next_17 : decode cX1_next 17 = .ok (.if_icmp .ge 44, 3) := by decide +kernel
theorem dX1_next_20 : decode cX1_next 20 = .ok (.aload_n 0, 1) := by decide +kernel
theorem dX1_next_21 : decode cX1_next 21 = .ok (.getfield 11, 3) := by decide +kernel
theorem dX1_next_24 : decode cX1_next 24 = .ok (.aload_n 0, 1) := by decide +kernel
theorem dX1_next_25 : decode cX1_next 25 = .ok (.getfield 25, 3) := by decide +kernel
theorem dX1_next_28 : decode cX1_next 28 = .ok (.iaload, 1) := by decide +kernel
theorem dX1_next_29 : decode cX1_next 29 = .ok (.bipush 32, 2) := by decide +kernel
theorem dX1_next_31 : decode cX1_next 31 = .ok (.if_icmp .eq 17, 3) := by decide +kernel
theorem dX1_next_34 : decode cX1_next 34 = .ok (.aload_n 0, 1) := by decide +kernel
theorem dX1_next_35 : decode cX1_next 35 = .ok (.getfield 11, 3) := by decide +kernel
theorem dX1_next_38 : decode cX1_next 38 = .ok (.aload_n 0, 1) := by decide +kernel
theorem dX1_next_39 : decode cX1_next 39 = .ok (.getfield 25, 3) := by decide +kernel
theorem dX1_next_42 : decode cX1_next 42 = .ok (.iaload, 1) := by decide +kernel
theorem dX1_next_43 : decode cX1_next 43 = .ok (.bipush 10, 2) := by decide +kernel
theorem dX1_next_45 : decode cX1_next 45 = .ok (.if_icmp .ne 16, 3) := by decide +kernel
theorem dX1_next_48 : decode cX1_next 48 = .ok (.aload_n 0, 1) := by decide +kernel
theorem dX1_next_49 : decode cX1_next 49 = .ok (.dup, 1) := by decide +kernel
theorem dX1_next_50 : decode cX1_next 50 = .ok (.getfield 25, 3) := by decide +kernel
theorem dX1_next_53 : decode cX1_next 53 = .ok (.iconst 1, 1) := by decide +kernel
theorem dX1_next_54 : decode cX1_next 54 = .ok (.iadd, 1) := by decide +kernel
theorem dX1_next_55 : decode cX1_next 55 = .ok (.putfield 25, 3) := by decide +kernel
theorem dX1_next_58 : decode cX1_next 58 = .ok (.goto (-49), 3) := by decide +kernel
theorem dX1_next_61 : decode cX1_next 61 = .ok (.aload_n 0, 1) := by decide +kernel
theorem dX1_next_62 : decode cX1_next 62 = .ok (.aload_n 0, 1) := by decide +kernel
theorem dX1_next_63 : decode cX1_next 63 = .ok (.getfield 25, 3) := by decide +kernel
theorem dX1_next_66 : decode cX1_next 66 = .ok (.putfield 44, 3) := by decide +kernel
theorem dX1_next_69 : decode cX1_next 69 = .ok (.aload_n 0, 1) := by decide +kernel
theorem dX1_next_70 : decode cX1_next 70 = .ok (.getfield 25, 3) := by decide +kernel
theorem dX1_next_73 : decode cX1_next 73 = .ok (.aload_n 0, 1) := by decide +kernel
theorem dX1_next_74 : decode cX1_next 74 = .ok (.getfield 18, 3) := by decide +kernel
theorem dX1_next_77 : decode cX1_next 77 = .ok (.if_icmp .lt 11, 3) := by decide +kernel
theorem dX1_next_80 : decode cX1_next 80 = .ok (.aload_n 0, 1) := by decide +kernel
theorem dX1_next_81 : decode cX1_next 81 = .ok (.iconst 0, 1) := by decide +kernel
theorem dX1_next_82 : decode cX1_next 82 = .ok (.putfield 47, 3) := by decide +kernel
theorem dX1_next_85 : decode cX1_next 85 = .ok (.goto 89, 3) := by decide +kernel
theorem dX1_next_88 : decode cX1_next 88 = .ok (.aload_n 0, 1) := by decide +kernel
theorem dX1_next_89 : decode cX1_next 89 = .ok (.getfield 11, 3) := by decide +kernel
theorem dX1_next_92 : decode cX1_next 92 = .ok (.aload_n 0, 1) := by decide +kernel
theorem dX1_next_93 : decode cX1_next 93 = .ok (.getfield 25, 3) := by decide +kernel
theorem dX1_next_96 : decode cX1_next 96 = .ok (.iaload, 1) := by decide +kernel
theorem dX1_next_97 : decode cX1_next 97 = .ok (.invokestatic 50, 3) := by decide +kernel
theorem dX1_next_100 : decode cX1_next 100 = .ok (.ifCond .eq 10, 3) := by decide +kernel
theorem dX1_next_103 : decode cX1_next 103 = .ok (.aload_n 0, 1) := by decide +kernel
theorem dX1_next_104 : decode cX1_next 104 = .ok (.invokevirtual 54, 3) := by decide +kernel
theorem dX1_next_107 : decode cX1_next 107 = .ok (.goto 67, 3) := by decide +kernel
theorem dX1_next_110 : decode cX1_next 110 = .ok (.aload_n 0, 1) := by decide +kernel
theorem dX1_next_111 : decode cX1_next 111 = .ok (.getfield 11, 3) := by decide +kernel
theorem dX1_next_114 : decode cX1_next 114 = .ok (.aload_n 0, 1) := by decide +kernel
theorem dX1_next_115 : decode cX1_next 115 = .ok (.getfield 25, 3) := by decide +kernel
theorem dX1_next_118 : decode cX1_next 118 = .ok (.iaload, 1) := by decide +kernel
theorem dX1_next_119 : decode cX1_next 119 = .ok (.invokestatic 57, 3) := by decide +kernel
theorem dX1_next_122 : decode cX1_next 122 = .ok (.ifCond .eq 10, 3) := by decide +kernel
theorem dX1_next_125 : decode cX1_next 125 = .ok (.aload_n 0, 1) := by decide +kernel
theorem dX1_next_126 : decode cX1_next 126 = .ok (.invokevirtual 60, 3) := by decide +kernel
theorem dX1_next_129 : decode cX1_next 129 = .ok (.goto 45, 3) := by decide +kernel
theorem dX1_next_132 : decode cX1_next 132 = .ok (.aload_n 0, 1) := by decide +kernel
theorem dX1_next_133 : decode cX1_next 133 = .ok (.aload_n 0, 1) := by decide +kernel
theorem dX1_next_134 : decode cX1_next 134 = .ok (.getfield 11, 3) := by decide +kernel
theorem dX1_next_137 : decode cX1_next 137 = .ok (.aload_n 0, 1) := by decide +kernel
theorem dX1_next_138 : decode cX1_next 138 = .ok (.getfield 25, 3) := by decide +kernel
theorem dX1_next_141 : decode cX1_next 141 = .ok (.iaload, 1) := by decide +kernel
theorem dX1_next_142 : decode cX1_next 142 = .ok (.invokestatic 63, 3) := by decide +kernel
theorem dX1_next_145 : decode cX1_next 145 = .ok (.ifCond .eq 15, 3) := by decide +kernel
theorem dX1_next_148 : decode cX1_next 148 = .ok (.aload_n 0, 1) := by decide +kernel
theorem dX1_next_149 : decode cX1_next 149 = .ok (.getfield 11, 3) := by decide +kernel
theorem dX1_next_152 : decode cX1_next 152 = .ok (.aload_n 0, 1) := by decide +kernel
theorem dX1_next_153 : decode cX1_next 153 = .ok (.getfield 25, 3) := by decide +kernel
theorem dX1_next_156 : decode cX1_next 156 = .ok (.iaload, 1) := by decide +kernel
theorem dX1_next_157 : decode cX1_next 157 = .ok (.goto 4, 3) := by decide +kernel
theorem dX1_next_160 : decode cX1_next 160 = .ok (.iconst 1, 1) := by decide +kernel
theorem dX1_next_161 : decode cX1_next 161 = .ok (.putfield 47, 3) := by decide +kernel
theorem dX1_next_164 : decode cX1_next 164 = .ok (.aload_n 0, 1) := by decide +kernel
theorem dX1_next_165 : decode cX1_next 165 = .ok (.dup, 1) := by decide +kernel
theorem dX1_next_166 : decode cX1_next 166 = .ok (.getfield 25, 3) := by decide +kernel
theorem dX1_next_169 : decode cX1_next 169 = .ok (.iconst 1, 1) := by decide +kernel
theorem dX1_next_170 : decode cX1_next 170 = .ok (.iadd, 1) := by decide +kernel
theorem dX1_next_171 : decode cX1_next 171 = .ok (.putfield 25, 3) := by decide +kernel
theorem dX1_next_174 : decode cX1_next 174 = .ok (.return_, 1) := by decide +kernel
theorem dX1_nextWord_0 : decode cX1_nextWord 0 = .ok (.aload_n 0, 1) := by decide +kernel
theorem dX1_nextWord_1 : decode cX1_nextWord 1 = .ok (.getfield 25, 3) := by decide +kernel
theorem dX1_nextWord_4 : decode cX1_nextWord 4 = .ok (.aload_n 0, 1) := by decide +kernel
theorem dX1_nextWord_5 : decode cX1_nextWord 5 = .ok (.getfield 18, 3) := by decide +kernel
theorem dX1_nextWord_8 : decode cX1_nextWord 8 = .ok (.if_icmp .ge 31, 3) := by decide +kernel
theorem dX1_nextWord_11 : decode cX1_nextWord 11 = .ok (.aload_n 0, 1) := by decide +kernel
theorem dX1_nextWord_12 : decode cX1_nextWord 12 = .ok (.getfield 11, 3) := by decide +kernel
theorem dX1_nextWord_15 : decode cX1_nextWord 15 = .ok (.aload_n 0, 1) := by decide +kernel
theorem dX1_nextWord_16 : decode cX1_nextWord 16 = .ok (.getfield 25, 3) := by decide +kernel
theorem dX1_nextWord_19 : decode cX1_nextWord 19 = .ok (.iaload, 1) := by decide +kernel
theorem dX1_nextWord_20 : decode cX1_nextWord 20 = .ok (.invokestatic 50, 3) := by decide +kernel
theorem dX1_nextWord_23 : decode cX1_nextWord 23 = .ok (.ifCond .eq 16, 3) := by decide +kernel
theorem dX1_nextWord_26 : decode cX1_nextWord 26 = .ok (.aload_n 0, 1) := by decide +kernel
theorem dX1_nextWord_27 : decode cX1_nextWord 27 = .ok (.dup, 1) := by decide +kernel
theorem dX1_nextWord_28 : decode cX1_nextWord 28 = .ok (.getfield 25, 3) := by decide +kernel
theorem dX1_nextWord_31 : decode cX1_nextWord 31 = .ok (.iconst 1, 1) := by decide +kernel
theorem dX1_nextWord_32 : decode cX1_nextWord 32 = .ok (.iadd, 1) := by decide +kernel
theorem dX1_nextWord_33 : decode cX1_nextWord 33 = .ok (.putfield 25, 3) := by decide +kernel
theorem dX1_nextWord_36 : decode cX1_nextWord 36 = .ok (.goto (-36), 3) := by decide +kernel
theorem dX1_nextWord_39 : decode cX1_nextWord 39 = .ok (.aload_n 0, 1) := by decide +kernel
theorem dX1_nextWord_40 : decode cX1_nextWord 40 = .ok (.iconst 1, 1) := by decide +kernel
theorem dX1_nextWord_41 : decode cX1_nextWord 41 = .ok (.putfield 47, 3) := by decide +kernel
theorem dX1_nextWord_44 : decode cX1_nextWord 44 = .ok (.iconst 0, 1) := by decide +kernel
theorem dX1_nextWord_45 : decode cX1_nextWord 45 = .ok (.istore_n 1, 1) := by decide +kernel
theorem dX1_nextWord_46 : decode cX1_nextWord 46 = .ok (.iload_n 1, 1) := by decide +kernel
theorem dX1_nextWord_47 : decode cX1_nextWord 47 = .ok (.bipush 12, 2) := by decide +kernel
theorem dX1_nextWord_49 : decode cX1_nextWord 49 = .ok (.if_icmp .ge 98, 3) := by decide +kernel
theorem dX1_nextWord_52 : decode cX1_nextWord 52 = .ok (.iload_n 1, 1) := by decide +kernel
theorem dX1_nextWord_53 : decode cX1_nextWord 53 = .ok (.invokestatic 66, 3) := by decide +kernel
theorem dX1_nextWord_56 : decode cX1_nextWord 56 = .ok (.astore_n 2, 1) := by decide +kernel
theorem dX1_nextWord_57 : decode cX1_nextWord 57 = .ok (.aload_n 2, 1) := by decide +kernel
theorem dX1_nextWord_58 : decode cX1_nextWord 58 = .ok (.invokevirtual 70, 3) := by decide +kernel
theorem dX1_nextWord_61 : decode cX1_nextWord 61 = .ok (.aload_n 0, 1) := by decide +kernel
theorem dX1_nextWord_62 : decode cX1_nextWord 62 = .ok (.getfield 25, 3) := by decide +kernel
theorem dX1_nextWord_65 : decode cX1_nextWord 65 = .ok (.aload_n 0, 1) := by decide +kernel
theorem dX1_nextWord_66 : decode cX1_nextWord 66 = .ok (.getfield 44, 3) := by decide +kernel
theorem dX1_nextWord_69 : decode cX1_nextWord 69 = .ok (.isub, 1) := by decide +kernel
theorem dX1_nextWord_70 : decode cX1_nextWord 70 = .ok (.if_icmp .ne 7, 3) := by decide +kernel
theorem dX1_nextWord_73 : decode cX1_nextWord 73 = .ok (.iconst 1, 1) := by decide +kernel
theorem dX1_nextWord_74 : decode cX1_nextWord 74 = .ok (.goto 4, 3) := by decide +kernel
theorem dX1_nextWord_77 : decode cX1_nextWord 77 = .ok (.iconst 0, 1) := by decide +kernel
theorem dX1_nextWord_78 : decode cX1_nextWord 78 = .ok (.istore_n 3, 1) := by decide +kernel
theorem dX1_nextWord_79 : decode cX1_nextWord 79 = .ok (.iconst 0, 1) := by decide +kernel
theorem dX1_nextWord_80 : decode cX1_nextWord 80 = .ok (.istore 4, 2) := by decide +kernel
theorem dX1_nextWord_82 : decode cX1_nextWord 82 = .ok (.iload 4, 2) := by decide +kernel
theorem dX1_nextWord_84 : decode cX1_nextWord 84 = .ok (.aload_n 2, 1) := by decide +kernel
theorem dX1_nextWord_85 : decode cX1_nextWord 85 = .ok (.invokevirtual 70, 3) := by decide +kernel
theorem dX1_nextWord_88 : decode cX1_nextWord 88 = .ok (.if_icmp .ge 40, 3) := by decide +kernel
theorem dX1_nextWord_91 : decode cX1_nextWord 91 = .ok (.iload_n 3, 1) := by decide +kernel
theorem dX1_nextWord_92 : decode cX1_nextWord 92 = .ok (.ifCond .eq 36, 3) := by decide +kernel
theorem dX1_nextWord_95 : decode cX1_nextWord 95 = .ok (.aload_n 0, 1) := by decide +kernel
theorem dX1_nextWord_96 : decode cX1_nextWord 96 = .ok (.getfield 11, 3) := by decide +kernel
theorem dX1_nextWord_99 : decode cX1_nextWord 99 = .ok (.aload_n 0, 1) := by decide +kernel
theorem dX1_nextWord_100 : decode cX1_nextWord 100 = .ok (.getfield 44, 3) := by decide +kernel
theorem dX1_nextWord_103 : decode cX1_nextWord 103 = .ok (.iload 4, 2) := by decide +kernel
theorem dX1_nextWord_105 : decode cX1_nextWord 105 = .ok (.iadd, 1) := by decide +kernel
theorem dX1_nextWord_106 : decode cX1_nextWord 106 = .ok (.iaload, 1) := by decide +kernel
theorem dX1_nextWord_107 : decode cX1_nextWord 107 = .ok (.aload_n 2, 1) := by decide +kernel
theorem dX1_nextWord_108 : decode cX1_nextWord 108 = .ok (.iload 4, 2) := by decide +kernel
theorem dX1_nextWord_110 : decode cX1_nextWord 110 = .ok (.invokevirtual 76, 3) := by decide +kernel
theorem dX1_nextWord_113 : decode cX1_nextWord 113 = .ok (.if_icmp .ne 7, 3) := by decide +kernel
theorem dX1_nextWord_116 : decode cX1_nextWord 116 = .ok (.iconst 1, 1) := by decide +kernel
theorem dX1_nextWord_117 : decode cX1_nextWord 117 = .ok (.goto 4, 3) := by decide +kernel
theorem dX1_nextWord_120 : decode cX1_nextWord 120 = .ok (.iconst 0, 1) := by decide +kernel
theorem dX1_nextWord_121 : decode cX1_nextWord 121 = .ok (.istore_n 3, 1) := by decide +kernel
theorem dX1_nextWord_122 : decode cX1_nextWord 122 = .ok (.iinc 4 1, 3) := by decide +kernel
theorem dX1_nextWord_125 : decode cX1_nextWord 125 = .ok (.goto (-43), 3) := by decide +kernel
theorem dX1_nextWord_128 : decode cX1_nextWord 128 = .ok (.iload_n 3, 1) := by decide +kernel
theorem dX1_nextWord_129 : decode cX1_nextWord 129 = .ok (.ifCond .eq 12, 3) := by decide +kernel
theorem dX1_nextWord_132 : decode cX1_nextWord 132 = .ok (.aload_n 0, 1) := by decide +kernel
theorem dX1_nextWord_133 : decode cX1_nextWord 133 = .ok (.sipush 256, 3) := by decide +kernel
theorem dX1_nextWord_136 : decode cX1_nextWord 136 = .ok (.iload_n 1, 1) := by decide +kernel
theorem dX1_nextWord_137 : decode cX1_nextWord 137 = .ok (.iadd, 1) := by decide +kernel
theorem dX1_nextWord_138 : decode cX1_nextWord 138 = .ok (.putfield 47, 3) := by decide +kernel
theorem dX1_nextWord_141 : decode cX1_nextWord 141 = .ok (.iinc 1 1, 3) := by decide +kernel
theorem dX1_nextWord_144 : decode cX1_nextWord 144 = .ok (.goto (-98), 3) := by decide +kernel
theorem dX1_nextWord_147 : decode cX1_nextWord 147 = .ok (.return_, 1) := by decide +kernel
theorem dX1_nextNumber_0 : decode cX1_nextNumber 0 = .ok (.aload_n 0, 1) := by decide +kernel
theorem dX1_nextNumber_1 : decode cX1_nextNumber 1 = .ok (.iconst 0, 1) := by decide +kernel
theorem dX1_nextNumber_2 : decode cX1_nextNumber 2 = .ok (.putfield 80, 3) := by decide +kernel
theorem dX1_nextNumber_5 : decode cX1_nextNumber 5 = .ok (.aload_n 0, 1) := by decide +kernel
theorem dX1_nextNumber_6 : decode cX1_nextNumber 6 = .ok (.getfield 25, 3) := by decide +kernel
theorem dX1_nextNumber_9 : decode cX1_nextNumber 9 = .ok (.aload_n 0, 1) := by decide +kernel
theorem dX1_nextNumber_10 : decode cX1_nextNumber 10 = .ok (.getfield 18, 3) := by decide +kernel
theorem dX1_nextNumber_13 : decode cX1_nextNumber 13 = .ok (.if_icmp .ge 55, 3) := by decide +kernel
theorem dX1_nextNumber_16 : decode cX1_nextNumber 16 = .ok (.aload_n 0, 1) := by decide +kernel
theorem dX1_nextNumber_17 : decode cX1_nextNumber 17 = .ok (.getfield 11, 3) := by decide +kernel
theorem dX1_nextNumber_20 : decode cX1_nextNumber 20 = .ok (.aload_n 0, 1) := by decide +kernel
theorem dX1_nextNumber_21 : decode cX1_nextNumber 21 = .ok (.getfield 25, 3) := by decide +kernel
theorem dX1_nextNumber_24 : decode cX1_nextNumber 24 = .ok (.iaload, 1) := by decide +kernel
theorem dX1_nextNumber_25 : decode cX1_nextNumber 25 = .ok (.invokestatic 57, 3) := by decide +kernel
theorem dX1_nextNumber_28 : decode cX1_nextNumber 28 = .ok (.ifCond .eq 40, 3) := by decide +kernel
theorem dX1_nextNumber_31 : decode cX1_nextNumber 31 = .ok (.aload_n 0, 1) := by decide +kernel
theorem dX1_nextNumber_32 : decode cX1_nextNumber 32 = .ok (.aload_n 0, 1) := by decide +kernel
theorem dX1_nextNumber_33 : decode cX1_nextNumber 33 = .ok (.getfield 80, 3) := by decide +kernel
theorem dX1_nextNumber_36 : decode cX1_nextNumber 36 = .ok (.bipush 10, 2) := by decide +kernel
theorem dX1_nextNumber_38 : decode cX1_nextNumber 38 = .ok (.imul, 1) := by decide +kernel
theorem dX1_nextNumber_39 : decode cX1_nextNumber 39 = .ok (.aload_n 0, 1) := by decide +kernel
theorem dX1_nextNumber_40 : decode cX1_nextNumber 40 = .ok (.getfield 11, 3) := by decide +kernel
theorem dX1_nextNumber_43 : decode cX1_nextNumber 43 = .ok (.aload_n 0, 1) := by decide +kernel
theorem dX1_nextNumber_44 : decode cX1_nextNumber 44 = .ok (.getfield 25, 3) := by decide +kernel
theorem dX1_nextNumber_47 : decode cX1_nextNumber 47 = .ok (.iaload, 1) := by decide +kernel
theorem dX1_nextNumber_48 : decode cX1_nextNumber 48 = .ok (.iadd, 1) := by decide +kernel
theorem dX1_nextNumber_49 : decode cX1_nextNumber 49 = .ok (.bipush 48, 2) := by decide +kernel
theorem dX1_nextNumber_51 : decode cX1_nextNumber 51 = .ok (.isub, 1) := by decide +kernel
theorem dX1_nextNumber_52 : decode cX1_nextNumber 52 = .ok (.putfield 80, 3) := by decide +kernel
theorem dX1_nextNumber_55 : decode cX1_nextNumber 55 = .ok (.aload_n 0, 1) := by decide +kernel
theorem dX1_nextNumber_56 : decode cX1_nextNumber 56 = .ok (.dup, 1) := by decide +kernel
theorem dX1_nextNumber_57 : decode cX1_nextNumber 57 = .ok (.getfield 25, 3) := by decide +kernel
theorem dX1_nextNumber_60 : decode cX1_nextNumber 60 = .ok (.iconst 1, 1) := by decide +kernel
theorem dX1_nextNumber_61 : decode cX1_nextNumber 61 = .ok (.iadd, 1) := by decide +kernel
theorem dX1_nextNumber_62 : decode cX1_nextNumber 62 = .ok (.putfield 25, 3) := by decide +kernel
theorem dX1_nextNumber_65 : decode cX1_nextNumber 65 = .ok (.goto (-60), 3) := by decide +kernel
theorem dX1_nextNumber_68 : decode cX1_nextNumber 68 = .ok (.aload_n 0, 1) := by decide +kernel
theorem dX1_nextNumber_69 : decode cX1_nextNumber 69 = .ok (.aload_n 0, 1) := by decide +kernel
theorem dX1_nextNumber_70 : decode cX1_nextNumber 70 = .ok (.getfield 25, 3) := by decide +kernel
theorem dX1_nextNumber_73 : decode cX1_nextNumber 73 = .ok (.aload_n 0, 1) := by decide +kernel
theorem dX1_nextNumber_74 : decode cX1_nextNumber 74 = .ok (.getfield 44, 3) := by decide +kernel
theorem dX1_nextNumber_77 : decode cX1_nextNumber 77 = .ok (.isub, 1) := by decide +kernel
theorem dX1_nextNumber_78 : decode cX1_nextNumber 78 = .ok (.iconst 4, 1) := by decide +kernel
theorem dX1_nextNumber_79 : decode cX1_nextNumber 79 = .ok (.if_icmp .gt 7, 3) := by decide +kernel
theorem dX1_nextNumber_82 : decode cX1_nextNumber 82 = .ok (.iconst 2, 1) := by decide +kernel
theorem dX1_nextNumber_83 : decode cX1_nextNumber 83 = .ok (.goto 4, 3) := by decide +kernel
theorem dX1_nextNumber_86 : decode cX1_nextNumber 86 = .ok (.iconst 1, 1) := by decide +kernel
theorem dX1_nextNumber_87 : decode cX1_nextNumber 87 = .ok (.putfield 47, 3) := by decide +kernel
theorem dX1_nextNumber_90 : decode cX1_nextNumber 90 = .ok (.return_, 1) := by decide +kernel
theorem dX1_isLetter_0 : decode cX1_isLetter 0 = .ok (.iload_n 0, 1) := by decide +kernel
theorem dX1_isLetter_1 : decode cX1_isLetter 1 = .ok (.bipush 97, 2) := by decide +kernel
theorem dX1_isLetter_3 : decode cX1_isLetter 3 = .ok (.if_icmp .lt 13, 3) := by decide +kernel
theorem dX1_isLetter_6 : decode cX1_isLetter 6 = .ok (.iload_n 0, 1) := by decide +kernel
theorem dX1_isLetter_7 : decode cX1_isLetter 7 = .ok (.bipush 122, 2) := by decide +kernel
theorem dX1_isLetter_9 : decode cX1_isLetter 9 = .ok (.if_icmp .gt 7, 3) := by decide +kernel
theorem dX1_isLetter_12 : decode cX1_isLetter 12 = .ok (.iconst 1, 1) := by decide +kernel
theorem dX1_isLetter_13 : decode cX1_isLetter 13 = .ok (.goto 4, 3) := by decide +kernel
theorem dX1_isLetter_16 : decode cX1_isLetter 16 = .ok (.iconst 0, 1) := by decide +kernel
theorem dX1_isLetter_17 : decode cX1_isLetter 17 = .ok (.ireturn, 1) := by decide +kernel
theorem dX1_isDigit_0 : decode cX1_isDigit 0 = .ok (.iload_n 0, 1) := by decide +kernel
theorem dX1_isDigit_1 : decode cX1_isDigit 1 = .ok (.bipush 48, 2) := by decide +kernel
theorem dX1_isDigit_3 : decode cX1_isDigit 3 = .ok (.if_icmp .lt 13, 3) := by decide +kernel
theorem dX1_isDigit_6 : decode cX1_isDigit 6 = .ok (.iload_n 0, 1) := by decide +kernel
theorem dX1_isDigit_7 : decode cX1_isDigit 7 = .ok (.bipush 57, 2) := by decide +kernel
theorem dX1_isDigit_9 : decode cX1_isDigit 9 = .ok (.if_icmp .gt 7, 3) := by decide +kernel
theorem dX1_isDigit_12 : decode cX1_isDigit 12 = .ok (.iconst 1, 1) := by decide +kernel
theorem dX1_isDigit_13 : decode cX1_isDigit 13 = .ok (.goto 4, 3) := by decide +kernel
theorem dX1_isDigit_16 : decode cX1_isDigit 16 = .ok (.iconst 0, 1) := by decide +kernel
theorem dX1_isDigit_17 : decode cX1_isDigit 17 = .ok (.ireturn, 1) := by decide +kernel
theorem dX1_isSign_0 : decode cX1_isSign 0 = .ok (.iload_n 0, 1) := by decide +kernel
theorem dX1_isSign_1 : decode cX1_isSign 1 = .ok (.bipush 40, 2) := by decide +kernel
theorem dX1_isSign_3 : decode cX1_isSign 3 = .ok (.if_icmp .eq 45, 3) := by decide +kernel
theorem dX1_isSign_6 : decode cX1_isSign 6 = .ok (.iload_n 0, 1) := by decide +kernel
theorem dX1_isSign_7 : decode cX1_isSign 7 = .ok (.bipush 41, 2) := by decide +kernel
theorem dX1_isSign_9 : decode cX1_isSign 9 = .ok (.if_icmp .eq 39, 3) := by decide +kernel
theorem dX1_isSign_12 : decode cX1_isSign 12 = .ok (.iload_n 0, 1) := by decide +kernel
theorem dX1_isSign_13 : decode cX1_isSign 13 = .ok (.bipush 59, 2) := by decide +kernel
theorem dX1_isSign_15 : decode cX1_isSign 15 = .ok (.if_icmp .eq 33, 3) := by decide +kernel
theorem dX1_isSign_18 : decode cX1_isSign 18 = .ok (.iload_n 0, 1) := by decide +kernel
theorem dX1_isSign_19 : decode cX1_isSign 19 = .ok (.bipush 43, 2) := by decide +kernel
theorem dX1_isSign_21 : decode cX1_isSign 21 = .ok (.if_icmp .eq 27, 3) := by decide +kernel
theorem dX1_isSign_24 : decode cX1_isSign 24 = .ok (.iload_n 0, 1) := by decide +kernel
theorem dX1_isSign_25 : decode cX1_isSign 25 = .ok (.bipush 45, 2) := by decide +kernel
theorem dX1_isSign_27 : decode cX1_isSign 27 = .ok (.if_icmp .eq 21, 3) := by decide +kernel
theorem dX1_isSign_30 : decode cX1_isSign 30 = .ok (.iload_n 0, 1) := by decide +kernel
theorem dX1_isSign_31 : decode cX1_isSign 31 = .ok (.bipush 42, 2) := by decide +kernel
theorem dX1_isSign_33 : decode cX1_isSign 33 = .ok (.if_icmp .eq 15, 3) := by decide +kernel
theorem dX1_isSign_36 : decode cX1_isSign 36 = .ok (.iload_n 0, 1) := by decide +kernel
theorem dX1_isSign_37 : decode cX1_isSign 37 = .ok (.bipush 60, 2) := by decide +kernel
theorem dX1_isSign_39 : decode cX1_isSign 39 = .ok (.if_icmp .eq 9, 3) := by decide +kernel
theorem dX1_isSign_42 : decode cX1_isSign 42 = .ok (.iload_n 0, 1) := by decide +kernel
theorem dX1_isSign_43 : decode cX1_isSign 43 = .ok (.bipush 61, 2) := by decide +kernel
theorem dX1_isSign_45 : decode cX1_isSign 45 = .ok (.if_icmp .ne 7, 3) := by decide +kernel
theorem dX1_isSign_48 : decode cX1_isSign 48 = .ok (.iconst 1, 1) := by decide +kernel
theorem dX1_isSign_49 : decode cX1_isSign 49 = .ok (.goto 4, 3) := by decide +kernel
theorem dX1_isSign_52 : decode cX1_isSign 52 = .ok (.iconst 0, 1) := by decide +kernel
theorem dX1_isSign_53 : decode cX1_isSign 53 = .ok (.ireturn, 1) := by decide +kernel
theorem dX1_wordOf_0 : decode cX1_wordOf 0 = .ok (.iload_n 0, 1) := by decide +kernel
theorem dX1_wordOf_1 : decode cX1_wordOf 1 = .ok (.tableswitch 92 0 10 #[59, 62, 65, 68, 71, 74, 77, 80, 83, 86, 89], 59) := by decide +kernel
theorem dX1_wordOf_60 : decode cX1_wordOf 60 = .ok (.ldc 83, 2) := by decide +kernel
theorem dX1_wordOf_62 : decode cX1_wordOf 62 = .ok (.areturn, 1) := by decide +kernel
theorem dX1_wordOf_63 : decode cX1_wordOf 63 = .ok (.ldc 85, 2) := by decide +kernel
theorem dX1_wordOf_65 : decode cX1_wordOf 65 = .ok (.areturn, 1) := by decide +kernel
theorem dX1_wordOf_66 : decode cX1_wordOf 66 = .ok (.ldc 87, 2) := by decide +kernel
theorem dX1_wordOf_68 : decode cX1_wordOf 68 = .ok (.areturn, 1) := by decide +kernel
theorem dX1_wordOf_69 : decode cX1_wordOf 69 = .ok (.ldc 89, 2) := by decide +kernel
theorem dX1_wordOf_71 : decode cX1_wordOf 71 = .ok (.areturn, 1) := by decide +kernel
theorem dX1_wordOf_72 : decode cX1_wordOf 72 = .ok (.ldc 91, 2) := by decide +kernel
theorem dX1_wordOf_74 : decode cX1_wordOf 74 = .ok (.areturn, 1) := by decide +kernel
theorem dX1_wordOf_75 : decode cX1_wordOf 75 = .ok (.ldc 93, 2) := by decide +kernel
theorem dX1_wordOf_77 : decode cX1_wordOf 77 = .ok (.areturn, 1) := by decide +kernel
theorem dX1_wordOf_78 : decode cX1_wordOf 78 = .ok (.ldc 95, 2) := by decide +kernel
theorem dX1_wordOf_80 : decode cX1_wordOf 80 = .ok (.areturn, 1) := by decide +kernel
theorem dX1_wordOf_81 : decode cX1_wordOf 81 = .ok (.ldc 97, 2) := by decide +kernel
theorem dX1_wordOf_83 : decode cX1_wordOf 83 = .ok (.areturn, 1) := by decide +kernel
theorem dX1_wordOf_84 : decode cX1_wordOf 84 = .ok (.ldc 99, 2) := by decide +kernel
theorem dX1_wordOf_86 : decode cX1_wordOf 86 = .ok (.areturn, 1) := by decide +kernel
theorem dX1_wordOf_87 : decode cX1_wordOf 87 = .ok (.ldc 101, 2) := by decide +kernel
theorem dX1_wordOf_89 : decode cX1_wordOf 89 = .ok (.areturn, 1) := by decide +kernel
theorem dX1_wordOf_90 : decode cX1_wordOf 90 = .ok (.ldc 103, 2) := by decide +kernel
theorem dX1_wordOf_92 : decode cX1_wordOf 92 = .ok (.areturn, 1) := by decide +kernel
theorem dX1_wordOf_93 : decode cX1_wordOf 93 = .ok (.ldc 105, 2) := by decide +kernel
theorem dX1_wordOf_95 : decode cX1_wordOf 95 = .ok (.areturn, 1) := by decide +kernel
theorem dX1_fail_0 : decode cX1_fail 0 = .ok (.aload_n 0, 1) := by decide +kernel
theorem dX1_fail_1 : decode cX1_fail 1 = .ok (.getfield 22, 3) := by decide +kernel
theorem dX1_fail_4 : decode cX1_fail 4 = .ok (.iconst (-1), 1) := by decide +kernel
theorem dX1_fail_5 : decode cX1_fail 5 = .ok (.if_icmp .ne 16, 3) := by decide +kernel
theorem dX1_fail_8 : decode cX1_fail 8 = .ok (.aload_n 0, 1) := by decide +kernel
theorem dX1_fail_9 : decode cX1_fail 9 = .ok (.aload_n 0, 1) := by decide +kernel
theorem dX1_fail_10 : decode cX1_fail 10 = .ok (.getfield 44, 3) := by decide +kernel
theorem dX1_fail_13 : decode cX1_fail 13 = .ok (.putfield 22, 3) := by decide +kernel
theorem dX1_fail_16 : decode cX1_fail 16 = .ok (.aload_n 0, 1) := by decide +kernel
theorem dX1_fail_17 : decode cX1_fail 17 = .ok (.iconst 1, 1) := by decide +kernel
theorem dX1_fail_18 : decode cX1_fail 18 = .ok (.putfield 47, 3) := by decide +kernel
theorem dX1_fail_21 : decode cX1_fail 21 = .ok (.return_, 1) := by decide +kernel
theorem dX1_expect_0 : decode cX1_expect 0 = .ok (.aload_n 0, 1) := by decide +kernel
theorem dX1_expect_1 : decode cX1_expect 1 = .ok (.getfield 47, 3) := by decide +kernel
theorem dX1_expect_4 : decode cX1_expect 4 = .ok (.iload_n 1, 1) := by decide +kernel
theorem dX1_expect_5 : decode cX1_expect 5 = .ok (.if_icmp .ne 10, 3) := by decide +kernel
theorem dX1_expect_8 : decode cX1_expect 8 = .ok (.aload_n 0, 1) := by decide +kernel
theorem dX1_expect_9 : decode cX1_expect 9 = .ok (.invokevirtual 28, 3) := by decide +kernel
theorem dX1_expect_12 : decode cX1_expect 12 = .ok (.goto 7, 3) := by decide +kernel
theorem dX1_expect_15 : decode cX1_expect 15 = .ok (.aload_n 0, 1) := by decide +kernel
theorem dX1_expect_16 : decode cX1_expect 16 = .ok (.invokevirtual 107, 3) := by decide +kernel
theorem dX1_expect_19 : decode cX1_expect 19 = .ok (.return_, 1) := by decide +kernel
theorem dX1_emit_0 : decode cX1_emit 0 = .ok (.aload_n 0, 1) := by decide +kernel
theorem dX1_emit_1 : decode cX1_emit 1 = .ok (.getfield 110, 3) := by decide +kernel
theorem dX1_emit_4 : decode cX1_emit 4 = .ok (.sipush 160, 3) := by decide +kernel
theorem dX1_emit_7 : decode cX1_emit 7 = .ok (.if_icmp .ge 23, 3) := by decide +kernel
theorem dX1_emit_10 : decode cX1_emit 10 = .ok (.aload_n 0, 1) := by decide +kernel
theorem dX1_emit_11 : decode cX1_emit 11 = .ok (.getfield 15, 3) := by decide +kernel
theorem dX1_emit_14 : decode cX1_emit 14 = .ok (.aload_n 0, 1) := by decide +kernel
theorem dX1_emit_15 : decode cX1_emit 15 = .ok (.getfield 110, 3) := by decide +kernel
theorem dX1_emit_18 : decode cX1_emit 18 = .ok (.iload_n 1, 1) := by decide +kernel
theorem dX1_emit_19 : decode cX1_emit 19 = .ok (.iastore, 1) := by decide +kernel
theorem dX1_emit_20 : decode cX1_emit 20 = .ok (.aload_n 0, 1) := by decide +kernel
theorem dX1_emit_21 : decode cX1_emit 21 = .ok (.dup, 1) := by decide +kernel
theorem dX1_emit_22 : decode cX1_emit 22 = .ok (.getfield 110, 3) := by decide +kernel
theorem dX1_emit_25 : decode cX1_emit 25 = .ok (.iconst 1, 1) := by decide +kernel
theorem dX1_emit_26 : decode cX1_emit 26 = .ok (.iadd, 1) := by decide +kernel
theorem dX1_emit_27 : decode cX1_emit 27 = .ok (.putfield 110, 3) := by decide +kernel
theorem dX1_emit_30 : decode cX1_emit 30 = .ok (.return_, 1) := by decide +kernel
theorem dX1_readPart_0 : decode cX1_readPart 0 = .ok (.aload_n 0, 1) := by decide +kernel
theorem dX1_readPart_1 : decode cX1_readPart 1 = .ok (.iconst 0, 1) := by decide +kernel
theorem dX1_readPart_2 : decode cX1_readPart 2 = .ok (.putfield 110, 3) := by decide +kernel
theorem dX1_readPart_5 : decode cX1_readPart 5 = .ok (.aload_n 0, 1) := by decide +kernel
theorem dX1_readPart_6 : decode cX1_readPart 6 = .ok (.sipush 256, 3) := by decide +kernel
theorem dX1_readPart_9 : decode cX1_readPart 9 = .ok (.iload_n 1, 1) := by decide +kernel
theorem dX1_readPart_10 : decode cX1_readPart 10 = .ok (.iadd, 1) := by decide +kernel
theorem dX1_readPart_11 : decode cX1_readPart 11 = .ok (.invokevirtual 35, 3) := by decide +kernel
theorem dX1_readPart_14 : decode cX1_readPart 14 = .ok (.aload_n 0, 1) := by decide +kernel
theorem dX1_readPart_15 : decode cX1_readPart 15 = .ok (.iconst 0, 1) := by decide +kernel
theorem dX1_readPart_16 : decode cX1_readPart 16 = .ok (.invokevirtual 112, 3) := by decide +kernel
theorem dX1_readPart_19 : decode cX1_readPart 19 = .ok (.aload_n 0, 1) := by decide +kernel
theorem dX1_readPart_20 : decode cX1_readPart 20 = .ok (.bipush 59, 2) := by decide +kernel
theorem dX1_readPart_22 : decode cX1_readPart 22 = .ok (.invokevirtual 35, 3) := by decide +kernel
theorem dX1_readPart_25 : decode cX1_readPart 25 = .ok (.aload_n 0, 1) := by decide +kernel
theorem dX1_readPart_26 : decode cX1_readPart 26 = .ok (.getfield 110, 3) := by decide +kernel
theorem dX1_readPart_29 : decode cX1_readPart 29 = .ok (.newarray .int, 2) := by decide +kernel
theorem dX1_readPart_31 : decode cX1_readPart 31 = .ok (.astore_n 2, 1) := by decide +kernel
theorem dX1_readPart_32 : decode cX1_readPart 32 = .ok (.aload_n 0, 1) := by decide +kernel
theorem dX1_readPart_33 : decode cX1_readPart 33 = .ok (.getfield 15, 3) := by decide +kernel
theorem dX1_readPart_36 : decode cX1_readPart 36 = .ok (.iconst 0, 1) := by decide +kernel
theorem dX1_readPart_37 : decode cX1_readPart 37 = .ok (.aload_n 2, 1) := by decide +kernel
theorem dX1_readPart_38 : decode cX1_readPart 38 = .ok (.iconst 0, 1) := by decide +kernel
theorem dX1_readPart_39 : decode cX1_readPart 39 = .ok (.aload_n 0, 1) := by decide +kernel
theorem dX1_readPart_40 : decode cX1_readPart 40 = .ok (.getfield 110, 3) := by decide +kernel
theorem dX1_readPart_43 : decode cX1_readPart 43 = .ok (.invokestatic 115, 3) := by decide +kernel
theorem dX1_readPart_46 : decode cX1_readPart 46 = .ok (.aload_n 2, 1) := by decide +kernel
theorem dX1_readPart_47 : decode cX1_readPart 47 = .ok (.areturn, 1) := by decide +kernel
theorem dX1_readEither_0 : decode cX1_readEither 0 = .ok (.aload_n 0, 1) := by decide +kernel
theorem dX1_readEither_1 : decode cX1_readEither 1 = .ok (.iload_n 1, 1) := by decide +kernel
theorem dX1_readEither_2 : decode cX1_readEither 2 = .ok (.invokevirtual 121, 3) := by decide +kernel
theorem dX1_readEither_5 : decode cX1_readEither 5 = .ok (.iconst 0, 1) := by decide +kernel
theorem dX1_readEither_6 : decode cX1_readEither 6 = .ok (.istore_n 2, 1) := by decide +kernel
theorem dX1_readEither_7 : decode cX1_readEither 7 = .ok (.iload_n 2, 1) := by decide +kernel
theorem dX1_readEither_8 : decode cX1_readEither 8 = .ok (.sipush 160, 3) := by decide +kernel
theorem dX1_readEither_11 : decode cX1_readEither 11 = .ok (.if_icmp .ge 34, 3) := by decide +kernel
theorem dX1_readEither_14 : decode cX1_readEither 14 = .ok (.aload_n 0, 1) := by decide +kernel
theorem dX1_readEither_15 : decode cX1_readEither 15 = .ok (.getfield 47, 3) := by decide +kernel
theorem dX1_readEither_18 : decode cX1_readEither 18 = .ok (.sipush 259, 3) := by decide +kernel
theorem dX1_readEither_21 : decode cX1_readEither 21 = .ok (.if_icmp .ne 24, 3) := by decide +kernel
theorem dX1_readEither_24 : decode cX1_readEither 24 = .ok (.aload_n 0, 1) := by decide +kernel
theorem dX1_readEither_25 : decode cX1_readEither 25 = .ok (.invokevirtual 28, 3) := by decide +kernel
theorem dX1_readEither_28 : decode cX1_readEither 28 = .ok (.aload_n 0, 1) := by decide +kernel
theorem dX1_readEither_29 : decode cX1_readEither 29 = .ok (.iload_n 1, 1) := by decide +kernel
theorem dX1_readEither_30 : decode cX1_readEither 30 = .ok (.invokevirtual 121, 3) := by decide +kernel
theorem dX1_readEither_33 : decode cX1_readEither 33 = .ok (.aload_n 0, 1) := by decide +kernel
theorem dX1_readEither_34 : decode cX1_readEither 34 = .ok (.bipush (-9), 2) := by decide +kernel
theorem dX1_readEither_36 : decode cX1_readEither 36 = .ok (.invokevirtual 124, 3) := by decide +kernel
theorem dX1_readEither_39 : decode cX1_readEither 39 = .ok (.iinc 2 1, 3) := by decide +kernel
theorem dX1_readEither_42 : decode cX1_readEither 42 = .ok (.goto (-35), 3) := by decide +kernel
theorem dX1_readEither_45 : decode cX1_readEither 45 = .ok (.return_, 1) := by decide +kernel
theorem dX1_readBoth_0 : decode cX1_readBoth 0 = .ok (.aload_n 0, 1) := by decide +kernel
theorem dX1_readBoth_1 : decode cX1_readBoth 1 = .ok (.iload_n 1, 1) := by decide +kernel
theorem dX1_readBoth_2 : decode cX1_readBoth 2 = .ok (.invokevirtual 127, 3) := by decide +kernel
theorem dX1_readBoth_5 : decode cX1_readBoth 5 = .ok (.iconst 0, 1) := by decide +kernel
theorem dX1_readBoth_6 : decode cX1_readBoth 6 = .ok (.istore_n 2, 1) := by decide +kernel
theorem dX1_readBoth_7 : decode cX1_readBoth 7 = .ok (.iload_n 2, 1) := by decide +kernel
theorem dX1_readBoth_8 : decode cX1_readBoth 8 = .ok (.sipush 160, 3) := by decide +kernel
theorem dX1_readBoth_11 : decode cX1_readBoth 11 = .ok (.if_icmp .ge 34, 3) := by decide +kernel
theorem dX1_readBoth_14 : decode cX1_readBoth 14 = .ok (.aload_n 0, 1) := by decide +kernel
theorem dX1_readBoth_15 : decode cX1_readBoth 15 = .ok (.getfield 47, 3) := by decide +kernel
theorem dX1_readBoth_18 : decode cX1_readBoth 18 = .ok (.sipush 260, 3) := by decide +kernel
theorem dX1_readBoth_21 : decode cX1_readBoth 21 = .ok (.if_icmp .ne 24, 3) := by decide +kernel
theorem dX1_readBoth_24 : decode cX1_readBoth 24 = .ok (.aload_n 0, 1) := by decide +kernel
theorem dX1_readBoth_25 : decode cX1_readBoth 25 = .ok (.invokevirtual 28, 3) := by decide +kernel
theorem dX1_readBoth_28 : decode cX1_readBoth 28 = .ok (.aload_n 0, 1) := by decide +kernel
theorem dX1_readBoth_29 : decode cX1_readBoth 29 = .ok (.iload_n 1, 1) := by decide +kernel
theorem dX1_readBoth_30 : decode cX1_readBoth 30 = .ok (.invokevirtual 127, 3) := by decide +kernel
theorem dX1_readBoth_33 : decode cX1_readBoth 33 = .ok (.aload_n 0, 1) := by decide +kernel
theorem dX1_readBoth_34 : decode cX1_readBoth 34 = .ok (.bipush (-10), 2) := by decide +kernel
theorem dX1_readBoth_36 : decode cX1_readBoth 36 = .ok (.invokevirtual 124, 3) := by decide +kernel
theorem dX1_readBoth_39 : decode cX1_readBoth 39 = .ok (.iinc 2 1, 3) := by decide +kernel
theorem dX1_readBoth_42 : decode cX1_readBoth 42 = .ok (.goto (-35), 3) := by decide +kernel
theorem dX1_readBoth_45 : decode cX1_readBoth 45 = .ok (.return_, 1) := by decide +kernel
theorem dX1_readNot_0 : decode cX1_readNot 0 = .ok (.aload_n 0, 1) := by decide +kernel
theorem dX1_readNot_1 : decode cX1_readNot 1 = .ok (.getfield 47, 3) := by decide +kernel
theorem dX1_readNot_4 : decode cX1_readNot 4 = .ok (.sipush 261, 3) := by decide +kernel
theorem dX1_readNot_7 : decode cX1_readNot 7 = .ok (.if_icmp .ne 26, 3) := by decide +kernel
theorem dX1_readNot_10 : decode cX1_readNot 10 = .ok (.iload_n 1, 1) := by decide +kernel
theorem dX1_readNot_11 : decode cX1_readNot 11 = .ok (.iconst 5, 1) := by decide +kernel
theorem dX1_readNot_12 : decode cX1_readNot 12 = .ok (.if_icmp .ge 21, 3) := by decide +kernel
theorem dX1_readNot_15 : decode cX1_readNot 15 = .ok (.aload_n 0, 1) := by decide +kernel
theorem dX1_readNot_16 : decode cX1_readNot 16 = .ok (.invokevirtual 28, 3) := by decide +kernel
theorem dX1_readNot_19 : decode cX1_readNot 19 = .ok (.aload_n 0, 1) := by decide +kernel
theorem dX1_readNot_20 : decode cX1_readNot 20 = .ok (.iload_n 1, 1) := by decide +kernel
theorem dX1_readNot_21 : decode cX1_readNot 21 = .ok (.iconst 1, 1) := by decide +kernel
theorem dX1_readNot_22 : decode cX1_readNot 22 = .ok (.iadd, 1) := by decide +kernel
theorem dX1_readNot_23 : decode cX1_readNot 23 = .ok (.invokevirtual 127, 3) := by decide +kernel
theorem dX1_readNot_26 : decode cX1_readNot 26 = .ok (.aload_n 0, 1) := by decide +kernel
theorem dX1_readNot_27 : decode cX1_readNot 27 = .ok (.bipush (-7), 2) := by decide +kernel
theorem dX1_readNot_29 : decode cX1_readNot 29 = .ok (.invokevirtual 124, 3) := by decide +kernel
theorem dX1_readNot_32 : decode cX1_readNot 32 = .ok (.return_, 1) := by decide +kernel
theorem dX1_readNot_33 : decode cX1_readNot 33 = .ok (.aload_n 0, 1) := by decide +kernel
theorem dX1_readNot_34 : decode cX1_readNot 34 = .ok (.iload_n 1, 1) := by decide +kernel
theorem dX1_readNot_35 : decode cX1_readNot 35 = .ok (.invokevirtual 130, 3) := by decide +kernel
theorem dX1_readNot_38 : decode cX1_readNot 38 = .ok (.aload_n 0, 1) := by decide +kernel
theorem dX1_readNot_39 : decode cX1_readNot 39 = .ok (.getfield 47, 3) := by decide +kernel
theorem dX1_readNot_42 : decode cX1_readNot 42 = .ok (.bipush 60, 2) := by decide +kernel
theorem dX1_readNot_44 : decode cX1_readNot 44 = .ok (.if_icmp .eq 12, 3) := by decide +kernel
theorem dX1_readNot_47 : decode cX1_readNot 47 = .ok (.aload_n 0, 1) := by decide +kernel
theorem dX1_readNot_48 : decode cX1_readNot 48 = .ok (.getfield 47, 3) := by decide +kernel
theorem dX1_readNot_51 : decode cX1_readNot 51 = .ok (.bipush 61, 2) := by decide +kernel
theorem dX1_readNot_53 : decode cX1_readNot 53 = .ok (.if_icmp .ne 34, 3) := by decide +kernel
theorem dX1_readNot_56 : decode cX1_readNot 56 = .ok (.aload_n 0, 1) := by decide +kernel
theorem dX1_readNot_57 : decode cX1_readNot 57 = .ok (.getfield 47, 3) := by decide +kernel
theorem dX1_readNot_60 : decode cX1_readNot 60 = .ok (.bipush 60, 2) := by decide +kernel
theorem dX1_readNot_62 : decode cX1_readNot 62 = .ok (.if_icmp .ne 8, 3) := by decide +kernel
theorem dX1_readNot_65 : decode cX1_readNot 65 = .ok (.bipush (-11), 2) := by decide +kernel
theorem dX1_readNot_67 : decode cX1_readNot 67 = .ok (.goto 5, 3) := by decide +kernel
theorem dX1_readNot_70 : decode cX1_readNot 70 = .ok (.bipush (-12), 2) := by decide +kernel
theorem dX1_readNot_72 : decode cX1_readNot 72 = .ok (.istore_n 2, 1) := by decide +kernel
theorem dX1_readNot_73 : decode cX1_readNot 73 = .ok (.aload_n 0, 1) := by decide +kernel
theorem dX1_readNot_74 : decode cX1_readNot 74 = .ok (.invokevirtual 28, 3) := by decide +kernel
theorem dX1_readNot_77 : decode cX1_readNot 77 = .ok (.aload_n 0, 1) := by decide +kernel
theorem dX1_readNot_78 : decode cX1_readNot 78 = .ok (.iload_n 1, 1) := by decide +kernel
theorem dX1_readNot_79 : decode cX1_readNot 79 = .ok (.invokevirtual 130, 3) := by decide +kernel
theorem dX1_readNot_82 : decode cX1_readNot 82 = .ok (.aload_n 0, 1) := by decide +kernel
theorem dX1_readNot_83 : decode cX1_readNot 83 = .ok (.iload_n 2, 1) := by decide +kernel
theorem dX1_readNot_84 : decode cX1_readNot 84 = .ok (.invokevirtual 124, 3) := by decide +kernel
theorem dX1_readNot_87 : decode cX1_readNot 87 = .ok (.return_, 1) := by decide +kernel
