theorem dX4_dryBehind_0 : decode cX4_dryBehind 0 = .ok (.iconst 0, 1) := by decide +kernel
theorem dX4_dryBehind_1 : decode cX4_dryBehind 1 = .ok (.istore_n 2, 1) := by decide +kernel
theorem dX4_dryBehind_2 : decode cX4_dryBehind 2 = .ok (.iload_n 2, 1) := by decide +kernel
theorem dX4_dryBehind_3 : decode cX4_dryBehind 3 = .ok (.iload_n 1, 1) := by decide +kernel
theorem dX4_dryBehind_4 : decode cX4_dryBehind 4 = .ok (.if_icmp .ge 24, 3) := by decide +kernel
theorem dX4_dryBehind_7 : decode cX4_dryBehind 7 = .ok (.aload_n 0, 1) := by decide +kernel
theorem dX4_dryBehind_8 : decode cX4_dryBehind 8 = .ok (.getfield 16, 3) := by decide +kernel
theorem dX4_dryBehind_11 : decode cX4_dryBehind 11 = .ok (.aload_n 0, 1) := by decide +kernel
theorem dX4_dryBehind_12 : decode cX4_dryBehind 12 = .ok (.aload_n 0, 1) := by decide +kernel
theorem dX4_dryBehind_13 : decode cX4_dryBehind 13 = .ok (.getfield 16, 3) := by decide +kernel
theorem dX4_dryBehind_16 : decode cX4_dryBehind 16 = .ok (.invokevirtual 82, 3) := by decide +kernel
theorem dX4_dryBehind_19 : decode cX4_dryBehind 19 = .ok (.invokevirtual 117, 3) := by decide +kernel
theorem dX4_dryBehind_22 : decode cX4_dryBehind 22 = .ok (.iinc 2 1, 3) := by decide +kernel
theorem dX4_dryBehind_25 : decode cX4_dryBehind 25 = .ok (.goto (-23), 3) := by decide +kernel
theorem dX4_dryBehind_28 : decode cX4_dryBehind 28 = .ok (.aload_n 0, 1) := by decide +kernel
theorem dX4_dryBehind_29 : decode cX4_dryBehind 29 = .ok (.getfield 16, 3) := by decide +kernel
theorem dX4_dryBehind_32 : decode cX4_dryBehind 32 = .ok (.invokevirtual 121, 3) := by decide +kernel
theorem dX4_dryBehind_35 : decode cX4_dryBehind 35 = .ok (.ireturn, 1) := by decide +kernel
theorem dX4_dryWithout_0 : decode cX4_dryWithout 0 = .ok (.aload_n 0, 1) := by decide +kernel
theorem dX4_dryWithout_1 : decode cX4_dryWithout 1 = .ok (.invokevirtual 154, 3) := by decide +kernel
theorem dX4_dryWithout_4 : decode cX4_dryWithout 4 = .ok (.aload_n 0, 1) := by decide +kernel
theorem dX4_dryWithout_5 : decode cX4_dryWithout 5 = .ok (.getfield 16, 3) := by decide +kernel
theorem dX4_dryWithout_8 : decode cX4_dryWithout 8 = .ok (.bipush 7, 2) := by decide +kernel
theorem dX4_dryWithout_10 : decode cX4_dryWithout 10 = .ok (.iload_n 1, 1) := by decide +kernel
theorem dX4_dryWithout_11 : decode cX4_dryWithout 11 = .ok (.iconst 0, 1) := by decide +kernel
theorem dX4_dryWithout_12 : decode cX4_dryWithout 12 = .ok (.invokevirtual 65, 3) := by decide +kernel
theorem dX4_dryWithout_15 : decode cX4_dryWithout 15 = .ok (.aload_n 0, 1) := by decide +kernel
theorem dX4_dryWithout_16 : decode cX4_dryWithout 16 = .ok (.iload_n 2, 1) := by decide +kernel
theorem dX4_dryWithout_17 : decode cX4_dryWithout 17 = .ok (.invokevirtual 157, 3) := by decide +kernel
theorem dX4_dryWithout_20 : decode cX4_dryWithout 20 = .ok (.ireturn, 1) := by decide +kernel
theorem dX4_dryDrawn_0 : decode cX4_dryDrawn 0 = .ok (.aload_n 0, 1) := by decide +kernel
theorem dX4_dryDrawn_1 : decode cX4_dryDrawn 1 = .ok (.invokevirtual 154, 3) := by decide +kernel
theorem dX4_dryDrawn_4 : decode cX4_dryDrawn 4 = .ok (.iload_n 1, 1) := by decide +kernel
theorem dX4_dryDrawn_5 : decode cX4_dryDrawn 5 = .ok (.istore_n 3, 1) := by decide +kernel
theorem dX4_dryDrawn_6 : decode cX4_dryDrawn 6 = .ok (.iconst 0, 1) := by decide +kernel
theorem dX4_dryDrawn_7 : decode cX4_dryDrawn 7 = .ok (.istore 4, 2) := by decide +kernel
theorem dX4_dryDrawn_9 : decode cX4_dryDrawn 9 = .ok (.iload 4, 2) := by decide +kernel
theorem dX4_dryDrawn_11 : decode cX4_dryDrawn 11 = .ok (.iload_n 2, 1) := by decide +kernel
theorem dX4_dryDrawn_12 : decode cX4_dryDrawn 12 = .ok (.if_icmp .ge 47, 3) := by decide +kernel
theorem dX4_dryDrawn_15 : decode cX4_dryDrawn 15 = .ok (.iload_n 3, 1) := by decide +kernel
theorem dX4_dryDrawn_16 : decode cX4_dryDrawn 16 = .ok (.ldc 240, 2) := by decide +kernel
theorem dX4_dryDrawn_18 : decode cX4_dryDrawn 18 = .ok (.imul, 1) := by decide +kernel
theorem dX4_dryDrawn_19 : decode cX4_dryDrawn 19 = .ok (.sipush 12345, 3) := by decide +kernel
theorem dX4_dryDrawn_22 : decode cX4_dryDrawn 22 = .ok (.iadd, 1) := by decide +kernel
theorem dX4_dryDrawn_23 : decode cX4_dryDrawn 23 = .ok (.istore_n 3, 1) := by decide +kernel
theorem dX4_dryDrawn_24 : decode cX4_dryDrawn 24 = .ok (.aload_n 0, 1) := by decide +kernel
theorem dX4_dryDrawn_25 : decode cX4_dryDrawn 25 = .ok (.getfield 16, 3) := by decide +kernel
theorem dX4_dryDrawn_28 : decode cX4_dryDrawn 28 = .ok (.iload_n 3, 1) := by decide +kernel
theorem dX4_dryDrawn_29 : decode cX4_dryDrawn 29 = .ok (.bipush 9, 2) := by decide +kernel
theorem dX4_dryDrawn_31 : decode cX4_dryDrawn 31 = .ok (.iushr, 1) := by decide +kernel
theorem dX4_dryDrawn_32 : decode cX4_dryDrawn 32 = .ok (.bipush 10, 2) := by decide +kernel
theorem dX4_dryDrawn_34 : decode cX4_dryDrawn 34 = .ok (.irem, 1) := by decide +kernel
theorem dX4_dryDrawn_35 : decode cX4_dryDrawn 35 = .ok (.invokevirtual 241, 3) := by decide +kernel
theorem dX4_dryDrawn_38 : decode cX4_dryDrawn 38 = .ok (.aload_n 0, 1) := by decide +kernel
theorem dX4_dryDrawn_39 : decode cX4_dryDrawn 39 = .ok (.getfield 16, 3) := by decide +kernel
theorem dX4_dryDrawn_42 : decode cX4_dryDrawn 42 = .ok (.aload_n 0, 1) := by decide +kernel
theorem dX4_dryDrawn_43 : decode cX4_dryDrawn 43 = .ok (.aload_n 0, 1) := by decide +kernel
theorem dX4_dryDrawn_44 : decode cX4_dryDrawn 44 = .ok (.getfield 16, 3) := by decide +kernel
theorem dX4_dryDrawn_47 : decode cX4_dryDrawn 47 = .ok (.invokevirtual 82, 3) := by decide +kernel
theorem dX4_dryDrawn_50 : decode cX4_dryDrawn 50 = .ok (.invokevirtual 117, 3) := by decide +kernel
theorem dX4_dryDrawn_53 : decode cX4_dryDrawn 53 = .ok (.iinc 4 1, 3) := by decide +kernel
theorem dX4_dryDrawn_56 : decode cX4_dryDrawn 56 = .ok (.goto (-47), 3) := by decide +kernel
theorem dX4_dryDrawn_59 : decode cX4_dryDrawn 59 = .ok (.aload_n 0, 1) := by decide +kernel
theorem dX4_dryDrawn_60 : decode cX4_dryDrawn 60 = .ok (.getfield 16, 3) := by decide +kernel
theorem dX4_dryDrawn_63 : decode cX4_dryDrawn 63 = .ok (.invokevirtual 121, 3) := by decide +kernel
theorem dX4_dryDrawn_66 : decode cX4_dryDrawn 66 = .ok (.invokestatic 124, 3) := by decide +kernel
theorem dX4_dryDrawn_69 : decode cX4_dryDrawn 69 = .ok (.ireturn, 1) := by decide +kernel
theorem dX4_firstDried_0 : decode cX4_firstDried 0 = .ok (.iconst 0, 1) := by decide +kernel
theorem dX4_firstDried_1 : decode cX4_firstDried 1 = .ok (.istore_n 3, 1) := by decide +kernel
theorem dX4_firstDried_2 : decode cX4_firstDried 2 = .ok (.iload_n 3, 1) := by decide +kernel
theorem dX4_firstDried_3 : decode cX4_firstDried 3 = .ok (.iload_n 1, 1) := by decide +kernel
theorem dX4_firstDried_4 : decode cX4_firstDried 4 = .ok (.if_icmp .ge 33, 3) := by decide +kernel
theorem dX4_firstDried_7 : decode cX4_firstDried 7 = .ok (.iload_n 3, 1) := by decide +kernel
theorem dX4_firstDried_8 : decode cX4_firstDried 8 = .ok (.aload_n 0, 1) := by decide +kernel
theorem dX4_firstDried_9 : decode cX4_firstDried 9 = .ok (.getfield 49, 3) := by decide +kernel
theorem dX4_firstDried_12 : decode cX4_firstDried 12 = .ok (.arraylength, 1) := by decide +kernel
theorem dX4_firstDried_13 : decode cX4_firstDried 13 = .ok (.if_icmp .ge 24, 3) := by decide +kernel
theorem dX4_firstDried_16 : decode cX4_firstDried 16 = .ok (.aload_n 0, 1) := by decide +kernel
theorem dX4_firstDried_17 : decode cX4_firstDried 17 = .ok (.getfield 49, 3) := by decide +kernel
theorem dX4_firstDried_20 : decode cX4_firstDried 20 = .ok (.iload_n 3, 1) := by decide +kernel
theorem dX4_firstDried_21 : decode cX4_firstDried 21 = .ok (.iaload, 1) := by decide +kernel
theorem dX4_firstDried_22 : decode cX4_firstDried 22 = .ok (.invokestatic 124, 3) := by decide +kernel
theorem dX4_firstDried_25 : decode cX4_firstDried 25 = .ok (.iload_n 2, 1) := by decide +kernel
theorem dX4_firstDried_26 : decode cX4_firstDried 26 = .ok (.if_icmp .lt 5, 3) := by decide +kernel
theorem dX4_firstDried_29 : decode cX4_firstDried 29 = .ok (.iload_n 3, 1) := by decide +kernel
theorem dX4_firstDried_30 : decode cX4_firstDried 30 = .ok (.ireturn, 1) := by decide +kernel
theorem dX4_firstDried_31 : decode cX4_firstDried 31 = .ok (.iinc 3 1, 3) := by decide +kernel
theorem dX4_firstDried_34 : decode cX4_firstDried 34 = .ok (.goto (-32), 3) := by decide +kernel
theorem dX4_firstDried_37 : decode cX4_firstDried 37 = .ok (.iconst (-1), 1) := by decide +kernel
theorem dX4_firstDried_38 : decode cX4_firstDried 38 = .ok (.ireturn, 1) := by decide +kernel
theorem dX4_mostDry_0 : decode cX4_mostDry 0 = .ok (.iconst 0, 1) := by decide +kernel
theorem dX4_mostDry_1 : decode cX4_mostDry 1 = .ok (.istore_n 2, 1) := by decide +kernel
theorem dX4_mostDry_2 : decode cX4_mostDry 2 = .ok (.iconst 0, 1) := by decide +kernel
theorem dX4_mostDry_3 : decode cX4_mostDry 3 = .ok (.istore_n 3, 1) := by decide +kernel
theorem dX4_mostDry_4 : decode cX4_mostDry 4 = .ok (.iload_n 3, 1) := by decide +kernel
theorem dX4_mostDry_5 : decode cX4_mostDry 5 = .ok (.iload_n 1, 1) := by decide +kernel
theorem dX4_mostDry_6 : decode cX4_mostDry 6 = .ok (.if_icmp .ge 32, 3) := by decide +kernel
theorem dX4_mostDry_9 : decode cX4_mostDry 9 = .ok (.iload_n 3, 1) := by decide +kernel
theorem dX4_mostDry_10 : decode cX4_mostDry 10 = .ok (.aload_n 0, 1) := by decide +kernel
theorem dX4_mostDry_11 : decode cX4_mostDry 11 = .ok (.getfield 49, 3) := by decide +kernel
theorem dX4_mostDry_14 : decode cX4_mostDry 14 = .ok (.arraylength, 1) := by decide +kernel
theorem dX4_mostDry_15 : decode cX4_mostDry 15 = .ok (.if_icmp .ge 23, 3) := by decide +kernel
theorem dX4_mostDry_18 : decode cX4_mostDry 18 = .ok (.iload_n 2, 1) := by decide +kernel
theorem dX4_mostDry_19 : decode cX4_mostDry 19 = .ok (.aload_n 0, 1) := by decide +kernel
theorem dX4_mostDry_20 : decode cX4_mostDry 20 = .ok (.getfield 49, 3) := by decide +kernel
theorem dX4_mostDry_23 : decode cX4_mostDry 23 = .ok (.iload_n 3, 1) := by decide +kernel
theorem dX4_mostDry_24 : decode cX4_mostDry 24 = .ok (.iaload, 1) := by decide +kernel
theorem dX4_mostDry_25 : decode cX4_mostDry 25 = .ok (.invokestatic 124, 3) := by decide +kernel
theorem dX4_mostDry_28 : decode cX4_mostDry 28 = .ok (.invokestatic 244, 3) := by decide +kernel
theorem dX4_mostDry_31 : decode cX4_mostDry 31 = .ok (.istore_n 2, 1) := by decide +kernel
theorem dX4_mostDry_32 : decode cX4_mostDry 32 = .ok (.iinc 3 1, 3) := by decide +kernel
theorem dX4_mostDry_35 : decode cX4_mostDry 35 = .ok (.goto (-31), 3) := by decide +kernel
theorem dX4_mostDry_38 : decode cX4_mostDry 38 = .ok (.iload_n 2, 1) := by decide +kernel
theorem dX4_mostDry_39 : decode cX4_mostDry 39 = .ok (.ireturn, 1) := by decide +kernel
theorem dX4_judged_0 : decode cX4_judged 0 = .ok (.aload_n 0, 1) := by decide +kernel
theorem dX4_judged_1 : decode cX4_judged 1 = .ok (.iload_n 1, 1) := by decide +kernel
theorem dX4_judged_2 : decode cX4_judged 2 = .ok (.aload_n 0, 1) := by decide +kernel
theorem dX4_judged_3 : decode cX4_judged 3 = .ok (.iload_n 1, 1) := by decide +kernel
theorem dX4_judged_4 : decode cX4_judged 4 = .ok (.invokevirtual 145, 3) := by decide +kernel
theorem dX4_judged_7 : decode cX4_judged 7 = .ok (.invokevirtual 151, 3) := by decide +kernel
theorem dX4_judged_10 : decode cX4_judged 10 = .ok (.ireturn, 1) := by decide +kernel
theorem dX4_keptYears_0 : decode cX4_keptYears 0 = .ok (.iconst 0, 1) := by decide +kernel
theorem dX4_keptYears_1 : decode cX4_keptYears 1 = .ok (.istore_n 2, 1) := by decide +kernel
theorem dX4_keptYears_2 : decode cX4_keptYears 2 = .ok (.iconst 0, 1) := by decide +kernel
theorem dX4_keptYears_3 : decode cX4_keptYears 3 = .ok (.istore_n 3, 1) := by decide +kernel
theorem dX4_keptYears_4 : decode cX4_keptYears 4 = .ok (.iconst 0, 1) := by decide +kernel
theorem dX4_keptYears_5 : decode cX4_keptYears 5 = .ok (.istore 4, 2) := by decide +kernel
theorem dX4_keptYears_7 : decode cX4_keptYears 7 = .ok (.iload 4, 2) := by decide +kernel
theorem dX4_keptYears_9 : decode cX4_keptYears 9 = .ok (.iload_n 1, 1) := by decide +kernel
theorem dX4_keptYears_10 : decode cX4_keptYears 10 = .ok (.if_icmp .ge 43, 3) := by decide +kernel
theorem dX4_keptYears_13 : decode cX4_keptYears 13 = .ok (.iload 4, 2) := by decide +kernel
theorem dX4_keptYears_15 : decode cX4_keptYears 15 = .ok (.aload_n 0, 1) := by decide +kernel
theorem dX4_keptYears_16 : decode cX4_keptYears 16 = .ok (.getfield 49, 3) := by decide +kernel
theorem dX4_keptYears_19 : decode cX4_keptYears 19 = .ok (.arraylength, 1) := by decide +kernel
theorem dX4_keptYears_20 : decode cX4_keptYears 20 = .ok (.if_icmp .ge 33, 3) := by decide +kernel
theorem dX4_keptYears_23 : decode cX4_keptYears 23 = .ok (.aload_n 0, 1) := by decide +kernel
theorem dX4_keptYears_24 : decode cX4_keptYears 24 = .ok (.getfield 49, 3) := by decide +kernel
theorem dX4_keptYears_27 : decode cX4_keptYears 27 = .ok (.iload 4, 2) := by decide +kernel
theorem dX4_keptYears_29 : decode cX4_keptYears 29 = .ok (.iaload, 1) := by decide +kernel
theorem dX4_keptYears_30 : decode cX4_keptYears 30 = .ok (.invokestatic 124, 3) := by decide +kernel
theorem dX4_keptYears_33 : decode cX4_keptYears 33 = .ok (.istore 5, 2) := by decide +kernel
theorem dX4_keptYears_35 : decode cX4_keptYears 35 = .ok (.iload 5, 2) := by decide +kernel
theorem dX4_keptYears_37 : decode cX4_keptYears 37 = .ok (.iload_n 3, 1) := by decide +kernel
theorem dX4_keptYears_38 : decode cX4_keptYears 38 = .ok (.if_icmp .lt 9, 3) := by decide +kernel
theorem dX4_keptYears_41 : decode cX4_keptYears 41 = .ok (.iinc 2 1, 3) := by decide +kernel
theorem dX4_keptYears_44 : decode cX4_keptYears 44 = .ok (.iload 5, 2) := by decide +kernel
theorem dX4_keptYears_46 : decode cX4_keptYears 46 = .ok (.istore_n 3, 1) := by decide +kernel
theorem dX4_keptYears_47 : decode cX4_keptYears 47 = .ok (.iinc 4 1, 3) := by decide +kernel
theorem dX4_keptYears_50 : decode cX4_keptYears 50 = .ok (.goto (-43), 3) := by decide +kernel
theorem dX4_keptYears_53 : decode cX4_keptYears 53 = .ok (.iload_n 2, 1) := by decide +kernel
theorem dX4_keptYears_54 : decode cX4_keptYears 54 = .ok (.ireturn, 1) := by decide +kernel
theorem dX4_toldOfWork_0 : decode cX4_toldOfWork 0 = .ok (.iload_n 0, 1) := by decide +kernel
theorem dX4_toldOfWork_1 : decode cX4_toldOfWork 1 = .ok (.bipush 10, 2) := by decide +kernel
theorem dX4_toldOfWork_3 : decode cX4_toldOfWork 3 = .ok (.idiv, 1) := by decide +kernel
theorem dX4_toldOfWork_4 : decode cX4_toldOfWork 4 = .ok (.lookupswitch 33 #[(1, 28), (2, 31)], 28) := by decide +kernel
theorem dX4_toldOfWork_32 : decode cX4_toldOfWork 32 = .ok (.bipush 8, 2) := by decide +kernel
theorem dX4_toldOfWork_34 : decode cX4_toldOfWork 34 = .ok (.ireturn, 1) := by decide +kernel
theorem dX4_toldOfWork_35 : decode cX4_toldOfWork 35 = .ok (.iconst 5, 1) := by decide +kernel
theorem dX4_toldOfWork_36 : decode cX4_toldOfWork 36 = .ok (.ireturn, 1) := by decide +kernel
theorem dX4_toldOfWork_37 : decode cX4_toldOfWork 37 = .ok (.bipush 6, 2) := by decide +kernel
theorem dX4_toldOfWork_39 : decode cX4_toldOfWork 39 = .ok (.ireturn, 1) := by decide +kernel
theorem dX4_firstOther_0 : decode cX4_firstOther 0 = .ok (.aload_n 0, 1) := by decide +kernel
theorem dX4_firstOther_1 : decode cX4_firstOther 1 = .ok (.invokevirtual 154, 3) := by decide +kernel
theorem dX4_firstOther_4 : decode cX4_firstOther 4 = .ok (.aload_n 0, 1) := by decide +kernel
theorem dX4_firstOther_5 : decode cX4_firstOther 5 = .ok (.getfield 16, 3) := by decide +kernel
theorem dX4_firstOther_8 : decode cX4_firstOther 8 = .ok (.iload_n 2, 1) := by decide +kernel
theorem dX4_firstOther_9 : decode cX4_firstOther 9 = .ok (.iload_n 3, 1) := by decide +kernel
theorem dX4_firstOther_10 : decode cX4_firstOther 10 = .ok (.iload 4, 2) := by decide +kernel
theorem dX4_firstOther_12 : decode cX4_firstOther 12 = .ok (.invokevirtual 65, 3) := by decide +kernel
theorem dX4_firstOther_15 : decode cX4_firstOther 15 = .ok (.aload_n 0, 1) := by decide +kernel
theorem dX4_firstOther_16 : decode cX4_firstOther 16 = .ok (.getfield 45, 3) := by decide +kernel
theorem dX4_firstOther_19 : decode cX4_firstOther 19 = .ok (.iload_n 1, 1) := by decide +kernel
theorem dX4_firstOther_20 : decode cX4_firstOther 20 = .ok (.invokevirtual 177, 3) := by decide +kernel
theorem dX4_firstOther_23 : decode cX4_firstOther 23 = .ok (.istore 5, 2) := by decide +kernel
theorem dX4_firstOther_25 : decode cX4_firstOther 25 = .ok (.iconst 0, 1) := by decide +kernel
theorem dX4_firstOther_26 : decode cX4_firstOther 26 = .ok (.istore 6, 2) := by decide +kernel
theorem dX4_firstOther_28 : decode cX4_firstOther 28 = .ok (.iload 6, 2) := by decide +kernel
theorem dX4_firstOther_30 : decode cX4_firstOther 30 = .ok (.iload 5, 2) := by decide +kernel
theorem dX4_firstOther_32 : decode cX4_firstOther 32 = .ok (.if_icmp .ge 47, 3) := by decide +kernel
theorem dX4_firstOther_35 : decode cX4_firstOther 35 = .ok (.aload_n 0, 1) := by decide +kernel
theorem dX4_firstOther_36 : decode cX4_firstOther 36 = .ok (.getfield 16, 3) := by decide +kernel
theorem dX4_firstOther_39 : decode cX4_firstOther 39 = .ok (.aload_n 0, 1) := by decide +kernel
theorem dX4_firstOther_40 : decode cX4_firstOther 40 = .ok (.aload_n 0, 1) := by decide +kernel
theorem dX4_firstOther_41 : decode cX4_firstOther 41 = .ok (.getfield 16, 3) := by decide +kernel
theorem dX4_firstOther_44 : decode cX4_firstOther 44 = .ok (.invokevirtual 82, 3) := by decide +kernel
theorem dX4_firstOther_47 : decode cX4_firstOther 47 = .ok (.invokevirtual 117, 3) := by decide +kernel
theorem dX4_firstOther_50 : decode cX4_firstOther 50 = .ok (.aload_n 0, 1) := by decide +kernel
theorem dX4_firstOther_51 : decode cX4_firstOther 51 = .ok (.getfield 16, 3) := by decide +kernel
theorem dX4_firstOther_54 : decode cX4_firstOther 54 = .ok (.invokevirtual 121, 3) := by decide +kernel
theorem dX4_firstOther_57 : decode cX4_firstOther 57 = .ok (.aload_n 0, 1) := by decide +kernel
theorem dX4_firstOther_58 : decode cX4_firstOther 58 = .ok (.getfield 45, 3) := by decide +kernel
theorem dX4_firstOther_61 : decode cX4_firstOther 61 = .ok (.iload_n 1, 1) := by decide +kernel
theorem dX4_firstOther_62 : decode cX4_firstOther 62 = .ok (.iload 6, 2) := by decide +kernel
theorem dX4_firstOther_64 : decode cX4_firstOther 64 = .ok (.invokevirtual 249, 3) := by decide +kernel
theorem dX4_firstOther_67 : decode cX4_firstOther 67 = .ok (.if_icmp .eq 6, 3) := by decide +kernel
theorem dX4_firstOther_70 : decode cX4_firstOther 70 = .ok (.iload 6, 2) := by decide +kernel
theorem dX4_firstOther_72 : decode cX4_firstOther 72 = .ok (.ireturn, 1) := by decide +kernel
theorem dX4_firstOther_73 : decode cX4_firstOther 73 = .ok (.iinc 6 1, 3) := by decide +kernel
theorem dX4_firstOther_76 : decode cX4_firstOther 76 = .ok (.goto (-48), 3) := by decide +kernel
theorem dX4_firstOther_79 : decode cX4_firstOther 79 = .ok (.iconst (-1), 1) := by decide +kernel
theorem dX4_firstOther_80 : decode cX4_firstOther 80 = .ok (.ireturn, 1) := by decide +kernel
theorem dX4_fitting_0 : decode cX4_fitting 0 = .ok (.iconst 0, 1) := by decide +kernel
theorem dX4_fitting_1 : decode cX4_fitting 1 = .ok (.istore 5, 2) := by decide +kernel
theorem dX4_fitting_3 : decode cX4_fitting 3 = .ok (.iconst 0, 1) := by decide +kernel
theorem dX4_fitting_4 : decode cX4_fitting 4 = .ok (.istore 6, 2) := by decide +kernel
theorem dX4_fitting_6 : decode cX4_fitting 6 = .ok (.iload 6, 2) := by decide +kernel
theorem dX4_fitting_8 : decode cX4_fitting 8 = .ok (.iload 4, 2) := by decide +kernel
theorem dX4_fitting_10 : decode cX4_fitting 10 = .ok (.if_icmp .ge 31, 3) := by decide +kernel
theorem dX4_fitting_13 : decode cX4_fitting 13 = .ok (.aload_n 0, 1) := by decide +kernel
theorem dX4_fitting_14 : decode cX4_fitting 14 = .ok (.iload_n 1, 1) := by decide +kernel
theorem dX4_fitting_15 : decode cX4_fitting 15 = .ok (.iload_n 2, 1) := by decide +kernel
theorem dX4_fitting_16 : decode cX4_fitting 16 = .ok (.iload_n 3, 1) := by decide +kernel
theorem dX4_fitting_17 : decode cX4_fitting 17 = .ok (.iload 6, 2) := by decide +kernel
theorem dX4_fitting_19 : decode cX4_fitting 19 = .ok (.invokevirtual 179, 3) := by decide +kernel
theorem dX4_fitting_22 : decode cX4_fitting 22 = .ok (.iconst (-1), 1) := by decide +kernel
theorem dX4_fitting_23 : decode cX4_fitting 23 = .ok (.if_icmp .ne 12, 3) := by decide +kernel
theorem dX4_fitting_26 : decode cX4_fitting 26 = .ok (.iload 5, 2) := by decide +kernel
theorem dX4_fitting_28 : decode cX4_fitting 28 = .ok (.iconst 1, 1) := by decide +kernel
theorem dX4_fitting_29 : decode cX4_fitting 29 = .ok (.iload 6, 2) := by decide +kernel
theorem dX4_fitting_31 : decode cX4_fitting 31 = .ok (.ishl, 1) := by decide +kernel
theorem dX4_fitting_32 : decode cX4_fitting 32 = .ok (.ior, 1) := by decide +kernel
theorem dX4_fitting_33 : decode cX4_fitting 33 = .ok (.istore 5, 2) := by decide +kernel
theorem dX4_fitting_35 : decode cX4_fitting 35 = .ok (.iinc 6 1, 3) := by decide +kernel
theorem dX4_fitting_38 : decode cX4_fitting 38 = .ok (.goto (-32), 3) := by decide +kernel
theorem dX4_fitting_41 : decode cX4_fitting 41 = .ok (.iload 5, 2) := by decide +kernel
theorem dX4_fitting_43 : decode cX4_fitting 43 = .ok (.ireturn, 1) := by decide +kernel
theorem dX4_fittingRivers_0 : decode cX4_fittingRivers 0 = .ok (.iconst 0, 1) := by decide +kernel
theorem dX4_fittingRivers_1 : decode cX4_fittingRivers 1 = .ok (.istore_n 2, 1) := by decide +kernel
theorem dX4_fittingRivers_2 : decode cX4_fittingRivers 2 = .ok (.iconst 0, 1) := by decide +kernel
theorem dX4_fittingRivers_3 : decode cX4_fittingRivers 3 = .ok (.istore_n 3, 1) := by decide +kernel
theorem dX4_fittingRivers_4 : decode cX4_fittingRivers 4 = .ok (.iload_n 3, 1) := by decide +kernel
theorem dX4_fittingRivers_5 : decode cX4_fittingRivers 5 = .ok (.bipush 100, 2) := by decide +kernel
theorem dX4_fittingRivers_7 : decode cX4_fittingRivers 7 = .ok (.if_icmp .ge 24, 3) := by decide +kernel
theorem dX4_fittingRivers_10 : decode cX4_fittingRivers 10 = .ok (.aload_n 0, 1) := by decide +kernel
theorem dX4_fittingRivers_11 : decode cX4_fittingRivers 11 = .ok (.iload_n 1, 1) := by decide +kernel
theorem dX4_fittingRivers_12 : decode cX4_fittingRivers 12 = .ok (.iconst 0, 1) := by decide +kernel
theorem dX4_fittingRivers_13 : decode cX4_fittingRivers 13 = .ok (.iconst 0, 1) := by decide +kernel
theorem dX4_fittingRivers_14 : decode cX4_fittingRivers 14 = .ok (.iload_n 3, 1) := by decide +kernel
theorem dX4_fittingRivers_15 : decode cX4_fittingRivers 15 = .ok (.invokevirtual 179, 3) := by decide +kernel
theorem dX4_fittingRivers_18 : decode cX4_fittingRivers 18 = .ok (.iconst (-1), 1) := by decide +kernel
theorem dX4_fittingRivers_19 : decode cX4_fittingRivers 19 = .ok (.if_icmp .ne 6, 3) := by decide +kernel
theorem dX4_fittingRivers_22 : decode cX4_fittingRivers 22 = .ok (.iinc 2 1, 3) := by decide +kernel
theorem dX4_fittingRivers_25 : decode cX4_fittingRivers 25 = .ok (.iinc 3 1, 3) := by decide +kernel
theorem dX4_fittingRivers_28 : decode cX4_fittingRivers 28 = .ok (.goto (-24), 3) := by decide +kernel
theorem dX4_fittingRivers_31 : decode cX4_fittingRivers 31 = .ok (.iload_n 2, 1) := by decide +kernel
theorem dX4_fittingRivers_32 : decode cX4_fittingRivers 32 = .ok (.ireturn, 1) := by decide +kernel
theorem dX4_highestFittingRiver_0 : decode cX4_highestFittingRiver 0 = .ok (.bipush 99, 2) := by decide +kernel
theorem dX4_highestFittingRiver_2 : decode cX4_highestFittingRiver 2 = .ok (.istore_n 2, 1) := by decide +kernel
theorem dX4_highestFittingRiver_3 : decode cX4_highestFittingRiver 3 = .ok (.iload_n 2, 1) := by decide +kernel
theorem dX4_highestFittingRiver_4 : decode cX4_highestFittingRiver 4 = .ok (.ifCond .lt 23, 3) := by decide +kernel
theorem dX4_highestFittingRiver_7 : decode cX4_highestFittingRiver 7 = .ok (.aload_n 0, 1) := by decide +kernel
theorem dX4_highestFittingRiver_8 : decode cX4_highestFittingRiver 8 = .ok (.iload_n 1, 1) := by decide +kernel
theorem dX4_highestFittingRiver_9 : decode cX4_highestFittingRiver 9 = .ok (.iconst 0, 1) := by decide +kernel
theorem dX4_highestFittingRiver_10 : decode cX4_highestFittingRiver 10 = .ok (.iconst 0, 1) := by decide +kernel
theorem dX4_highestFittingRiver_11 : decode cX4_highestFittingRiver 11 = .ok (.iload_n 2, 1) := by decide +kernel
theorem dX4_highestFittingRiver_12 : decode cX4_highestFittingRiver 12 = .ok (.invokevirtual 179, 3) := by decide +kernel
theorem dX4_highestFittingRiver_15 : decode cX4_highestFittingRiver 15 = .ok (.iconst (-1), 1) := by decide +kernel
theorem dX4_highestFittingRiver_16 : decode cX4_highestFittingRiver 16 = .ok (.if_icmp .ne 5, 3) := by decide +kernel
theorem dX4_highestFittingRiver_19 : decode cX4_highestFittingRiver 19 = .ok (.iload_n 2, 1) := by decide +kernel
theorem dX4_highestFittingRiver_20 : decode cX4_highestFittingRiver 20 = .ok (.ireturn, 1) := by decide +kernel
theorem dX4_highestFittingRiver_21 : decode cX4_highestFittingRiver 21 = .ok (.iinc 2 (-1), 3) := by decide +kernel
theorem dX4_highestFittingRiver_24 : decode cX4_highestFittingRiver 24 = .ok (.goto (-21), 3) := by decide +kernel
theorem dX4_highestFittingRiver_27 : decode cX4_highestFittingRiver 27 = .ok (.iconst (-1), 1) := by decide +kernel
theorem dX4_highestFittingRiver_28 : decode cX4_highestFittingRiver 28 = .ok (.ireturn, 1) := by decide +kernel
theorem dX4_commonDivisor_0 : decode cX4_commonDivisor 0 = .ok (.iload_n 0, 1) := by decide +kernel
theorem dX4_commonDivisor_1 : decode cX4_commonDivisor 1 = .ok (.istore_n 2, 1) := by decide +kernel
theorem dX4_commonDivisor_2 : decode cX4_commonDivisor 2 = .ok (.iload_n 1, 1) := by decide +kernel
theorem dX4_commonDivisor_3 : decode cX4_commonDivisor 3 = .ok (.istore_n 3, 1) := by decide +kernel
theorem dX4_commonDivisor_4 : decode cX4_commonDivisor 4 = .ok (.iconst 0, 1) := by decide +kernel
theorem dX4_commonDivisor_5 : decode cX4_commonDivisor 5 = .ok (.istore 4, 2) := by decide +kernel
theorem dX4_commonDivisor_7 : decode cX4_commonDivisor 7 = .ok (.iload 4, 2) := by decide +kernel
theorem dX4_commonDivisor_9 : decode cX4_commonDivisor 9 = .ok (.bipush 64, 2) := by decide +kernel
theorem dX4_commonDivisor_11 : decode cX4_commonDivisor 11 = .ok (.if_icmp .ge 23, 3) := by decide +kernel
theorem dX4_commonDivisor_14 : decode cX4_commonDivisor 14 = .ok (.iload_n 3, 1) := by decide +kernel
theorem dX4_commonDivisor_15 : decode cX4_commonDivisor 15 = .ok (.ifCond .eq 19, 3) := by decide +kernel
theorem dX4_commonDivisor_18 : decode cX4_commonDivisor 18 = .ok (.iload_n 2, 1) := by decide +kernel
theorem dX4_commonDivisor_19 : decode cX4_commonDivisor 19 = .ok (.iload_n 3, 1) := by decide +kernel
theorem dX4_commonDivisor_20 : decode cX4_commonDivisor 20 = .ok (.irem, 1) := by decide +kernel
theorem dX4_commonDivisor_21 : decode cX4_commonDivisor 21 = .ok (.istore 5, 2) := by decide +kernel
theorem dX4_commonDivisor_23 : decode cX4_commonDivisor 23 = .ok (.iload_n 3, 1) := by decide +kernel
theorem dX4_commonDivisor_24 : decode cX4_commonDivisor 24 = .ok (.istore_n 2, 1) := by decide +kernel
theorem dX4_commonDivisor_25 : decode cX4_commonDivisor 25 = .ok (.iload 5, 2) := by decide +kernel
theorem dX4_commonDivisor_27 : decode cX4_commonDivisor 27 = .ok (.istore_n 3, 1) := by decide +kernel
theorem dX4_commonDivisor_28 : decode cX4_commonDivisor 28 = .ok (.iinc 4 1, 3) := by decide +kernel
theorem dX4_commonDivisor_31 : decode cX4_commonDivisor 31 = .ok (.goto (-24), 3) := by decide +kernel
theorem dX4_commonDivisor_34 : decode cX4_commonDivisor 34 = .ok (.iload_n 2, 1) := by decide +kernel
theorem dX4_commonDivisor_35 : decode cX4_commonDivisor 35 = .ok (.iconst 1, 1) := by decide +kernel
theorem dX4_commonDivisor_36 : decode cX4_commonDivisor 36 = .ok (.if_icmp .ge 7, 3) := by decide +kernel
theorem dX4_commonDivisor_39 : decode cX4_commonDivisor 39 = .ok (.iconst 1, 1) := by decide +kernel
theorem dX4_commonDivisor_40 : decode cX4_commonDivisor 40 = .ok (.goto 4, 3) := by decide +kernel
theorem dX4_commonDivisor_43 : decode cX4_commonDivisor 43 = .ok (.iload_n 2, 1) := by decide +kernel
theorem dX4_commonDivisor_44 : decode cX4_commonDivisor 44 = .ok (.ireturn, 1) := by decide +kernel
theorem dX4_comes_0 : decode cX4_comes 0 = .ok (.aload_n 0, 1) := by decide +kernel
theorem dX4_comes_1 : decode cX4_comes 1 = .ok (.getfield 45, 3) := by decide +kernel
theorem dX4_comes_4 : decode cX4_comes 4 = .ok (.iload_n 1, 1) := by decide +kernel
theorem dX4_comes_5 : decode cX4_comes 5 = .ok (.iload_n 2, 1) := by decide +kernel
theorem dX4_comes_6 : decode cX4_comes 6 = .ok (.invokevirtual 249, 3) := by decide +kernel
theorem dX4_comes_9 : decode cX4_comes 9 = .ok (.istore_n 3, 1) := by decide +kernel
theorem dX4_comes_10 : decode cX4_comes 10 = .ok (.aload_n 0, 1) := by decide +kernel
theorem dX4_comes_11 : decode cX4_comes 11 = .ok (.getfield 45, 3) := by decide +kernel
theorem dX4_comes_14 : decode cX4_comes 14 = .ok (.iload_n 1, 1) := by decide +kernel
theorem dX4_comes_15 : decode cX4_comes 15 = .ok (.iload_n 2, 1) := by decide +kernel
theorem dX4_comes_16 : decode cX4_comes 16 = .ok (.iconst 1, 1) := by decide +kernel
theorem dX4_comes_17 : decode cX4_comes 17 = .ok (.iadd, 1) := by decide +kernel
theorem dX4_comes_18 : decode cX4_comes 18 = .ok (.invokevirtual 249, 3) := by decide +kernel
theorem dX4_comes_21 : decode cX4_comes 21 = .ok (.istore 4, 2) := by decide +kernel
theorem dX4_comes_23 : decode cX4_comes 23 = .ok (.aload_n 0, 1) := by decide +kernel
theorem dX4_comes_24 : decode cX4_comes 24 = .ok (.getfield 45, 3) := by decide +kernel
theorem dX4_comes_27 : decode cX4_comes 27 = .ok (.iload_n 1, 1) := by decide +kernel
theorem dX4_comes_28 : decode cX4_comes 28 = .ok (.iload_n 2, 1) := by decide +kernel
theorem dX4_comes_29 : decode cX4_comes 29 = .ok (.iconst 2, 1) := by decide +kernel
theorem dX4_comes_30 : decode cX4_comes 30 = .ok (.iadd, 1) := by decide +kernel
theorem dX4_comes_31 : decode cX4_comes 31 = .ok (.invokevirtual 249, 3) := by decide +kernel
theorem dX4_comes_34 : decode cX4_comes 34 = .ok (.istore 5, 2) := by decide +kernel
theorem dX4_comes_36 : decode cX4_comes 36 = .ok (.iload_n 3, 1) := by decide +kernel
theorem dX4_comes_37 : decode cX4_comes 37 = .ok (.iload 4, 2) := by decide +kernel
theorem dX4_comes_39 : decode cX4_comes 39 = .ok (.iload 5, 2) := by decide +kernel
theorem dX4_comes_41 : decode cX4_comes 41 = .ok (.invokestatic 69, 3) := by decide +kernel
theorem dX4_comes_44 : decode cX4_comes 44 = .ok (.ifCond .eq 15, 3) := by decide +kernel
theorem dX4_comes_47 : decode cX4_comes 47 = .ok (.aload_n 0, 1) := by decide +kernel
theorem dX4_comes_48 : decode cX4_comes 48 = .ok (.getfield 10, 3) := by decide +kernel
theorem dX4_comes_51 : decode cX4_comes 51 = .ok (.getfield 73, 3) := by decide +kernel
theorem dX4_comes_54 : decode cX4_comes 54 = .ok (.bipush 6, 2) := by decide +kernel
theorem dX4_comes_56 : decode cX4_comes 56 = .ok (.if_icmp .lt 5, 3) := by decide +kernel
theorem dX4_comes_59 : decode cX4_comes 59 = .ok (.iconst 0, 1) := by decide +kernel
theorem dX4_comes_60 : decode cX4_comes 60 = .ok (.ireturn, 1) := by decide +kernel
theorem dX4_comes_61 : decode cX4_comes 61 = .ok (.aload_n 0, 1) := by decide +kernel
theorem dX4_comes_62 : decode cX4_comes 62 = .ok (.getfield 10, 3) := by decide +kernel
theorem dX4_comes_65 : decode cX4_comes 65 = .ok (.iload_n 3, 1) := by decide +kernel
theorem dX4_comes_66 : decode cX4_comes 66 = .ok (.iload 4, 2) := by decide +kernel
theorem dX4_comes_68 : decode cX4_comes 68 = .ok (.iload 5, 2) := by decide +kernel
theorem dX4_comes_70 : decode cX4_comes 70 = .ok (.invokevirtual 76, 3) := by decide +kernel
theorem dX4_comes_73 : decode cX4_comes 73 = .ok (.iconst 1, 1) := by decide +kernel
theorem dX4_comes_74 : decode cX4_comes 74 = .ok (.ireturn, 1) := by decide +kernel
theorem dX5_in_0 : decode cX5_in 0 = .ok (.lload_n 0, 1) := by decide +kernel
theorem dX5_in_1 : decode cX5_in 1 = .ok (.lload_n 2, 1) := by decide +kernel
theorem dX5_in_2 : decode cX5_in 2 = .ok (.lcmp, 1) := by decide +kernel
theorem dX5_in_3 : decode cX5_in 3 = .ok (.ifCond .lt 14, 3) := by decide +kernel
theorem dX5_in_6 : decode cX5_in 6 = .ok (.lload_n 0, 1) := by decide +kernel
theorem dX5_in_7 : decode cX5_in 7 = .ok (.lload 4, 2) := by decide +kernel
theorem dX5_in_9 : decode cX5_in 9 = .ok (.lcmp, 1) := by decide +kernel
theorem dX5_in_10 : decode cX5_in 10 = .ok (.ifCond .gt 7, 3) := by decide +kernel
theorem dX5_in_13 : decode cX5_in 13 = .ok (.iconst 1, 1) := by decide +kernel
theorem dX5_in_14 : decode cX5_in 14 = .ok (.goto 4, 3) := by decide +kernel
theorem dX5_in_17 : decode cX5_in 17 = .ok (.iconst 0, 1) := by decide +kernel
theorem dX5_in_18 : decode cX5_in 18 = .ok (.ireturn, 1) := by decide +kernel
theorem dX5_within_0 : decode cX5_within 0 = .ok (.iload_n 0, 1) := by decide +kernel
theorem dX5_within_1 : decode cX5_within 1 = .ok (.iload_n 1, 1) := by decide +kernel
theorem dX5_within_2 : decode cX5_within 2 = .ok (.if_icmp .ge 7, 3) := by decide +kernel
theorem dX5_within_5 : decode cX5_within 5 = .ok (.iload_n 1, 1) := by decide +kernel
theorem dX5_within_6 : decode cX5_within 6 = .ok (.goto 13, 3) := by decide +kernel
theorem dX5_within_9 : decode cX5_within 9 = .ok (.iload_n 0, 1) := by decide +kernel
theorem dX5_within_10 : decode cX5_within 10 = .ok (.iload_n 2, 1) := by decide +kernel
theorem dX5_within_11 : decode cX5_within 11 = .ok (.if_icmp .le 7, 3) := by decide +kernel
theorem dX5_within_14 : decode cX5_within 14 = .ok (.iload_n 2, 1) := by decide +kernel
theorem dX5_within_15 : decode cX5_within 15 = .ok (.goto 4, 3) := by decide +kernel
theorem dX5_within_18 : decode cX5_within 18 = .ok (.iload_n 0, 1) := by decide +kernel
theorem dX5_within_19 : decode cX5_within 19 = .ok (.ireturn, 1) := by decide +kernel
theorem dX5_init_0 : decode cX5_init 0 = .ok (.aload_n 0, 1) := by decide +kernel
theorem dX5_init_1 : decode cX5_init 1 = .ok (.invokespecial 7, 3) := by decide +kernel
theorem dX5_init_4 : decode cX5_init 4 = .ok (.aload_n 0, 1) := by decide +kernel
theorem dX5_init_5 : decode cX5_init 5 = .ok (.sipush 960, 3) := by decide +kernel
theorem dX5_init_8 : decode cX5_init 8 = .ok (.newarray .int, 2) := by decide +kernel
theorem dX5_init_10 : decode cX5_init 10 = .ok (.putfield 13, 3) := by decide +kernel
theorem dX5_init_13 : decode cX5_init 13 = .ok (.aload_n 0, 1) := by decide +kernel
theorem dX5_init_14 : decode cX5_init 14 = .ok (.bipush 6, 2) := by decide +kernel
theorem dX5_init_16 : decode cX5_init 16 = .ok (.newarray .int, 2) := by decide +kernel
theorem dX5_init_18 : decode cX5_init 18 = .ok (.putfield 17, 3) := by decide +kernel
theorem dX5_init_21 : decode cX5_init 21 = .ok (.aload_n 0, 1) := by decide +kernel
theorem dX5_init_22 : decode cX5_init 22 = .ok (.sipush 160, 3) := by decide +kernel
theorem dX5_init_25 : decode cX5_init 25 = .ok (.newarray .int, 2) := by decide +kernel
theorem dX5_init_27 : decode cX5_init 27 = .ok (.putfield 20, 3) := by decide +kernel
theorem dX5_init_30 : decode cX5_init 30 = .ok (.aload_n 0, 1) := by decide +kernel
theorem dX5_init_31 : decode cX5_init 31 = .ok (.bipush 35, 2) := by decide +kernel
theorem dX5_init_33 : decode cX5_init 33 = .ok (.putfield 23, 3) := by decide +kernel
theorem dX5_init_36 : decode cX5_init 36 = .ok (.aload_n 0, 1) := by decide +kernel
theorem dX5_init_37 : decode cX5_init 37 = .ok (.bipush 36, 2) := by decide +kernel
theorem dX5_init_39 : decode cX5_init 39 = .ok (.newarray .int, 2) := by decide +kernel
theorem dX5_init_41 : decode cX5_init 41 = .ok (.putfield 26, 3) := by decide +kernel
theorem dX5_init_44 : decode cX5_init 44 = .ok (.aload_n 0, 1) := by decide +kernel
theorem dX5_init_45 : decode cX5_init 45 = .ok (.bipush 6, 2) := by decide +kernel
theorem dX5_init_47 : decode cX5_init 47 = .ok (.newarray .int, 2) := by decide +kernel
theorem dX5_init_49 : decode cX5_init 49 = .ok (.putfield 29, 3) := by decide +kernel
theorem dX5_init_52 : decode cX5_init 52 = .ok (.aload_n 0, 1) := by decide +kernel
theorem dX5_init_53 : decode cX5_init 53 = .ok (.bipush 18, 2) := by decide +kernel
theorem dX5_init_55 : decode cX5_init 55 = .ok (.newarray .int, 2) := by decide +kernel
theorem dX5_init_57 : decode cX5_init 57 = .ok (.putfield 32, 3) := by decide +kernel
theorem dX5_init_60 : decode cX5_init 60 = .ok (.aload_n 0, 1) := by decide +kernel
theorem dX5_init_61 : decode cX5_init 61 = .ok (.bipush 36, 2) := by decide +kernel
theorem dX5_init_63 : decode cX5_init 63 = .ok (.newarray .int, 2) := by decide +kernel
theorem dX5_init_65 : decode cX5_init 65 = .ok (.putfield 35, 3) := by decide +kernel
theorem dX5_init_68 : decode cX5_init 68 = .ok (.aload_n 0, 1) := by decide +kernel
theorem dX5_init_69 : decode cX5_init 69 = .ok (.bipush 36, 2) := by decide +kernel
theorem dX5_init_71 : decode cX5_init 71 = .ok (.newarray .int, 2) := by decide +kernel
theorem dX5_init_73 : decode cX5_init 73 = .ok (.putfield 38, 3) := by decide +kernel
theorem dX5_init_76 : decode cX5_init 76 = .ok (.aload_n 0, 1) := by decide +kernel
theorem dX5_init_77 : decode cX5_init 77 = .ok (.bipush 31, 2) := by decide +kernel
theorem dX5_init_79 : decode cX5_init 79 = .ok (.newarray .int, 2) := by decide +kernel
theorem dX5_init_81 : decode cX5_init 81 = .ok (.putfield 41, 3) := by decide +kernel
theorem dX5_init_84 : decode cX5_init 84 = .ok (.aload_n 0, 1) := by decide +kernel
theorem dX5_init_85 : decode cX5_init 85 = .ok (.bipush 36, 2) := by decide +kernel
theorem dX5_init_87 : decode cX5_init 87 = .ok (.newarray .int, 2) := by decide +kernel
theorem dX5_init_89 : decode cX5_init 89 = .ok (.putfield 44, 3) := by decide +kernel
theorem dX5_init_92 : decode cX5_init 92 = .ok (.aload_n 0, 1) := by decide +kernel
theorem dX5_init_93 : decode cX5_init 93 = .ok (.bipush 18, 2) := by decide +kernel
theorem dX5_init_95 : decode cX5_init 95 = .ok (.newarray .int, 2) := by decide +kernel
theorem dX5_init_97 : decode cX5_init 97 = .ok (.putfield 47, 3) := by decide +kernel
theorem dX5_init_100 : decode cX5_init 100 = .ok (.aload_n 0, 1) := by decide +kernel
theorem dX5_init_101 : decode cX5_init 101 = .ok (.iconst (-1), 1) := by decide +kernel
theorem dX5_init_102 : decode cX5_init 102 = .ok (.putfield 50, 3) := by decide +kernel
theorem dX5_init_105 : decode cX5_init 105 = .ok (.aload_n 0, 1) := by decide +kernel
theorem dX5_init_106 : decode cX5_init 106 = .ok (.iconst 4, 1) := by decide +kernel
theorem dX5_init_107 : decode cX5_init 107 = .ok (.newarray .boolean, 2) := by decide +kernel
theorem dX5_init_109 : decode cX5_init 109 = .ok (.putfield 53, 3) := by decide +kernel
theorem dX5_init_112 : decode cX5_init 112 = .ok (.aload_n 0, 1) := by decide +kernel
theorem dX5_init_113 : decode cX5_init 113 = .ok (.iconst 4, 1) := by decide +kernel
theorem dX5_init_114 : decode cX5_init 114 = .ok (.newarray .int, 2) := by decide +kernel
theorem dX5_init_116 : decode cX5_init 116 = .ok (.putfield 57, 3) := by decide +kernel
theorem dX5_init_119 : decode cX5_init 119 = .ok (.aload_n 0, 1) := by decide +kernel
theorem dX5_init_120 : decode cX5_init 120 = .ok (.iconst 4, 1) := by decide +kernel
theorem dX5_init_121 : decode cX5_init 121 = .ok (.newarray .int, 2) := by decide +kernel
theorem dX5_init_123 : decode cX5_init 123 = .ok (.putfield 60, 3) := by decide +kernel
theorem dX5_init_126 : decode cX5_init 126 = .ok (.aload_n 0, 1) := by decide +kernel
theorem dX5_init_127 : decode cX5_init 127 = .ok (.sipush 160, 3) := by decide +kernel
theorem dX5_init_130 : decode cX5_init 130 = .ok (.newarray .int, 2) := by decide +kernel
theorem dX5_init_132 : decode cX5_init 132 = .ok (.putfield 63, 3) := by decide +kernel
theorem dX5_init_135 : decode cX5_init 135 = .ok (.iconst 0, 1) := by decide +kernel
theorem dX5_init_136 : decode cX5_init 136 = .ok (.istore_n 1, 1) := by decide +kernel
theorem dX5_init_137 : decode cX5_init 137 = .ok (.iload_n 1, 1) := by decide +kernel
theorem dX5_init_138 : decode cX5_init 138 = .ok (.bipush 12, 2) := by decide +kernel
theorem dX5_init_140 : decode cX5_init 140 = .ok (.if_icmp .ge 42, 3) := by decide +kernel
theorem dX5_init_143 : decode cX5_init 143 = .ok (.aload_n 0, 1) := by decide +kernel
theorem dX5_init_144 : decode cX5_init 144 = .ok (.getfield 26, 3) := by decide +kernel
theorem dX5_init_147 : decode cX5_init 147 = .ok (.iconst 3, 1) := by decide +kernel
theorem dX5_init_148 : decode cX5_init 148 = .ok (.iload_n 1, 1) := by decide +kernel
theorem dX5_init_149 : decode cX5_init 149 = .ok (.imul, 1) := by decide +kernel
theorem dX5_init_150 : decode cX5_init 150 = .ok (.bipush 40, 2) := by decide +kernel
theorem dX5_init_152 : decode cX5_init 152 = .ok (.iastore, 1) := by decide +kernel
theorem dX5_init_153 : decode cX5_init 153 = .ok (.aload_n 0, 1) := by decide +kernel
theorem dX5_init_154 : decode cX5_init 154 = .ok (.getfield 26, 3) := by decide +kernel
theorem dX5_init_157 : decode cX5_init 157 = .ok (.iconst 3, 1) := by decide +kernel
theorem dX5_init_158 : decode cX5_init 158 = .ok (.iload_n 1, 1) := by decide +kernel
theorem dX5_init_159 : decode cX5_init 159 = .ok (.imul, 1) := by decide +kernel
theorem dX5_init_160 : decode cX5_init 160 = .ok (.iconst 1, 1) := by decide +kernel
theorem dX5_init_161 : decode cX5_init 161 = .ok (.iadd, 1) := by decide +kernel
theorem dX5_init_162 : decode cX5_init 162 = .ok (.bipush 20, 2) := by decide +kernel
theorem dX5_init_164 : decode cX5_init 164 = .ok (.iastore, 1) := by decide +kernel
theorem dX5_init_165 : decode cX5_init 165 = .ok (.aload_n 0, 1) := by decide +kernel
theorem dX5_init_166 : decode cX5_init 166 = .ok (.getfield 26, 3) := by decide +kernel
theorem dX5_init_169 : decode cX5_init 169 = .ok (.iconst 3, 1) := by decide +kernel
theorem dX5_init_170 : decode cX5_init 170 = .ok (.iload_n 1, 1) := by decide +kernel
theorem dX5_init_171 : decode cX5_init 171 = .ok (.imul, 1) := by decide +kernel
theorem dX5_init_172 : decode cX5_init 172 = .ok (.iconst 2, 1) := by decide +kernel
theorem dX5_init_173 : decode cX5_init 173 = .ok (.iadd, 1) := by decide +kernel
theorem dX5_init_174 : decode cX5_init 174 = .ok (.iconst 5, 1) := by decide +kernel
theorem dX5_init_175 : decode cX5_init 175 = .ok (.iastore, 1) := by decide +kernel
theorem dX5_init_176 : decode cX5_init 176 = .ok (.iinc 1 1, 3) := by decide +kernel
theorem dX5_init_179 : decode cX5_init 179 = .ok (.goto (-42), 3) := by decide +kernel
theorem dX5_init_182 : decode cX5_init 182 = .ok (.aload_n 0, 1) := by decide +kernel
theorem dX5_init_183 : decode cX5_init 183 = .ok (.iconst 0, 1) := by decide +kernel
theorem dX5_init_184 : decode cX5_init 184 = .ok (.bipush 114, 2) := by decide +kernel
theorem dX5_init_186 : decode cX5_init 186 = .ok (.bipush 97, 2) := by decide +kernel
theorem dX5_init_188 : decode cX5_init 188 = .ok (.bipush 105, 2) := by decide +kernel
theorem dX5_init_190 : decode cX5_init 190 = .ok (.bipush 110, 2) := by decide +kernel
theorem dX5_init_192 : decode cX5_init 192 = .ok (.bipush 115, 2) := by decide +kernel
theorem dX5_init_194 : decode cX5_init 194 = .ok (.bipush 32, 2) := by decide +kernel
theorem dX5_init_196 : decode cX5_init 196 = .ok (.bipush 54, 2) := by decide +kernel
theorem dX5_init_198 : decode cX5_init 198 = .ok (.bipush 32, 2) := by decide +kernel
theorem dX5_init_200 : decode cX5_init 200 = .ok (.invokevirtual 66, 3) := by decide +kernel
theorem dX5_init_203 : decode cX5_init 203 = .ok (.aload_n 0, 1) := by decide +kernel
theorem dX5_init_204 : decode cX5_init 204 = .ok (.bipush 8, 2) := by decide +kernel
theorem dX5_init_206 : decode cX5_init 206 = .ok (.bipush 59, 2) := by decide +kernel
theorem dX5_init_208 : decode cX5_init 208 = .ok (.bipush 32, 2) := by decide +kernel
theorem dX5_init_210 : decode cX5_init 210 = .ok (.bipush 115, 2) := by decide +kernel
theorem dX5_init_212 : decode cX5_init 212 = .ok (.bipush 104, 2) := by decide +kernel
theorem dX5_init_214 : decode cX5_init 214 = .ok (.bipush 114, 2) := by decide +kernel
theorem dX5_init_216 : decode cX5_init 216 = .ok (.bipush 105, 2) := by decide +kernel
theorem dX5_init_218 : decode cX5_init 218 = .ok (.bipush 110, 2) := by decide +kernel
theorem dX5_init_220 : decode cX5_init 220 = .ok (.bipush 107, 2) := by decide +kernel
theorem dX5_init_222 : decode cX5_init 222 = .ok (.invokevirtual 66, 3) := by decide +kernel
theorem dX5_init_225 : decode cX5_init 225 = .ok (.aload_n 0, 1) := by decide +kernel
theorem dX5_init_226 : decode cX5_init 226 = .ok (.bipush 16, 2) := by decide +kernel
theorem dX5_init_228 : decode cX5_init 228 = .ok (.bipush 115, 2) := by decide +kernel
theorem dX5_init_230 : decode cX5_init 230 = .ok (.bipush 32, 2) := by decide +kernel
theorem dX5_init_232 : decode cX5_init 232 = .ok (.bipush 50, 2) := by decide +kernel
theorem dX5_init_234 : decode cX5_init 234 = .ok (.bipush 32, 2) := by decide +kernel
theorem dX5_init_236 : decode cX5_init 236 = .ok (.bipush 59, 2) := by decide +kernel
theorem dX5_init_238 : decode cX5_init 238 = .ok (.bipush 32, 2) := by decide +kernel
theorem dX5_init_240 : decode cX5_init 240 = .ok (.bipush 99, 2) := by decide +kernel
theorem dX5_init_242 : decode cX5_init 242 = .ok (.bipush 97, 2) := by decide +kernel
theorem dX5_init_244 : decode cX5_init 244 = .ok (.invokevirtual 66, 3) := by decide +kernel
theorem dX5_init_247 : decode cX5_init 247 = .ok (.aload_n 0, 1) := by decide +kernel
theorem dX5_init_248 : decode cX5_init 248 = .ok (.bipush 24, 2) := by decide +kernel
theorem dX5_init_250 : decode cX5_init 250 = .ok (.bipush 108, 2) := by decide +kernel
theorem dX5_init_252 : decode cX5_init 252 = .ok (.bipush 108, 2) := by decide +kernel
theorem dX5_init_254 : decode cX5_init 254 = .ok (.bipush 115, 2) := by decide +kernel
theorem dX5_init_256 : decode cX5_init 256 = .ok (.bipush 32, 2) := by decide +kernel
theorem dX5_init_258 : decode cX5_init 258 = .ok (.bipush 51, 2) := by decide +kernel
theorem dX5_init_260 : decode cX5_init 260 = .ok (.bipush 32, 2) := by decide +kernel
theorem dX5_init_262 : decode cX5_init 262 = .ok (.bipush 59, 2) := by decide +kernel
theorem dX5_init_264 : decode cX5_init 264 = .ok (.bipush 32, 2) := by decide +kernel
theorem dX5_init_266 : decode cX5_init 266 = .ok (.invokevirtual 66, 3) := by decide +kernel
theorem dX5_init_269 : decode cX5_init 269 = .ok (.aload_n 0, 1) := by decide +kernel
theorem dX5_init_270 : decode cX5_init 270 = .ok (.getfield 17, 3) := by decide +kernel
theorem dX5_init_273 : decode cX5_init 273 = .ok (.iconst 0, 1) := by decide +kernel
theorem dX5_init_274 : decode cX5_init 274 = .ok (.bipush 32, 2) := by decide +kernel
theorem dX5_init_276 : decode cX5_init 276 = .ok (.iastore, 1) := by decide +kernel
theorem dX5_init_277 : decode cX5_init 277 = .ok (.aload_n 0, 1) := by decide +kernel
theorem dX5_init_278 : decode cX5_init 278 = .ok (.iconst 1, 1) := by decide +kernel
theorem dX5_init_279 : decode cX5_init 279 = .ok (.putfield 70, 3) := by decide +kernel
theorem dX5_init_282 : decode cX5_init 282 = .ok (.return_, 1) := by decide +kernel
theorem dX5_spell_0 : decode cX5_spell 0 = .ok (.aload_n 0, 1) := by decide +kernel
theorem dX5_spell_1 : decode cX5_spell 1 = .ok (.getfield 13, 3) := by decide +kernel
theorem dX5_spell_4 : decode cX5_spell 4 = .ok (.iload_n 1, 1) := by decide +kernel
theorem dX5_spell_5 : decode cX5_spell 5 = .ok (.iload_n 2, 1) := by decide +kernel
theorem dX5_spell_6 : decode cX5_spell 6 = .ok (.iastore, 1) := by decide +kernel
theorem dX5_spell_7 : decode cX5_spell 7 = .ok (.aload_n 0, 1) := by decide +kernel
theorem dX5_spell_8 : decode cX5_spell 8 = .ok (.getfield 13, 3) := by decide +kernel
theorem dX5_spell_11 : decode cX5_spell 11 = .ok (.iload_n 1, 1) := by decide +kernel
theorem dX5_spell_12 : decode cX5_spell 12 = .ok (.iconst 1, 1) := by decide +kernel
theorem dX5_spell_13 : decode cX5_spell 13 = .ok (.iadd, 1) := by decide +kernel
theorem dX5_spell_14 : decode cX5_spell 14 = .ok (.iload_n 3, 1) := by decide +kernel
theorem dX5_spell_15 : decode cX5_spell 15 = .ok (.iastore, 1) := by decide +kernel
theorem dX5_spell_16 : decode cX5_spell 16 = .ok (.aload_n 0, 1) := by decide +kernel
theorem dX5_spell_17 : decode cX5_spell 17 = .ok (.getfield 13, 3) := by decide +kernel
theorem dX5_spell_20 : decode cX5_spell 20 = .ok (.iload_n 1, 1) := by decide +kernel
theorem dX5_spell_21 : decode cX5_spell 21 = .ok (.iconst 2, 1) := by decide +kernel
theorem dX5_spell_22 : decode cX5_spell 22 = .ok (.iadd, 1) := by decide +kernel
theorem dX5_spell_23 : decode cX5_spell 23 = .ok (.iload 4, 2) := by decide +kernel
theorem dX5_spell_25 : decode cX5_spell 25 = .ok (.iastore, 1) := by decide +kernel
theorem dX5_spell_26 : decode cX5_spell 26 = .ok (.aload_n 0, 1) := by decide +kernel
theorem dX5_spell_27 : decode cX5_spell 27 = .ok (.getfield 13, 3) := by decide +kernel
theorem dX5_spell_30 : decode cX5_spell 30 = .ok (.iload_n 1, 1) := by decide +kernel
theorem dX5_spell_31 : decode cX5_spell 31 = .ok (.iconst 3, 1) := by decide +kernel
theorem dX5_spell_32 : decode cX5_spell 32 = .ok (.iadd, 1) := by decide +kernel
theorem dX5_spell_33 : decode cX5_spell 33 = .ok (.iload 5, 2) := by decide +kernel
theorem dX5_spell_35 : decode cX5_spell 35 = .ok (.iastore, 1) := by decide +kernel
theorem dX5_spell_36 : decode cX5_spell 36 = .ok (.aload_n 0, 1) := by decide +kernel
theorem dX5_spell_37 : decode cX5_spell 37 = .ok (.getfield 13, 3) := by decide +kernel
theorem dX5_spell_40 : decode cX5_spell 40 = .ok (.iload_n 1, 1) := by decide +kernel
theorem dX5_spell_41 : decode cX5_spell 41 = .ok (.iconst 4, 1) := by decide +kernel
theorem dX5_spell_42 : decode cX5_spell 42 = .ok (.iadd, 1) := by decide +kernel
theorem dX5_spell_43 : decode cX5_spell 43 = .ok (.iload 6, 2) := by decide +kernel
theorem dX5_spell_45 : decode cX5_spell 45 = .ok (.iastore, 1) := by decide +kernel
theorem dX5_spell_46 : decode cX5_spell 46 = .ok (.aload_n 0, 1) := by decide +kernel
theorem dX5_spell_47 : decode cX5_spell 47 = .ok (.getfield 13, 3) := by decide +kernel
theorem dX5_spell_50 : decode cX5_spell 50 = .ok (.iload_n 1, 1) := by decide +kernel
theorem dX5_spell_51 : decode cX5_spell 51 = .ok (.iconst 5, 1) := by decide +kernel
theorem dX5_spell_52 : decode cX5_spell 52 = .ok (.iadd, 1) := by decide +kernel
theorem dX5_spell_53 : decode cX5_spell 53 = .ok (.iload 7, 2) := by decide +kernel
theorem dX5_spell_55 : decode cX5_spell 55 = .ok (.iastore, 1) := by decide +kernel
theorem dX5_spell_56 : decode cX5_spell 56 = .ok (.aload_n 0, 1) := by decide +kernel
theorem dX5_spell_57 : decode cX5_spell 57 = .ok (.getfield 13, 3) := by decide +kernel
theorem dX5_spell_60 : decode cX5_spell 60 = .ok (.iload_n 1, 1) := by decide +kernel
theorem dX5_spell_61 : decode cX5_spell 61 = .ok (.bipush 6, 2) := by decide +kernel
theorem dX5_spell_63 : decode cX5_spell 63 = .ok (.iadd, 1) := by decide +kernel
theorem dX5_spell_64 : decode cX5_spell 64 = .ok (.iload 8, 2) := by decide +kernel
theorem dX5_spell_66 : decode cX5_spell 66 = .ok (.iastore, 1) := by decide +kernel
theorem dX5_spell_67 : decode cX5_spell 67 = .ok (.aload_n 0, 1) := by decide +kernel
theorem dX5_spell_68 : decode cX5_spell 68 = .ok (.getfield 13, 3) := by decide +kernel
theorem dX5_spell_71 : decode cX5_spell 71 = .ok (.iload_n 1, 1) := by decide +kernel
theorem dX5_spell_72 : decode cX5_spell 72 = .ok (.bipush 7, 2) := by decide +kernel
theorem dX5_spell_74 : decode cX5_spell 74 = .ok (.iadd, 1) := by decide +kernel
theorem dX5_spell_75 : decode cX5_spell 75 = .ok (.iload 9, 2) := by decide +kernel
theorem dX5_spell_77 : decode cX5_spell 77 = .ok (.iastore, 1) := by decide +kernel
theorem dX5_spell_78 : decode cX5_spell 78 = .ok (.return_, 1) := by decide +kernel
theorem dX5_isWork_0 : decode cX5_isWork 0 = .ok (.iload_n 1, 1) := by decide +kernel
theorem dX5_isWork_1 : decode cX5_isWork 1 = .ok (.i2l, 1) := by decide +kernel
theorem dX5_isWork_2 : decode cX5_isWork 2 = .ok (.lconst 0, 1) := by decide +kernel
theorem dX5_isWork_3 : decode cX5_isWork 3 = .ok (.aload_n 0, 1) := by decide +kernel
theorem dX5_isWork_4 : decode cX5_isWork 4 = .ok (.getfield 73, 3) := by decide +kernel
theorem dX5_isWork_7 : decode cX5_isWork 7 = .ok (.iconst 1, 1) := by decide +kernel
theorem dX5_isWork_8 : decode cX5_isWork 8 = .ok (.isub, 1) := by decide +kernel
theorem dX5_isWork_9 : decode cX5_isWork 9 = .ok (.i2l, 1) := by decide +kernel
theorem dX5_isWork_10 : decode cX5_isWork 10 = .ok (.invokestatic 76, 3) := by decide +kernel
theorem dX5_isWork_13 : decode cX5_isWork 13 = .ok (.ireturn, 1) := by decide +kernel
theorem dX5_isCell_0 : decode cX5_isCell 0 = .ok (.iload_n 0, 1) := by decide +kernel
theorem dX5_isCell_1 : decode cX5_isCell 1 = .ok (.i2l, 1) := by decide +kernel
theorem dX5_isCell_2 : decode cX5_isCell 2 = .ok (.lconst 0, 1) := by decide +kernel
theorem dX5_isCell_3 : decode cX5_isCell 3 = .ok (.ldc2_w 80, 3) := by decide +kernel
theorem dX5_isCell_6 : decode cX5_isCell 6 = .ok (.invokestatic 76, 3) := by decide +kernel
theorem dX5_isCell_9 : decode cX5_isCell 9 = .ok (.ireturn, 1) := by decide +kernel
theorem dX5_isOf_0 : decode cX5_isOf 0 = .ok (.iload_n 1, 1) := by decide +kernel
theorem dX5_isOf_1 : decode cX5_isOf 1 = .ok (.iconst 2, 1) := by decide +kernel
theorem dX5_isOf_2 : decode cX5_isOf 2 = .ok (.if_icmp .lt 26, 3) := by decide +kernel
theorem dX5_isOf_5 : decode cX5_isOf 5 = .ok (.iload_n 1, 1) := by decide +kernel
theorem dX5_isOf_6 : decode cX5_isOf 6 = .ok (.iconst 5, 1) := by decide +kernel
theorem dX5_isOf_7 : decode cX5_isOf 7 = .ok (.if_icmp .ge 13, 3) := by decide +kernel
theorem dX5_isOf_10 : decode cX5_isOf 10 = .ok (.iload_n 2, 1) := by decide +kernel
theorem dX5_isOf_11 : decode cX5_isOf 11 = .ok (.invokestatic 82, 3) := by decide +kernel
theorem dX5_isOf_14 : decode cX5_isOf 14 = .ok (.ifCond .eq 18, 3) := by decide +kernel
theorem dX5_isOf_17 : decode cX5_isOf 17 = .ok (.goto 11, 3) := by decide +kernel
theorem dX5_isOf_20 : decode cX5_isOf 20 = .ok (.aload_n 0, 1) := by decide +kernel
theorem dX5_isOf_21 : decode cX5_isOf 21 = .ok (.iload_n 2, 1) := by decide +kernel
theorem dX5_isOf_22 : decode cX5_isOf 22 = .ok (.invokevirtual 86, 3) := by decide +kernel
theorem dX5_isOf_25 : decode cX5_isOf 25 = .ok (.ifCond .eq 7, 3) := by decide +kernel
theorem dX5_isOf_28 : decode cX5_isOf 28 = .ok (.iconst 1, 1) := by decide +kernel
theorem dX5_isOf_29 : decode cX5_isOf 29 = .ok (.goto 4, 3) := by decide +kernel
theorem dX5_isOf_32 : decode cX5_isOf 32 = .ok (.iconst 0, 1) := by decide +kernel
theorem dX5_isOf_33 : decode cX5_isOf 33 = .ok (.ireturn, 1) := by decide +kernel
theorem dX5_mostOf_0 : decode cX5_mostOf 0 = .ok (.iload_n 0, 1) := by decide +kernel
theorem dX5_mostOf_1 : decode cX5_mostOf 1 = .ok (.iconst 5, 1) := by decide +kernel
theorem dX5_mostOf_2 : decode cX5_mostOf 2 = .ok (.if_icmp .ge 28, 3) := by decide +kernel
theorem dX5_mostOf_5 : decode cX5_mostOf 5 = .ok (.iload_n 0, 1) := by decide +kernel
theorem dX5_mostOf_6 : decode cX5_mostOf 6 = .ok (.iconst 1, 1) := by decide +kernel
theorem dX5_mostOf_7 : decode cX5_mostOf 7 = .ok (.if_icmp .ne 9, 3) := by decide +kernel
theorem dX5_mostOf_10 : decode cX5_mostOf 10 = .ok (.sipush 999, 3) := by decide +kernel
theorem dX5_mostOf_13 : decode cX5_mostOf 13 = .ok (.goto 16, 3) := by decide +kernel
theorem dX5_mostOf_16 : decode cX5_mostOf 16 = .ok (.iload_n 0, 1) := by decide +kernel
theorem dX5_mostOf_17 : decode cX5_mostOf 17 = .ok (.iconst 4, 1) := by decide +kernel
theorem dX5_mostOf_18 : decode cX5_mostOf 18 = .ok (.if_icmp .ne 9, 3) := by decide +kernel
theorem dX5_mostOf_21 : decode cX5_mostOf 21 = .ok (.sipush 999, 3) := by decide +kernel
theorem dX5_mostOf_24 : decode cX5_mostOf 24 = .ok (.goto 5, 3) := by decide +kernel
theorem dX5_mostOf_27 : decode cX5_mostOf 27 = .ok (.bipush 99, 2) := by decide +kernel
theorem dX5_mostOf_29 : decode cX5_mostOf 29 = .ok (.ireturn, 1) := by decide +kernel
theorem dX5_mostOf_30 : decode cX5_mostOf 30 = .ok (.iload_n 0, 1) := by decide +kernel
theorem dX5_mostOf_31 : decode cX5_mostOf 31 = .ok (.iconst 5, 1) := by decide +kernel
theorem dX5_mostOf_32 : decode cX5_mostOf 32 = .ok (.if_icmp .ne 8, 3) := by decide +kernel
theorem dX5_mostOf_35 : decode cX5_mostOf 35 = .ok (.bipush 9, 2) := by decide +kernel
theorem dX5_mostOf_37 : decode cX5_mostOf 37 = .ok (.goto 15, 3) := by decide +kernel
theorem dX5_mostOf_40 : decode cX5_mostOf 40 = .ok (.iload_n 0, 1) := by decide +kernel
theorem dX5_mostOf_41 : decode cX5_mostOf 41 = .ok (.bipush 6, 2) := by decide +kernel
theorem dX5_mostOf_43 : decode cX5_mostOf 43 = .ok (.if_icmp .ne 8, 3) := by decide +kernel
theorem dX5_mostOf_46 : decode cX5_mostOf 46 = .ok (.bipush 11, 2) := by decide +kernel
theorem dX5_mostOf_48 : decode cX5_mostOf 48 = .ok (.goto 4, 3) := by decide +kernel
theorem dX5_mostOf_51 : decode cX5_mostOf 51 = .ok (.iconst 1, 1) := by decide +kernel
theorem dX5_mostOf_52 : decode cX5_mostOf 52 = .ok (.ireturn, 1) := by decide +kernel
theorem dX5_set_0 : decode cX5_set 0 = .ok (.iload_n 1, 1) := by decide +kernel
theorem dX5_set_1 : decode cX5_set 1 = .ok (.i2l, 1) := by decide +kernel
theorem dX5_set_2 : decode cX5_set 2 = .ok (.lconst 0, 1) := by decide +kernel
theorem dX5_set_3 : decode cX5_set 3 = .ok (.ldc2_w 89, 3) := by decide +kernel
theorem dX5_set_6 : decode cX5_set 6 = .ok (.invokestatic 76, 3) := by decide +kernel
theorem dX5_set_9 : decode cX5_set 9 = .ok (.ifCond .eq 26, 3) := by decide +kernel
theorem dX5_set_12 : decode cX5_set 12 = .ok (.aload_n 0, 1) := by decide +kernel
theorem dX5_set_13 : decode cX5_set 13 = .ok (.iload_n 1, 1) := by decide +kernel
theorem dX5_set_14 : decode cX5_set 14 = .ok (.iload_n 2, 1) := by decide +kernel
theorem dX5_set_15 : decode cX5_set 15 = .ok (.invokevirtual 91, 3) := by decide +kernel
theorem dX5_set_18 : decode cX5_set 18 = .ok (.ifCond .eq 17, 3) := by decide +kernel
theorem dX5_set_21 : decode cX5_set 21 = .ok (.iload_n 3, 1) := by decide +kernel
theorem dX5_set_22 : decode cX5_set 22 = .ok (.i2l, 1) := by decide +kernel
theorem dX5_set_23 : decode cX5_set 23 = .ok (.lconst 0, 1) := by decide +kernel
theorem dX5_set_24 : decode cX5_set 24 = .ok (.iload_n 1, 1) := by decide +kernel
theorem dX5_set_25 : decode cX5_set 25 = .ok (.invokestatic 95, 3) := by decide +kernel
theorem dX5_set_28 : decode cX5_set 28 = .ok (.i2l, 1) := by decide +kernel
theorem dX5_set_29 : decode cX5_set 29 = .ok (.invokestatic 76, 3) := by decide +kernel
theorem dX5_set_32 : decode cX5_set 32 = .ok (.ifCond .ne 6, 3) := by decide +kernel
theorem dX5_set_35 : decode cX5_set 35 = .ok (.bipush (-2), 2) := by decide +kernel
theorem dX5_set_37 : decode cX5_set 37 = .ok (.ireturn, 1) := by decide +kernel
theorem dX5_set_38 : decode cX5_set 38 = .ok (.aload_n 0, 1) := by decide +kernel
theorem dX5_set_39 : decode cX5_set 39 = .ok (.iload_n 2, 1) := by decide +kernel
theorem dX5_set_40 : decode cX5_set 40 = .ok (.iload_n 1, 1) := by decide +kernel
theorem dX5_set_41 : decode cX5_set 41 = .ok (.invokevirtual 99, 3) := by decide +kernel
theorem dX5_set_44 : decode cX5_set 44 = .ok (.istore 4, 2) := by decide +kernel
theorem dX5_set_46 : decode cX5_set 46 = .ok (.aload_n 0, 1) := by decide +kernel
theorem dX5_set_47 : decode cX5_set 47 = .ok (.iload_n 1, 1) := by decide +kernel
theorem dX5_set_48 : decode cX5_set 48 = .ok (.iload_n 2, 1) := by decide +kernel
theorem dX5_set_49 : decode cX5_set 49 = .ok (.iload_n 3, 1) := by decide +kernel
theorem dX5_set_50 : decode cX5_set 50 = .ok (.invokevirtual 103, 3) := by decide +kernel
theorem dX5_set_53 : decode cX5_set 53 = .ok (.iload 4, 2) := by decide +kernel
theorem dX5_set_55 : decode cX5_set 55 = .ok (.ireturn, 1) := by decide +kernel
theorem dX5_lays_0 : decode cX5_lays 0 = .ok (.iload_n 1, 1) := by decide +kernel
theorem dX5_lays_1 : decode cX5_lays 1 = .ok (.ifCond .ne 11, 3) := by decide +kernel
theorem dX5_lays_4 : decode cX5_lays 4 = .ok (.aload_n 0, 1) := by decide +kernel
theorem dX5_lays_5 : decode cX5_lays 5 = .ok (.iload_n 3, 1) := by decide +kernel
theorem dX5_lays_6 : decode cX5_lays 6 = .ok (.putfield 23, 3) := by decide +kernel
theorem dX5_lays_9 : decode cX5_lays 9 = .ok (.goto 80, 3) := by decide +kernel
theorem dX5_lays_12 : decode cX5_lays 12 = .ok (.iload_n 1, 1) := by decide +kernel
theorem dX5_lays_13 : decode cX5_lays 13 = .ok (.iconst 1, 1) := by decide +kernel
theorem dX5_lays_14 : decode cX5_lays 14 = .ok (.if_icmp .ne 11, 3) := by decide +kernel
theorem dX5_lays_17 : decode cX5_lays 17 = .ok (.aload_n 0, 1) := by decide +kernel
theorem dX5_lays_18 : decode cX5_lays 18 = .ok (.iload_n 3, 1) := by decide +kernel
theorem dX5_lays_19 : decode cX5_lays 19 = .ok (.putfield 107, 3) := by decide +kernel
theorem dX5_lays_22 : decode cX5_lays 22 = .ok (.goto 67, 3) := by decide +kernel
theorem dX5_lays_25 : decode cX5_lays 25 = .ok (.iload_n 1, 1) := by decide +kernel
theorem dX5_lays_26 : decode cX5_lays 26 = .ok (.iconst 5, 1) := by decide +kernel
theorem dX5_lays_27 : decode cX5_lays 27 = .ok (.if_icmp .ge 19, 3) := by decide +kernel
theorem dX5_lays_30 : decode cX5_lays 30 = .ok (.aload_n 0, 1) := by decide +kernel
theorem dX5_lays_31 : decode cX5_lays 31 = .ok (.getfield 26, 3) := by decide +kernel
theorem dX5_lays_34 : decode cX5_lays 34 = .ok (.iconst 3, 1) := by decide +kernel
theorem dX5_lays_35 : decode cX5_lays 35 = .ok (.iload_n 2, 1) := by decide +kernel
theorem dX5_lays_36 : decode cX5_lays 36 = .ok (.imul, 1) := by decide +kernel
theorem dX5_lays_37 : decode cX5_lays 37 = .ok (.iload_n 1, 1) := by decide +kernel
theorem dX5_lays_38 : decode cX5_lays 38 = .ok (.iadd, 1) := by decide +kernel
theorem dX5_lays_39 : decode cX5_lays 39 = .ok (.iconst 2, 1) := by decide +kernel
theorem dX5_lays_40 : decode cX5_lays 40 = .ok (.isub, 1) := by decide +kernel
theorem dX5_lays_41 : decode cX5_lays 41 = .ok (.iload_n 3, 1) := by decide +kernel
theorem dX5_lays_42 : decode cX5_lays 42 = .ok (.iastore, 1) := by decide +kernel
theorem dX5_lays_43 : decode cX5_lays 43 = .ok (.goto 46, 3) := by decide +kernel
theorem dX5_lays_46 : decode cX5_lays 46 = .ok (.iload_n 1, 1) := by decide +kernel
theorem dX5_lays_47 : decode cX5_lays 47 = .ok (.bipush 8, 2) := by decide +kernel
theorem dX5_lays_49 : decode cX5_lays 49 = .ok (.if_icmp .ge 19, 3) := by decide +kernel
theorem dX5_lays_52 : decode cX5_lays 52 = .ok (.aload_n 0, 1) := by decide +kernel
theorem dX5_lays_53 : decode cX5_lays 53 = .ok (.getfield 32, 3) := by decide +kernel
theorem dX5_lays_56 : decode cX5_lays 56 = .ok (.iconst 3, 1) := by decide +kernel
theorem dX5_lays_57 : decode cX5_lays 57 = .ok (.iload_n 2, 1) := by decide +kernel
theorem dX5_lays_58 : decode cX5_lays 58 = .ok (.imul, 1) := by decide +kernel
theorem dX5_lays_59 : decode cX5_lays 59 = .ok (.iload_n 1, 1) := by decide +kernel
theorem dX5_lays_60 : decode cX5_lays 60 = .ok (.iadd, 1) := by decide +kernel
theorem dX5_lays_61 : decode cX5_lays 61 = .ok (.iconst 5, 1) := by decide +kernel
theorem dX5_lays_62 : decode cX5_lays 62 = .ok (.isub, 1) := by decide +kernel
theorem dX5_lays_63 : decode cX5_lays 63 = .ok (.iload_n 3, 1) := by decide +kernel
theorem dX5_lays_64 : decode cX5_lays 64 = .ok (.iastore, 1) := by decide +kernel
theorem dX5_lays_65 : decode cX5_lays 65 = .ok (.goto 24, 3) := by decide +kernel
theorem dX5_lays_68 : decode cX5_lays 68 = .ok (.iload_n 1, 1) := by decide +kernel
theorem dX5_lays_69 : decode cX5_lays 69 = .ok (.bipush 8, 2) := by decide +kernel
theorem dX5_lays_71 : decode cX5_lays 71 = .ok (.if_icmp .ne 13, 3) := by decide +kernel
theorem dX5_lays_74 : decode cX5_lays 74 = .ok (.aload_n 0, 1) := by decide +kernel
theorem dX5_lays_75 : decode cX5_lays 75 = .ok (.getfield 29, 3) := by decide +kernel
theorem dX5_lays_78 : decode cX5_lays 78 = .ok (.iload_n 2, 1) := by decide +kernel
theorem dX5_lays_79 : decode cX5_lays 79 = .ok (.iload_n 3, 1) := by decide +kernel
theorem dX5_lays_80 : decode cX5_lays 80 = .ok (.iastore, 1) := by decide +kernel
theorem dX5_lays_81 : decode cX5_lays 81 = .ok (.goto 8, 3) := by decide +kernel
theorem dX5_lays_84 : decode cX5_lays 84 = .ok (.aload_n 0, 1) := by decide +kernel
theorem dX5_lays_85 : decode cX5_lays 85 = .ok (.iload_n 3, 1) := by decide +kernel
theorem dX5_lays_86 : decode cX5_lays 86 = .ok (.putfield 110, 3) := by decide +kernel
theorem dX5_lays_89 : decode cX5_lays 89 = .ok (.return_, 1) := by decide +kernel
theorem dX5_comes_0 : decode cX5_comes 0 = .ok (.aload_n 0, 1) := by decide +kernel
theorem dX5_comes_1 : decode cX5_comes 1 = .ok (.getfield 29, 3) := by decide +kernel
theorem dX5_comes_4 : decode cX5_comes 4 = .ok (.aload_n 0, 1) := by decide +kernel
theorem dX5_comes_5 : decode cX5_comes 5 = .ok (.getfield 73, 3) := by decide +kernel
theorem dX5_comes_8 : decode cX5_comes 8 = .ok (.iload_n 1, 1) := by decide +kernel
theorem dX5_comes_9 : decode cX5_comes 9 = .ok (.iastore, 1) := by decide +kernel
theorem dX5_comes_10 : decode cX5_comes 10 = .ok (.aload_n 0, 1) := by decide +kernel
theorem dX5_comes_11 : decode cX5_comes 11 = .ok (.getfield 32, 3) := by decide +kernel
theorem dX5_comes_14 : decode cX5_comes 14 = .ok (.iconst 3, 1) := by decide +kernel
theorem dX5_comes_15 : decode cX5_comes 15 = .ok (.aload_n 0, 1) := by decide +kernel
theorem dX5_comes_16 : decode cX5_comes 16 = .ok (.getfield 73, 3) := by decide +kernel
theorem dX5_comes_19 : decode cX5_comes 19 = .ok (.imul, 1) := by decide +kernel
theorem dX5_comes_20 : decode cX5_comes 20 = .ok (.iload_n 2, 1) := by decide +kernel
theorem dX5_comes_21 : decode cX5_comes 21 = .ok (.iastore, 1) := by decide +kernel
theorem dX5_comes_22 : decode cX5_comes 22 = .ok (.aload_n 0, 1) := by decide +kernel
theorem dX5_comes_23 : decode cX5_comes 23 = .ok (.getfield 32, 3) := by decide +kernel
theorem dX5_comes_26 : decode cX5_comes 26 = .ok (.iconst 3, 1) := by decide +kernel
theorem dX5_comes_27 : decode cX5_comes 27 = .ok (.aload_n 0, 1) := by decide +kernel
theorem dX5_comes_28 : decode cX5_comes 28 = .ok (.getfield 73, 3) := by decide +kernel
theorem dX5_comes_31 : decode cX5_comes 31 = .ok (.imul, 1) := by decide +kernel
theorem dX5_comes_32 : decode cX5_comes 32 = .ok (.iconst 1, 1) := by decide +kernel
theorem dX5_comes_33 : decode cX5_comes 33 = .ok (.iadd, 1) := by decide +kernel
theorem dX5_comes_34 : decode cX5_comes 34 = .ok (.iload_n 3, 1) := by decide +kernel
theorem dX5_comes_35 : decode cX5_comes 35 = .ok (.iastore, 1) := by decide +kernel
theorem dX5_comes_36 : decode cX5_comes 36 = .ok (.aload_n 0, 1) := by decide +kernel
theorem dX5_comes_37 : decode cX5_comes 37 = .ok (.getfield 32, 3) := by decide +kernel
theorem dX5_comes_40 : decode cX5_comes 40 = .ok (.iconst 3, 1) := by decide +kernel
theorem dX5_comes_41 : decode cX5_comes 41 = .ok (.aload_n 0, 1) := by decide +kernel
theorem dX5_comes_42 : decode cX5_comes 42 = .ok (.getfield 73, 3) := by decide +kernel
theorem dX5_comes_45 : decode cX5_comes 45 = .ok (.imul, 1) := by decide +kernel
theorem dX5_comes_46 : decode cX5_comes 46 = .ok (.iconst 2, 1) := by decide +kernel
theorem dX5_comes_47 : decode cX5_comes 47 = .ok (.iadd, 1) := by decide +kernel
theorem dX5_comes_48 : decode cX5_comes 48 = .ok (.iconst 1, 1) := by decide +kernel
theorem dX5_comes_49 : decode cX5_comes 49 = .ok (.iastore, 1) := by decide +kernel
theorem dX5_comes_50 : decode cX5_comes 50 = .ok (.aload_n 0, 1) := by decide +kernel
theorem dX5_comes_51 : decode cX5_comes 51 = .ok (.dup, 1) := by decide +kernel
theorem dX5_comes_52 : decode cX5_comes 52 = .ok (.getfield 73, 3) := by decide +kernel
theorem dX5_comes_55 : decode cX5_comes 55 = .ok (.iconst 1, 1) := by decide +kernel
theorem dX5_comes_56 : decode cX5_comes 56 = .ok (.iadd, 1) := by decide +kernel
theorem dX5_comes_57 : decode cX5_comes 57 = .ok (.putfield 73, 3) := by decide +kernel
theorem dX5_comes_60 : decode cX5_comes 60 = .ok (.return_, 1) := by decide +kernel
theorem dX5_work_0 : decode cX5_work 0 = .ok (.iload_n 1, 1) := by decide +kernel
theorem dX5_work_1 : decode cX5_work 1 = .ok (.i2l, 1) := by decide +kernel
theorem dX5_work_2 : decode cX5_work 2 = .ok (.lconst 0, 1) := by decide +kernel
theorem dX5_work_3 : decode cX5_work 3 = .ok (.ldc2_w 113, 3) := by decide +kernel
theorem dX5_work_6 : decode cX5_work 6 = .ok (.invokestatic 76, 3) := by decide +kernel
theorem dX5_work_9 : decode cX5_work 9 = .ok (.ifCond .eq 22, 3) := by decide +kernel
theorem dX5_work_12 : decode cX5_work 12 = .ok (.iload_n 2, 1) := by decide +kernel
theorem dX5_work_13 : decode cX5_work 13 = .ok (.i2l, 1) := by decide +kernel
theorem dX5_work_14 : decode cX5_work 14 = .ok (.lconst 0, 1) := by decide +kernel
theorem dX5_work_15 : decode cX5_work 15 = .ok (.ldc2_w 115, 3) := by decide +kernel
theorem dX5_work_18 : decode cX5_work 18 = .ok (.invokestatic 76, 3) := by decide +kernel
theorem dX5_work_21 : decode cX5_work 21 = .ok (.ifCond .eq 10, 3) := by decide +kernel
theorem dX5_work_24 : decode cX5_work 24 = .ok (.iload_n 3, 1) := by decide +kernel
theorem dX5_work_25 : decode cX5_work 25 = .ok (.invokestatic 82, 3) := by decide +kernel
theorem dX5_work_28 : decode cX5_work 28 = .ok (.ifCond .ne 6, 3) := by decide +kernel
theorem dX5_work_31 : decode cX5_work 31 = .ok (.bipush (-2), 2) := by decide +kernel
theorem dX5_work_33 : decode cX5_work 33 = .ok (.ireturn, 1) := by decide +kernel
theorem dX5_work_34 : decode cX5_work 34 = .ok (.aload_n 0, 1) := by decide +kernel
theorem dX5_work_35 : decode cX5_work 35 = .ok (.getfield 73, 3) := by decide +kernel
theorem dX5_work_38 : decode cX5_work 38 = .ok (.bipush 6, 2) := by decide +kernel
theorem dX5_work_40 : decode cX5_work 40 = .ok (.if_icmp .ne 6, 3) := by decide +kernel
theorem dX5_work_43 : decode cX5_work 43 = .ok (.bipush (-4), 2) := by decide +kernel
theorem dX5_work_45 : decode cX5_work 45 = .ok (.ireturn, 1) := by decide +kernel
theorem dX5_work_46 : decode cX5_work 46 = .ok (.aload_n 0, 1) := by decide +kernel
theorem dX5_work_47 : decode cX5_work 47 = .ok (.iload_n 1, 1) := by decide +kernel
theorem dX5_work_48 : decode cX5_work 48 = .ok (.iload_n 2, 1) := by decide +kernel
theorem dX5_work_49 : decode cX5_work 49 = .ok (.iload_n 3, 1) := by decide +kernel
theorem dX5_work_50 : decode cX5_work 50 = .ok (.invokevirtual 117, 3) := by decide +kernel
theorem dX5_work_53 : decode cX5_work 53 = .ok (.aload_n 0, 1) := by decide +kernel
theorem dX5_work_54 : decode cX5_work 54 = .ok (.getfield 73, 3) := by decide +kernel
theorem dX5_work_57 : decode cX5_work 57 = .ok (.iconst 1, 1) := by decide +kernel
theorem dX5_work_58 : decode cX5_work 58 = .ok (.isub, 1) := by decide +kernel
theorem dX5_work_59 : decode cX5_work 59 = .ok (.ireturn, 1) := by decide +kernel
theorem dX5_told_0 : decode cX5_told 0 = .ok (.iload_n 2, 1) := by decide +kernel
theorem dX5_told_1 : decode cX5_told 1 = .ok (.i2l, 1) := by decide +kernel
theorem dX5_told_2 : decode cX5_told 2 = .ok (.lconst 0, 1) := by decide +kernel
theorem dX5_told_3 : decode cX5_told 3 = .ok (.ldc2_w 120, 3) := by decide +kernel
theorem dX5_told_6 : decode cX5_told 6 = .ok (.invokestatic 76, 3) := by decide +kernel
theorem dX5_told_9 : decode cX5_told 9 = .ok (.ifCond .eq 12, 3) := by decide +kernel
theorem dX5_told_12 : decode cX5_told 12 = .ok (.aload_n 0, 1) := by decide +kernel
theorem dX5_told_13 : decode cX5_told 13 = .ok (.iload_n 2, 1) := by decide +kernel
theorem dX5_told_14 : decode cX5_told 14 = .ok (.iload_n 1, 1) := by decide +kernel
theorem dX5_told_15 : decode cX5_told 15 = .ok (.invokevirtual 91, 3) := by decide +kernel
theorem dX5_told_18 : decode cX5_told 18 = .ok (.ifCond .ne 6, 3) := by decide +kernel
theorem dX5_told_21 : decode cX5_told 21 = .ok (.bipush (-2), 2) := by decide +kernel
theorem dX5_told_23 : decode cX5_told 23 = .ok (.ireturn, 1) := by decide +kernel
theorem dX5_told_24 : decode cX5_told 24 = .ok (.iload_n 2, 1) := by decide +kernel
theorem dX5_told_25 : decode cX5_told 25 = .ok (.iconst 5, 1) := by decide +kernel
theorem dX5_told_26 : decode cX5_told 26 = .ok (.if_icmp .ge 39, 3) := by decide +kernel
theorem dX5_told_29 : decode cX5_told 29 = .ok (.iload_n 2, 1) := by decide +kernel
theorem dX5_told_30 : decode cX5_told 30 = .ok (.ifCond .ne 10, 3) := by decide +kernel
theorem dX5_told_33 : decode cX5_told 33 = .ok (.aload_n 0, 1) := by decide +kernel
theorem dX5_told_34 : decode cX5_told 34 = .ok (.getfield 23, 3) := by decide +kernel
theorem dX5_told_37 : decode cX5_told 37 = .ok (.goto 27, 3) := by decide +kernel
theorem dX5_told_40 : decode cX5_told 40 = .ok (.iload_n 2, 1) := by decide +kernel
theorem dX5_told_41 : decode cX5_told 41 = .ok (.iconst 1, 1) := by decide +kernel
theorem dX5_told_42 : decode cX5_told 42 = .ok (.if_icmp .ne 10, 3) := by decide +kernel
theorem dX5_told_45 : decode cX5_told 45 = .ok (.aload_n 0, 1) := by decide +kernel
theorem dX5_told_46 : decode cX5_told 46 = .ok (.getfield 107, 3) := by decide +kernel
theorem dX5_told_49 : decode cX5_told 49 = .ok (.goto 15, 3) := by decide +kernel
theorem dX5_told_52 : decode cX5_told 52 = .ok (.aload_n 0, 1) := by decide +kernel
theorem dX5_told_53 : decode cX5_told 53 = .ok (.getfield 26, 3) := by decide +kernel
theorem dX5_told_56 : decode cX5_told 56 = .ok (.iconst 3, 1) := by decide +kernel
theorem dX5_told_57 : decode cX5_told 57 = .ok (.iload_n 1, 1) := by decide +kernel
theorem dX5_told_58 : decode cX5_told 58 = .ok (.imul, 1) := by decide +kernel
theorem dX5_told_59 : decode cX5_told 59 = .ok (.iload_n 2, 1) := by decide +kernel
theorem dX5_told_60 : decode cX5_told 60 = .ok (.iadd, 1) := by decide +kernel
theorem dX5_told_61 : decode cX5_told 61 = .ok (.iconst 2, 1) := by decide +kernel
theorem dX5_told_62 : decode cX5_told 62 = .ok (.isub, 1) := by decide +kernel
theorem dX5_told_63 : decode cX5_told 63 = .ok (.iaload, 1) := by decide +kernel
theorem dX5_told_64 : decode cX5_told 64 = .ok (.ireturn, 1) := by decide +kernel
theorem dX5_told_65 : decode cX5_told 65 = .ok (.iload_n 2, 1) := by decide +kernel
theorem dX5_told_66 : decode cX5_told 66 = .ok (.bipush 9, 2) := by decide +kernel
theorem dX5_told_68 : decode cX5_told 68 = .ok (.if_icmp .ge 31, 3) := by decide +kernel
theorem dX5_told_71 : decode cX5_told 71 = .ok (.iload_n 2, 1) := by decide +kernel
theorem dX5_told_72 : decode cX5_told 72 = .ok (.bipush 8, 2) := by decide +kernel
theorem dX5_told_74 : decode cX5_told 74 = .ok (.if_icmp .ge 18, 3) := by decide +kernel
theorem dX5_told_77 : decode cX5_told 77 = .ok (.aload_n 0, 1) := by decide +kernel
theorem dX5_told_78 : decode cX5_told 78 = .ok (.getfield 32, 3) := by decide +kernel
theorem dX5_told_81 : decode cX5_told 81 = .ok (.iconst 3, 1) := by decide +kernel
theorem dX5_told_82 : decode cX5_told 82 = .ok (.iload_n 1, 1) := by decide +kernel
theorem dX5_told_83 : decode cX5_told 83 = .ok (.imul, 1) := by decide +kernel
theorem dX5_told_84 : decode cX5_told 84 = .ok (.iload_n 2, 1) := by decide +kernel
theorem dX5_told_85 : decode cX5_told 85 = .ok (.iadd, 1) := by decide +kernel
theorem dX5_told_86 : decode cX5_told 86 = .ok (.iconst 5, 1) := by decide +kernel
theorem dX5_told_87 : decode cX5_told 87 = .ok (.isub, 1) := by decide +kernel
theorem dX5_told_88 : decode cX5_told 88 = .ok (.iaload, 1) := by decide +kernel
theorem dX5_told_89 : decode cX5_told 89 = .ok (.goto 9, 3) := by decide +kernel
theorem dX5_told_92 : decode cX5_told 92 = .ok (.aload_n 0, 1) := by decide +kernel
theorem dX5_told_93 : decode cX5_told 93 = .ok (.getfield 29, 3) := by decide +kernel
theorem dX5_told_96 : decode cX5_told 96 = .ok (.iload_n 1, 1) := by decide +kernel
theorem dX5_told_97 : decode cX5_told 97 = .ok (.iaload, 1) := by decide +kernel
theorem dX5_told_98 : decode cX5_told 98 = .ok (.ireturn, 1) := by decide +kernel
theorem dX5_told_99 : decode cX5_told 99 = .ok (.iload_n 2, 1) := by decide +kernel
theorem dX5_told_100 : decode cX5_told 100 = .ok (.bipush 9, 2) := by decide +kernel
theorem dX5_told_102 : decode cX5_told 102 = .ok (.if_icmp .ne 21, 3) := by decide +kernel
theorem dX5_told_105 : decode cX5_told 105 = .ok (.aload_n 0, 1) := by decide +kernel
theorem dX5_told_106 : decode cX5_told 106 = .ok (.iload_n 1, 1) := by decide +kernel
theorem dX5_told_107 : decode cX5_told 107 = .ok (.aload_n 0, 1) := by decide +kernel
theorem dX5_told_108 : decode cX5_told 108 = .ok (.getfield 32, 3) := by decide +kernel
theorem dX5_told_111 : decode cX5_told 111 = .ok (.iconst 3, 1) := by decide +kernel
theorem dX5_told_112 : decode cX5_told 112 = .ok (.iload_n 1, 1) := by decide +kernel
theorem dX5_told_113 : decode cX5_told 113 = .ok (.imul, 1) := by decide +kernel
theorem dX5_told_114 : decode cX5_told 114 = .ok (.iconst 1, 1) := by decide +kernel
theorem dX5_told_115 : decode cX5_told 115 = .ok (.iadd, 1) := by decide +kernel
theorem dX5_told_116 : decode cX5_told 116 = .ok (.iaload, 1) := by decide +kernel
theorem dX5_told_117 : decode cX5_told 117 = .ok (.invokevirtual 122, 3) := by decide +kernel
theorem dX5_told_120 : decode cX5_told 120 = .ok (.goto 8, 3) := by decide +kernel
theorem dX5_told_123 : decode cX5_told 123 = .ok (.aload_n 0, 1) := by decide +kernel
theorem dX5_told_124 : decode cX5_told 124 = .ok (.iload_n 1, 1) := by decide +kernel
theorem dX5_told_125 : decode cX5_told 125 = .ok (.invokevirtual 125, 3) := by decide +kernel
theorem dX5_told_128 : decode cX5_told 128 = .ok (.ireturn, 1) := by decide +kernel
theorem dX5_feed_0 : decode cX5_feed 0 = .ok (.iload_n 1, 1) := by decide +kernel
theorem dX5_feed_1 : decode cX5_feed 1 = .ok (.i2l, 1) := by decide +kernel
theorem dX5_feed_2 : decode cX5_feed 2 = .ok (.lconst 0, 1) := by decide +kernel
theorem dX5_feed_3 : decode cX5_feed 3 = .ok (.ldc2_w 128, 3) := by decide +kernel
theorem dX5_feed_6 : decode cX5_feed 6 = .ok (.invokestatic 76, 3) := by decide +kernel
theorem dX5_feed_9 : decode cX5_feed 9 = .ok (.ifCond .ne 6, 3) := by decide +kernel
theorem dX5_feed_12 : decode cX5_feed 12 = .ok (.bipush (-2), 2) := by decide +kernel
theorem dX5_feed_14 : decode cX5_feed 14 = .ok (.ireturn, 1) := by decide +kernel
theorem dX5_feed_15 : decode cX5_feed 15 = .ok (.aload_n 0, 1) := by decide +kernel
theorem dX5_feed_16 : decode cX5_feed 16 = .ok (.getfield 130, 3) := by decide +kernel
theorem dX5_feed_19 : decode cX5_feed 19 = .ok (.sipush 160, 3) := by decide +kernel
theorem dX5_feed_22 : decode cX5_feed 22 = .ok (.if_icmp .ne 6, 3) := by decide +kernel
theorem dX5_feed_25 : decode cX5_feed 25 = .ok (.bipush (-4), 2) := by decide +kernel
theorem dX5_feed_27 : decode cX5_feed 27 = .ok (.ireturn, 1) := by decide +kernel
theorem dX5_feed_28 : decode cX5_feed 28 = .ok (.aload_n 0, 1) := by decide +kernel
theorem dX5_feed_29 : decode cX5_feed 29 = .ok (.getfield 20, 3) := by decide +kernel
theorem dX5_feed_32 : decode cX5_feed 32 = .ok (.aload_n 0, 1) := by decide +kernel
theorem dX5_feed_33 : decode cX5_feed 33 = .ok (.getfield 130, 3) := by decide +kernel
theorem dX5_feed_36 : decode cX5_feed 36 = .ok (.iload_n 1, 1) := by decide +kernel
theorem dX5_feed_37 : decode cX5_feed 37 = .ok (.iastore, 1) := by decide +kernel
theorem dX5_feed_38 : decode cX5_feed 38 = .ok (.aload_n 0, 1) := by decide +kernel
theorem dX5_feed_39 : decode cX5_feed 39 = .ok (.dup, 1) := by decide +kernel
theorem dX5_feed_40 : decode cX5_feed 40 = .ok (.getfield 130, 3) := by decide +kernel
theorem dX5_feed_43 : decode cX5_feed 43 = .ok (.iconst 1, 1) := by decide +kernel
theorem dX5_feed_44 : decode cX5_feed 44 = .ok (.iadd, 1) := by decide +kernel
theorem dX5_feed_45 : decode cX5_feed 45 = .ok (.putfield 130, 3) := by decide +kernel
theorem dX5_feed_48 : decode cX5_feed 48 = .ok (.aload_n 0, 1) := by decide +kernel
theorem dX5_feed_49 : decode cX5_feed 49 = .ok (.getfield 130, 3) := by decide +kernel
theorem dX5_feed_52 : decode cX5_feed 52 = .ok (.ireturn, 1) := by decide +kernel
theorem dX5_byteAt_0 : decode cX5_byteAt 0 = .ok (.iload_n 1, 1) := by decide +kernel
theorem dX5_byteAt_1 : decode cX5_byteAt 1 = .ok (.aload_n 0, 1) := by decide +kernel
theorem dX5_byteAt_2 : decode cX5_byteAt 2 = .ok (.getfield 133, 3) := by decide +kernel
theorem dX5_byteAt_5 : decode cX5_byteAt 5 = .ok (.if_icmp .ge 17, 3) := by decide +kernel
theorem dX5_byteAt_8 : decode cX5_byteAt 8 = .ok (.aload_n 0, 1) := by decide +kernel
theorem dX5_byteAt_9 : decode cX5_byteAt 9 = .ok (.getfield 13, 3) := by decide +kernel
theorem dX5_byteAt_12 : decode cX5_byteAt 12 = .ok (.aload_n 0, 1) := by decide +kernel
theorem dX5_byteAt_13 : decode cX5_byteAt 13 = .ok (.getfield 136, 3) := by decide +kernel
theorem dX5_byteAt_16 : decode cX5_byteAt 16 = .ok (.iload_n 1, 1) := by decide +kernel
theorem dX5_byteAt_17 : decode cX5_byteAt 17 = .ok (.iadd, 1) := by decide +kernel
theorem dX5_byteAt_18 : decode cX5_byteAt 18 = .ok (.iaload, 1) := by decide +kernel
theorem dX5_byteAt_19 : decode cX5_byteAt 19 = .ok (.goto 4, 3) := by decide +kernel
theorem dX5_byteAt_22 : decode cX5_byteAt 22 = .ok (.iconst (-1), 1) := by decide +kernel
theorem dX5_byteAt_23 : decode cX5_byteAt 23 = .ok (.ireturn, 1) := by decide +kernel
theorem dX5_next_0 : decode cX5_next 0 = .ok (.aload_n 0, 1) := by decide +kernel
theorem dX5_next_1 : decode cX5_next 1 = .ok (.aload_n 0, 1) := by decide +kernel
theorem dX5_next_2 : decode cX5_next 2 = .ok (.getfield 139, 3) := by decide +kernel
theorem dX5_next_5 : decode cX5_next 5 = .ok (.invokevirtual 142, 3) := by decide +kernel
theorem dX5_next_8 : decode cX5_next 8 = .ok (.bipush 32, 2) := by decide +kernel
theorem dX5_next_10 : decode cX5_next 10 = .ok (.if_icmp .eq 16, 3) := by decide +kernel
theorem dX5_next_13 : decode cX5_next 13 = .ok (.aload_n 0, 1) := by decide +kernel
theorem dX5_next_14 : decode cX5_next 14 = .ok (.aload_n 0, 1) := by decide +kernel
theorem dX5_next_15 : decode cX5_next 15 = .ok (.getfield 139, 3) := by decide +kernel
theorem dX5_next_18 : decode cX5_next 18 = .ok (.invokevirtual 142, 3) := by decide +kernel
theorem dX5_next_21 : decode cX5_next 21 = .ok (.bipush 10, 2) := by decide +kernel
theorem dX5_next_23 : decode cX5_next 23 = .ok (.if_icmp .ne 16, 3) := by decide +kernel
theorem dX5_next_26 : decode cX5_next 26 = .ok (.aload_n 0, 1) := by decide +kernel
theorem dX5_next_27 : decode cX5_next 27 = .ok (.dup, 1) := by decide +kernel
theorem dX5_next_28 : decode cX5_next 28 = .ok (.getfield 139, 3) := by decide +kernel
theorem dX5_next_31 : decode cX5_next 31 = .ok (.iconst 1, 1) := by decide +kernel
theorem dX5_next_32 : decode cX5_next 32 = .ok (.iadd, 1) := by decide +kernel
theorem dX5_next_33 : decode cX5_next 33 = .ok (.putfield 139, 3) := by decide +kernel
theorem dX5_next_36 : decode cX5_next 36 = .ok (.goto (-36), 3) := by decide +kernel
theorem dX5_next_39 : decode cX5_next 39 = .ok (.aload_n 0, 1) := by decide +kernel
theorem dX5_next_40 : decode cX5_next 40 = .ok (.aload_n 0, 1) := by decide +kernel
theorem dX5_next_41 : decode cX5_next 41 = .ok (.getfield 139, 3) := by decide +kernel
theorem dX5_next_44 : decode cX5_next 44 = .ok (.putfield 145, 3) := by decide +kernel
theorem dX5_next_47 : decode cX5_next 47 = .ok (.aload_n 0, 1) := by decide +kernel
theorem dX5_next_48 : decode cX5_next 48 = .ok (.aload_n 0, 1) := by decide +kernel
theorem dX5_next_49 : decode cX5_next 49 = .ok (.getfield 139, 3) := by decide +kernel
theorem dX5_next_52 : decode cX5_next 52 = .ok (.invokevirtual 142, 3) := by decide +kernel
theorem dX5_next_55 : decode cX5_next 55 = .ok (.istore_n 1, 1) := by decide +kernel
theorem dX5_next_56 : decode cX5_next 56 = .ok (.aload_n 0, 1) := by decide +kernel
theorem dX5_next_57 : decode cX5_next 57 = .ok (.iconst 4, 1) := by decide +kernel
theorem dX5_next_58 : decode cX5_next 58 = .ok (.putfield 148, 3) := by decide +kernel
theorem dX5_next_61 : decode cX5_next 61 = .ok (.iload_n 1, 1) := by decide +kernel
theorem dX5_next_62 : decode cX5_next 62 = .ok (.ifCond .ge 19, 3) := by decide +kernel
theorem dX5_next_65 : decode cX5_next 65 = .ok (.aload_n 0, 1) := by decide +kernel
theorem dX5_next_66 : decode cX5_next 66 = .ok (.iconst 0, 1) := by decide +kernel
theorem dX5_next_67 : decode cX5_next 67 = .ok (.putfield 148, 3) := by decide +kernel
theorem dX5_next_70 : decode cX5_next 70 = .ok (.aload_n 0, 1) := by decide +kernel
theorem dX5_next_71 : decode cX5_next 71 = .ok (.aload_n 0, 1) := by decide +kernel
theorem dX5_next_72 : decode cX5_next 72 = .ok (.getfield 133, 3) := by decide +kernel
theorem dX5_next_75 : decode cX5_next 75 = .ok (.putfield 145, 3) := by decide +kernel
theorem dX5_next_78 : decode cX5_next 78 = .ok (.goto 243, 3) := by decide +kernel
theorem dX5_next_81 : decode cX5_next 81 = .ok (.iload_n 1, 1) := by decide +kernel
theorem dX5_next_82 : decode cX5_next 82 = .ok (.i2l, 1) := by decide +kernel
theorem dX5_next_83 : decode cX5_next 83 = .ok (.ldc2_w 151, 3) := by decide +kernel
theorem dX5_next_86 : decode cX5_next 86 = .ok (.ldc2_w 153, 3) := by decide +kernel
theorem dX5_next_89 : decode cX5_next 89 = .ok (.invokestatic 76, 3) := by decide +kernel
theorem dX5_next_92 : decode cX5_next 92 = .ok (.ifCond .eq 42, 3) := by decide +kernel
theorem dX5_next_95 : decode cX5_next 95 = .ok (.aload_n 0, 1) := by decide +kernel
theorem dX5_next_96 : decode cX5_next 96 = .ok (.iconst 1, 1) := by decide +kernel
theorem dX5_next_97 : decode cX5_next 97 = .ok (.putfield 148, 3) := by decide +kernel
theorem dX5_next_100 : decode cX5_next 100 = .ok (.aload_n 0, 1) := by decide +kernel
theorem dX5_next_101 : decode cX5_next 101 = .ok (.aload_n 0, 1) := by decide +kernel
theorem dX5_next_102 : decode cX5_next 102 = .ok (.getfield 139, 3) := by decide +kernel
theorem dX5_next_105 : decode cX5_next 105 = .ok (.invokevirtual 142, 3) := by decide +kernel
theorem dX5_next_108 : decode cX5_next 108 = .ok (.i2l, 1) := by decide +kernel
theorem dX5_next_109 : decode cX5_next 109 = .ok (.ldc2_w 151, 3) := by decide +kernel
theorem dX5_next_112 : decode cX5_next 112 = .ok (.ldc2_w 153, 3) := by decide +kernel
theorem dX5_next_115 : decode cX5_next 115 = .ok (.invokestatic 76, 3) := by decide +kernel
theorem dX5_next_118 : decode cX5_next 118 = .ok (.ifCond .eq 203, 3) := by decide +kernel
theorem dX5_next_121 : decode cX5_next 121 = .ok (.aload_n 0, 1) := by decide +kernel
theorem dX5_next_122 : decode cX5_next 122 = .ok (.dup, 1) := by decide +kernel
theorem dX5_next_123 : decode cX5_next 123 = .ok (.getfield 139, 3) := by decide +kernel
theorem dX5_next_126 : decode cX5_next 126 = .ok (.iconst 1, 1) := by decide +kernel
theorem dX5_next_127 : decode cX5_next 127 = .ok (.iadd, 1) := by decide +kernel
theorem dX5_next_128 : decode cX5_next 128 = .ok (.putfield 139, 3) := by decide +kernel
theorem dX5_next_131 : decode cX5_next 131 = .ok (.goto (-31), 3) := by decide +kernel
theorem dX5_next_134 : decode cX5_next 134 = .ok (.iload_n 1, 1) := by decide +kernel
theorem dX5_next_135 : decode cX5_next 135 = .ok (.i2l, 1) := by decide +kernel
theorem dX5_next_136 : decode cX5_next 136 = .ok (.ldc2_w 155, 3) := by decide +kernel
theorem dX5_next_139 : decode cX5_next 139 = .ok (.ldc2_w 157, 3) := by decide +kernel
theorem dX5_next_142 : decode cX5_next 142 = .ok (.invokestatic 76, 3) := by decide +kernel
theorem dX5_next_145 : decode cX5_next 145 = .ok (.ifCond .eq 107, 3) := by decide +kernel
theorem dX5_next_148 : decode cX5_next 148 = .ok (.aload_n 0, 1) := by decide +kernel
theorem dX5_next_149 : decode cX5_next 149 = .ok (.iconst 2, 1) := by decide +kernel
theorem dX5_next_150 : decode cX5_next 150 = .ok (.putfield 148, 3) := by decide +kernel
theorem dX5_next_153 : decode cX5_next 153 = .ok (.aload_n 0, 1) := by decide +kernel
theorem dX5_next_154 : decode cX5_next 154 = .ok (.lconst 0, 1) := by decide +kernel
theorem dX5_next_155 : decode cX5_next 155 = .ok (.putfield 159, 3) := by decide +kernel
theorem dX5_next_158 : decode cX5_next 158 = .ok (.iconst 0, 1) := by decide +kernel
theorem dX5_next_159 : decode cX5_next 159 = .ok (.istore_n 2, 1) := by decide +kernel
theorem dX5_next_160 : decode cX5_next 160 = .ok (.aload_n 0, 1) := by decide +kernel
theorem dX5_next_161 : decode cX5_next 161 = .ok (.aload_n 0, 1) := by decide +kernel
theorem dX5_next_162 : decode cX5_next 162 = .ok (.getfield 139, 3) := by decide +kernel
theorem dX5_next_165 : decode cX5_next 165 = .ok (.invokevirtual 142, 3) := by decide +kernel
theorem dX5_next_168 : decode cX5_next 168 = .ok (.i2l, 1) := by decide +kernel
theorem dX5_next_169 : decode cX5_next 169 = .ok (.ldc2_w 155, 3) := by decide +kernel
theorem dX5_next_172 : decode cX5_next 172 = .ok (.ldc2_w 157, 3) := by decide +kernel
theorem dX5_next_175 : decode cX5_next 175 = .ok (.invokestatic 76, 3) := by decide +kernel
theorem dX5_next_178 : decode cX5_next 178 = .ok (.ifCond .eq 57, 3) := by decide +kernel
theorem dX5_next_181 : decode cX5_next 181 = .ok (.aload_n 0, 1) := by decide +kernel
theorem dX5_next_182 : decode cX5_next 182 = .ok (.iload_n 2, 1) := by decide +kernel
theorem dX5_next_183 : decode cX5_next 183 = .ok (.iconst 4, 1) := by decide +kernel
theorem dX5_next_184 : decode cX5_next 184 = .ok (.if_icmp .ge 28, 3) := by decide +kernel
theorem dX5_next_187 : decode cX5_next 187 = .ok (.ldc2_w 120, 3) := by decide +kernel
theorem dX5_next_190 : decode cX5_next 190 = .ok (.aload_n 0, 1) := by decide +kernel
theorem dX5_next_191 : decode cX5_next 191 = .ok (.getfield 159, 3) := by decide +kernel
theorem dX5_next_194 : decode cX5_next 194 = .ok (.lmul, 1) := by decide +kernel
theorem dX5_next_195 : decode cX5_next 195 = .ok (.aload_n 0, 1) := by decide +kernel
theorem dX5_next_196 : decode cX5_next 196 = .ok (.aload_n 0, 1) := by decide +kernel
theorem dX5_next_197 : decode cX5_next 197 = .ok (.getfield 139, 3) := by decide +kernel
theorem dX5_next_200 : decode cX5_next 200 = .ok (.invokevirtual 142, 3) := by decide +kernel
theorem dX5_next_203 : decode cX5_next 203 = .ok (.i2l, 1) := by decide +kernel
theorem dX5_next_204 : decode cX5_next 204 = .ok (.ladd, 1) := by decide +kernel
theorem dX5_next_205 : decode cX5_next 205 = .ok (.ldc2_w 155, 3) := by decide +kernel
theorem dX5_next_208 : decode cX5_next 208 = .ok (.lsub, 1) := by decide +kernel
theorem dX5_next_209 : decode cX5_next 209 = .ok (.goto 7, 3) := by decide +kernel
theorem dX5_next_212 : decode cX5_next 212 = .ok (.aload_n 0, 1) := by decide +kernel
theorem dX5_next_213 : decode cX5_next 213 = .ok (.getfield 159, 3) := by decide +kernel
theorem dX5_next_216 : decode cX5_next 216 = .ok (.putfield 159, 3) := by decide +kernel
theorem dX5_next_219 : decode cX5_next 219 = .ok (.iinc 2 1, 3) := by decide +kernel
theorem dX5_next_222 : decode cX5_next 222 = .ok (.aload_n 0, 1) := by decide +kernel
theorem dX5_next_223 : decode cX5_next 223 = .ok (.dup, 1) := by decide +kernel
theorem dX5_next_224 : decode cX5_next 224 = .ok (.getfield 139, 3) := by decide +kernel
theorem dX5_next_227 : decode cX5_next 227 = .ok (.iconst 1, 1) := by decide +kernel
theorem dX5_next_228 : decode cX5_next 228 = .ok (.iadd, 1) := by decide +kernel
theorem dX5_next_229 : decode cX5_next 229 = .ok (.putfield 139, 3) := by decide +kernel
theorem dX5_next_232 : decode cX5_next 232 = .ok (.goto (-72), 3) := by decide +kernel
theorem dX5_next_235 : decode cX5_next 235 = .ok (.aload_n 0, 1) := by decide +kernel
theorem dX5_next_236 : decode cX5_next 236 = .ok (.iload_n 2, 1) := by decide +kernel
theorem dX5_next_237 : decode cX5_next 237 = .ok (.iconst 4, 1) := by decide +kernel
theorem dX5_next_238 : decode cX5_next 238 = .ok (.if_icmp .le 7, 3) := by decide +kernel
theorem dX5_next_241 : decode cX5_next 241 = .ok (.iconst 4, 1) := by decide +kernel
theorem dX5_next_242 : decode cX5_next 242 = .ok (.goto 4, 3) := by decide +kernel
theorem dX5_next_245 : decode cX5_next 245 = .ok (.iconst 2, 1) := by decide +kernel
theorem dX5_next_246 : decode cX5_next 246 = .ok (.putfield 148, 3) := by decide +kernel
theorem dX5_next_249 : decode cX5_next 249 = .ok (.goto 72, 3) := by decide +kernel
theorem dX5_next_252 : decode cX5_next 252 = .ok (.iload_n 1, 1) := by decide +kernel
theorem dX5_next_253 : decode cX5_next 253 = .ok (.bipush 40, 2) := by decide +kernel
theorem dX5_next_255 : decode cX5_next 255 = .ok (.if_icmp .eq 45, 3) := by decide +kernel
theorem dX5_next_258 : decode cX5_next 258 = .ok (.iload_n 1, 1) := by decide +kernel
theorem dX5_next_259 : decode cX5_next 259 = .ok (.bipush 41, 2) := by decide +kernel
theorem dX5_next_261 : decode cX5_next 261 = .ok (.if_icmp .eq 39, 3) := by decide +kernel
theorem dX5_next_264 : decode cX5_next 264 = .ok (.iload_n 1, 1) := by decide +kernel
theorem dX5_next_265 : decode cX5_next 265 = .ok (.bipush 59, 2) := by decide +kernel
theorem dX5_next_267 : decode cX5_next 267 = .ok (.if_icmp .eq 33, 3) := by decide +kernel
theorem dX5_next_270 : decode cX5_next 270 = .ok (.iload_n 1, 1) := by decide +kernel
theorem dX5_next_271 : decode cX5_next 271 = .ok (.bipush 43, 2) := by decide +kernel
theorem dX5_next_273 : decode cX5_next 273 = .ok (.if_icmp .eq 27, 3) := by decide +kernel
theorem dX5_next_276 : decode cX5_next 276 = .ok (.iload_n 1, 1) := by decide +kernel
theorem dX5_next_277 : decode cX5_next 277 = .ok (.bipush 45, 2) := by decide +kernel
theorem dX5_next_279 : decode cX5_next 279 = .ok (.if_icmp .eq 21, 3) := by decide +kernel
theorem dX5_next_282 : decode cX5_next 282 = .ok (.iload_n 1, 1) := by decide +kernel
theorem dX5_next_283 : decode cX5_next 283 = .ok (.bipush 42, 2) := by decide +kernel
theorem dX5_next_285 : decode cX5_next 285 = .ok (.if_icmp .eq 15, 3) := by decide +kernel
theorem dX5_next_288 : decode cX5_next 288 = .ok (.iload_n 1, 1) := by decide +kernel
theorem dX5_next_289 : decode cX5_next 289 = .ok (.bipush 60, 2) := by decide +kernel
theorem dX5_next_291 : decode cX5_next 291 = .ok (.if_icmp .eq 9, 3) := by decide +kernel
theorem dX5_next_294 : decode cX5_next 294 = .ok (.iload_n 1, 1) := by decide +kernel
theorem dX5_next_295 : decode cX5_next 295 = .ok (.bipush 61, 2) := by decide +kernel
theorem dX5_next_297 : decode cX5_next 297 = .ok (.if_icmp .ne 24, 3) := by decide +kernel
theorem dX5_next_300 : decode cX5_next 300 = .ok (.aload_n 0, 1) := by decide +kernel
theorem dX5_next_301 : decode cX5_next 301 = .ok (.iconst 3, 1) := by decide +kernel
theorem dX5_next_302 : decode cX5_next 302 = .ok (.putfield 148, 3) := by decide +kernel
theorem dX5_next_305 : decode cX5_next 305 = .ok (.aload_n 0, 1) := by decide +kernel
theorem dX5_next_306 : decode cX5_next 306 = .ok (.iload_n 1, 1) := by decide +kernel
theorem dX5_next_307 : decode cX5_next 307 = .ok (.i2l, 1) := by decide +kernel
theorem dX5_next_308 : decode cX5_next 308 = .ok (.putfield 159, 3) := by decide +kernel
theorem dX5_next_311 : decode cX5_next 311 = .ok (.aload_n 0, 1) := by decide +kernel
theorem dX5_next_312 : decode cX5_next 312 = .ok (.dup, 1) := by decide +kernel
theorem dX5_next_313 : decode cX5_next 313 = .ok (.getfield 139, 3) := by decide +kernel
theorem dX5_next_316 : decode cX5_next 316 = .ok (.iconst 1, 1) := by decide +kernel
theorem dX5_next_317 : decode cX5_next 317 = .ok (.iadd, 1) := by decide +kernel
theorem dX5_next_318 : decode cX5_next 318 = .ok (.putfield 139, 3) := by decide +kernel
theorem dX5_next_321 : decode cX5_next 321 = .ok (.return_, 1) := by decide +kernel
theorem dX5_fail_0 : decode cX5_fail 0 = .ok (.aload_n 0, 1) := by decide +kernel
theorem dX5_fail_1 : decode cX5_fail 1 = .ok (.getfield 163, 3) := by decide +kernel
theorem dX5_fail_4 : decode cX5_fail 4 = .ok (.ifCond .ne 16, 3) := by decide +kernel
theorem dX5_fail_7 : decode cX5_fail 7 = .ok (.aload_n 0, 1) := by decide +kernel
theorem dX5_fail_8 : decode cX5_fail 8 = .ok (.iconst 1, 1) := by decide +kernel
theorem dX5_fail_9 : decode cX5_fail 9 = .ok (.putfield 163, 3) := by decide +kernel
theorem dX5_fail_12 : decode cX5_fail 12 = .ok (.aload_n 0, 1) := by decide +kernel
theorem dX5_fail_13 : decode cX5_fail 13 = .ok (.aload_n 0, 1) := by decide +kernel
theorem dX5_fail_14 : decode cX5_fail 14 = .ok (.getfield 145, 3) := by decide +kernel
theorem dX5_fail_17 : decode cX5_fail 17 = .ok (.putfield 167, 3) := by decide +kernel
theorem dX5_fail_20 : decode cX5_fail 20 = .ok (.return_, 1) := by decide +kernel
theorem dX5_isLetter_0 : decode cX5_isLetter 0 = .ok (.aload_n 0, 1) := by decide +kernel
theorem dX5_isLetter_1 : decode cX5_isLetter 1 = .ok (.getfield 145, 3) := by decide +kernel
theorem dX5_isLetter_4 : decode cX5_isLetter 4 = .ok (.iload_n 1, 1) := by decide +kernel
theorem dX5_isLetter_5 : decode cX5_isLetter 5 = .ok (.iadd, 1) := by decide +kernel
theorem dX5_isLetter_6 : decode cX5_isLetter 6 = .ok (.aload_n 0, 1) := by decide +kernel
theorem dX5_isLetter_7 : decode cX5_isLetter 7 = .ok (.getfield 139, 3) := by decide +kernel
theorem dX5_isLetter_10 : decode cX5_isLetter 10 = .ok (.if_icmp .ge 25, 3) := by decide +kernel
theorem dX5_isLetter_13 : decode cX5_isLetter 13 = .ok (.aload_n 0, 1) := by decide +kernel
theorem dX5_isLetter_14 : decode cX5_isLetter 14 = .ok (.aload_n 0, 1) := by decide +kernel
theorem dX5_isLetter_15 : decode cX5_isLetter 15 = .ok (.getfield 145, 3) := by decide +kernel
theorem dX5_isLetter_18 : decode cX5_isLetter 18 = .ok (.iload_n 1, 1) := by decide +kernel
theorem dX5_isLetter_19 : decode cX5_isLetter 19 = .ok (.iadd, 1) := by decide +kernel
theorem dX5_isLetter_20 : decode cX5_isLetter 20 = .ok (.invokevirtual 142, 3) := by decide +kernel
theorem dX5_isLetter_23 : decode cX5_isLetter 23 = .ok (.iload_n 2, 1) := by decide +kernel
theorem dX5_isLetter_24 : decode cX5_isLetter 24 = .ok (.if_icmp .ne 7, 3) := by decide +kernel
theorem dX5_isLetter_27 : decode cX5_isLetter 27 = .ok (.iconst 1, 1) := by decide +kernel
theorem dX5_isLetter_28 : decode cX5_isLetter 28 = .ok (.goto 16, 3) := by decide +kernel
theorem dX5_isLetter_31 : decode cX5_isLetter 31 = .ok (.iconst 0, 1) := by decide +kernel
theorem dX5_isLetter_32 : decode cX5_isLetter 32 = .ok (.goto 12, 3) := by decide +kernel
theorem dX5_isLetter_35 : decode cX5_isLetter 35 = .ok (.iload_n 2, 1) := by decide +kernel
theorem dX5_isLetter_36 : decode cX5_isLetter 36 = .ok (.ifCond .ne 7, 3) := by decide +kernel
theorem dX5_isLetter_39 : decode cX5_isLetter 39 = .ok (.iconst 1, 1) := by decide +kernel
theorem dX5_isLetter_40 : decode cX5_isLetter 40 = .ok (.goto 4, 3) := by decide +kernel
theorem dX5_isLetter_43 : decode cX5_isLetter 43 = .ok (.iconst 0, 1) := by decide +kernel
theorem dX5_isLetter_44 : decode cX5_isLetter 44 = .ok (.ireturn, 1) := by decide +kernel
theorem dX5_isWord_0 : decode cX5_isWord 0 = .ok (.aload_n 0, 1) := by decide +kernel
theorem dX5_isWord_1 : decode cX5_isWord 1 = .ok (.getfield 163, 3) := by decide +kernel
theorem dX5_isWord_4 : decode cX5_isWord 4 = .ok (.ifCond .ne 108, 3) := by decide +kernel
theorem dX5_isWord_7 : decode cX5_isWord 7 = .ok (.aload_n 0, 1) := by decide +kernel
theorem dX5_isWord_8 : decode cX5_isWord 8 = .ok (.getfield 148, 3) := by decide +kernel
theorem dX5_isWord_11 : decode cX5_isWord 11 = .ok (.iconst 1, 1) := by decide +kernel
theorem dX5_isWord_12 : decode cX5_isWord 12 = .ok (.if_icmp .ne 100, 3) := by decide +kernel
theorem dX5_isWord_15 : decode cX5_isWord 15 = .ok (.aload_n 0, 1) := by decide +kernel
theorem dX5_isWord_16 : decode cX5_isWord 16 = .ok (.getfield 139, 3) := by decide +kernel
theorem dX5_isWord_19 : decode cX5_isWord 19 = .ok (.aload_n 0, 1) := by decide +kernel
theorem dX5_isWord_20 : decode cX5_isWord 20 = .ok (.getfield 145, 3) := by decide +kernel
theorem dX5_isWord_23 : decode cX5_isWord 23 = .ok (.bipush 8, 2) := by decide +kernel
theorem dX5_isWord_25 : decode cX5_isWord 25 = .ok (.iadd, 1) := by decide +kernel
theorem dX5_isWord_26 : decode cX5_isWord 26 = .ok (.if_icmp .gt 86, 3) := by decide +kernel
theorem dX5_isWord_29 : decode cX5_isWord 29 = .ok (.aload_n 0, 1) := by decide +kernel
theorem dX5_isWord_30 : decode cX5_isWord 30 = .ok (.iconst 0, 1) := by decide +kernel
theorem dX5_isWord_31 : decode cX5_isWord 31 = .ok (.iload_n 1, 1) := by decide +kernel
theorem dX5_isWord_32 : decode cX5_isWord 32 = .ok (.invokevirtual 170, 3) := by decide +kernel
theorem dX5_isWord_35 : decode cX5_isWord 35 = .ok (.ifCond .eq 77, 3) := by decide +kernel
theorem dX5_isWord_38 : decode cX5_isWord 38 = .ok (.aload_n 0, 1) := by decide +kernel
theorem dX5_isWord_39 : decode cX5_isWord 39 = .ok (.iconst 1, 1) := by decide +kernel
theorem dX5_isWord_40 : decode cX5_isWord 40 = .ok (.iload_n 2, 1) := by decide +kernel
theorem dX5_isWord_41 : decode cX5_isWord 41 = .ok (.invokevirtual 170, 3) := by decide +kernel
theorem dX5_isWord_44 : decode cX5_isWord 44 = .ok (.ifCond .eq 68, 3) := by decide +kernel
theorem dX5_isWord_47 : decode cX5_isWord 47 = .ok (.aload_n 0, 1) := by decide +kernel
theorem dX5_isWord_48 : decode cX5_isWord 48 = .ok (.iconst 2, 1) := by decide +kernel
theorem dX5_isWord_49 : decode cX5_isWord 49 = .ok (.iload_n 3, 1) := by decide +kernel
theorem dX5_isWord_50 : decode cX5_isWord 50 = .ok (.invokevirtual 170, 3) := by decide +kernel
theorem dX5_isWord_53 : decode cX5_isWord 53 = .ok (.ifCond .eq 59, 3) := by decide +kernel
theorem dX5_isWord_56 : decode cX5_isWord 56 = .ok (.aload_n 0, 1) := by decide +kernel
theorem dX5_isWord_57 : decode cX5_isWord 57 = .ok (.iconst 3, 1) := by decide +kernel
theorem dX5_isWord_58 : decode cX5_isWord 58 = .ok (.iload 4, 2) := by decide +kernel
theorem dX5_isWord_60 : decode cX5_isWord 60 = .ok (.invokevirtual 170, 3) := by decide +kernel
theorem dX5_isWord_63 : decode cX5_isWord 63 = .ok (.ifCond .eq 49, 3) := by decide +kernel
theorem dX5_isWord_66 : decode cX5_isWord 66 = .ok (.aload_n 0, 1) := by decide +kernel
theorem dX5_isWord_67 : decode cX5_isWord 67 = .ok (.iconst 4, 1) := by decide +kernel
theorem dX5_isWord_68 : decode cX5_isWord 68 = .ok (.iload 5, 2) := by decide +kernel
theorem dX5_isWord_70 : decode cX5_isWord 70 = .ok (.invokevirtual 170, 3) := by decide +kernel
theorem dX5_isWord_73 : decode cX5_isWord 73 = .ok (.ifCond .eq 39, 3) := by decide +kernel
theorem dX5_isWord_76 : decode cX5_isWord 76 = .ok (.aload_n 0, 1) := by decide +kernel
theorem dX5_isWord_77 : decode cX5_isWord 77 = .ok (.iconst 5, 1) := by decide +kernel
theorem dX5_isWord_78 : decode cX5_isWord 78 = .ok (.iload 6, 2) := by decide +kernel
theorem dX5_isWord_80 : decode cX5_isWord 80 = .ok (.invokevirtual 170, 3) := by decide +kernel
theorem dX5_isWord_83 : decode cX5_isWord 83 = .ok (.ifCond .eq 29, 3) := by decide +kernel
theorem dX5_isWord_86 : decode cX5_isWord 86 = .ok (.aload_n 0, 1) := by decide +kernel
theorem dX5_isWord_87 : decode cX5_isWord 87 = .ok (.bipush 6, 2) := by decide +kernel
theorem dX5_isWord_89 : decode cX5_isWord 89 = .ok (.iload 7, 2) := by decide +kernel
theorem dX5_isWord_91 : decode cX5_isWord 91 = .ok (.invokevirtual 170, 3) := by decide +kernel
theorem dX5_isWord_94 : decode cX5_isWord 94 = .ok (.ifCond .eq 18, 3) := by decide +kernel
theorem dX5_isWord_97 : decode cX5_isWord 97 = .ok (.aload_n 0, 1) := by decide +kernel
theorem dX5_isWord_98 : decode cX5_isWord 98 = .ok (.bipush 7, 2) := by decide +kernel
theorem dX5_isWord_100 : decode cX5_isWord 100 = .ok (.iload 8, 2) := by decide +kernel
theorem dX5_isWord_102 : decode cX5_isWord 102 = .ok (.invokevirtual 170, 3) := by decide +kernel
theorem dX5_isWord_105 : decode cX5_isWord 105 = .ok (.ifCond .eq 7, 3) := by decide +kernel
theorem dX5_isWord_108 : decode cX5_isWord 108 = .ok (.iconst 1, 1) := by decide +kernel
theorem dX5_isWord_109 : decode cX5_isWord 109 = .ok (.goto 4, 3) := by decide +kernel
theorem dX5_isWord_112 : decode cX5_isWord 112 = .ok (.iconst 0, 1) := by decide +kernel
theorem dX5_isWord_113 : decode cX5_isWord 113 = .ok (.ireturn, 1) := by decide +kernel
theorem dX5_isSign_0 : decode cX5_isSign 0 = .ok (.aload_n 0, 1) := by decide +kernel
theorem dX5_isSign_1 : decode cX5_isSign 1 = .ok (.getfield 163, 3) := by decide +kernel
theorem dX5_isSign_4 : decode cX5_isSign 4 = .ok (.ifCond .ne 25, 3) := by decide +kernel
theorem dX5_isSign_7 : decode cX5_isSign 7 = .ok (.aload_n 0, 1) := by decide +kernel
theorem dX5_isSign_8 : decode cX5_isSign 8 = .ok (.getfield 148, 3) := by decide +kernel
theorem dX5_isSign_11 : decode cX5_isSign 11 = .ok (.iconst 3, 1) := by decide +kernel
theorem dX5_isSign_12 : decode cX5_isSign 12 = .ok (.if_icmp .ne 17, 3) := by decide +kernel
theorem dX5_isSign_15 : decode cX5_isSign 15 = .ok (.aload_n 0, 1) := by decide +kernel
theorem dX5_isSign_16 : decode cX5_isSign 16 = .ok (.getfield 159, 3) := by decide +kernel
theorem dX5_isSign_19 : decode cX5_isSign 19 = .ok (.iload_n 1, 1) := by decide +kernel
theorem dX5_isSign_20 : decode cX5_isSign 20 = .ok (.i2l, 1) := by decide +kernel
theorem dX5_isSign_21 : decode cX5_isSign 21 = .ok (.lcmp, 1) := by decide +kernel
theorem dX5_isSign_22 : decode cX5_isSign 22 = .ok (.ifCond .ne 7, 3) := by decide +kernel
theorem dX5_isSign_25 : decode cX5_isSign 25 = .ok (.iconst 1, 1) := by decide +kernel
theorem dX5_isSign_26 : decode cX5_isSign 26 = .ok (.goto 4, 3) := by decide +kernel
theorem dX5_isSign_29 : decode cX5_isSign 29 = .ok (.iconst 0, 1) := by decide +kernel
theorem dX5_isSign_30 : decode cX5_isSign 30 = .ok (.ireturn, 1) := by decide +kernel
theorem dX5_opens_0 : decode cX5_opens 0 = .ok (.aload_n 0, 1) := by decide +kernel
theorem dX5_opens_1 : decode cX5_opens 1 = .ok (.getfield 173, 3) := by decide +kernel
theorem dX5_opens_4 : decode cX5_opens 4 = .ok (.iconst 5, 1) := by decide +kernel
theorem dX5_opens_5 : decode cX5_opens 5 = .ok (.if_icmp .ne 9, 3) := by decide +kernel
theorem dX5_opens_8 : decode cX5_opens 8 = .ok (.aload_n 0, 1) := by decide +kernel
theorem dX5_opens_9 : decode cX5_opens 9 = .ok (.invokevirtual 176, 3) := by decide +kernel
theorem dX5_opens_12 : decode cX5_opens 12 = .ok (.iconst 0, 1) := by decide +kernel
theorem dX5_opens_13 : decode cX5_opens 13 = .ok (.ireturn, 1) := by decide +kernel
theorem dX5_opens_14 : decode cX5_opens 14 = .ok (.aload_n 0, 1) := by decide +kernel
theorem dX5_opens_15 : decode cX5_opens 15 = .ok (.dup, 1) := by decide +kernel
theorem dX5_opens_16 : decode cX5_opens 16 = .ok (.getfield 173, 3) := by decide +kernel
theorem dX5_opens_19 : decode cX5_opens 19 = .ok (.iconst 1, 1) := by decide +kernel
theorem dX5_opens_20 : decode cX5_opens 20 = .ok (.iadd, 1) := by decide +kernel
theorem dX5_opens_21 : decode cX5_opens 21 = .ok (.putfield 173, 3) := by decide +kernel
theorem dX5_opens_24 : decode cX5_opens 24 = .ok (.aload_n 0, 1) := by decide +kernel
theorem dX5_opens_25 : decode cX5_opens 25 = .ok (.invokevirtual 179, 3) := by decide +kernel
theorem dX5_opens_28 : decode cX5_opens 28 = .ok (.iconst 1, 1) := by decide +kernel
theorem dX5_opens_29 : decode cX5_opens 29 = .ok (.ireturn, 1) := by decide +kernel
theorem dX5_name_0 : decode cX5_name 0 = .ok (.aload_n 0, 1) := by decide +kernel
theorem dX5_name_1 : decode cX5_name 1 = .ok (.bipush 104, 2) := by decide +kernel
theorem dX5_name_3 : decode cX5_name 3 = .ok (.bipush 101, 2) := by decide +kernel
theorem dX5_name_5 : decode cX5_name 5 = .ok (.bipush 105, 2) := by decide +kernel
theorem dX5_name_7 : decode cX5_name 7 = .ok (.bipush 103, 2) := by decide +kernel
theorem dX5_name_9 : decode cX5_name 9 = .ok (.bipush 104, 2) := by decide +kernel
theorem dX5_name_11 : decode cX5_name 11 = .ok (.bipush 116, 2) := by decide +kernel
theorem dX5_name_13 : decode cX5_name 13 = .ok (.iconst 0, 1) := by decide +kernel
theorem dX5_name_14 : decode cX5_name 14 = .ok (.iconst 0, 1) := by decide +kernel
theorem dX5_name_15 : decode cX5_name 15 = .ok (.invokevirtual 182, 3) := by decide +kernel
theorem dX5_name_18 : decode cX5_name 18 = .ok (.ifCond .eq 8, 3) := by decide +kernel
theorem dX5_name_21 : decode cX5_name 21 = .ok (.aload_n 0, 1) := by decide +kernel
theorem dX5_name_22 : decode cX5_name 22 = .ok (.getfield 186, 3) := by decide +kernel
theorem dX5_name_25 : decode cX5_name 25 = .ok (.ireturn, 1) := by decide +kernel
theorem dX5_name_26 : decode cX5_name 26 = .ok (.aload_n 0, 1) := by decide +kernel
theorem dX5_name_27 : decode cX5_name 27 = .ok (.bipush 112, 2) := by decide +kernel
theorem dX5_name_29 : decode cX5_name 29 = .ok (.bipush 101, 2) := by decide +kernel
theorem dX5_name_31 : decode cX5_name 31 = .ok (.bipush 97, 2) := by decide +kernel
theorem dX5_name_33 : decode cX5_name 33 = .ok (.bipush 116, 2) := by decide +kernel
theorem dX5_name_35 : decode cX5_name 35 = .ok (.iconst 0, 1) := by decide +kernel
theorem dX5_name_36 : decode cX5_name 36 = .ok (.iconst 0, 1) := by decide +kernel
theorem dX5_name_37 : decode cX5_name 37 = .ok (.iconst 0, 1) := by decide +kernel
theorem dX5_name_38 : decode cX5_name 38 = .ok (.iconst 0, 1) := by decide +kernel
theorem dX5_name_39 : decode cX5_name 39 = .ok (.invokevirtual 182, 3) := by decide +kernel
theorem dX5_name_42 : decode cX5_name 42 = .ok (.ifCond .eq 8, 3) := by decide +kernel
theorem dX5_name_45 : decode cX5_name 45 = .ok (.aload_n 0, 1) := by decide +kernel
theorem dX5_name_46 : decode cX5_name 46 = .ok (.getfield 189, 3) := by decide +kernel
theorem dX5_name_49 : decode cX5_name 49 = .ok (.ireturn, 1) := by decide +kernel
theorem dX5_name_50 : decode cX5_name 50 = .ok (.aload_n 0, 1) := by decide +kernel
theorem dX5_name_51 : decode cX5_name 51 = .ok (.bipush 121, 2) := by decide +kernel
theorem dX5_name_53 : decode cX5_name 53 = .ok (.bipush 101, 2) := by decide +kernel
theorem dX5_name_55 : decode cX5_name 55 = .ok (.bipush 97, 2) := by decide +kernel
theorem dX5_name_57 : decode cX5_name 57 = .ok (.bipush 114, 2) := by decide +kernel
theorem dX5_name_59 : decode cX5_name 59 = .ok (.iconst 0, 1) := by decide +kernel
theorem dX5_name_60 : decode cX5_name 60 = .ok (.iconst 0, 1) := by decide +kernel
theorem dX5_name_61 : decode cX5_name 61 = .ok (.iconst 0, 1) := by decide +kernel
theorem dX5_name_62 : decode cX5_name 62 = .ok (.iconst 0, 1) := by decide +kernel
theorem dX5_name_63 : decode cX5_name 63 = .ok (.invokevirtual 182, 3) := by decide +kernel
theorem dX5_name_66 : decode cX5_name 66 = .ok (.ifCond .eq 8, 3) := by decide +kernel
theorem dX5_name_69 : decode cX5_name 69 = .ok (.aload_n 0, 1) := by decide +kernel
theorem dX5_name_70 : decode cX5_name 70 = .ok (.getfield 192, 3) := by decide +kernel
theorem dX5_name_73 : decode cX5_name 73 = .ok (.ireturn, 1) := by decide +kernel
theorem dX5_name_74 : decode cX5_name 74 = .ok (.aload_n 0, 1) := by decide +kernel
theorem dX5_name_75 : decode cX5_name 75 = .ok (.bipush 110, 2) := by decide +kernel
theorem dX5_name_77 : decode cX5_name 77 = .ok (.bipush 117, 2) := by decide +kernel
theorem dX5_name_79 : decode cX5_name 79 = .ok (.bipush 109, 2) := by decide +kernel
theorem dX5_name_81 : decode cX5_name 81 = .ok (.bipush 98, 2) := by decide +kernel
theorem dX5_name_83 : decode cX5_name 83 = .ok (.bipush 101, 2) := by decide +kernel
theorem dX5_name_85 : decode cX5_name 85 = .ok (.bipush 114, 2) := by decide +kernel
theorem dX5_name_87 : decode cX5_name 87 = .ok (.iconst 0, 1) := by decide +kernel
theorem dX5_name_88 : decode cX5_name 88 = .ok (.iconst 0, 1) := by decide +kernel
theorem dX5_name_89 : decode cX5_name 89 = .ok (.invokevirtual 182, 3) := by decide +kernel
theorem dX5_name_92 : decode cX5_name 92 = .ok (.ifCond .eq 8, 3) := by decide +kernel
theorem dX5_name_95 : decode cX5_name 95 = .ok (.aload_n 0, 1) := by decide +kernel
theorem dX5_name_96 : decode cX5_name 96 = .ok (.getfield 195, 3) := by decide +kernel
theorem dX5_name_99 : decode cX5_name 99 = .ok (.ireturn, 1) := by decide +kernel
theorem dX5_name_100 : decode cX5_name 100 = .ok (.aload_n 0, 1) := by decide +kernel
theorem dX5_name_101 : decode cX5_name 101 = .ok (.bipush 119, 2) := by decide +kernel
theorem dX5_name_103 : decode cX5_name 103 = .ok (.bipush 97, 2) := by decide +kernel
theorem dX5_name_105 : decode cX5_name 105 = .ok (.bipush 116, 2) := by decide +kernel
theorem dX5_name_107 : decode cX5_name 107 = .ok (.bipush 101, 2) := by decide +kernel
theorem dX5_name_109 : decode cX5_name 109 = .ok (.bipush 114, 2) := by decide +kernel
theorem dX5_name_111 : decode cX5_name 111 = .ok (.iconst 0, 1) := by decide +kernel
theorem dX5_name_112 : decode cX5_name 112 = .ok (.iconst 0, 1) := by decide +kernel
theorem dX5_name_113 : decode cX5_name 113 = .ok (.iconst 0, 1) := by decide +kernel
theorem dX5_name_114 : decode cX5_name 114 = .ok (.invokevirtual 182, 3) := by decide +kernel
theorem dX5_name_117 : decode cX5_name 117 = .ok (.ifCond .eq 8, 3) := by decide +kernel
theorem dX5_name_120 : decode cX5_name 120 = .ok (.aload_n 0, 1) := by decide +kernel
theorem dX5_name_121 : decode cX5_name 121 = .ok (.getfield 198, 3) := by decide +kernel
theorem dX5_name_124 : decode cX5_name 124 = .ok (.ireturn, 1) := by decide +kernel
theorem dX5_name_125 : decode cX5_name 125 = .ok (.aload_n 0, 1) := by decide +kernel
theorem dX5_name_126 : decode cX5_name 126 = .ok (.bipush 99, 2) := by decide +kernel
theorem dX5_name_128 : decode cX5_name 128 = .ok (.bipush 101, 2) := by decide +kernel
theorem dX5_name_130 : decode cX5_name 130 = .ok (.bipush 108, 2) := by decide +kernel
theorem dX5_name_132 : decode cX5_name 132 = .ok (.bipush 108, 2) := by decide +kernel
theorem dX5_name_134 : decode cX5_name 134 = .ok (.iconst 0, 1) := by decide +kernel
theorem dX5_name_135 : decode cX5_name 135 = .ok (.iconst 0, 1) := by decide +kernel
theorem dX5_name_136 : decode cX5_name 136 = .ok (.iconst 0, 1) := by decide +kernel
theorem dX5_name_137 : decode cX5_name 137 = .ok (.iconst 0, 1) := by decide +kernel
theorem dX5_name_138 : decode cX5_name 138 = .ok (.invokevirtual 182, 3) := by decide +kernel
theorem dX5_name_141 : decode cX5_name 141 = .ok (.ifCond .eq 8, 3) := by decide +kernel
theorem dX5_name_144 : decode cX5_name 144 = .ok (.aload_n 0, 1) := by decide +kernel
theorem dX5_name_145 : decode cX5_name 145 = .ok (.getfield 201, 3) := by decide +kernel
theorem dX5_name_148 : decode cX5_name 148 = .ok (.ireturn, 1) := by decide +kernel
theorem dX5_name_149 : decode cX5_name 149 = .ok (.aload_n 0, 1) := by decide +kernel
theorem dX5_name_150 : decode cX5_name 150 = .ok (.invokevirtual 176, 3) := by decide +kernel
theorem dX5_name_153 : decode cX5_name 153 = .ok (.iconst 0, 1) := by decide +kernel
theorem dX5_name_154 : decode cX5_name 154 = .ok (.ireturn, 1) := by decide +kernel
theorem dX5_atom5_0 : decode cX5_atom5 0 = .ok (.iconst 0, 1) := by decide +kernel
theorem dX5_atom5_1 : decode cX5_atom5 1 = .ok (.istore_n 1, 1) := by decide +kernel
theorem dX5_atom5_2 : decode cX5_atom5 2 = .ok (.aload_n 0, 1) := by decide +kernel
theorem dX5_atom5_3 : decode cX5_atom5 3 = .ok (.bipush 45, 2) := by decide +kernel
theorem dX5_atom5_5 : decode cX5_atom5 5 = .ok (.invokevirtual 204, 3) := by decide +kernel
theorem dX5_atom5_8 : decode cX5_atom5 8 = .ok (.ifCond .eq 11, 3) := by decide +kernel
theorem dX5_atom5_11 : decode cX5_atom5 11 = .ok (.aload_n 0, 1) := by decide +kernel
theorem dX5_atom5_12 : decode cX5_atom5 12 = .ok (.invokevirtual 207, 3) := by decide +kernel
theorem dX5_atom5_15 : decode cX5_atom5 15 = .ok (.pop, 1) := by decide +kernel
theorem dX5_atom5_16 : decode cX5_atom5 16 = .ok (.goto 86, 3) := by decide +kernel
theorem dX5_atom5_19 : decode cX5_atom5 19 = .ok (.aload_n 0, 1) := by decide +kernel
theorem dX5_atom5_20 : decode cX5_atom5 20 = .ok (.bipush 40, 2) := by decide +kernel
theorem dX5_atom5_22 : decode cX5_atom5 22 = .ok (.invokevirtual 204, 3) := by decide +kernel
theorem dX5_atom5_25 : decode cX5_atom5 25 = .ok (.ifCond .eq 11, 3) := by decide +kernel
theorem dX5_atom5_28 : decode cX5_atom5 28 = .ok (.aload_n 0, 1) := by decide +kernel
theorem dX5_atom5_29 : decode cX5_atom5 29 = .ok (.invokevirtual 207, 3) := by decide +kernel
theorem dX5_atom5_32 : decode cX5_atom5 32 = .ok (.pop, 1) := by decide +kernel
theorem dX5_atom5_33 : decode cX5_atom5 33 = .ok (.goto 69, 3) := by decide +kernel
theorem dX5_atom5_36 : decode cX5_atom5 36 = .ok (.aload_n 0, 1) := by decide +kernel
theorem dX5_atom5_37 : decode cX5_atom5 37 = .ok (.getfield 163, 3) := by decide +kernel
theorem dX5_atom5_40 : decode cX5_atom5 40 = .ok (.ifCond .ne 24, 3) := by decide +kernel
theorem dX5_atom5_43 : decode cX5_atom5 43 = .ok (.aload_n 0, 1) := by decide +kernel
theorem dX5_atom5_44 : decode cX5_atom5 44 = .ok (.getfield 148, 3) := by decide +kernel
theorem dX5_atom5_47 : decode cX5_atom5 47 = .ok (.iconst 2, 1) := by decide +kernel
theorem dX5_atom5_48 : decode cX5_atom5 48 = .ok (.if_icmp .ne 16, 3) := by decide +kernel
theorem dX5_atom5_51 : decode cX5_atom5 51 = .ok (.aload_n 0, 1) := by decide +kernel
theorem dX5_atom5_52 : decode cX5_atom5 52 = .ok (.getfield 159, 3) := by decide +kernel
theorem dX5_atom5_55 : decode cX5_atom5 55 = .ok (.l2i, 1) := by decide +kernel
theorem dX5_atom5_56 : decode cX5_atom5 56 = .ok (.istore_n 1, 1) := by decide +kernel
theorem dX5_atom5_57 : decode cX5_atom5 57 = .ok (.aload_n 0, 1) := by decide +kernel
theorem dX5_atom5_58 : decode cX5_atom5 58 = .ok (.invokevirtual 179, 3) := by decide +kernel
theorem dX5_atom5_61 : decode cX5_atom5 61 = .ok (.goto 41, 3) := by decide +kernel
theorem dX5_atom5_64 : decode cX5_atom5 64 = .ok (.aload_n 0, 1) := by decide +kernel
theorem dX5_atom5_65 : decode cX5_atom5 65 = .ok (.getfield 163, 3) := by decide +kernel
theorem dX5_atom5_68 : decode cX5_atom5 68 = .ok (.ifCond .ne 30, 3) := by decide +kernel
theorem dX5_atom5_71 : decode cX5_atom5 71 = .ok (.aload_n 0, 1) := by decide +kernel
theorem dX5_atom5_72 : decode cX5_atom5 72 = .ok (.getfield 148, 3) := by decide +kernel
theorem dX5_atom5_75 : decode cX5_atom5 75 = .ok (.iconst 1, 1) := by decide +kernel
theorem dX5_atom5_76 : decode cX5_atom5 76 = .ok (.if_icmp .ne 22, 3) := by decide +kernel
theorem dX5_atom5_79 : decode cX5_atom5 79 = .ok (.aload_n 0, 1) := by decide +kernel
theorem dX5_atom5_80 : decode cX5_atom5 80 = .ok (.invokevirtual 211, 3) := by decide +kernel
theorem dX5_atom5_83 : decode cX5_atom5 83 = .ok (.istore_n 1, 1) := by decide +kernel
theorem dX5_atom5_84 : decode cX5_atom5 84 = .ok (.aload_n 0, 1) := by decide +kernel
theorem dX5_atom5_85 : decode cX5_atom5 85 = .ok (.getfield 163, 3) := by decide +kernel
theorem dX5_atom5_88 : decode cX5_atom5 88 = .ok (.ifCond .ne 14, 3) := by decide +kernel
theorem dX5_atom5_91 : decode cX5_atom5 91 = .ok (.aload_n 0, 1) := by decide +kernel
theorem dX5_atom5_92 : decode cX5_atom5 92 = .ok (.invokevirtual 179, 3) := by decide +kernel
theorem dX5_atom5_95 : decode cX5_atom5 95 = .ok (.goto 7, 3) := by decide +kernel
theorem dX5_atom5_98 : decode cX5_atom5 98 = .ok (.aload_n 0, 1) := by decide +kernel
theorem dX5_atom5_99 : decode cX5_atom5 99 = .ok (.invokevirtual 176, 3) := by decide +kernel
theorem dX5_atom5_102 : decode cX5_atom5 102 = .ok (.iload_n 1, 1) := by decide +kernel
theorem dX5_atom5_103 : decode cX5_atom5 103 = .ok (.ireturn, 1) := by decide +kernel
theorem dX5_term5_0 : decode cX5_term5 0 = .ok (.aload_n 0, 1) := by decide +kernel
theorem dX5_term5_1 : decode cX5_term5 1 = .ok (.invokevirtual 215, 3) := by decide +kernel
theorem dX5_term5_4 : decode cX5_term5 4 = .ok (.istore_n 1, 1) := by decide +kernel
theorem dX5_term5_5 : decode cX5_term5 5 = .ok (.aload_n 0, 1) := by decide +kernel
theorem dX5_term5_6 : decode cX5_term5 6 = .ok (.bipush 42, 2) := by decide +kernel
theorem dX5_term5_8 : decode cX5_term5 8 = .ok (.invokevirtual 204, 3) := by decide +kernel
theorem dX5_term5_11 : decode cX5_term5 11 = .ok (.ifCond .eq 17, 3) := by decide +kernel
theorem dX5_term5_14 : decode cX5_term5 14 = .ok (.aload_n 0, 1) := by decide +kernel
theorem dX5_term5_15 : decode cX5_term5 15 = .ok (.invokevirtual 179, 3) := by decide +kernel
theorem dX5_term5_18 : decode cX5_term5 18 = .ok (.iload_n 1, 1) := by decide +kernel
theorem dX5_term5_19 : decode cX5_term5 19 = .ok (.aload_n 0, 1) := by decide +kernel
theorem dX5_term5_20 : decode cX5_term5 20 = .ok (.invokevirtual 215, 3) := by decide +kernel
theorem dX5_term5_23 : decode cX5_term5 23 = .ok (.imul, 1) := by decide +kernel
theorem dX5_term5_24 : decode cX5_term5 24 = .ok (.istore_n 1, 1) := by decide +kernel
theorem dX5_term5_25 : decode cX5_term5 25 = .ok (.goto (-20), 3) := by decide +kernel
theorem dX5_term5_28 : decode cX5_term5 28 = .ok (.iload_n 1, 1) := by decide +kernel
theorem dX5_term5_29 : decode cX5_term5 29 = .ok (.ireturn, 1) := by decide +kernel
theorem dX5_added5_0 : decode cX5_added5 0 = .ok (.aload_n 0, 1) := by decide +kernel
theorem dX5_added5_1 : decode cX5_added5 1 = .ok (.invokevirtual 218, 3) := by decide +kernel
theorem dX5_added5_4 : decode cX5_added5 4 = .ok (.istore_n 1, 1) := by decide +kernel
theorem dX5_added5_5 : decode cX5_added5 5 = .ok (.aload_n 0, 1) := by decide +kernel
theorem dX5_added5_6 : decode cX5_added5 6 = .ok (.bipush 43, 2) := by decide +kernel
theorem dX5_added5_8 : decode cX5_added5 8 = .ok (.invokevirtual 204, 3) := by decide +kernel
theorem dX5_added5_11 : decode cX5_added5 11 = .ok (.ifCond .ne 12, 3) := by decide +kernel
theorem dX5_added5_14 : decode cX5_added5 14 = .ok (.aload_n 0, 1) := by decide +kernel
theorem dX5_added5_15 : decode cX5_added5 15 = .ok (.bipush 45, 2) := by decide +kernel
theorem dX5_added5_17 : decode cX5_added5 17 = .ok (.invokevirtual 204, 3) := by decide +kernel
theorem dX5_added5_20 : decode cX5_added5 20 = .ok (.ifCond .eq 46, 3) := by decide +kernel
theorem dX5_added5_23 : decode cX5_added5 23 = .ok (.aload_n 0, 1) := by decide +kernel
theorem dX5_added5_24 : decode cX5_added5 24 = .ok (.getfield 159, 3) := by decide +kernel
theorem dX5_added5_27 : decode cX5_added5 27 = .ok (.ldc2_w 221, 3) := by decide +kernel
theorem dX5_added5_30 : decode cX5_added5 30 = .ok (.lcmp, 1) := by decide +kernel
theorem dX5_added5_31 : decode cX5_added5 31 = .ok (.ifCond .ne 7, 3) := by decide +kernel
theorem dX5_added5_34 : decode cX5_added5 34 = .ok (.iconst 1, 1) := by decide +kernel
theorem dX5_added5_35 : decode cX5_added5 35 = .ok (.goto 4, 3) := by decide +kernel
theorem dX5_added5_38 : decode cX5_added5 38 = .ok (.iconst 0, 1) := by decide +kernel
theorem dX5_added5_39 : decode cX5_added5 39 = .ok (.istore_n 2, 1) := by decide +kernel
theorem dX5_added5_40 : decode cX5_added5 40 = .ok (.aload_n 0, 1) := by decide +kernel
theorem dX5_added5_41 : decode cX5_added5 41 = .ok (.invokevirtual 179, 3) := by decide +kernel
theorem dX5_added5_44 : decode cX5_added5 44 = .ok (.aload_n 0, 1) := by decide +kernel
theorem dX5_added5_45 : decode cX5_added5 45 = .ok (.invokevirtual 218, 3) := by decide +kernel
theorem dX5_added5_48 : decode cX5_added5 48 = .ok (.istore_n 3, 1) := by decide +kernel
theorem dX5_added5_49 : decode cX5_added5 49 = .ok (.iload_n 2, 1) := by decide +kernel
theorem dX5_added5_50 : decode cX5_added5 50 = .ok (.ifCond .eq 9, 3) := by decide +kernel
theorem dX5_added5_53 : decode cX5_added5 53 = .ok (.iload_n 1, 1) := by decide +kernel
theorem dX5_added5_54 : decode cX5_added5 54 = .ok (.iload_n 3, 1) := by decide +kernel
theorem dX5_added5_55 : decode cX5_added5 55 = .ok (.iadd, 1) := by decide +kernel
theorem dX5_added5_56 : decode cX5_added5 56 = .ok (.goto 6, 3) := by decide +kernel
theorem dX5_added5_59 : decode cX5_added5 59 = .ok (.iload_n 1, 1) := by decide +kernel
theorem dX5_added5_60 : decode cX5_added5 60 = .ok (.iload_n 3, 1) := by decide +kernel
theorem dX5_added5_61 : decode cX5_added5 61 = .ok (.isub, 1) := by decide +kernel
theorem dX5_added5_62 : decode cX5_added5 62 = .ok (.istore_n 1, 1) := by decide +kernel
theorem dX5_added5_63 : decode cX5_added5 63 = .ok (.goto (-58), 3) := by decide +kernel
theorem dX5_added5_66 : decode cX5_added5 66 = .ok (.iload_n 1, 1) := by decide +kernel
theorem dX5_added5_67 : decode cX5_added5 67 = .ok (.ireturn, 1) := by decide +kernel
theorem dX5_not5_0 : decode cX5_not5 0 = .ok (.aload_n 0, 1) := by decide +kernel
theorem dX5_not5_1 : decode cX5_not5 1 = .ok (.bipush 110, 2) := by decide +kernel
theorem dX5_not5_3 : decode cX5_not5 3 = .ok (.bipush 111, 2) := by decide +kernel
theorem dX5_not5_5 : decode cX5_not5 5 = .ok (.bipush 116, 2) := by decide +kernel
theorem dX5_not5_7 : decode cX5_not5 7 = .ok (.iconst 0, 1) := by decide +kernel
theorem dX5_not5_8 : decode cX5_not5 8 = .ok (.iconst 0, 1) := by decide +kernel
theorem dX5_not5_9 : decode cX5_not5 9 = .ok (.iconst 0, 1) := by decide +kernel
theorem dX5_not5_10 : decode cX5_not5 10 = .ok (.iconst 0, 1) := by decide +kernel
theorem dX5_not5_11 : decode cX5_not5 11 = .ok (.iconst 0, 1) := by decide +kernel
theorem dX5_not5_12 : decode cX5_not5 12 = .ok (.invokevirtual 182, 3) := by decide +kernel
theorem dX5_not5_15 : decode cX5_not5 15 = .ok (.ifCond .eq 10, 3) := by decide +kernel
theorem dX5_not5_18 : decode cX5_not5 18 = .ok (.aload_n 0, 1) := by decide +kernel
theorem dX5_not5_19 : decode cX5_not5 19 = .ok (.invokevirtual 207, 3) := by decide +kernel
theorem dX5_not5_22 : decode cX5_not5 22 = .ok (.pop, 1) := by decide +kernel
theorem dX5_not5_23 : decode cX5_not5 23 = .ok (.iconst 0, 1) := by decide +kernel
theorem dX5_not5_24 : decode cX5_not5 24 = .ok (.ireturn, 1) := by decide +kernel
theorem dX5_not5_25 : decode cX5_not5 25 = .ok (.aload_n 0, 1) := by decide +kernel
theorem dX5_not5_26 : decode cX5_not5 26 = .ok (.invokevirtual 223, 3) := by decide +kernel
theorem dX5_not5_29 : decode cX5_not5 29 = .ok (.istore_n 1, 1) := by decide +kernel
theorem dX5_not5_30 : decode cX5_not5 30 = .ok (.aload_n 0, 1) := by decide +kernel
theorem dX5_not5_31 : decode cX5_not5 31 = .ok (.bipush 60, 2) := by decide +kernel
theorem dX5_not5_33 : decode cX5_not5 33 = .ok (.invokevirtual 204, 3) := by decide +kernel
theorem dX5_not5_36 : decode cX5_not5 36 = .ok (.ifCond .ne 14, 3) := by decide +kernel
theorem dX5_not5_39 : decode cX5_not5 39 = .ok (.aload_n 0, 1) := by decide +kernel
theorem dX5_not5_40 : decode cX5_not5 40 = .ok (.bipush 61, 2) := by decide +kernel
theorem dX5_not5_42 : decode cX5_not5 42 = .ok (.invokevirtual 204, 3) := by decide +kernel
theorem dX5_not5_45 : decode cX5_not5 45 = .ok (.ifCond .ne 5, 3) := by decide +kernel
theorem dX5_not5_48 : decode cX5_not5 48 = .ok (.iload_n 1, 1) := by decide +kernel
theorem dX5_not5_49 : decode cX5_not5 49 = .ok (.ireturn, 1) := by decide +kernel
theorem dX5_not5_50 : decode cX5_not5 50 = .ok (.aload_n 0, 1) := by decide +kernel
theorem dX5_not5_51 : decode cX5_not5 51 = .ok (.getfield 159, 3) := by decide +kernel
theorem dX5_not5_54 : decode cX5_not5 54 = .ok (.ldc2_w 226, 3) := by decide +kernel
theorem dX5_not5_57 : decode cX5_not5 57 = .ok (.lcmp, 1) := by decide +kernel
theorem dX5_not5_58 : decode cX5_not5 58 = .ok (.ifCond .ne 7, 3) := by decide +kernel
theorem dX5_not5_61 : decode cX5_not5 61 = .ok (.iconst 1, 1) := by decide +kernel
theorem dX5_not5_62 : decode cX5_not5 62 = .ok (.goto 4, 3) := by decide +kernel
theorem dX5_not5_65 : decode cX5_not5 65 = .ok (.iconst 0, 1) := by decide +kernel
theorem dX5_not5_66 : decode cX5_not5 66 = .ok (.istore_n 2, 1) := by decide +kernel
theorem dX5_not5_67 : decode cX5_not5 67 = .ok (.aload_n 0, 1) := by decide +kernel
theorem dX5_not5_68 : decode cX5_not5 68 = .ok (.invokevirtual 179, 3) := by decide +kernel
theorem dX5_not5_71 : decode cX5_not5 71 = .ok (.aload_n 0, 1) := by decide +kernel
theorem dX5_not5_72 : decode cX5_not5 72 = .ok (.invokevirtual 223, 3) := by decide +kernel
theorem dX5_not5_75 : decode cX5_not5 75 = .ok (.istore_n 3, 1) := by decide +kernel
theorem dX5_not5_76 : decode cX5_not5 76 = .ok (.iload_n 2, 1) := by decide +kernel
theorem dX5_not5_77 : decode cX5_not5 77 = .ok (.ifCond .eq 11, 3) := by decide +kernel
theorem dX5_not5_80 : decode cX5_not5 80 = .ok (.iload_n 1, 1) := by decide +kernel
theorem dX5_not5_81 : decode cX5_not5 81 = .ok (.iload_n 3, 1) := by decide +kernel
theorem dX5_not5_82 : decode cX5_not5 82 = .ok (.if_icmp .ge 15, 3) := by decide +kernel
theorem dX5_not5_85 : decode cX5_not5 85 = .ok (.goto 8, 3) := by decide +kernel
theorem dX5_not5_88 : decode cX5_not5 88 = .ok (.iload_n 1, 1) := by decide +kernel
theorem dX5_not5_89 : decode cX5_not5 89 = .ok (.iload_n 3, 1) := by decide +kernel
theorem dX5_not5_90 : decode cX5_not5 90 = .ok (.if_icmp .ne 7, 3) := by decide +kernel
theorem dX5_not5_93 : decode cX5_not5 93 = .ok (.iconst 1, 1) := by decide +kernel
theorem dX5_not5_94 : decode cX5_not5 94 = .ok (.goto 4, 3) := by decide +kernel
theorem dX5_not5_97 : decode cX5_not5 97 = .ok (.iconst 0, 1) := by decide +kernel
theorem dX5_not5_98 : decode cX5_not5 98 = .ok (.ireturn, 1) := by decide +kernel
theorem dX5_both5_0 : decode cX5_both5 0 = .ok (.aload_n 0, 1) := by decide +kernel
theorem dX5_both5_1 : decode cX5_both5 1 = .ok (.invokevirtual 228, 3) := by decide +kernel
theorem dX5_both5_4 : decode cX5_both5 4 = .ok (.istore_n 1, 1) := by decide +kernel
theorem dX5_both5_5 : decode cX5_both5 5 = .ok (.aload_n 0, 1) := by decide +kernel
theorem dX5_both5_6 : decode cX5_both5 6 = .ok (.bipush 97, 2) := by decide +kernel
theorem dX5_both5_8 : decode cX5_both5 8 = .ok (.bipush 110, 2) := by decide +kernel
theorem dX5_both5_10 : decode cX5_both5 10 = .ok (.bipush 100, 2) := by decide +kernel
theorem dX5_both5_12 : decode cX5_both5 12 = .ok (.iconst 0, 1) := by decide +kernel
theorem dX5_both5_13 : decode cX5_both5 13 = .ok (.iconst 0, 1) := by decide +kernel
theorem dX5_both5_14 : decode cX5_both5 14 = .ok (.iconst 0, 1) := by decide +kernel
theorem dX5_both5_15 : decode cX5_both5 15 = .ok (.iconst 0, 1) := by decide +kernel
theorem dX5_both5_16 : decode cX5_both5 16 = .ok (.iconst 0, 1) := by decide +kernel
theorem dX5_both5_17 : decode cX5_both5 17 = .ok (.invokevirtual 182, 3) := by decide +kernel
theorem dX5_both5_20 : decode cX5_both5 20 = .ok (.ifCond .eq 29, 3) := by decide +kernel
theorem dX5_both5_23 : decode cX5_both5 23 = .ok (.aload_n 0, 1) := by decide +kernel
theorem dX5_both5_24 : decode cX5_both5 24 = .ok (.invokevirtual 179, 3) := by decide +kernel
theorem dX5_both5_27 : decode cX5_both5 27 = .ok (.aload_n 0, 1) := by decide +kernel
theorem dX5_both5_28 : decode cX5_both5 28 = .ok (.invokevirtual 228, 3) := by decide +kernel
theorem dX5_both5_31 : decode cX5_both5 31 = .ok (.istore_n 2, 1) := by decide +kernel
theorem dX5_both5_32 : decode cX5_both5 32 = .ok (.iload_n 1, 1) := by decide +kernel
theorem dX5_both5_33 : decode cX5_both5 33 = .ok (.ifCond .eq 11, 3) := by decide +kernel
theorem dX5_both5_36 : decode cX5_both5 36 = .ok (.iload_n 2, 1) := by decide +kernel
theorem dX5_both5_37 : decode cX5_both5 37 = .ok (.ifCond .eq 7, 3) := by decide +kernel
theorem dX5_both5_40 : decode cX5_both5 40 = .ok (.iconst 1, 1) := by decide +kernel
theorem dX5_both5_41 : decode cX5_both5 41 = .ok (.goto 4, 3) := by decide +kernel
theorem dX5_both5_44 : decode cX5_both5 44 = .ok (.iconst 0, 1) := by decide +kernel
theorem dX5_both5_45 : decode cX5_both5 45 = .ok (.istore_n 1, 1) := by decide +kernel
theorem dX5_both5_46 : decode cX5_both5 46 = .ok (.goto (-41), 3) := by decide +kernel
theorem dX5_both5_49 : decode cX5_both5 49 = .ok (.iload_n 1, 1) := by decide +kernel
theorem dX5_both5_50 : decode cX5_both5 50 = .ok (.ireturn, 1) := by decide +kernel
theorem dX5_either5_0 : decode cX5_either5 0 = .ok (.aload_n 0, 1) := by decide +kernel
theorem dX5_either5_1 : decode cX5_either5 1 = .ok (.invokevirtual 231, 3) := by decide +kernel
theorem dX5_either5_4 : decode cX5_either5 4 = .ok (.istore_n 1, 1) := by decide +kernel
theorem dX5_either5_5 : decode cX5_either5 5 = .ok (.aload_n 0, 1) := by decide +kernel
theorem dX5_either5_6 : decode cX5_either5 6 = .ok (.bipush 111, 2) := by decide +kernel
theorem dX5_either5_8 : decode cX5_either5 8 = .ok (.bipush 114, 2) := by decide +kernel
theorem dX5_either5_10 : decode cX5_either5 10 = .ok (.iconst 0, 1) := by decide +kernel
theorem dX5_either5_11 : decode cX5_either5 11 = .ok (.iconst 0, 1) := by decide +kernel
theorem dX5_either5_12 : decode cX5_either5 12 = .ok (.iconst 0, 1) := by decide +kernel
theorem dX5_either5_13 : decode cX5_either5 13 = .ok (.iconst 0, 1) := by decide +kernel
theorem dX5_either5_14 : decode cX5_either5 14 = .ok (.iconst 0, 1) := by decide +kernel
theorem dX5_either5_15 : decode cX5_either5 15 = .ok (.iconst 0, 1) := by decide +kernel
theorem dX5_either5_16 : decode cX5_either5 16 = .ok (.invokevirtual 182, 3) := by decide +kernel
theorem dX5_either5_19 : decode cX5_either5 19 = .ok (.ifCond .eq 29, 3) := by decide +kernel
theorem dX5_either5_22 : decode cX5_either5 22 = .ok (.aload_n 0, 1) := by decide +kernel
theorem dX5_either5_23 : decode cX5_either5 23 = .ok (.invokevirtual 179, 3) := by decide +kernel
theorem dX5_either5_26 : decode cX5_either5 26 = .ok (.aload_n 0, 1) := by decide +kernel
theorem dX5_either5_27 : decode cX5_either5 27 = .ok (.invokevirtual 231, 3) := by decide +kernel
theorem dX5_either5_30 : decode cX5_either5 30 = .ok (.istore_n 2, 1) := by decide +kernel
theorem dX5_either5_31 : decode cX5_either5 31 = .ok (.iload_n 1, 1) := by decide +kernel
theorem dX5_either5_32 : decode cX5_either5 32 = .ok (.ifCond .ne 7, 3) := by decide +kernel
theorem dX5_either5_35 : decode cX5_either5 35 = .ok (.iload_n 2, 1) := by decide +kernel
theorem dX5_either5_36 : decode cX5_either5 36 = .ok (.ifCond .eq 7, 3) := by decide +kernel
theorem dX5_either5_39 : decode cX5_either5 39 = .ok (.iconst 1, 1) := by decide +kernel
theorem dX5_either5_40 : decode cX5_either5 40 = .ok (.goto 4, 3) := by decide +kernel
theorem dX5_either5_43 : decode cX5_either5 43 = .ok (.iconst 0, 1) := by decide +kernel
theorem dX5_either5_44 : decode cX5_either5 44 = .ok (.istore_n 1, 1) := by decide +kernel
theorem dX5_either5_45 : decode cX5_either5 45 = .ok (.goto (-40), 3) := by decide +kernel
theorem dX5_either5_48 : decode cX5_either5 48 = .ok (.iload_n 1, 1) := by decide +kernel
theorem dX5_either5_49 : decode cX5_either5 49 = .ok (.ireturn, 1) := by decide +kernel
