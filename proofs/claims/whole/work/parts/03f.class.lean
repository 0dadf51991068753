theorem dX0_init_0 : decode cX0_init 0 = .ok (.aload_n 0, 1) := by decide +kernel
theorem dX0_init_1 : decode cX0_init 1 = .ok (.invokespecial 3, 3) := by decide +kernel
theorem dX0_init_4 : decode cX0_init 4 = .ok (.aload_n 0, 1) := by decide +kernel
theorem dX0_init_5 : decode cX0_init 5 = .ok (.bipush 24, 2) := by decide +kernel
theorem dX0_init_7 : decode cX0_init 7 = .ok (.newarray .int, 2) := by decide +kernel
theorem dX0_init_9 : decode cX0_init 9 = .ok (.putfield 9, 3) := by decide +kernel
theorem dX0_init_12 : decode cX0_init 12 = .ok (.aload_n 0, 1) := by decide +kernel
theorem dX0_init_13 : decode cX0_init 13 = .ok (.lconst 0, 1) := by decide +kernel
theorem dX0_init_14 : decode cX0_init 14 = .ok (.putfield 15, 3) := by decide +kernel
theorem dX0_init_17 : decode cX0_init 17 = .ok (.return_, 1) := by decide +kernel
theorem dX0_fewest_0 : decode cX0_fewest 0 = .ok (.aload_n 0, 1) := by decide +kernel
theorem dX0_fewest_1 : decode cX0_fewest 1 = .ok (.lconst 0, 1) := by decide +kernel
theorem dX0_fewest_2 : decode cX0_fewest 2 = .ok (.putfield 15, 3) := by decide +kernel
theorem dX0_fewest_5 : decode cX0_fewest 5 = .ok (.iconst 0, 1) := by decide +kernel
theorem dX0_fewest_6 : decode cX0_fewest 6 = .ok (.istore 4, 2) := by decide +kernel
theorem dX0_fewest_8 : decode cX0_fewest 8 = .ok (.iconst 0, 1) := by decide +kernel
theorem dX0_fewest_9 : decode cX0_fewest 9 = .ok (.istore 5, 2) := by decide +kernel
theorem dX0_fewest_11 : decode cX0_fewest 11 = .ok (.iload 5, 2) := by decide +kernel
theorem dX0_fewest_13 : decode cX0_fewest 13 = .ok (.bipush 40, 2) := by decide +kernel
theorem dX0_fewest_15 : decode cX0_fewest 15 = .ok (.if_icmp .ge 29, 3) := by decide +kernel
theorem dX0_fewest_18 : decode cX0_fewest 18 = .ok (.aload_n 0, 1) := by decide +kernel
theorem dX0_fewest_19 : decode cX0_fewest 19 = .ok (.aload_n 1, 1) := by decide +kernel
theorem dX0_fewest_20 : decode cX0_fewest 20 = .ok (.iload_n 2, 1) := by decide +kernel
theorem dX0_fewest_21 : decode cX0_fewest 21 = .ok (.iload_n 3, 1) := by decide +kernel
theorem dX0_fewest_22 : decode cX0_fewest 22 = .ok (.invokevirtual 19, 3) := by decide +kernel
theorem dX0_fewest_25 : decode cX0_fewest 25 = .ok (.ifCond .eq 19, 3) := by decide +kernel
theorem dX0_fewest_28 : decode cX0_fewest 28 = .ok (.aload_n 0, 1) := by decide +kernel
theorem dX0_fewest_29 : decode cX0_fewest 29 = .ok (.aload_n 1, 1) := by decide +kernel
theorem dX0_fewest_30 : decode cX0_fewest 30 = .ok (.iload_n 2, 1) := by decide +kernel
theorem dX0_fewest_31 : decode cX0_fewest 31 = .ok (.iload_n 3, 1) := by decide +kernel
theorem dX0_fewest_32 : decode cX0_fewest 32 = .ok (.invokevirtual 23, 3) := by decide +kernel
theorem dX0_fewest_35 : decode cX0_fewest 35 = .ok (.iinc 4 1, 3) := by decide +kernel
theorem dX0_fewest_38 : decode cX0_fewest 38 = .ok (.iinc 5 1, 3) := by decide +kernel
theorem dX0_fewest_41 : decode cX0_fewest 41 = .ok (.goto (-30), 3) := by decide +kernel
theorem dX0_fewest_44 : decode cX0_fewest 44 = .ok (.iload 4, 2) := by decide +kernel
theorem dX0_fewest_46 : decode cX0_fewest 46 = .ok (.ireturn, 1) := by decide +kernel
theorem dX0_findWay_0 : decode cX0_findWay 0 = .ok (.iload_n 2, 1) := by decide +kernel
theorem dX0_findWay_1 : decode cX0_findWay 1 = .ok (.istore 4, 2) := by decide +kernel
theorem dX0_findWay_3 : decode cX0_findWay 3 = .ok (.iconst 0, 1) := by decide +kernel
theorem dX0_findWay_4 : decode cX0_findWay 4 = .ok (.istore 5, 2) := by decide +kernel
theorem dX0_findWay_6 : decode cX0_findWay 6 = .ok (.iload 5, 2) := by decide +kernel
theorem dX0_findWay_8 : decode cX0_findWay 8 = .ok (.bipush 24, 2) := by decide +kernel
theorem dX0_findWay_10 : decode cX0_findWay 10 = .ok (.if_icmp .ge 28, 3) := by decide +kernel
theorem dX0_findWay_13 : decode cX0_findWay 13 = .ok (.iload 4, 2) := by decide +kernel
theorem dX0_findWay_15 : decode cX0_findWay 15 = .ok (.iload_n 3, 1) := by decide +kernel
theorem dX0_findWay_16 : decode cX0_findWay 16 = .ok (.invokestatic 27, 3) := by decide +kernel
theorem dX0_findWay_19 : decode cX0_findWay 19 = .ok (.iand, 1) := by decide +kernel
theorem dX0_findWay_20 : decode cX0_findWay 20 = .ok (.ifCond .ne 18, 3) := by decide +kernel
theorem dX0_findWay_23 : decode cX0_findWay 23 = .ok (.aload_n 0, 1) := by decide +kernel
theorem dX0_findWay_24 : decode cX0_findWay 24 = .ok (.aload_n 1, 1) := by decide +kernel
theorem dX0_findWay_25 : decode cX0_findWay 25 = .ok (.iload 4, 2) := by decide +kernel
theorem dX0_findWay_27 : decode cX0_findWay 27 = .ok (.invokevirtual 31, 3) := by decide +kernel
theorem dX0_findWay_30 : decode cX0_findWay 30 = .ok (.istore 4, 2) := by decide +kernel
theorem dX0_findWay_32 : decode cX0_findWay 32 = .ok (.iinc 5 1, 3) := by decide +kernel
theorem dX0_findWay_35 : decode cX0_findWay 35 = .ok (.goto (-29), 3) := by decide +kernel
theorem dX0_findWay_38 : decode cX0_findWay 38 = .ok (.iload 4, 2) := by decide +kernel
theorem dX0_findWay_40 : decode cX0_findWay 40 = .ok (.iload_n 3, 1) := by decide +kernel
theorem dX0_findWay_41 : decode cX0_findWay 41 = .ok (.invokestatic 27, 3) := by decide +kernel
theorem dX0_findWay_44 : decode cX0_findWay 44 = .ok (.iand, 1) := by decide +kernel
theorem dX0_findWay_45 : decode cX0_findWay 45 = .ok (.ifCond .eq 7, 3) := by decide +kernel
theorem dX0_findWay_48 : decode cX0_findWay 48 = .ok (.iconst 1, 1) := by decide +kernel
theorem dX0_findWay_49 : decode cX0_findWay 49 = .ok (.goto 4, 3) := by decide +kernel
theorem dX0_findWay_52 : decode cX0_findWay 52 = .ok (.iconst 0, 1) := by decide +kernel
theorem dX0_findWay_53 : decode cX0_findWay 53 = .ok (.ireturn, 1) := by decide +kernel
theorem dX0_spread_0 : decode cX0_spread 0 = .ok (.iload_n 2, 1) := by decide +kernel
theorem dX0_spread_1 : decode cX0_spread 1 = .ok (.istore_n 3, 1) := by decide +kernel
theorem dX0_spread_2 : decode cX0_spread 2 = .ok (.iconst 0, 1) := by decide +kernel
theorem dX0_spread_3 : decode cX0_spread 3 = .ok (.istore 4, 2) := by decide +kernel
theorem dX0_spread_5 : decode cX0_spread 5 = .ok (.iload 4, 2) := by decide +kernel
theorem dX0_spread_7 : decode cX0_spread 7 = .ok (.aload_n 1, 1) := by decide +kernel
theorem dX0_spread_8 : decode cX0_spread 8 = .ok (.invokevirtual 35, 3) := by decide +kernel
theorem dX0_spread_11 : decode cX0_spread 11 = .ok (.if_icmp .ge 131, 3) := by decide +kernel
theorem dX0_spread_14 : decode cX0_spread 14 = .ok (.aload_n 0, 1) := by decide +kernel
theorem dX0_spread_15 : decode cX0_spread 15 = .ok (.iload 4, 2) := by decide +kernel
theorem dX0_spread_17 : decode cX0_spread 17 = .ok (.invokevirtual 41, 3) := by decide +kernel
theorem dX0_spread_20 : decode cX0_spread 20 = .ok (.ifCond .eq 12, 3) := by decide +kernel
theorem dX0_spread_23 : decode cX0_spread 23 = .ok (.aload_n 1, 1) := by decide +kernel
theorem dX0_spread_24 : decode cX0_spread 24 = .ok (.iload 4, 2) := by decide +kernel
theorem dX0_spread_26 : decode cX0_spread 26 = .ok (.invokevirtual 45, 3) := by decide +kernel
theorem dX0_spread_29 : decode cX0_spread 29 = .ok (.goto 9, 3) := by decide +kernel
theorem dX0_spread_32 : decode cX0_spread 32 = .ok (.aload_n 1, 1) := by decide +kernel
theorem dX0_spread_33 : decode cX0_spread 33 = .ok (.iload 4, 2) := by decide +kernel
theorem dX0_spread_35 : decode cX0_spread 35 = .ok (.invokevirtual 48, 3) := by decide +kernel
theorem dX0_spread_38 : decode cX0_spread 38 = .ok (.istore 5, 2) := by decide +kernel
theorem dX0_spread_40 : decode cX0_spread 40 = .ok (.aload_n 0, 1) := by decide +kernel
theorem dX0_spread_41 : decode cX0_spread 41 = .ok (.iload 4, 2) := by decide +kernel
theorem dX0_spread_43 : decode cX0_spread 43 = .ok (.invokevirtual 41, 3) := by decide +kernel
theorem dX0_spread_46 : decode cX0_spread 46 = .ok (.ifCond .eq 12, 3) := by decide +kernel
theorem dX0_spread_49 : decode cX0_spread 49 = .ok (.aload_n 1, 1) := by decide +kernel
theorem dX0_spread_50 : decode cX0_spread 50 = .ok (.iload 4, 2) := by decide +kernel
theorem dX0_spread_52 : decode cX0_spread 52 = .ok (.invokevirtual 48, 3) := by decide +kernel
theorem dX0_spread_55 : decode cX0_spread 55 = .ok (.goto 9, 3) := by decide +kernel
theorem dX0_spread_58 : decode cX0_spread 58 = .ok (.aload_n 1, 1) := by decide +kernel
theorem dX0_spread_59 : decode cX0_spread 59 = .ok (.iload 4, 2) := by decide +kernel
theorem dX0_spread_61 : decode cX0_spread 61 = .ok (.invokevirtual 45, 3) := by decide +kernel
theorem dX0_spread_64 : decode cX0_spread 64 = .ok (.istore 6, 2) := by decide +kernel
theorem dX0_spread_66 : decode cX0_spread 66 = .ok (.iload_n 3, 1) := by decide +kernel
theorem dX0_spread_67 : decode cX0_spread 67 = .ok (.iload 5, 2) := by decide +kernel
theorem dX0_spread_69 : decode cX0_spread 69 = .ok (.invokestatic 27, 3) := by decide +kernel
theorem dX0_spread_72 : decode cX0_spread 72 = .ok (.iand, 1) := by decide +kernel
theorem dX0_spread_73 : decode cX0_spread 73 = .ok (.ifCond .eq 17, 3) := by decide +kernel
theorem dX0_spread_76 : decode cX0_spread 76 = .ok (.iload_n 3, 1) := by decide +kernel
theorem dX0_spread_77 : decode cX0_spread 77 = .ok (.iload 6, 2) := by decide +kernel
theorem dX0_spread_79 : decode cX0_spread 79 = .ok (.invokestatic 27, 3) := by decide +kernel
theorem dX0_spread_82 : decode cX0_spread 82 = .ok (.iand, 1) := by decide +kernel
theorem dX0_spread_83 : decode cX0_spread 83 = .ok (.ifCond .ne 7, 3) := by decide +kernel
theorem dX0_spread_86 : decode cX0_spread 86 = .ok (.iconst 1, 1) := by decide +kernel
theorem dX0_spread_87 : decode cX0_spread 87 = .ok (.goto 4, 3) := by decide +kernel
theorem dX0_spread_90 : decode cX0_spread 90 = .ok (.iconst 0, 1) := by decide +kernel
theorem dX0_spread_91 : decode cX0_spread 91 = .ok (.istore 7, 2) := by decide +kernel
theorem dX0_spread_93 : decode cX0_spread 93 = .ok (.iload 7, 2) := by decide +kernel
theorem dX0_spread_95 : decode cX0_spread 95 = .ok (.ifCond .eq 41, 3) := by decide +kernel
theorem dX0_spread_98 : decode cX0_spread 98 = .ok (.aload_n 1, 1) := by decide +kernel
theorem dX0_spread_99 : decode cX0_spread 99 = .ok (.iload 4, 2) := by decide +kernel
theorem dX0_spread_101 : decode cX0_spread 101 = .ok (.invokevirtual 51, 3) := by decide +kernel
theorem dX0_spread_104 : decode cX0_spread 104 = .ok (.ifCond .eq 32, 3) := by decide +kernel
theorem dX0_spread_107 : decode cX0_spread 107 = .ok (.iload 6, 2) := by decide +kernel
theorem dX0_spread_109 : decode cX0_spread 109 = .ok (.ifCond .lt 27, 3) := by decide +kernel
theorem dX0_spread_112 : decode cX0_spread 112 = .ok (.iload 6, 2) := by decide +kernel
theorem dX0_spread_114 : decode cX0_spread 114 = .ok (.bipush 24, 2) := by decide +kernel
theorem dX0_spread_116 : decode cX0_spread 116 = .ok (.if_icmp .ge 20, 3) := by decide +kernel
theorem dX0_spread_119 : decode cX0_spread 119 = .ok (.aload_n 0, 1) := by decide +kernel
theorem dX0_spread_120 : decode cX0_spread 120 = .ok (.getfield 9, 3) := by decide +kernel
theorem dX0_spread_123 : decode cX0_spread 123 = .ok (.iload 6, 2) := by decide +kernel
theorem dX0_spread_125 : decode cX0_spread 125 = .ok (.iload 4, 2) := by decide +kernel
theorem dX0_spread_127 : decode cX0_spread 127 = .ok (.iastore, 1) := by decide +kernel
theorem dX0_spread_128 : decode cX0_spread 128 = .ok (.iload_n 3, 1) := by decide +kernel
theorem dX0_spread_129 : decode cX0_spread 129 = .ok (.iload 6, 2) := by decide +kernel
theorem dX0_spread_131 : decode cX0_spread 131 = .ok (.invokestatic 27, 3) := by decide +kernel
theorem dX0_spread_134 : decode cX0_spread 134 = .ok (.ior, 1) := by decide +kernel
theorem dX0_spread_135 : decode cX0_spread 135 = .ok (.istore_n 3, 1) := by decide +kernel
theorem dX0_spread_136 : decode cX0_spread 136 = .ok (.iinc 4 1, 3) := by decide +kernel
theorem dX0_spread_139 : decode cX0_spread 139 = .ok (.goto (-134), 3) := by decide +kernel
theorem dX0_spread_142 : decode cX0_spread 142 = .ok (.iload_n 3, 1) := by decide +kernel
theorem dX0_spread_143 : decode cX0_spread 143 = .ok (.ireturn, 1) := by decide +kernel
theorem dX0_takeWay_0 : decode cX0_takeWay 0 = .ok (.iload_n 3, 1) := by decide +kernel
theorem dX0_takeWay_1 : decode cX0_takeWay 1 = .ok (.istore 4, 2) := by decide +kernel
theorem dX0_takeWay_3 : decode cX0_takeWay 3 = .ok (.iconst 0, 1) := by decide +kernel
theorem dX0_takeWay_4 : decode cX0_takeWay 4 = .ok (.istore 5, 2) := by decide +kernel
theorem dX0_takeWay_6 : decode cX0_takeWay 6 = .ok (.iload 5, 2) := by decide +kernel
theorem dX0_takeWay_8 : decode cX0_takeWay 8 = .ok (.bipush 24, 2) := by decide +kernel
theorem dX0_takeWay_10 : decode cX0_takeWay 10 = .ok (.if_icmp .ge 80, 3) := by decide +kernel
theorem dX0_takeWay_13 : decode cX0_takeWay 13 = .ok (.iload_n 2, 1) := by decide +kernel
theorem dX0_takeWay_14 : decode cX0_takeWay 14 = .ok (.iload 4, 2) := by decide +kernel
theorem dX0_takeWay_16 : decode cX0_takeWay 16 = .ok (.invokestatic 27, 3) := by decide +kernel
theorem dX0_takeWay_19 : decode cX0_takeWay 19 = .ok (.iand, 1) := by decide +kernel
theorem dX0_takeWay_20 : decode cX0_takeWay 20 = .ok (.ifCond .ne 70, 3) := by decide +kernel
theorem dX0_takeWay_23 : decode cX0_takeWay 23 = .ok (.iload 4, 2) := by decide +kernel
theorem dX0_takeWay_25 : decode cX0_takeWay 25 = .ok (.ifCond .lt 10, 3) := by decide +kernel
theorem dX0_takeWay_28 : decode cX0_takeWay 28 = .ok (.iload 4, 2) := by decide +kernel
theorem dX0_takeWay_30 : decode cX0_takeWay 30 = .ok (.bipush 24, 2) := by decide +kernel
theorem dX0_takeWay_32 : decode cX0_takeWay 32 = .ok (.if_icmp .lt 4, 3) := by decide +kernel
theorem dX0_takeWay_35 : decode cX0_takeWay 35 = .ok (.return_, 1) := by decide +kernel
theorem dX0_takeWay_36 : decode cX0_takeWay 36 = .ok (.aload_n 0, 1) := by decide +kernel
theorem dX0_takeWay_37 : decode cX0_takeWay 37 = .ok (.getfield 9, 3) := by decide +kernel
theorem dX0_takeWay_40 : decode cX0_takeWay 40 = .ok (.iload 4, 2) := by decide +kernel
theorem dX0_takeWay_42 : decode cX0_takeWay 42 = .ok (.iaload, 1) := by decide +kernel
theorem dX0_takeWay_43 : decode cX0_takeWay 43 = .ok (.istore 6, 2) := by decide +kernel
theorem dX0_takeWay_45 : decode cX0_takeWay 45 = .ok (.aload_n 0, 1) := by decide +kernel
theorem dX0_takeWay_46 : decode cX0_takeWay 46 = .ok (.iload 6, 2) := by decide +kernel
theorem dX0_takeWay_48 : decode cX0_takeWay 48 = .ok (.invokevirtual 41, 3) := by decide +kernel
theorem dX0_takeWay_51 : decode cX0_takeWay 51 = .ok (.ifCond .eq 12, 3) := by decide +kernel
theorem dX0_takeWay_54 : decode cX0_takeWay 54 = .ok (.aload_n 1, 1) := by decide +kernel
theorem dX0_takeWay_55 : decode cX0_takeWay 55 = .ok (.iload 6, 2) := by decide +kernel
theorem dX0_takeWay_57 : decode cX0_takeWay 57 = .ok (.invokevirtual 45, 3) := by decide +kernel
theorem dX0_takeWay_60 : decode cX0_takeWay 60 = .ok (.goto 9, 3) := by decide +kernel
theorem dX0_takeWay_63 : decode cX0_takeWay 63 = .ok (.aload_n 1, 1) := by decide +kernel
theorem dX0_takeWay_64 : decode cX0_takeWay 64 = .ok (.iload 6, 2) := by decide +kernel
theorem dX0_takeWay_66 : decode cX0_takeWay 66 = .ok (.invokevirtual 48, 3) := by decide +kernel
theorem dX0_takeWay_69 : decode cX0_takeWay 69 = .ok (.istore 4, 2) := by decide +kernel
theorem dX0_takeWay_71 : decode cX0_takeWay 71 = .ok (.aload_n 0, 1) := by decide +kernel
theorem dX0_takeWay_72 : decode cX0_takeWay 72 = .ok (.dup, 1) := by decide +kernel
theorem dX0_takeWay_73 : decode cX0_takeWay 73 = .ok (.getfield 15, 3) := by decide +kernel
theorem dX0_takeWay_76 : decode cX0_takeWay 76 = .ok (.lconst 1, 1) := by decide +kernel
theorem dX0_takeWay_77 : decode cX0_takeWay 77 = .ok (.iload 6, 2) := by decide +kernel
theorem dX0_takeWay_79 : decode cX0_takeWay 79 = .ok (.lshl, 1) := by decide +kernel
theorem dX0_takeWay_80 : decode cX0_takeWay 80 = .ok (.lxor, 1) := by decide +kernel
theorem dX0_takeWay_81 : decode cX0_takeWay 81 = .ok (.putfield 15, 3) := by decide +kernel
theorem dX0_takeWay_84 : decode cX0_takeWay 84 = .ok (.iinc 5 1, 3) := by decide +kernel
theorem dX0_takeWay_87 : decode cX0_takeWay 87 = .ok (.goto (-81), 3) := by decide +kernel
theorem dX0_takeWay_90 : decode cX0_takeWay 90 = .ok (.return_, 1) := by decide +kernel
theorem dX0_isUsed_0 : decode cX0_isUsed 0 = .ok (.aload_n 0, 1) := by decide +kernel
theorem dX0_isUsed_1 : decode cX0_isUsed 1 = .ok (.getfield 15, 3) := by decide +kernel
theorem dX0_isUsed_4 : decode cX0_isUsed 4 = .ok (.iload_n 1, 1) := by decide +kernel
theorem dX0_isUsed_5 : decode cX0_isUsed 5 = .ok (.lshr, 1) := by decide +kernel
theorem dX0_isUsed_6 : decode cX0_isUsed 6 = .ok (.lconst 1, 1) := by decide +kernel
theorem dX0_isUsed_7 : decode cX0_isUsed 7 = .ok (.land, 1) := by decide +kernel
theorem dX0_isUsed_8 : decode cX0_isUsed 8 = .ok (.lconst 0, 1) := by decide +kernel
theorem dX0_isUsed_9 : decode cX0_isUsed 9 = .ok (.lcmp, 1) := by decide +kernel
theorem dX0_isUsed_10 : decode cX0_isUsed 10 = .ok (.ifCond .eq 7, 3) := by decide +kernel
theorem dX0_isUsed_13 : decode cX0_isUsed 13 = .ok (.iconst 1, 1) := by decide +kernel
theorem dX0_isUsed_14 : decode cX0_isUsed 14 = .ok (.goto 4, 3) := by decide +kernel
theorem dX0_isUsed_17 : decode cX0_isUsed 17 = .ok (.iconst 0, 1) := by decide +kernel
theorem dX0_isUsed_18 : decode cX0_isUsed 18 = .ok (.ireturn, 1) := by decide +kernel
theorem dX1_init_0 : decode cX1_init 0 = .ok (.aload_n 0, 1) := by decide +kernel
theorem dX1_init_1 : decode cX1_init 1 = .ok (.invokespecial 3, 3) := by decide +kernel
theorem dX1_init_4 : decode cX1_init 4 = .ok (.aload_n 0, 1) := by decide +kernel
theorem dX1_init_5 : decode cX1_init 5 = .ok (.bipush 14, 2) := by decide +kernel
theorem dX1_init_7 : decode cX1_init 7 = .ok (.anewarray 9, 3) := by decide +kernel
theorem dX1_init_10 : decode cX1_init 10 = .ok (.putfield 11, 3) := by decide +kernel
theorem dX1_init_13 : decode cX1_init 13 = .ok (.aload_n 0, 1) := by decide +kernel
theorem dX1_init_14 : decode cX1_init 14 = .ok (.iconst 0, 1) := by decide +kernel
theorem dX1_init_15 : decode cX1_init 15 = .ok (.putfield 17, 3) := by decide +kernel
theorem dX1_init_18 : decode cX1_init 18 = .ok (.aload_n 0, 1) := by decide +kernel
theorem dX1_init_19 : decode cX1_init 19 = .ok (.iconst 0, 1) := by decide +kernel
theorem dX1_init_20 : decode cX1_init 20 = .ok (.putfield 21, 3) := by decide +kernel
theorem dX1_init_23 : decode cX1_init 23 = .ok (.iconst 0, 1) := by decide +kernel
theorem dX1_init_24 : decode cX1_init 24 = .ok (.istore_n 1, 1) := by decide +kernel
theorem dX1_init_25 : decode cX1_init 25 = .ok (.iload_n 1, 1) := by decide +kernel
theorem dX1_init_26 : decode cX1_init 26 = .ok (.bipush 14, 2) := by decide +kernel
theorem dX1_init_28 : decode cX1_init 28 = .ok (.if_icmp .ge 22, 3) := by decide +kernel
theorem dX1_init_31 : decode cX1_init 31 = .ok (.aload_n 0, 1) := by decide +kernel
theorem dX1_init_32 : decode cX1_init 32 = .ok (.getfield 11, 3) := by decide +kernel
theorem dX1_init_35 : decode cX1_init 35 = .ok (.iload_n 1, 1) := by decide +kernel
theorem dX1_init_36 : decode cX1_init 36 = .ok (.new 9, 3) := by decide +kernel
theorem dX1_init_39 : decode cX1_init 39 = .ok (.dup, 1) := by decide +kernel
theorem dX1_init_40 : decode cX1_init 40 = .ok (.invokespecial 24, 3) := by decide +kernel
theorem dX1_init_43 : decode cX1_init 43 = .ok (.aastore, 1) := by decide +kernel
theorem dX1_init_44 : decode cX1_init 44 = .ok (.iinc 1 1, 3) := by decide +kernel
theorem dX1_init_47 : decode cX1_init 47 = .ok (.goto (-22), 3) := by decide +kernel
theorem dX1_init_50 : decode cX1_init 50 = .ok (.return_, 1) := by decide +kernel
theorem dX1_isEmpty_0 : decode cX1_isEmpty 0 = .ok (.aload_n 0, 1) := by decide +kernel
theorem dX1_isEmpty_1 : decode cX1_isEmpty 1 = .ok (.getfield 21, 3) := by decide +kernel
theorem dX1_isEmpty_4 : decode cX1_isEmpty 4 = .ok (.ifCond .gt 7, 3) := by decide +kernel
theorem dX1_isEmpty_7 : decode cX1_isEmpty 7 = .ok (.iconst 1, 1) := by decide +kernel
theorem dX1_isEmpty_8 : decode cX1_isEmpty 8 = .ok (.goto 4, 3) := by decide +kernel
theorem dX1_isEmpty_11 : decode cX1_isEmpty 11 = .ok (.iconst 0, 1) := by decide +kernel
theorem dX1_isEmpty_12 : decode cX1_isEmpty 12 = .ok (.ireturn, 1) := by decide +kernel
theorem dX1_forget_0 : decode cX1_forget 0 = .ok (.aload_n 0, 1) := by decide +kernel
theorem dX1_forget_1 : decode cX1_forget 1 = .ok (.iconst 0, 1) := by decide +kernel
theorem dX1_forget_2 : decode cX1_forget 2 = .ok (.putfield 21, 3) := by decide +kernel
theorem dX1_forget_5 : decode cX1_forget 5 = .ok (.return_, 1) := by decide +kernel
theorem dX1_remember_0 : decode cX1_remember 0 = .ok (.aload_n 0, 1) := by decide +kernel
theorem dX1_remember_1 : decode cX1_remember 1 = .ok (.getfield 21, 3) := by decide +kernel
theorem dX1_remember_4 : decode cX1_remember 4 = .ok (.bipush 14, 2) := by decide +kernel
theorem dX1_remember_6 : decode cX1_remember 6 = .ok (.if_icmp .lt 26, 3) := by decide +kernel
theorem dX1_remember_9 : decode cX1_remember 9 = .ok (.aload_n 0, 1) := by decide +kernel
theorem dX1_remember_10 : decode cX1_remember 10 = .ok (.aload_n 0, 1) := by decide +kernel
theorem dX1_remember_11 : decode cX1_remember 11 = .ok (.getfield 17, 3) := by decide +kernel
theorem dX1_remember_14 : decode cX1_remember 14 = .ok (.iconst 1, 1) := by decide +kernel
theorem dX1_remember_15 : decode cX1_remember 15 = .ok (.iadd, 1) := by decide +kernel
theorem dX1_remember_16 : decode cX1_remember 16 = .ok (.bipush 14, 2) := by decide +kernel
theorem dX1_remember_18 : decode cX1_remember 18 = .ok (.irem, 1) := by decide +kernel
theorem dX1_remember_19 : decode cX1_remember 19 = .ok (.putfield 17, 3) := by decide +kernel
theorem dX1_remember_22 : decode cX1_remember 22 = .ok (.aload_n 0, 1) := by decide +kernel
theorem dX1_remember_23 : decode cX1_remember 23 = .ok (.dup, 1) := by decide +kernel
theorem dX1_remember_24 : decode cX1_remember 24 = .ok (.getfield 21, 3) := by decide +kernel
theorem dX1_remember_27 : decode cX1_remember 27 = .ok (.iconst 1, 1) := by decide +kernel
theorem dX1_remember_28 : decode cX1_remember 28 = .ok (.isub, 1) := by decide +kernel
theorem dX1_remember_29 : decode cX1_remember 29 = .ok (.putfield 21, 3) := by decide +kernel
theorem dX1_remember_32 : decode cX1_remember 32 = .ok (.aload_n 0, 1) := by decide +kernel
theorem dX1_remember_33 : decode cX1_remember 33 = .ok (.aload_n 0, 1) := by decide +kernel
theorem dX1_remember_34 : decode cX1_remember 34 = .ok (.getfield 21, 3) := by decide +kernel
theorem dX1_remember_37 : decode cX1_remember 37 = .ok (.invokevirtual 25, 3) := by decide +kernel
theorem dX1_remember_40 : decode cX1_remember 40 = .ok (.astore_n 2, 1) := by decide +kernel
theorem dX1_remember_41 : decode cX1_remember 41 = .ok (.aload_n 2, 1) := by decide +kernel
theorem dX1_remember_42 : decode cX1_remember 42 = .ok (.ifnull 18, 3) := by decide +kernel
theorem dX1_remember_45 : decode cX1_remember 45 = .ok (.aload_n 2, 1) := by decide +kernel
theorem dX1_remember_46 : decode cX1_remember 46 = .ok (.aload_n 1, 1) := by decide +kernel
theorem dX1_remember_47 : decode cX1_remember 47 = .ok (.invokevirtual 29, 3) := by decide +kernel
theorem dX1_remember_50 : decode cX1_remember 50 = .ok (.aload_n 0, 1) := by decide +kernel
theorem dX1_remember_51 : decode cX1_remember 51 = .ok (.dup, 1) := by decide +kernel
theorem dX1_remember_52 : decode cX1_remember 52 = .ok (.getfield 21, 3) := by decide +kernel
theorem dX1_remember_55 : decode cX1_remember 55 = .ok (.iconst 1, 1) := by decide +kernel
theorem dX1_remember_56 : decode cX1_remember 56 = .ok (.iadd, 1) := by decide +kernel
theorem dX1_remember_57 : decode cX1_remember 57 = .ok (.putfield 21, 3) := by decide +kernel
theorem dX1_remember_60 : decode cX1_remember 60 = .ok (.return_, 1) := by decide +kernel
theorem dX1_takeBack_0 : decode cX1_takeBack 0 = .ok (.aload_n 0, 1) := by decide +kernel
theorem dX1_takeBack_1 : decode cX1_takeBack 1 = .ok (.getfield 21, 3) := by decide +kernel
theorem dX1_takeBack_4 : decode cX1_takeBack 4 = .ok (.ifCond .le 25, 3) := by decide +kernel
theorem dX1_takeBack_7 : decode cX1_takeBack 7 = .ok (.aload_n 0, 1) := by decide +kernel
theorem dX1_takeBack_8 : decode cX1_takeBack 8 = .ok (.dup, 1) := by decide +kernel
theorem dX1_takeBack_9 : decode cX1_takeBack 9 = .ok (.getfield 21, 3) := by decide +kernel
theorem dX1_takeBack_12 : decode cX1_takeBack 12 = .ok (.iconst 1, 1) := by decide +kernel
theorem dX1_takeBack_13 : decode cX1_takeBack 13 = .ok (.isub, 1) := by decide +kernel
theorem dX1_takeBack_14 : decode cX1_takeBack 14 = .ok (.putfield 21, 3) := by decide +kernel
theorem dX1_takeBack_17 : decode cX1_takeBack 17 = .ok (.aload_n 1, 1) := by decide +kernel
theorem dX1_takeBack_18 : decode cX1_takeBack 18 = .ok (.aload_n 0, 1) := by decide +kernel
theorem dX1_takeBack_19 : decode cX1_takeBack 19 = .ok (.aload_n 0, 1) := by decide +kernel
theorem dX1_takeBack_20 : decode cX1_takeBack 20 = .ok (.getfield 21, 3) := by decide +kernel
theorem dX1_takeBack_23 : decode cX1_takeBack 23 = .ok (.invokevirtual 25, 3) := by decide +kernel
theorem dX1_takeBack_26 : decode cX1_takeBack 26 = .ok (.invokevirtual 29, 3) := by decide +kernel
theorem dX1_takeBack_29 : decode cX1_takeBack 29 = .ok (.aload_n 0, 1) := by decide +kernel
theorem dX1_takeBack_30 : decode cX1_takeBack 30 = .ok (.getfield 21, 3) := by decide +kernel
theorem dX1_takeBack_33 : decode cX1_takeBack 33 = .ok (.ireturn, 1) := by decide +kernel
theorem dX1_stateAt_0 : decode cX1_stateAt 0 = .ok (.aload_n 0, 1) := by decide +kernel
theorem dX1_stateAt_1 : decode cX1_stateAt 1 = .ok (.getfield 11, 3) := by decide +kernel
theorem dX1_stateAt_4 : decode cX1_stateAt 4 = .ok (.aload_n 0, 1) := by decide +kernel
theorem dX1_stateAt_5 : decode cX1_stateAt 5 = .ok (.getfield 17, 3) := by decide +kernel
theorem dX1_stateAt_8 : decode cX1_stateAt 8 = .ok (.iload_n 1, 1) := by decide +kernel
theorem dX1_stateAt_9 : decode cX1_stateAt 9 = .ok (.iadd, 1) := by decide +kernel
theorem dX1_stateAt_10 : decode cX1_stateAt 10 = .ok (.bipush 14, 2) := by decide +kernel
theorem dX1_stateAt_12 : decode cX1_stateAt 12 = .ok (.invokestatic 33, 3) := by decide +kernel
theorem dX1_stateAt_15 : decode cX1_stateAt 15 = .ok (.aaload, 1) := by decide +kernel
theorem dX1_stateAt_16 : decode cX1_stateAt 16 = .ok (.areturn, 1) := by decide +kernel
theorem dX2_limit_0 : decode cX2_limit 0 = .ok (.lconst 1, 1) := by decide +kernel
theorem dX2_limit_1 : decode cX2_limit 1 = .ok (.lstore_n 1, 1) := by decide +kernel
theorem dX2_limit_2 : decode cX2_limit 2 = .ok (.iconst 0, 1) := by decide +kernel
theorem dX2_limit_3 : decode cX2_limit 3 = .ok (.istore_n 3, 1) := by decide +kernel
theorem dX2_limit_4 : decode cX2_limit 4 = .ok (.iload_n 3, 1) := by decide +kernel
theorem dX2_limit_5 : decode cX2_limit 5 = .ok (.iload_n 0, 1) := by decide +kernel
theorem dX2_limit_6 : decode cX2_limit 6 = .ok (.if_icmp .ge 20, 3) := by decide +kernel
theorem dX2_limit_9 : decode cX2_limit 9 = .ok (.iload_n 3, 1) := by decide +kernel
theorem dX2_limit_10 : decode cX2_limit 10 = .ok (.iconst 3, 1) := by decide +kernel
theorem dX2_limit_11 : decode cX2_limit 11 = .ok (.if_icmp .ge 15, 3) := by decide +kernel
theorem dX2_limit_14 : decode cX2_limit 14 = .ok (.lload_n 1, 1) := by decide +kernel
theorem dX2_limit_15 : decode cX2_limit 15 = .ok (.ldc2_w 11, 3) := by decide +kernel
theorem dX2_limit_18 : decode cX2_limit 18 = .ok (.lmul, 1) := by decide +kernel
theorem dX2_limit_19 : decode cX2_limit 19 = .ok (.lstore_n 1, 1) := by decide +kernel
theorem dX2_limit_20 : decode cX2_limit 20 = .ok (.iinc 3 1, 3) := by decide +kernel
theorem dX2_limit_23 : decode cX2_limit 23 = .ok (.goto (-19), 3) := by decide +kernel
theorem dX2_limit_26 : decode cX2_limit 26 = .ok (.lload_n 1, 1) := by decide +kernel
theorem dX2_limit_27 : decode cX2_limit 27 = .ok (.lreturn, 1) := by decide +kernel
theorem dX2_groupAt_0 : decode cX2_groupAt 0 = .ok (.lload_n 0, 1) := by decide +kernel
theorem dX2_groupAt_1 : decode cX2_groupAt 1 = .ok (.lstore_n 3, 1) := by decide +kernel
theorem dX2_groupAt_2 : decode cX2_groupAt 2 = .ok (.iconst 0, 1) := by decide +kernel
theorem dX2_groupAt_3 : decode cX2_groupAt 3 = .ok (.istore 5, 2) := by decide +kernel
theorem dX2_groupAt_5 : decode cX2_groupAt 5 = .ok (.iload 5, 2) := by decide +kernel
theorem dX2_groupAt_7 : decode cX2_groupAt 7 = .ok (.iload_n 2, 1) := by decide +kernel
theorem dX2_groupAt_8 : decode cX2_groupAt 8 = .ok (.if_icmp .ge 21, 3) := by decide +kernel
theorem dX2_groupAt_11 : decode cX2_groupAt 11 = .ok (.iload 5, 2) := by decide +kernel
theorem dX2_groupAt_13 : decode cX2_groupAt 13 = .ok (.iconst 3, 1) := by decide +kernel
theorem dX2_groupAt_14 : decode cX2_groupAt 14 = .ok (.if_icmp .ge 15, 3) := by decide +kernel
theorem dX2_groupAt_17 : decode cX2_groupAt 17 = .ok (.lload_n 3, 1) := by decide +kernel
theorem dX2_groupAt_18 : decode cX2_groupAt 18 = .ok (.ldc2_w 11, 3) := by decide +kernel
theorem dX2_groupAt_21 : decode cX2_groupAt 21 = .ok (.ldiv, 1) := by decide +kernel
theorem dX2_groupAt_22 : decode cX2_groupAt 22 = .ok (.lstore_n 3, 1) := by decide +kernel
theorem dX2_groupAt_23 : decode cX2_groupAt 23 = .ok (.iinc 5 1, 3) := by decide +kernel
theorem dX2_groupAt_26 : decode cX2_groupAt 26 = .ok (.goto (-21), 3) := by decide +kernel
theorem dX2_groupAt_29 : decode cX2_groupAt 29 = .ok (.lload_n 3, 1) := by decide +kernel
theorem dX2_groupAt_30 : decode cX2_groupAt 30 = .ok (.ldc2_w 11, 3) := by decide +kernel
theorem dX2_groupAt_33 : decode cX2_groupAt 33 = .ok (.lrem, 1) := by decide +kernel
theorem dX2_groupAt_34 : decode cX2_groupAt 34 = .ok (.l2i, 1) := by decide +kernel
theorem dX2_groupAt_35 : decode cX2_groupAt 35 = .ok (.ireturn, 1) := by decide +kernel
theorem dX2_succeeds_0 : decode cX2_succeeds 0 = .ok (.iload_n 1, 1) := by decide +kernel
theorem dX2_succeeds_1 : decode cX2_succeeds 1 = .ok (.sipush 10000, 3) := by decide +kernel
theorem dX2_succeeds_4 : decode cX2_succeeds 4 = .ok (.irem, 1) := by decide +kernel
theorem dX2_succeeds_5 : decode cX2_succeeds 5 = .ok (.istore_n 2, 1) := by decide +kernel
theorem dX2_succeeds_6 : decode cX2_succeeds 6 = .ok (.iload_n 2, 1) := by decide +kernel
theorem dX2_succeeds_7 : decode cX2_succeeds 7 = .ok (.bipush 100, 2) := by decide +kernel
theorem dX2_succeeds_9 : decode cX2_succeeds 9 = .ok (.idiv, 1) := by decide +kernel
theorem dX2_succeeds_10 : decode cX2_succeeds 10 = .ok (.istore_n 3, 1) := by decide +kernel
theorem dX2_succeeds_11 : decode cX2_succeeds 11 = .ok (.iload_n 2, 1) := by decide +kernel
theorem dX2_succeeds_12 : decode cX2_succeeds 12 = .ok (.bipush 100, 2) := by decide +kernel
theorem dX2_succeeds_14 : decode cX2_succeeds 14 = .ok (.irem, 1) := by decide +kernel
theorem dX2_succeeds_15 : decode cX2_succeeds 15 = .ok (.istore 4, 2) := by decide +kernel
theorem dX2_succeeds_17 : decode cX2_succeeds 17 = .ok (.iload_n 1, 1) := by decide +kernel
theorem dX2_succeeds_18 : decode cX2_succeeds 18 = .ok (.sipush 10000, 3) := by decide +kernel
theorem dX2_succeeds_21 : decode cX2_succeeds 21 = .ok (.idiv, 1) := by decide +kernel
theorem dX2_succeeds_22 : decode cX2_succeeds 22 = .ok (.tableswitch 276 1 9 #[50, 60, 73, 86, 119, 143, 168, 217, 251], 50) := by decide +kernel
theorem dX2_succeeds_72 : decode cX2_succeeds 72 = .ok (.aload_n 0, 1) := by decide +kernel
theorem dX2_succeeds_73 : decode cX2_succeeds 73 = .ok (.iconst 1, 1) := by decide +kernel
theorem dX2_succeeds_74 : decode cX2_succeeds 74 = .ok (.bipush (-9), 2) := by decide +kernel
theorem dX2_succeeds_76 : decode cX2_succeeds 76 = .ok (.iload_n 2, 1) := by decide +kernel
theorem dX2_succeeds_77 : decode cX2_succeeds 77 = .ok (.iconst 0, 1) := by decide +kernel
theorem dX2_succeeds_78 : decode cX2_succeeds 78 = .ok (.invokevirtual 13, 3) := by decide +kernel
theorem dX2_succeeds_81 : decode cX2_succeeds 81 = .ok (.ireturn, 1) := by decide +kernel
theorem dX2_succeeds_82 : decode cX2_succeeds 82 = .ok (.aload_n 0, 1) := by decide +kernel
theorem dX2_succeeds_83 : decode cX2_succeeds 83 = .ok (.iconst 2, 1) := by decide +kernel
theorem dX2_succeeds_84 : decode cX2_succeeds 84 = .ok (.iload_n 3, 1) := by decide +kernel
theorem dX2_succeeds_85 : decode cX2_succeeds 85 = .ok (.invokestatic 19, 3) := by decide +kernel
theorem dX2_succeeds_88 : decode cX2_succeeds 88 = .ok (.iload 4, 2) := by decide +kernel
theorem dX2_succeeds_90 : decode cX2_succeeds 90 = .ok (.iconst 1, 1) := by decide +kernel
theorem dX2_succeeds_91 : decode cX2_succeeds 91 = .ok (.invokevirtual 13, 3) := by decide +kernel
theorem dX2_succeeds_94 : decode cX2_succeeds 94 = .ok (.ireturn, 1) := by decide +kernel
theorem dX2_succeeds_95 : decode cX2_succeeds 95 = .ok (.aload_n 0, 1) := by decide +kernel
theorem dX2_succeeds_96 : decode cX2_succeeds 96 = .ok (.iconst 3, 1) := by decide +kernel
theorem dX2_succeeds_97 : decode cX2_succeeds 97 = .ok (.iload_n 3, 1) := by decide +kernel
theorem dX2_succeeds_98 : decode cX2_succeeds 98 = .ok (.invokestatic 19, 3) := by decide +kernel
theorem dX2_succeeds_101 : decode cX2_succeeds 101 = .ok (.iload 4, 2) := by decide +kernel
theorem dX2_succeeds_103 : decode cX2_succeeds 103 = .ok (.iconst 0, 1) := by decide +kernel
theorem dX2_succeeds_104 : decode cX2_succeeds 104 = .ok (.invokevirtual 13, 3) := by decide +kernel
theorem dX2_succeeds_107 : decode cX2_succeeds 107 = .ok (.ireturn, 1) := by decide +kernel
theorem dX2_succeeds_108 : decode cX2_succeeds 108 = .ok (.iload_n 3, 1) := by decide +kernel
theorem dX2_succeeds_109 : decode cX2_succeeds 109 = .ok (.iconst 1, 1) := by decide +kernel
theorem dX2_succeeds_110 : decode cX2_succeeds 110 = .ok (.if_icmp .gt 29, 3) := by decide +kernel
theorem dX2_succeeds_113 : decode cX2_succeeds 113 = .ok (.aload_n 0, 1) := by decide +kernel
theorem dX2_succeeds_114 : decode cX2_succeeds 114 = .ok (.bipush 6, 2) := by decide +kernel
theorem dX2_succeeds_116 : decode cX2_succeeds 116 = .ok (.bipush (-9), 2) := by decide +kernel
theorem dX2_succeeds_118 : decode cX2_succeeds 118 = .ok (.iload 4, 2) := by decide +kernel
theorem dX2_succeeds_120 : decode cX2_succeeds 120 = .ok (.iload_n 3, 1) := by decide +kernel
theorem dX2_succeeds_121 : decode cX2_succeeds 121 = .ok (.ifCond .ne 7, 3) := by decide +kernel
theorem dX2_succeeds_124 : decode cX2_succeeds 124 = .ok (.iconst 1, 1) := by decide +kernel
theorem dX2_succeeds_125 : decode cX2_succeeds 125 = .ok (.goto 4, 3) := by decide +kernel
theorem dX2_succeeds_128 : decode cX2_succeeds 128 = .ok (.iconst 0, 1) := by decide +kernel
theorem dX2_succeeds_129 : decode cX2_succeeds 129 = .ok (.invokevirtual 13, 3) := by decide +kernel
theorem dX2_succeeds_132 : decode cX2_succeeds 132 = .ok (.ifCond .eq 7, 3) := by decide +kernel
theorem dX2_succeeds_135 : decode cX2_succeeds 135 = .ok (.iconst 1, 1) := by decide +kernel
theorem dX2_succeeds_136 : decode cX2_succeeds 136 = .ok (.goto 4, 3) := by decide +kernel
theorem dX2_succeeds_139 : decode cX2_succeeds 139 = .ok (.iconst 0, 1) := by decide +kernel
theorem dX2_succeeds_140 : decode cX2_succeeds 140 = .ok (.ireturn, 1) := by decide +kernel
theorem dX2_succeeds_141 : decode cX2_succeeds 141 = .ok (.iload_n 2, 1) := by decide +kernel
theorem dX2_succeeds_142 : decode cX2_succeeds 142 = .ok (.ifCond .ne 21, 3) := by decide +kernel
theorem dX2_succeeds_145 : decode cX2_succeeds 145 = .ok (.aload_n 0, 1) := by decide +kernel
theorem dX2_succeeds_146 : decode cX2_succeeds 146 = .ok (.bipush 7, 2) := by decide +kernel
theorem dX2_succeeds_148 : decode cX2_succeeds 148 = .ok (.bipush (-9), 2) := by decide +kernel
theorem dX2_succeeds_150 : decode cX2_succeeds 150 = .ok (.bipush (-9), 2) := by decide +kernel
theorem dX2_succeeds_152 : decode cX2_succeeds 152 = .ok (.iconst 0, 1) := by decide +kernel
theorem dX2_succeeds_153 : decode cX2_succeeds 153 = .ok (.invokevirtual 13, 3) := by decide +kernel
theorem dX2_succeeds_156 : decode cX2_succeeds 156 = .ok (.ifCond .eq 7, 3) := by decide +kernel
theorem dX2_succeeds_159 : decode cX2_succeeds 159 = .ok (.iconst 1, 1) := by decide +kernel
theorem dX2_succeeds_160 : decode cX2_succeeds 160 = .ok (.goto 4, 3) := by decide +kernel
theorem dX2_succeeds_163 : decode cX2_succeeds 163 = .ok (.iconst 0, 1) := by decide +kernel
theorem dX2_succeeds_164 : decode cX2_succeeds 164 = .ok (.ireturn, 1) := by decide +kernel
theorem dX2_succeeds_165 : decode cX2_succeeds 165 = .ok (.iload_n 3, 1) := by decide +kernel
theorem dX2_succeeds_166 : decode cX2_succeeds 166 = .ok (.ifCond .ne 22, 3) := by decide +kernel
theorem dX2_succeeds_169 : decode cX2_succeeds 169 = .ok (.iload 4, 2) := by decide +kernel
theorem dX2_succeeds_171 : decode cX2_succeeds 171 = .ok (.iconst 1, 1) := by decide +kernel
theorem dX2_succeeds_172 : decode cX2_succeeds 172 = .ok (.if_icmp .lt 16, 3) := by decide +kernel
theorem dX2_succeeds_175 : decode cX2_succeeds 175 = .ok (.aload_n 0, 1) := by decide +kernel
theorem dX2_succeeds_176 : decode cX2_succeeds 176 = .ok (.iload 4, 2) := by decide +kernel
theorem dX2_succeeds_178 : decode cX2_succeeds 178 = .ok (.invokestatic 23, 3) := by decide +kernel
theorem dX2_succeeds_181 : decode cX2_succeeds 181 = .ok (.ifCond .eq 7, 3) := by decide +kernel
theorem dX2_succeeds_184 : decode cX2_succeeds 184 = .ok (.iconst 1, 1) := by decide +kernel
theorem dX2_succeeds_185 : decode cX2_succeeds 185 = .ok (.goto 4, 3) := by decide +kernel
theorem dX2_succeeds_188 : decode cX2_succeeds 188 = .ok (.iconst 0, 1) := by decide +kernel
theorem dX2_succeeds_189 : decode cX2_succeeds 189 = .ok (.ireturn, 1) := by decide +kernel
theorem dX2_succeeds_190 : decode cX2_succeeds 190 = .ok (.iload 4, 2) := by decide +kernel
theorem dX2_succeeds_192 : decode cX2_succeeds 192 = .ok (.iconst 1, 1) := by decide +kernel
theorem dX2_succeeds_193 : decode cX2_succeeds 193 = .ok (.if_icmp .gt 44, 3) := by decide +kernel
theorem dX2_succeeds_196 : decode cX2_succeeds 196 = .ok (.aload_n 0, 1) := by decide +kernel
theorem dX2_succeeds_197 : decode cX2_succeeds 197 = .ok (.iload_n 3, 1) := by decide +kernel
theorem dX2_succeeds_198 : decode cX2_succeeds 198 = .ok (.invokevirtual 27, 3) := by decide +kernel
theorem dX2_succeeds_201 : decode cX2_succeeds 201 = .ok (.ifCond .eq 36, 3) := by decide +kernel
theorem dX2_succeeds_204 : decode cX2_succeeds 204 = .ok (.aload_n 0, 1) := by decide +kernel
theorem dX2_succeeds_205 : decode cX2_succeeds 205 = .ok (.iload_n 3, 1) := by decide +kernel
theorem dX2_succeeds_206 : decode cX2_succeeds 206 = .ok (.invokevirtual 31, 3) := by decide +kernel
theorem dX2_succeeds_209 : decode cX2_succeeds 209 = .ok (.bipush (-9), 2) := by decide +kernel
theorem dX2_succeeds_211 : decode cX2_succeeds 211 = .ok (.if_icmp .eq 7, 3) := by decide +kernel
theorem dX2_succeeds_214 : decode cX2_succeeds 214 = .ok (.iconst 1, 1) := by decide +kernel
theorem dX2_succeeds_215 : decode cX2_succeeds 215 = .ok (.goto 4, 3) := by decide +kernel
theorem dX2_succeeds_218 : decode cX2_succeeds 218 = .ok (.iconst 0, 1) := by decide +kernel
theorem dX2_succeeds_219 : decode cX2_succeeds 219 = .ok (.iload 4, 2) := by decide +kernel
theorem dX2_succeeds_221 : decode cX2_succeeds 221 = .ok (.iconst 1, 1) := by decide +kernel
theorem dX2_succeeds_222 : decode cX2_succeeds 222 = .ok (.if_icmp .ne 7, 3) := by decide +kernel
theorem dX2_succeeds_225 : decode cX2_succeeds 225 = .ok (.iconst 1, 1) := by decide +kernel
theorem dX2_succeeds_226 : decode cX2_succeeds 226 = .ok (.goto 4, 3) := by decide +kernel
theorem dX2_succeeds_229 : decode cX2_succeeds 229 = .ok (.iconst 0, 1) := by decide +kernel
theorem dX2_succeeds_230 : decode cX2_succeeds 230 = .ok (.if_icmp .ne 7, 3) := by decide +kernel
theorem dX2_succeeds_233 : decode cX2_succeeds 233 = .ok (.iconst 1, 1) := by decide +kernel
theorem dX2_succeeds_234 : decode cX2_succeeds 234 = .ok (.goto 4, 3) := by decide +kernel
theorem dX2_succeeds_237 : decode cX2_succeeds 237 = .ok (.iconst 0, 1) := by decide +kernel
theorem dX2_succeeds_238 : decode cX2_succeeds 238 = .ok (.ireturn, 1) := by decide +kernel
theorem dX2_succeeds_239 : decode cX2_succeeds 239 = .ok (.aload_n 0, 1) := by decide +kernel
theorem dX2_succeeds_240 : decode cX2_succeeds 240 = .ok (.iload_n 3, 1) := by decide +kernel
theorem dX2_succeeds_241 : decode cX2_succeeds 241 = .ok (.invokevirtual 27, 3) := by decide +kernel
theorem dX2_succeeds_244 : decode cX2_succeeds 244 = .ok (.ifCond .eq 27, 3) := by decide +kernel
theorem dX2_succeeds_247 : decode cX2_succeeds 247 = .ok (.aload_n 0, 1) := by decide +kernel
theorem dX2_succeeds_248 : decode cX2_succeeds 248 = .ok (.iload_n 3, 1) := by decide +kernel
theorem dX2_succeeds_249 : decode cX2_succeeds 249 = .ok (.invokevirtual 31, 3) := by decide +kernel
theorem dX2_succeeds_252 : decode cX2_succeeds 252 = .ok (.bipush (-9), 2) := by decide +kernel
theorem dX2_succeeds_254 : decode cX2_succeeds 254 = .ok (.if_icmp .eq 17, 3) := by decide +kernel
theorem dX2_succeeds_257 : decode cX2_succeeds 257 = .ok (.aload_n 0, 1) := by decide +kernel
theorem dX2_succeeds_258 : decode cX2_succeeds 258 = .ok (.iload_n 3, 1) := by decide +kernel
theorem dX2_succeeds_259 : decode cX2_succeeds 259 = .ok (.invokevirtual 31, 3) := by decide +kernel
theorem dX2_succeeds_262 : decode cX2_succeeds 262 = .ok (.iload 4, 2) := by decide +kernel
theorem dX2_succeeds_264 : decode cX2_succeeds 264 = .ok (.if_icmp .gt 7, 3) := by decide +kernel
theorem dX2_succeeds_267 : decode cX2_succeeds 267 = .ok (.iconst 1, 1) := by decide +kernel
theorem dX2_succeeds_268 : decode cX2_succeeds 268 = .ok (.goto 4, 3) := by decide +kernel
theorem dX2_succeeds_271 : decode cX2_succeeds 271 = .ok (.iconst 0, 1) := by decide +kernel
theorem dX2_succeeds_272 : decode cX2_succeeds 272 = .ok (.ireturn, 1) := by decide +kernel
theorem dX2_succeeds_273 : decode cX2_succeeds 273 = .ok (.iload_n 2, 1) := by decide +kernel
theorem dX2_succeeds_274 : decode cX2_succeeds 274 = .ok (.sipush 1000, 3) := by decide +kernel
theorem dX2_succeeds_277 : decode cX2_succeeds 277 = .ok (.if_icmp .ge 19, 3) := by decide +kernel
theorem dX2_succeeds_280 : decode cX2_succeeds 280 = .ok (.aload_n 0, 1) := by decide +kernel
theorem dX2_succeeds_281 : decode cX2_succeeds 281 = .ok (.aload_n 0, 1) := by decide +kernel
theorem dX2_succeeds_282 : decode cX2_succeeds 282 = .ok (.invokevirtual 34, 3) := by decide +kernel
theorem dX2_succeeds_285 : decode cX2_succeeds 285 = .ok (.invokevirtual 38, 3) := by decide +kernel
theorem dX2_succeeds_288 : decode cX2_succeeds 288 = .ok (.iload_n 2, 1) := by decide +kernel
theorem dX2_succeeds_289 : decode cX2_succeeds 289 = .ok (.if_icmp .gt 7, 3) := by decide +kernel
theorem dX2_succeeds_292 : decode cX2_succeeds 292 = .ok (.iconst 1, 1) := by decide +kernel
theorem dX2_succeeds_293 : decode cX2_succeeds 293 = .ok (.goto 4, 3) := by decide +kernel
theorem dX2_succeeds_296 : decode cX2_succeeds 296 = .ok (.iconst 0, 1) := by decide +kernel
theorem dX2_succeeds_297 : decode cX2_succeeds 297 = .ok (.ireturn, 1) := by decide +kernel
theorem dX2_succeeds_298 : decode cX2_succeeds 298 = .ok (.iconst 0, 1) := by decide +kernel
theorem dX2_succeeds_299 : decode cX2_succeeds 299 = .ok (.ireturn, 1) := by decide +kernel
theorem dX2_takeSteps_0 : decode cX2_takeSteps 0 = .ok (.aload_n 0, 1) := by decide +kernel
theorem dX2_takeSteps_1 : decode cX2_takeSteps 1 = .ok (.getfield 41, 3) := by decide +kernel
theorem dX2_takeSteps_4 : decode cX2_takeSteps 4 = .ok (.invokevirtual 45, 3) := by decide +kernel
theorem dX2_takeSteps_7 : decode cX2_takeSteps 7 = .ok (.istore_n 2, 1) := by decide +kernel
theorem dX2_takeSteps_8 : decode cX2_takeSteps 8 = .ok (.aload_n 0, 1) := by decide +kernel
theorem dX2_takeSteps_9 : decode cX2_takeSteps 9 = .ok (.iload_n 1, 1) := by decide +kernel
theorem dX2_takeSteps_10 : decode cX2_takeSteps 10 = .ok (.invokevirtual 51, 3) := by decide +kernel
theorem dX2_takeSteps_13 : decode cX2_takeSteps 13 = .ok (.iload_n 2, 1) := by decide +kernel
theorem dX2_takeSteps_14 : decode cX2_takeSteps 14 = .ok (.ireturn, 1) := by decide +kernel
theorem dX2_thingOf_0 : decode cX2_thingOf 0 = .ok (.iload_n 0, 1) := by decide +kernel
theorem dX2_thingOf_1 : decode cX2_thingOf 1 = .ok (.bipush 90, 2) := by decide +kernel
theorem dX2_thingOf_3 : decode cX2_thingOf 3 = .ok (.if_icmp .lt 16, 3) := by decide +kernel
theorem dX2_thingOf_6 : decode cX2_thingOf 6 = .ok (.iload_n 0, 1) := by decide +kernel
theorem dX2_thingOf_7 : decode cX2_thingOf 7 = .ok (.bipush 94, 2) := by decide +kernel
theorem dX2_thingOf_9 : decode cX2_thingOf 9 = .ok (.if_icmp .ge 10, 3) := by decide +kernel
theorem dX2_thingOf_12 : decode cX2_thingOf 12 = .ok (.bipush 89, 2) := by decide +kernel
theorem dX2_thingOf_14 : decode cX2_thingOf 14 = .ok (.iload_n 0, 1) := by decide +kernel
theorem dX2_thingOf_15 : decode cX2_thingOf 15 = .ok (.isub, 1) := by decide +kernel
theorem dX2_thingOf_16 : decode cX2_thingOf 16 = .ok (.goto 4, 3) := by decide +kernel
theorem dX2_thingOf_19 : decode cX2_thingOf 19 = .ok (.iload_n 0, 1) := by decide +kernel
theorem dX2_thingOf_20 : decode cX2_thingOf 20 = .ok (.ireturn, 1) := by decide +kernel
theorem dX3_init_0 : decode cX3_init 0 = .ok (.aload_n 0, 1) := by decide +kernel
theorem dX3_init_1 : decode cX3_init 1 = .ok (.invokespecial 3, 3) := by decide +kernel
theorem dX3_init_4 : decode cX3_init 4 = .ok (.aload_n 0, 1) := by decide +kernel
theorem dX3_init_5 : decode cX3_init 5 = .ok (.new 9, 3) := by decide +kernel
theorem dX3_init_8 : decode cX3_init 8 = .ok (.dup, 1) := by decide +kernel
theorem dX3_init_9 : decode cX3_init 9 = .ok (.invokespecial 11, 3) := by decide +kernel
theorem dX3_init_12 : decode cX3_init 12 = .ok (.putfield 12, 3) := by decide +kernel
theorem dX3_init_15 : decode cX3_init 15 = .ok (.aload_n 0, 1) := by decide +kernel
theorem dX3_init_16 : decode cX3_init 16 = .ok (.new 18, 3) := by decide +kernel
theorem dX3_init_19 : decode cX3_init 19 = .ok (.dup, 1) := by decide +kernel
theorem dX3_init_20 : decode cX3_init 20 = .ok (.invokespecial 20, 3) := by decide +kernel
theorem dX3_init_23 : decode cX3_init 23 = .ok (.putfield 21, 3) := by decide +kernel
theorem dX3_init_26 : decode cX3_init 26 = .ok (.aload_n 0, 1) := by decide +kernel
theorem dX3_init_27 : decode cX3_init 27 = .ok (.bipush 24, 2) := by decide +kernel
theorem dX3_init_29 : decode cX3_init 29 = .ok (.newarray .int, 2) := by decide +kernel
theorem dX3_init_31 : decode cX3_init 31 = .ok (.putfield 25, 3) := by decide +kernel
theorem dX3_init_34 : decode cX3_init 34 = .ok (.aload_n 0, 1) := by decide +kernel
theorem dX3_init_35 : decode cX3_init 35 = .ok (.iconst 0, 1) := by decide +kernel
theorem dX3_init_36 : decode cX3_init 36 = .ok (.putfield 29, 3) := by decide +kernel
theorem dX3_init_39 : decode cX3_init 39 = .ok (.aload_n 0, 1) := by decide +kernel
theorem dX3_init_40 : decode cX3_init 40 = .ok (.iconst 0, 1) := by decide +kernel
theorem dX3_init_41 : decode cX3_init 41 = .ok (.putfield 33, 3) := by decide +kernel
theorem dX3_init_44 : decode cX3_init 44 = .ok (.aload_n 0, 1) := by decide +kernel
theorem dX3_init_45 : decode cX3_init 45 = .ok (.iconst 0, 1) := by decide +kernel
theorem dX3_init_46 : decode cX3_init 46 = .ok (.putfield 36, 3) := by decide +kernel
theorem dX3_init_49 : decode cX3_init 49 = .ok (.aload_n 0, 1) := by decide +kernel
theorem dX3_init_50 : decode cX3_init 50 = .ok (.iconst 0, 1) := by decide +kernel
theorem dX3_init_51 : decode cX3_init 51 = .ok (.putfield 39, 3) := by decide +kernel
theorem dX3_init_54 : decode cX3_init 54 = .ok (.aload_n 0, 1) := by decide +kernel
theorem dX3_init_55 : decode cX3_init 55 = .ok (.iconst 0, 1) := by decide +kernel
theorem dX3_init_56 : decode cX3_init 56 = .ok (.putfield 42, 3) := by decide +kernel
theorem dX3_init_59 : decode cX3_init 59 = .ok (.return_, 1) := by decide +kernel
theorem dX3_copyFrom_0 : decode cX3_copyFrom 0 = .ok (.aload_n 1, 1) := by decide +kernel
theorem dX3_copyFrom_1 : decode cX3_copyFrom 1 = .ok (.ifnonnull 4, 3) := by decide +kernel
theorem dX3_copyFrom_4 : decode cX3_copyFrom 4 = .ok (.return_, 1) := by decide +kernel
theorem dX3_copyFrom_5 : decode cX3_copyFrom 5 = .ok (.aload_n 0, 1) := by decide +kernel
theorem dX3_copyFrom_6 : decode cX3_copyFrom 6 = .ok (.getfield 12, 3) := by decide +kernel
theorem dX3_copyFrom_9 : decode cX3_copyFrom 9 = .ok (.aload_n 1, 1) := by decide +kernel
theorem dX3_copyFrom_10 : decode cX3_copyFrom 10 = .ok (.getfield 12, 3) := by decide +kernel
theorem dX3_copyFrom_13 : decode cX3_copyFrom 13 = .ok (.invokevirtual 45, 3) := by decide +kernel
theorem dX3_copyFrom_16 : decode cX3_copyFrom 16 = .ok (.aload_n 0, 1) := by decide +kernel
theorem dX3_copyFrom_17 : decode cX3_copyFrom 17 = .ok (.getfield 21, 3) := by decide +kernel
theorem dX3_copyFrom_20 : decode cX3_copyFrom 20 = .ok (.aload_n 1, 1) := by decide +kernel
theorem dX3_copyFrom_21 : decode cX3_copyFrom 21 = .ok (.getfield 21, 3) := by decide +kernel
theorem dX3_copyFrom_24 : decode cX3_copyFrom 24 = .ok (.invokevirtual 49, 3) := by decide +kernel
theorem dX3_copyFrom_27 : decode cX3_copyFrom 27 = .ok (.aload_n 0, 1) := by decide +kernel
theorem dX3_copyFrom_28 : decode cX3_copyFrom 28 = .ok (.aload_n 1, 1) := by decide +kernel
theorem dX3_copyFrom_29 : decode cX3_copyFrom 29 = .ok (.getfield 29, 3) := by decide +kernel
theorem dX3_copyFrom_32 : decode cX3_copyFrom 32 = .ok (.putfield 29, 3) := by decide +kernel
theorem dX3_copyFrom_35 : decode cX3_copyFrom 35 = .ok (.aload_n 0, 1) := by decide +kernel
theorem dX3_copyFrom_36 : decode cX3_copyFrom 36 = .ok (.aload_n 1, 1) := by decide +kernel
theorem dX3_copyFrom_37 : decode cX3_copyFrom 37 = .ok (.getfield 33, 3) := by decide +kernel
theorem dX3_copyFrom_40 : decode cX3_copyFrom 40 = .ok (.putfield 33, 3) := by decide +kernel
theorem dX3_copyFrom_43 : decode cX3_copyFrom 43 = .ok (.aload_n 0, 1) := by decide +kernel
theorem dX3_copyFrom_44 : decode cX3_copyFrom 44 = .ok (.aload_n 1, 1) := by decide +kernel
theorem dX3_copyFrom_45 : decode cX3_copyFrom 45 = .ok (.getfield 36, 3) := by decide +kernel
theorem dX3_copyFrom_48 : decode cX3_copyFrom 48 = .ok (.putfield 36, 3) := by decide +kernel
theorem dX3_copyFrom_51 : decode cX3_copyFrom 51 = .ok (.aload_n 0, 1) := by decide +kernel
theorem dX3_copyFrom_52 : decode cX3_copyFrom 52 = .ok (.aload_n 1, 1) := by decide +kernel
theorem dX3_copyFrom_53 : decode cX3_copyFrom 53 = .ok (.getfield 39, 3) := by decide +kernel
theorem dX3_copyFrom_56 : decode cX3_copyFrom 56 = .ok (.putfield 39, 3) := by decide +kernel
theorem dX3_copyFrom_59 : decode cX3_copyFrom 59 = .ok (.aload_n 0, 1) := by decide +kernel
theorem dX3_copyFrom_60 : decode cX3_copyFrom 60 = .ok (.aload_n 1, 1) := by decide +kernel
theorem dX3_copyFrom_61 : decode cX3_copyFrom 61 = .ok (.getfield 42, 3) := by decide +kernel
theorem dX3_copyFrom_64 : decode cX3_copyFrom 64 = .ok (.putfield 42, 3) := by decide +kernel
theorem dX3_copyFrom_67 : decode cX3_copyFrom 67 = .ok (.iconst 0, 1) := by decide +kernel
theorem dX3_copyFrom_68 : decode cX3_copyFrom 68 = .ok (.istore_n 2, 1) := by decide +kernel
theorem dX3_copyFrom_69 : decode cX3_copyFrom 69 = .ok (.iload_n 2, 1) := by decide +kernel
theorem dX3_copyFrom_70 : decode cX3_copyFrom 70 = .ok (.aload_n 0, 1) := by decide +kernel
theorem dX3_copyFrom_71 : decode cX3_copyFrom 71 = .ok (.getfield 29, 3) := by decide +kernel
theorem dX3_copyFrom_74 : decode cX3_copyFrom 74 = .ok (.if_icmp .ge 27, 3) := by decide +kernel
theorem dX3_copyFrom_77 : decode cX3_copyFrom 77 = .ok (.iload_n 2, 1) := by decide +kernel
theorem dX3_copyFrom_78 : decode cX3_copyFrom 78 = .ok (.bipush 24, 2) := by decide +kernel
theorem dX3_copyFrom_80 : decode cX3_copyFrom 80 = .ok (.if_icmp .ge 21, 3) := by decide +kernel
theorem dX3_copyFrom_83 : decode cX3_copyFrom 83 = .ok (.aload_n 0, 1) := by decide +kernel
theorem dX3_copyFrom_84 : decode cX3_copyFrom 84 = .ok (.getfield 25, 3) := by decide +kernel
theorem dX3_copyFrom_87 : decode cX3_copyFrom 87 = .ok (.iload_n 2, 1) := by decide +kernel
theorem dX3_copyFrom_88 : decode cX3_copyFrom 88 = .ok (.aload_n 1, 1) := by decide +kernel
theorem dX3_copyFrom_89 : decode cX3_copyFrom 89 = .ok (.getfield 25, 3) := by decide +kernel
theorem dX3_copyFrom_92 : decode cX3_copyFrom 92 = .ok (.iload_n 2, 1) := by decide +kernel
theorem dX3_copyFrom_93 : decode cX3_copyFrom 93 = .ok (.iaload, 1) := by decide +kernel
theorem dX3_copyFrom_94 : decode cX3_copyFrom 94 = .ok (.iastore, 1) := by decide +kernel
theorem dX3_copyFrom_95 : decode cX3_copyFrom 95 = .ok (.iinc 2 1, 3) := by decide +kernel
theorem dX3_copyFrom_98 : decode cX3_copyFrom 98 = .ok (.goto (-29), 3) := by decide +kernel
theorem dX3_copyFrom_101 : decode cX3_copyFrom 101 = .ok (.return_, 1) := by decide +kernel
theorem dX3_clear_0 : decode cX3_clear 0 = .ok (.aload_n 0, 1) := by decide +kernel
theorem dX3_clear_1 : decode cX3_clear 1 = .ok (.getfield 12, 3) := by decide +kernel
theorem dX3_clear_4 : decode cX3_clear 4 = .ok (.invokevirtual 52, 3) := by decide +kernel
theorem dX3_clear_7 : decode cX3_clear 7 = .ok (.aload_n 0, 1) := by decide +kernel
theorem dX3_clear_8 : decode cX3_clear 8 = .ok (.getfield 21, 3) := by decide +kernel
theorem dX3_clear_11 : decode cX3_clear 11 = .ok (.invokevirtual 55, 3) := by decide +kernel
theorem dX3_clear_14 : decode cX3_clear 14 = .ok (.aload_n 0, 1) := by decide +kernel
theorem dX3_clear_15 : decode cX3_clear 15 = .ok (.iconst 0, 1) := by decide +kernel
theorem dX3_clear_16 : decode cX3_clear 16 = .ok (.putfield 29, 3) := by decide +kernel
theorem dX3_clear_19 : decode cX3_clear 19 = .ok (.aload_n 0, 1) := by decide +kernel
theorem dX3_clear_20 : decode cX3_clear 20 = .ok (.iconst 0, 1) := by decide +kernel
theorem dX3_clear_21 : decode cX3_clear 21 = .ok (.putfield 33, 3) := by decide +kernel
theorem dX3_clear_24 : decode cX3_clear 24 = .ok (.aload_n 0, 1) := by decide +kernel
theorem dX3_clear_25 : decode cX3_clear 25 = .ok (.iconst 0, 1) := by decide +kernel
theorem dX3_clear_26 : decode cX3_clear 26 = .ok (.putfield 36, 3) := by decide +kernel
theorem dX3_clear_29 : decode cX3_clear 29 = .ok (.aload_n 0, 1) := by decide +kernel
theorem dX3_clear_30 : decode cX3_clear 30 = .ok (.iconst 0, 1) := by decide +kernel
theorem dX3_clear_31 : decode cX3_clear 31 = .ok (.putfield 39, 3) := by decide +kernel
theorem dX3_clear_34 : decode cX3_clear 34 = .ok (.aload_n 0, 1) := by decide +kernel
theorem dX3_clear_35 : decode cX3_clear 35 = .ok (.iconst 0, 1) := by decide +kernel
theorem dX3_clear_36 : decode cX3_clear 36 = .ok (.putfield 42, 3) := by decide +kernel
theorem dX3_clear_39 : decode cX3_clear 39 = .ok (.return_, 1) := by decide +kernel
theorem dX3_parts_0 : decode cX3_parts 0 = .ok (.aload_n 0, 1) := by decide +kernel
theorem dX3_parts_1 : decode cX3_parts 1 = .ok (.getfield 33, 3) := by decide +kernel
theorem dX3_parts_4 : decode cX3_parts 4 = .ok (.ireturn, 1) := by decide +kernel
theorem dX3_swept_0 : decode cX3_swept 0 = .ok (.aload_n 0, 1) := by decide +kernel
theorem dX3_swept_1 : decode cX3_swept 1 = .ok (.getfield 29, 3) := by decide +kernel
theorem dX3_swept_4 : decode cX3_swept 4 = .ok (.aload_n 0, 1) := by decide +kernel
theorem dX3_swept_5 : decode cX3_swept 5 = .ok (.getfield 33, 3) := by decide +kernel
theorem dX3_swept_8 : decode cX3_swept 8 = .ok (.invokestatic 58, 3) := by decide +kernel
theorem dX3_swept_11 : decode cX3_swept 11 = .ok (.isub, 1) := by decide +kernel
theorem dX3_swept_12 : decode cX3_swept 12 = .ok (.ireturn, 1) := by decide +kernel
theorem dX3_isPart_0 : decode cX3_isPart 0 = .ok (.aload_n 0, 1) := by decide +kernel
theorem dX3_isPart_1 : decode cX3_isPart 1 = .ok (.getfield 33, 3) := by decide +kernel
theorem dX3_isPart_4 : decode cX3_isPart 4 = .ok (.iload_n 1, 1) := by decide +kernel
theorem dX3_isPart_5 : decode cX3_isPart 5 = .ok (.invokestatic 64, 3) := by decide +kernel
theorem dX3_isPart_8 : decode cX3_isPart 8 = .ok (.iand, 1) := by decide +kernel
theorem dX3_isPart_9 : decode cX3_isPart 9 = .ok (.ifCond .eq 7, 3) := by decide +kernel
theorem dX3_isPart_12 : decode cX3_isPart 12 = .ok (.iconst 1, 1) := by decide +kernel
theorem dX3_isPart_13 : decode cX3_isPart 13 = .ok (.goto 4, 3) := by decide +kernel
theorem dX3_isPart_16 : decode cX3_isPart 16 = .ok (.iconst 0, 1) := by decide +kernel
theorem dX3_isPart_17 : decode cX3_isPart 17 = .ok (.ireturn, 1) := by decide +kernel
theorem dX3_isPinned_0 : decode cX3_isPinned 0 = .ok (.aload_n 0, 1) := by decide +kernel
theorem dX3_isPinned_1 : decode cX3_isPinned 1 = .ok (.getfield 36, 3) := by decide +kernel
theorem dX3_isPinned_4 : decode cX3_isPinned 4 = .ok (.iload_n 1, 1) := by decide +kernel
theorem dX3_isPinned_5 : decode cX3_isPinned 5 = .ok (.invokestatic 64, 3) := by decide +kernel
theorem dX3_isPinned_8 : decode cX3_isPinned 8 = .ok (.iand, 1) := by decide +kernel
theorem dX3_isPinned_9 : decode cX3_isPinned 9 = .ok (.ifCond .eq 7, 3) := by decide +kernel
theorem dX3_isPinned_12 : decode cX3_isPinned 12 = .ok (.iconst 1, 1) := by decide +kernel
theorem dX3_isPinned_13 : decode cX3_isPinned 13 = .ok (.goto 4, 3) := by decide +kernel
theorem dX3_isPinned_16 : decode cX3_isPinned 16 = .ok (.iconst 0, 1) := by decide +kernel
theorem dX3_isPinned_17 : decode cX3_isPinned 17 = .ok (.ireturn, 1) := by decide +kernel
theorem dX3_holders_0 : decode cX3_holders 0 = .ok (.bipush 15, 2) := by decide +kernel
theorem dX3_holders_2 : decode cX3_holders 2 = .ok (.aload_n 0, 1) := by decide +kernel
theorem dX3_holders_3 : decode cX3_holders 3 = .ok (.getfield 36, 3) := by decide +kernel
theorem dX3_holders_6 : decode cX3_holders 6 = .ok (.ior, 1) := by decide +kernel
theorem dX3_holders_7 : decode cX3_holders 7 = .ok (.ireturn, 1) := by decide +kernel
theorem dX3_held_0 : decode cX3_held 0 = .ok (.aload_n 0, 1) := by decide +kernel
theorem dX3_held_1 : decode cX3_held 1 = .ok (.getfield 12, 3) := by decide +kernel
theorem dX3_held_4 : decode cX3_held 4 = .ok (.aload_n 0, 1) := by decide +kernel
theorem dX3_held_5 : decode cX3_held 5 = .ok (.invokevirtual 67, 3) := by decide +kernel
theorem dX3_held_8 : decode cX3_held 8 = .ok (.iconst (-1), 1) := by decide +kernel
theorem dX3_held_9 : decode cX3_held 9 = .ok (.invokevirtual 71, 3) := by decide +kernel
theorem dX3_held_12 : decode cX3_held 12 = .ok (.bipush (-16), 2) := by decide +kernel
theorem dX3_held_14 : decode cX3_held 14 = .ok (.iand, 1) := by decide +kernel
theorem dX3_held_15 : decode cX3_held 15 = .ok (.ireturn, 1) := by decide +kernel
theorem dX3_depthOf_0 : decode cX3_depthOf 0 = .ok (.aload_n 0, 1) := by decide +kernel
theorem dX3_depthOf_1 : decode cX3_depthOf 1 = .ok (.getfield 12, 3) := by decide +kernel
theorem dX3_depthOf_4 : decode cX3_depthOf 4 = .ok (.aload_n 0, 1) := by decide +kernel
theorem dX3_depthOf_5 : decode cX3_depthOf 5 = .ok (.invokevirtual 67, 3) := by decide +kernel
theorem dX3_depthOf_8 : decode cX3_depthOf 8 = .ok (.iload_n 1, 1) := by decide +kernel
theorem dX3_depthOf_9 : decode cX3_depthOf 9 = .ok (.invokevirtual 75, 3) := by decide +kernel
theorem dX3_depthOf_12 : decode cX3_depthOf 12 = .ok (.ireturn, 1) := by decide +kernel
theorem dX3_weightOf_0 : decode cX3_weightOf 0 = .ok (.iconst 0, 1) := by decide +kernel
theorem dX3_weightOf_1 : decode cX3_weightOf 1 = .ok (.istore_n 2, 1) := by decide +kernel
theorem dX3_weightOf_2 : decode cX3_weightOf 2 = .ok (.iconst 0, 1) := by decide +kernel
theorem dX3_weightOf_3 : decode cX3_weightOf 3 = .ok (.istore_n 3, 1) := by decide +kernel
theorem dX3_weightOf_4 : decode cX3_weightOf 4 = .ok (.iload_n 3, 1) := by decide +kernel
theorem dX3_weightOf_5 : decode cX3_weightOf 5 = .ok (.aload_n 0, 1) := by decide +kernel
theorem dX3_weightOf_6 : decode cX3_weightOf 6 = .ok (.getfield 29, 3) := by decide +kernel
theorem dX3_weightOf_9 : decode cX3_weightOf 9 = .ok (.if_icmp .ge 37, 3) := by decide +kernel
theorem dX3_weightOf_12 : decode cX3_weightOf 12 = .ok (.iload_n 3, 1) := by decide +kernel
theorem dX3_weightOf_13 : decode cX3_weightOf 13 = .ok (.bipush 24, 2) := by decide +kernel
theorem dX3_weightOf_15 : decode cX3_weightOf 15 = .ok (.if_icmp .ge 31, 3) := by decide +kernel
theorem dX3_weightOf_18 : decode cX3_weightOf 18 = .ok (.iload_n 2, 1) := by decide +kernel
theorem dX3_weightOf_19 : decode cX3_weightOf 19 = .ok (.iload_n 1, 1) := by decide +kernel
theorem dX3_weightOf_20 : decode cX3_weightOf 20 = .ok (.iload_n 3, 1) := by decide +kernel
theorem dX3_weightOf_21 : decode cX3_weightOf 21 = .ok (.invokestatic 64, 3) := by decide +kernel
theorem dX3_weightOf_24 : decode cX3_weightOf 24 = .ok (.iand, 1) := by decide +kernel
theorem dX3_weightOf_25 : decode cX3_weightOf 25 = .ok (.ifCond .eq 12, 3) := by decide +kernel
theorem dX3_weightOf_28 : decode cX3_weightOf 28 = .ok (.aload_n 0, 1) := by decide +kernel
theorem dX3_weightOf_29 : decode cX3_weightOf 29 = .ok (.getfield 25, 3) := by decide +kernel
theorem dX3_weightOf_32 : decode cX3_weightOf 32 = .ok (.iload_n 3, 1) := by decide +kernel
theorem dX3_weightOf_33 : decode cX3_weightOf 33 = .ok (.iaload, 1) := by decide +kernel
theorem dX3_weightOf_34 : decode cX3_weightOf 34 = .ok (.goto 4, 3) := by decide +kernel
theorem dX3_weightOf_37 : decode cX3_weightOf 37 = .ok (.iconst 0, 1) := by decide +kernel
theorem dX3_weightOf_38 : decode cX3_weightOf 38 = .ok (.iadd, 1) := by decide +kernel
theorem dX3_weightOf_39 : decode cX3_weightOf 39 = .ok (.istore_n 2, 1) := by decide +kernel
theorem dX3_weightOf_40 : decode cX3_weightOf 40 = .ok (.iinc 3 1, 3) := by decide +kernel
theorem dX3_weightOf_43 : decode cX3_weightOf 43 = .ok (.goto (-39), 3) := by decide +kernel
theorem dX3_weightOf_46 : decode cX3_weightOf 46 = .ok (.iload_n 2, 1) := by decide +kernel
theorem dX3_weightOf_47 : decode cX3_weightOf 47 = .ok (.ireturn, 1) := by decide +kernel
theorem dX3_weightUnder_0 : decode cX3_weightUnder 0 = .ok (.aload_n 0, 1) := by decide +kernel
theorem dX3_weightUnder_1 : decode cX3_weightUnder 1 = .ok (.aload_n 0, 1) := by decide +kernel
theorem dX3_weightUnder_2 : decode cX3_weightUnder 2 = .ok (.invokevirtual 78, 3) := by decide +kernel
theorem dX3_weightUnder_5 : decode cX3_weightUnder 5 = .ok (.aload_n 0, 1) := by decide +kernel
theorem dX3_weightUnder_6 : decode cX3_weightUnder 6 = .ok (.getfield 12, 3) := by decide +kernel
theorem dX3_weightUnder_9 : decode cX3_weightUnder 9 = .ok (.aload_n 0, 1) := by decide +kernel
theorem dX3_weightUnder_10 : decode cX3_weightUnder 10 = .ok (.invokevirtual 67, 3) := by decide +kernel
theorem dX3_weightUnder_13 : decode cX3_weightUnder 13 = .ok (.iload_n 1, 1) := by decide +kernel
theorem dX3_weightUnder_14 : decode cX3_weightUnder 14 = .ok (.invokevirtual 71, 3) := by decide +kernel
theorem dX3_weightUnder_17 : decode cX3_weightUnder 17 = .ok (.iconst (-1), 1) := by decide +kernel
theorem dX3_weightUnder_18 : decode cX3_weightUnder 18 = .ok (.ixor, 1) := by decide +kernel
theorem dX3_weightUnder_19 : decode cX3_weightUnder 19 = .ok (.iand, 1) := by decide +kernel
theorem dX3_weightUnder_20 : decode cX3_weightUnder 20 = .ok (.invokevirtual 81, 3) := by decide +kernel
theorem dX3_weightUnder_23 : decode cX3_weightUnder 23 = .ok (.ireturn, 1) := by decide +kernel
theorem dX3_partsOnRings_0 : decode cX3_partsOnRings 0 = .ok (.aload_n 0, 1) := by decide +kernel
theorem dX3_partsOnRings_1 : decode cX3_partsOnRings 1 = .ok (.getfield 33, 3) := by decide +kernel
theorem dX3_partsOnRings_4 : decode cX3_partsOnRings 4 = .ok (.aload_n 0, 1) := by decide +kernel
theorem dX3_partsOnRings_5 : decode cX3_partsOnRings 5 = .ok (.invokevirtual 78, 3) := by decide +kernel
theorem dX3_partsOnRings_8 : decode cX3_partsOnRings 8 = .ok (.iconst (-1), 1) := by decide +kernel
theorem dX3_partsOnRings_9 : decode cX3_partsOnRings 9 = .ok (.ixor, 1) := by decide +kernel
theorem dX3_partsOnRings_10 : decode cX3_partsOnRings 10 = .ok (.iand, 1) := by decide +kernel
theorem dX3_partsOnRings_11 : decode cX3_partsOnRings 11 = .ok (.istore_n 1, 1) := by decide +kernel
theorem dX3_partsOnRings_12 : decode cX3_partsOnRings 12 = .ok (.iconst 0, 1) := by decide +kernel
theorem dX3_partsOnRings_13 : decode cX3_partsOnRings 13 = .ok (.istore_n 2, 1) := by decide +kernel
theorem dX3_partsOnRings_14 : decode cX3_partsOnRings 14 = .ok (.iconst 0, 1) := by decide +kernel
theorem dX3_partsOnRings_15 : decode cX3_partsOnRings 15 = .ok (.istore_n 3, 1) := by decide +kernel
theorem dX3_partsOnRings_16 : decode cX3_partsOnRings 16 = .ok (.iload_n 3, 1) := by decide +kernel
theorem dX3_partsOnRings_17 : decode cX3_partsOnRings 17 = .ok (.bipush 24, 2) := by decide +kernel
theorem dX3_partsOnRings_19 : decode cX3_partsOnRings 19 = .ok (.if_icmp .ge 37, 3) := by decide +kernel
theorem dX3_partsOnRings_22 : decode cX3_partsOnRings 22 = .ok (.iload_n 2, 1) := by decide +kernel
theorem dX3_partsOnRings_23 : decode cX3_partsOnRings 23 = .ok (.iload_n 1, 1) := by decide +kernel
theorem dX3_partsOnRings_24 : decode cX3_partsOnRings 24 = .ok (.iload_n 3, 1) := by decide +kernel
theorem dX3_partsOnRings_25 : decode cX3_partsOnRings 25 = .ok (.invokestatic 64, 3) := by decide +kernel
theorem dX3_partsOnRings_28 : decode cX3_partsOnRings 28 = .ok (.iand, 1) := by decide +kernel
theorem dX3_partsOnRings_29 : decode cX3_partsOnRings 29 = .ok (.ifCond .eq 18, 3) := by decide +kernel
theorem dX3_partsOnRings_32 : decode cX3_partsOnRings 32 = .ok (.aload_n 0, 1) := by decide +kernel
theorem dX3_partsOnRings_33 : decode cX3_partsOnRings 33 = .ok (.getfield 12, 3) := by decide +kernel
theorem dX3_partsOnRings_36 : decode cX3_partsOnRings 36 = .ok (.iload_n 3, 1) := by decide +kernel
theorem dX3_partsOnRings_37 : decode cX3_partsOnRings 37 = .ok (.invokevirtual 84, 3) := by decide +kernel
theorem dX3_partsOnRings_40 : decode cX3_partsOnRings 40 = .ok (.ifCond .eq 7, 3) := by decide +kernel
theorem dX3_partsOnRings_43 : decode cX3_partsOnRings 43 = .ok (.iconst 1, 1) := by decide +kernel
theorem dX3_partsOnRings_44 : decode cX3_partsOnRings 44 = .ok (.goto 4, 3) := by decide +kernel
theorem dX3_partsOnRings_47 : decode cX3_partsOnRings 47 = .ok (.iconst 0, 1) := by decide +kernel
theorem dX3_partsOnRings_48 : decode cX3_partsOnRings 48 = .ok (.iadd, 1) := by decide +kernel
theorem dX3_partsOnRings_49 : decode cX3_partsOnRings 49 = .ok (.istore_n 2, 1) := by decide +kernel
theorem dX3_partsOnRings_50 : decode cX3_partsOnRings 50 = .ok (.iinc 3 1, 3) := by decide +kernel
theorem dX3_partsOnRings_53 : decode cX3_partsOnRings 53 = .ok (.goto (-37), 3) := by decide +kernel
theorem dX3_partsOnRings_56 : decode cX3_partsOnRings 56 = .ok (.iload_n 2, 1) := by decide +kernel
theorem dX3_partsOnRings_57 : decode cX3_partsOnRings 57 = .ok (.ireturn, 1) := by decide +kernel
theorem dX3_figure_0 : decode cX3_figure 0 = .ok (.iload_n 1, 1) := by decide +kernel
theorem dX3_figure_1 : decode cX3_figure 1 = .ok (.tableswitch 144 0 10 #[59, 67, 72, 77, 85, 93, 101, 109, 118, 134, 139], 59) := by decide +kernel
theorem dX3_figure_60 : decode cX3_figure 60 = .ok (.aload_n 0, 1) := by decide +kernel
theorem dX3_figure_61 : decode cX3_figure 61 = .ok (.getfield 33, 3) := by decide +kernel
theorem dX3_figure_64 : decode cX3_figure 64 = .ok (.invokestatic 58, 3) := by decide +kernel
theorem dX3_figure_67 : decode cX3_figure 67 = .ok (.ireturn, 1) := by decide +kernel
theorem dX3_figure_68 : decode cX3_figure 68 = .ok (.aload_n 0, 1) := by decide +kernel
theorem dX3_figure_69 : decode cX3_figure 69 = .ok (.getfield 29, 3) := by decide +kernel
theorem dX3_figure_72 : decode cX3_figure 72 = .ok (.ireturn, 1) := by decide +kernel
theorem dX3_figure_73 : decode cX3_figure 73 = .ok (.aload_n 0, 1) := by decide +kernel
theorem dX3_figure_74 : decode cX3_figure 74 = .ok (.invokevirtual 88, 3) := by decide +kernel
theorem dX3_figure_77 : decode cX3_figure 77 = .ok (.ireturn, 1) := by decide +kernel
theorem dX3_figure_78 : decode cX3_figure 78 = .ok (.aload_n 0, 1) := by decide +kernel
theorem dX3_figure_79 : decode cX3_figure 79 = .ok (.getfield 12, 3) := by decide +kernel
theorem dX3_figure_82 : decode cX3_figure 82 = .ok (.invokevirtual 91, 3) := by decide +kernel
theorem dX3_figure_85 : decode cX3_figure 85 = .ok (.ireturn, 1) := by decide +kernel
theorem dX3_figure_86 : decode cX3_figure 86 = .ok (.aload_n 0, 1) := by decide +kernel
theorem dX3_figure_87 : decode cX3_figure 87 = .ok (.getfield 12, 3) := by decide +kernel
theorem dX3_figure_90 : decode cX3_figure 90 = .ok (.invokevirtual 94, 3) := by decide +kernel
theorem dX3_figure_93 : decode cX3_figure 93 = .ok (.ireturn, 1) := by decide +kernel
theorem dX3_figure_94 : decode cX3_figure 94 = .ok (.aload_n 0, 1) := by decide +kernel
theorem dX3_figure_95 : decode cX3_figure 95 = .ok (.getfield 36, 3) := by decide +kernel
theorem dX3_figure_98 : decode cX3_figure 98 = .ok (.invokestatic 58, 3) := by decide +kernel
theorem dX3_figure_101 : decode cX3_figure 101 = .ok (.ireturn, 1) := by decide +kernel
theorem dX3_figure_102 : decode cX3_figure 102 = .ok (.aload_n 0, 1) := by decide +kernel
theorem dX3_figure_103 : decode cX3_figure 103 = .ok (.invokevirtual 78, 3) := by decide +kernel
theorem dX3_figure_106 : decode cX3_figure 106 = .ok (.invokestatic 58, 3) := by decide +kernel
theorem dX3_figure_109 : decode cX3_figure 109 = .ok (.ireturn, 1) := by decide +kernel
theorem dX3_figure_110 : decode cX3_figure 110 = .ok (.aload_n 0, 1) := by decide +kernel
theorem dX3_figure_111 : decode cX3_figure 111 = .ok (.aload_n 0, 1) := by decide +kernel
theorem dX3_figure_112 : decode cX3_figure 112 = .ok (.invokevirtual 78, 3) := by decide +kernel
theorem dX3_figure_115 : decode cX3_figure 115 = .ok (.invokevirtual 81, 3) := by decide +kernel
theorem dX3_figure_118 : decode cX3_figure 118 = .ok (.ireturn, 1) := by decide +kernel
theorem dX3_figure_119 : decode cX3_figure 119 = .ok (.aload_n 0, 1) := by decide +kernel
theorem dX3_figure_120 : decode cX3_figure 120 = .ok (.getfield 21, 3) := by decide +kernel
theorem dX3_figure_123 : decode cX3_figure 123 = .ok (.invokevirtual 97, 3) := by decide +kernel
theorem dX3_figure_126 : decode cX3_figure 126 = .ok (.ifCond .eq 7, 3) := by decide +kernel
theorem dX3_figure_129 : decode cX3_figure 129 = .ok (.iconst 1, 1) := by decide +kernel
theorem dX3_figure_130 : decode cX3_figure 130 = .ok (.goto 4, 3) := by decide +kernel
theorem dX3_figure_133 : decode cX3_figure 133 = .ok (.iconst 0, 1) := by decide +kernel
theorem dX3_figure_134 : decode cX3_figure 134 = .ok (.ireturn, 1) := by decide +kernel
theorem dX3_figure_135 : decode cX3_figure 135 = .ok (.aload_n 0, 1) := by decide +kernel
theorem dX3_figure_136 : decode cX3_figure 136 = .ok (.getfield 39, 3) := by decide +kernel
theorem dX3_figure_139 : decode cX3_figure 139 = .ok (.ireturn, 1) := by decide +kernel
theorem dX3_figure_140 : decode cX3_figure 140 = .ok (.aload_n 0, 1) := by decide +kernel
theorem dX3_figure_141 : decode cX3_figure 141 = .ok (.getfield 42, 3) := by decide +kernel
theorem dX3_figure_144 : decode cX3_figure 144 = .ok (.ireturn, 1) := by decide +kernel
theorem dX3_figure_145 : decode cX3_figure 145 = .ok (.aload_n 0, 1) := by decide +kernel
theorem dX3_figure_146 : decode cX3_figure 146 = .ok (.invokevirtual 78, 3) := by decide +kernel
theorem dX3_figure_149 : decode cX3_figure 149 = .ok (.ifCond .ne 8, 3) := by decide +kernel
theorem dX3_figure_152 : decode cX3_figure 152 = .ok (.bipush (-9), 2) := by decide +kernel
theorem dX3_figure_154 : decode cX3_figure 154 = .ok (.goto 14, 3) := by decide +kernel
theorem dX3_figure_157 : decode cX3_figure 157 = .ok (.aload_n 0, 1) := by decide +kernel
theorem dX3_figure_158 : decode cX3_figure 158 = .ok (.getfield 12, 3) := by decide +kernel
theorem dX3_figure_161 : decode cX3_figure 161 = .ok (.aload_n 0, 1) := by decide +kernel
theorem dX3_figure_162 : decode cX3_figure 162 = .ok (.invokevirtual 67, 3) := by decide +kernel
theorem dX3_figure_165 : decode cX3_figure 165 = .ok (.invokevirtual 101, 3) := by decide +kernel
theorem dX3_figure_168 : decode cX3_figure 168 = .ok (.ireturn, 1) := by decide +kernel
theorem dX3_figureOf_0 : decode cX3_figureOf 0 = .ok (.iload_n 2, 1) := by decide +kernel
theorem dX3_figureOf_1 : decode cX3_figureOf 1 = .ok (.tableswitch 104 0 5 #[39, 48, 62, 80, 86, 95], 39) := by decide +kernel
theorem dX3_figureOf_40 : decode cX3_figureOf 40 = .ok (.aload_n 0, 1) := by decide +kernel
theorem dX3_figureOf_41 : decode cX3_figureOf 41 = .ok (.iload_n 1, 1) := by decide +kernel
theorem dX3_figureOf_42 : decode cX3_figureOf 42 = .ok (.invokestatic 64, 3) := by decide +kernel
theorem dX3_figureOf_45 : decode cX3_figureOf 45 = .ok (.invokevirtual 81, 3) := by decide +kernel
theorem dX3_figureOf_48 : decode cX3_figureOf 48 = .ok (.ireturn, 1) := by decide +kernel
theorem dX3_figureOf_49 : decode cX3_figureOf 49 = .ok (.aload_n 0, 1) := by decide +kernel
theorem dX3_figureOf_50 : decode cX3_figureOf 50 = .ok (.iload_n 1, 1) := by decide +kernel
theorem dX3_figureOf_51 : decode cX3_figureOf 51 = .ok (.invokevirtual 104, 3) := by decide +kernel
theorem dX3_figureOf_54 : decode cX3_figureOf 54 = .ok (.ifCond .eq 7, 3) := by decide +kernel
theorem dX3_figureOf_57 : decode cX3_figureOf 57 = .ok (.iconst 1, 1) := by decide +kernel
theorem dX3_figureOf_58 : decode cX3_figureOf 58 = .ok (.goto 4, 3) := by decide +kernel
theorem dX3_figureOf_61 : decode cX3_figureOf 61 = .ok (.iconst 0, 1) := by decide +kernel
theorem dX3_figureOf_62 : decode cX3_figureOf 62 = .ok (.ireturn, 1) := by decide +kernel
theorem dX3_figureOf_63 : decode cX3_figureOf 63 = .ok (.aload_n 0, 1) := by decide +kernel
theorem dX3_figureOf_64 : decode cX3_figureOf 64 = .ok (.invokevirtual 78, 3) := by decide +kernel
theorem dX3_figureOf_67 : decode cX3_figureOf 67 = .ok (.iload_n 1, 1) := by decide +kernel
theorem dX3_figureOf_68 : decode cX3_figureOf 68 = .ok (.invokestatic 64, 3) := by decide +kernel
theorem dX3_figureOf_71 : decode cX3_figureOf 71 = .ok (.iand, 1) := by decide +kernel
theorem dX3_figureOf_72 : decode cX3_figureOf 72 = .ok (.ifCond .eq 7, 3) := by decide +kernel
theorem dX3_figureOf_75 : decode cX3_figureOf 75 = .ok (.iconst 1, 1) := by decide +kernel
theorem dX3_figureOf_76 : decode cX3_figureOf 76 = .ok (.goto 4, 3) := by decide +kernel
theorem dX3_figureOf_79 : decode cX3_figureOf 79 = .ok (.iconst 0, 1) := by decide +kernel
theorem dX3_figureOf_80 : decode cX3_figureOf 80 = .ok (.ireturn, 1) := by decide +kernel
theorem dX3_figureOf_81 : decode cX3_figureOf 81 = .ok (.aload_n 0, 1) := by decide +kernel
theorem dX3_figureOf_82 : decode cX3_figureOf 82 = .ok (.iload_n 1, 1) := by decide +kernel
theorem dX3_figureOf_83 : decode cX3_figureOf 83 = .ok (.invokevirtual 107, 3) := by decide +kernel
theorem dX3_figureOf_86 : decode cX3_figureOf 86 = .ok (.ireturn, 1) := by decide +kernel
theorem dX3_figureOf_87 : decode cX3_figureOf 87 = .ok (.aload_n 0, 1) := by decide +kernel
theorem dX3_figureOf_88 : decode cX3_figureOf 88 = .ok (.getfield 12, 3) := by decide +kernel
theorem dX3_figureOf_91 : decode cX3_figureOf 91 = .ok (.iload_n 1, 1) := by decide +kernel
theorem dX3_figureOf_92 : decode cX3_figureOf 92 = .ok (.invokevirtual 109, 3) := by decide +kernel
theorem dX3_figureOf_95 : decode cX3_figureOf 95 = .ok (.ireturn, 1) := by decide +kernel
theorem dX3_figureOf_96 : decode cX3_figureOf 96 = .ok (.aload_n 0, 1) := by decide +kernel
theorem dX3_figureOf_97 : decode cX3_figureOf 97 = .ok (.getfield 12, 3) := by decide +kernel
theorem dX3_figureOf_100 : decode cX3_figureOf 100 = .ok (.iload_n 1, 1) := by decide +kernel
theorem dX3_figureOf_101 : decode cX3_figureOf 101 = .ok (.invokevirtual 112, 3) := by decide +kernel
theorem dX3_figureOf_104 : decode cX3_figureOf 104 = .ok (.ireturn, 1) := by decide +kernel
theorem dX3_figureOf_105 : decode cX3_figureOf 105 = .ok (.aload_n 0, 1) := by decide +kernel
theorem dX3_figureOf_106 : decode cX3_figureOf 106 = .ok (.getfield 21, 3) := by decide +kernel
theorem dX3_figureOf_109 : decode cX3_figureOf 109 = .ok (.iload_n 1, 1) := by decide +kernel
theorem dX3_figureOf_110 : decode cX3_figureOf 110 = .ok (.invokevirtual 115, 3) := by decide +kernel
theorem dX3_figureOf_113 : decode cX3_figureOf 113 = .ok (.ireturn, 1) := by decide +kernel
theorem dX3_attempt_0 : decode cX3_attempt 0 = .ok (.aload_n 0, 1) := by decide +kernel
theorem dX3_attempt_1 : decode cX3_attempt 1 = .ok (.iload_n 1, 1) := by decide +kernel
theorem dX3_attempt_2 : decode cX3_attempt 2 = .ok (.iload_n 2, 1) := by decide +kernel
theorem dX3_attempt_3 : decode cX3_attempt 3 = .ok (.iload_n 3, 1) := by decide +kernel
theorem dX3_attempt_4 : decode cX3_attempt 4 = .ok (.invokevirtual 118, 3) := by decide +kernel
theorem dX3_attempt_7 : decode cX3_attempt 7 = .ok (.ifCond .eq 5, 3) := by decide +kernel
theorem dX3_attempt_10 : decode cX3_attempt 10 = .ok (.iconst 0, 1) := by decide +kernel
theorem dX3_attempt_11 : decode cX3_attempt 11 = .ok (.ireturn, 1) := by decide +kernel
theorem dX3_attempt_12 : decode cX3_attempt 12 = .ok (.aload_n 0, 1) := by decide +kernel
theorem dX3_attempt_13 : decode cX3_attempt 13 = .ok (.iload_n 1, 1) := by decide +kernel
theorem dX3_attempt_14 : decode cX3_attempt 14 = .ok (.iload_n 2, 1) := by decide +kernel
theorem dX3_attempt_15 : decode cX3_attempt 15 = .ok (.iload_n 3, 1) := by decide +kernel
theorem dX3_attempt_16 : decode cX3_attempt 16 = .ok (.iload 4, 2) := by decide +kernel
theorem dX3_attempt_18 : decode cX3_attempt 18 = .ok (.invokevirtual 122, 3) := by decide +kernel
theorem dX3_attempt_21 : decode cX3_attempt 21 = .ok (.pop, 1) := by decide +kernel
theorem dX3_attempt_22 : decode cX3_attempt 22 = .ok (.iconst 1, 1) := by decide +kernel
theorem dX3_attempt_23 : decode cX3_attempt 23 = .ok (.ireturn, 1) := by decide +kernel
theorem dX3_faultOf_0 : decode cX3_faultOf 0 = .ok (.iload_n 1, 1) := by decide +kernel
theorem dX3_faultOf_1 : decode cX3_faultOf 1 = .ok (.tableswitch 113 1 7 #[43, 49, 56, 75, 83, 91, 97], 43) := by decide +kernel
theorem dX3_faultOf_44 : decode cX3_faultOf 44 = .ok (.aload_n 0, 1) := by decide +kernel
theorem dX3_faultOf_45 : decode cX3_faultOf 45 = .ok (.iload_n 3, 1) := by decide +kernel
theorem dX3_faultOf_46 : decode cX3_faultOf 46 = .ok (.invokevirtual 126, 3) := by decide +kernel
theorem dX3_faultOf_49 : decode cX3_faultOf 49 = .ok (.ireturn, 1) := by decide +kernel
theorem dX3_faultOf_50 : decode cX3_faultOf 50 = .ok (.aload_n 0, 1) := by decide +kernel
theorem dX3_faultOf_51 : decode cX3_faultOf 51 = .ok (.iload_n 2, 1) := by decide +kernel
theorem dX3_faultOf_52 : decode cX3_faultOf 52 = .ok (.iload_n 3, 1) := by decide +kernel
theorem dX3_faultOf_53 : decode cX3_faultOf 53 = .ok (.invokevirtual 129, 3) := by decide +kernel
theorem dX3_faultOf_56 : decode cX3_faultOf 56 = .ok (.ireturn, 1) := by decide +kernel
theorem dX3_faultOf_57 : decode cX3_faultOf 57 = .ok (.aload_n 0, 1) := by decide +kernel
theorem dX3_faultOf_58 : decode cX3_faultOf 58 = .ok (.getfield 12, 3) := by decide +kernel
theorem dX3_faultOf_61 : decode cX3_faultOf 61 = .ok (.iload_n 2, 1) := by decide +kernel
theorem dX3_faultOf_62 : decode cX3_faultOf 62 = .ok (.iload_n 3, 1) := by decide +kernel
theorem dX3_faultOf_63 : decode cX3_faultOf 63 = .ok (.invokevirtual 132, 3) := by decide +kernel
theorem dX3_faultOf_66 : decode cX3_faultOf 66 = .ok (.iconst (-1), 1) := by decide +kernel
theorem dX3_faultOf_67 : decode cX3_faultOf 67 = .ok (.if_icmp .ne 7, 3) := by decide +kernel
theorem dX3_faultOf_70 : decode cX3_faultOf 70 = .ok (.iconst 1, 1) := by decide +kernel
theorem dX3_faultOf_71 : decode cX3_faultOf 71 = .ok (.goto 4, 3) := by decide +kernel
theorem dX3_faultOf_74 : decode cX3_faultOf 74 = .ok (.iconst 0, 1) := by decide +kernel
theorem dX3_faultOf_75 : decode cX3_faultOf 75 = .ok (.ireturn, 1) := by decide +kernel
theorem dX3_faultOf_76 : decode cX3_faultOf 76 = .ok (.aload_n 0, 1) := by decide +kernel
theorem dX3_faultOf_77 : decode cX3_faultOf 77 = .ok (.iload_n 2, 1) := by decide +kernel
theorem dX3_faultOf_78 : decode cX3_faultOf 78 = .ok (.iload_n 3, 1) := by decide +kernel
theorem dX3_faultOf_79 : decode cX3_faultOf 79 = .ok (.iconst 1, 1) := by decide +kernel
theorem dX3_faultOf_80 : decode cX3_faultOf 80 = .ok (.invokevirtual 135, 3) := by decide +kernel
theorem dX3_faultOf_83 : decode cX3_faultOf 83 = .ok (.ireturn, 1) := by decide +kernel
theorem dX3_faultOf_84 : decode cX3_faultOf 84 = .ok (.aload_n 0, 1) := by decide +kernel
theorem dX3_faultOf_85 : decode cX3_faultOf 85 = .ok (.iload_n 2, 1) := by decide +kernel
theorem dX3_faultOf_86 : decode cX3_faultOf 86 = .ok (.iload_n 3, 1) := by decide +kernel
theorem dX3_faultOf_87 : decode cX3_faultOf 87 = .ok (.iconst 0, 1) := by decide +kernel
theorem dX3_faultOf_88 : decode cX3_faultOf 88 = .ok (.invokevirtual 135, 3) := by decide +kernel
theorem dX3_faultOf_91 : decode cX3_faultOf 91 = .ok (.ireturn, 1) := by decide +kernel
theorem dX3_faultOf_92 : decode cX3_faultOf 92 = .ok (.aload_n 0, 1) := by decide +kernel
theorem dX3_faultOf_93 : decode cX3_faultOf 93 = .ok (.iload_n 3, 1) := by decide +kernel
theorem dX3_faultOf_94 : decode cX3_faultOf 94 = .ok (.invokevirtual 139, 3) := by decide +kernel
theorem dX3_faultOf_97 : decode cX3_faultOf 97 = .ok (.ireturn, 1) := by decide +kernel
theorem dX3_faultOf_98 : decode cX3_faultOf 98 = .ok (.aload_n 0, 1) := by decide +kernel
theorem dX3_faultOf_99 : decode cX3_faultOf 99 = .ok (.getfield 21, 3) := by decide +kernel
theorem dX3_faultOf_102 : decode cX3_faultOf 102 = .ok (.invokevirtual 97, 3) := by decide +kernel
theorem dX3_faultOf_105 : decode cX3_faultOf 105 = .ok (.ifCond .eq 7, 3) := by decide +kernel
theorem dX3_faultOf_108 : decode cX3_faultOf 108 = .ok (.iconst 3, 1) := by decide +kernel
theorem dX3_faultOf_109 : decode cX3_faultOf 109 = .ok (.goto 4, 3) := by decide +kernel
theorem dX3_faultOf_112 : decode cX3_faultOf 112 = .ok (.iconst 0, 1) := by decide +kernel
theorem dX3_faultOf_113 : decode cX3_faultOf 113 = .ok (.ireturn, 1) := by decide +kernel
theorem dX3_faultOf_114 : decode cX3_faultOf 114 = .ok (.aload_n 0, 1) := by decide +kernel
theorem dX3_faultOf_115 : decode cX3_faultOf 115 = .ok (.getfield 21, 3) := by decide +kernel
theorem dX3_faultOf_118 : decode cX3_faultOf 118 = .ok (.invokevirtual 97, 3) := by decide +kernel
theorem dX3_faultOf_121 : decode cX3_faultOf 121 = .ok (.ifCond .eq 7, 3) := by decide +kernel
theorem dX3_faultOf_124 : decode cX3_faultOf 124 = .ok (.iconst 0, 1) := by decide +kernel
theorem dX3_faultOf_125 : decode cX3_faultOf 125 = .ok (.goto 4, 3) := by decide +kernel
theorem dX3_faultOf_128 : decode cX3_faultOf 128 = .ok (.iconst 3, 1) := by decide +kernel
theorem dX3_faultOf_129 : decode cX3_faultOf 129 = .ok (.ireturn, 1) := by decide +kernel
theorem dX3_makeFault_0 : decode cX3_makeFault 0 = .ok (.iload_n 1, 1) := by decide +kernel
theorem dX3_makeFault_1 : decode cX3_makeFault 1 = .ok (.iconst 1, 1) := by decide +kernel
theorem dX3_makeFault_2 : decode cX3_makeFault 2 = .ok (.if_icmp .lt 9, 3) := by decide +kernel
theorem dX3_makeFault_5 : decode cX3_makeFault 5 = .ok (.iload_n 1, 1) := by decide +kernel
theorem dX3_makeFault_6 : decode cX3_makeFault 6 = .ok (.bipush 9, 2) := by decide +kernel
theorem dX3_makeFault_8 : decode cX3_makeFault 8 = .ok (.if_icmp .le 5, 3) := by decide +kernel
theorem dX3_makeFault_11 : decode cX3_makeFault 11 = .ok (.iconst 2, 1) := by decide +kernel
theorem dX3_makeFault_12 : decode cX3_makeFault 12 = .ok (.ireturn, 1) := by decide +kernel
theorem dX3_makeFault_13 : decode cX3_makeFault 13 = .ok (.aload_n 0, 1) := by decide +kernel
theorem dX3_makeFault_14 : decode cX3_makeFault 14 = .ok (.getfield 29, 3) := by decide +kernel
theorem dX3_makeFault_17 : decode cX3_makeFault 17 = .ok (.bipush 24, 2) := by decide +kernel
theorem dX3_makeFault_19 : decode cX3_makeFault 19 = .ok (.if_icmp .lt 7, 3) := by decide +kernel
theorem dX3_makeFault_22 : decode cX3_makeFault 22 = .ok (.iconst 3, 1) := by decide +kernel
theorem dX3_makeFault_23 : decode cX3_makeFault 23 = .ok (.goto 4, 3) := by decide +kernel
theorem dX3_makeFault_26 : decode cX3_makeFault 26 = .ok (.iconst 0, 1) := by decide +kernel
theorem dX3_makeFault_27 : decode cX3_makeFault 27 = .ok (.ireturn, 1) := by decide +kernel
theorem dX3_tieFault_0 : decode cX3_tieFault 0 = .ok (.aload_n 0, 1) := by decide +kernel
theorem dX3_tieFault_1 : decode cX3_tieFault 1 = .ok (.iload_n 1, 1) := by decide +kernel
theorem dX3_tieFault_2 : decode cX3_tieFault 2 = .ok (.iload_n 2, 1) := by decide +kernel
theorem dX3_tieFault_3 : decode cX3_tieFault 3 = .ok (.invokevirtual 142, 3) := by decide +kernel
theorem dX3_tieFault_6 : decode cX3_tieFault 6 = .ok (.ifCond .eq 5, 3) := by decide +kernel
theorem dX3_tieFault_9 : decode cX3_tieFault 9 = .ok (.iconst 1, 1) := by decide +kernel
theorem dX3_tieFault_10 : decode cX3_tieFault 10 = .ok (.ireturn, 1) := by decide +kernel
theorem dX3_tieFault_11 : decode cX3_tieFault 11 = .ok (.iload_n 1, 1) := by decide +kernel
theorem dX3_tieFault_12 : decode cX3_tieFault 12 = .ok (.iload_n 2, 1) := by decide +kernel
theorem dX3_tieFault_13 : decode cX3_tieFault 13 = .ok (.if_icmp .ne 5, 3) := by decide +kernel
theorem dX3_tieFault_16 : decode cX3_tieFault 16 = .ok (.iconst 2, 1) := by decide +kernel
theorem dX3_tieFault_17 : decode cX3_tieFault 17 = .ok (.ireturn, 1) := by decide +kernel
theorem dX3_tieFault_18 : decode cX3_tieFault 18 = .ok (.aload_n 0, 1) := by decide +kernel
theorem dX3_tieFault_19 : decode cX3_tieFault 19 = .ok (.getfield 12, 3) := by decide +kernel
theorem dX3_tieFault_22 : decode cX3_tieFault 22 = .ok (.invokevirtual 145, 3) := by decide +kernel
theorem dX3_tieFault_25 : decode cX3_tieFault 25 = .ok (.ifCond .ne 16, 3) := by decide +kernel
theorem dX3_tieFault_28 : decode cX3_tieFault 28 = .ok (.aload_n 0, 1) := by decide +kernel
theorem dX3_tieFault_29 : decode cX3_tieFault 29 = .ok (.getfield 12, 3) := by decide +kernel
theorem dX3_tieFault_32 : decode cX3_tieFault 32 = .ok (.iload_n 1, 1) := by decide +kernel
theorem dX3_tieFault_33 : decode cX3_tieFault 33 = .ok (.iload_n 2, 1) := by decide +kernel
theorem dX3_tieFault_34 : decode cX3_tieFault 34 = .ok (.invokevirtual 132, 3) := by decide +kernel
theorem dX3_tieFault_37 : decode cX3_tieFault 37 = .ok (.iconst (-1), 1) := by decide +kernel
theorem dX3_tieFault_38 : decode cX3_tieFault 38 = .ok (.if_icmp .eq 7, 3) := by decide +kernel
theorem dX3_tieFault_41 : decode cX3_tieFault 41 = .ok (.iconst 3, 1) := by decide +kernel
theorem dX3_tieFault_42 : decode cX3_tieFault 42 = .ok (.goto 4, 3) := by decide +kernel
theorem dX3_tieFault_45 : decode cX3_tieFault 45 = .ok (.iconst 0, 1) := by decide +kernel
theorem dX3_tieFault_46 : decode cX3_tieFault 46 = .ok (.ireturn, 1) := by decide +kernel
theorem dX3_stringFault_0 : decode cX3_stringFault 0 = .ok (.aload_n 0, 1) := by decide +kernel
theorem dX3_stringFault_1 : decode cX3_stringFault 1 = .ok (.getfield 12, 3) := by decide +kernel
theorem dX3_stringFault_4 : decode cX3_stringFault 4 = .ok (.iload_n 1, 1) := by decide +kernel
theorem dX3_stringFault_5 : decode cX3_stringFault 5 = .ok (.iload_n 2, 1) := by decide +kernel
theorem dX3_stringFault_6 : decode cX3_stringFault 6 = .ok (.invokevirtual 132, 3) := by decide +kernel
theorem dX3_stringFault_9 : decode cX3_stringFault 9 = .ok (.istore 4, 2) := by decide +kernel
theorem dX3_stringFault_11 : decode cX3_stringFault 11 = .ok (.iload 4, 2) := by decide +kernel
theorem dX3_stringFault_13 : decode cX3_stringFault 13 = .ok (.iconst (-1), 1) := by decide +kernel
theorem dX3_stringFault_14 : decode cX3_stringFault 14 = .ok (.if_icmp .ne 5, 3) := by decide +kernel
theorem dX3_stringFault_17 : decode cX3_stringFault 17 = .ok (.iconst 1, 1) := by decide +kernel
theorem dX3_stringFault_18 : decode cX3_stringFault 18 = .ok (.ireturn, 1) := by decide +kernel
theorem dX3_stringFault_19 : decode cX3_stringFault 19 = .ok (.aload_n 0, 1) := by decide +kernel
theorem dX3_stringFault_20 : decode cX3_stringFault 20 = .ok (.getfield 12, 3) := by decide +kernel
theorem dX3_stringFault_23 : decode cX3_stringFault 23 = .ok (.iload 4, 2) := by decide +kernel
theorem dX3_stringFault_25 : decode cX3_stringFault 25 = .ok (.invokevirtual 148, 3) := by decide +kernel
theorem dX3_stringFault_28 : decode cX3_stringFault 28 = .ok (.iload_n 3, 1) := by decide +kernel
theorem dX3_stringFault_29 : decode cX3_stringFault 29 = .ok (.if_icmp .ne 7, 3) := by decide +kernel
theorem dX3_stringFault_32 : decode cX3_stringFault 32 = .ok (.iconst 0, 1) := by decide +kernel
theorem dX3_stringFault_33 : decode cX3_stringFault 33 = .ok (.goto 4, 3) := by decide +kernel
theorem dX3_stringFault_36 : decode cX3_stringFault 36 = .ok (.iconst 3, 1) := by decide +kernel
theorem dX3_stringFault_37 : decode cX3_stringFault 37 = .ok (.ireturn, 1) := by decide +kernel
theorem dX3_partFault_0 : decode cX3_partFault 0 = .ok (.aload_n 0, 1) := by decide +kernel
theorem dX3_partFault_1 : decode cX3_partFault 1 = .ok (.iload_n 1, 1) := by decide +kernel
theorem dX3_partFault_2 : decode cX3_partFault 2 = .ok (.invokevirtual 151, 3) := by decide +kernel
theorem dX3_partFault_5 : decode cX3_partFault 5 = .ok (.ifCond .eq 7, 3) := by decide +kernel
theorem dX3_partFault_8 : decode cX3_partFault 8 = .ok (.iconst 0, 1) := by decide +kernel
theorem dX3_partFault_9 : decode cX3_partFault 9 = .ok (.goto 4, 3) := by decide +kernel
theorem dX3_partFault_12 : decode cX3_partFault 12 = .ok (.iconst 1, 1) := by decide +kernel
theorem dX3_partFault_13 : decode cX3_partFault 13 = .ok (.ireturn, 1) := by decide +kernel
theorem dX3_placeFault_0 : decode cX3_placeFault 0 = .ok (.aload_n 0, 1) := by decide +kernel
theorem dX3_placeFault_1 : decode cX3_placeFault 1 = .ok (.getfield 33, 3) := by decide +kernel
theorem dX3_placeFault_4 : decode cX3_placeFault 4 = .ok (.bipush 15, 2) := by decide +kernel
theorem dX3_placeFault_6 : decode cX3_placeFault 6 = .ok (.ior, 1) := by decide +kernel
theorem dX3_placeFault_7 : decode cX3_placeFault 7 = .ok (.iload_n 1, 1) := by decide +kernel
theorem dX3_placeFault_8 : decode cX3_placeFault 8 = .ok (.invokestatic 64, 3) := by decide +kernel
theorem dX3_placeFault_11 : decode cX3_placeFault 11 = .ok (.iand, 1) := by decide +kernel
theorem dX3_placeFault_12 : decode cX3_placeFault 12 = .ok (.ifCond .eq 7, 3) := by decide +kernel
theorem dX3_placeFault_15 : decode cX3_placeFault 15 = .ok (.iconst 1, 1) := by decide +kernel
theorem dX3_placeFault_16 : decode cX3_placeFault 16 = .ok (.goto 4, 3) := by decide +kernel
theorem dX3_placeFault_19 : decode cX3_placeFault 19 = .ok (.iconst 0, 1) := by decide +kernel
theorem dX3_placeFault_20 : decode cX3_placeFault 20 = .ok (.istore_n 3, 1) := by decide +kernel
theorem dX3_placeFault_21 : decode cX3_placeFault 21 = .ok (.iload_n 3, 1) := by decide +kernel
theorem dX3_placeFault_22 : decode cX3_placeFault 22 = .ok (.ifCond .eq 19, 3) := by decide +kernel
theorem dX3_placeFault_25 : decode cX3_placeFault 25 = .ok (.aload_n 0, 1) := by decide +kernel
theorem dX3_placeFault_26 : decode cX3_placeFault 26 = .ok (.getfield 33, 3) := by decide +kernel
theorem dX3_placeFault_29 : decode cX3_placeFault 29 = .ok (.iload_n 2, 1) := by decide +kernel
theorem dX3_placeFault_30 : decode cX3_placeFault 30 = .ok (.invokestatic 64, 3) := by decide +kernel
theorem dX3_placeFault_33 : decode cX3_placeFault 33 = .ok (.iand, 1) := by decide +kernel
theorem dX3_placeFault_34 : decode cX3_placeFault 34 = .ok (.ifCond .eq 7, 3) := by decide +kernel
theorem dX3_placeFault_37 : decode cX3_placeFault 37 = .ok (.iconst 0, 1) := by decide +kernel
theorem dX3_placeFault_38 : decode cX3_placeFault 38 = .ok (.goto 4, 3) := by decide +kernel
theorem dX3_placeFault_41 : decode cX3_placeFault 41 = .ok (.iconst 1, 1) := by decide +kernel
theorem dX3_placeFault_42 : decode cX3_placeFault 42 = .ok (.ireturn, 1) := by decide +kernel
theorem dX3_perform_0 : decode cX3_perform 0 = .ok (.iload_n 1, 1) := by decide +kernel
theorem dX3_perform_1 : decode cX3_perform 1 = .ok (.tableswitch 94 1 7 #[43, 49, 58, 65, 73, 81, 89], 43) := by decide +kernel
theorem dX3_perform_44 : decode cX3_perform 44 = .ok (.aload_n 0, 1) := by decide +kernel
theorem dX3_perform_45 : decode cX3_perform 45 = .ok (.iload_n 3, 1) := by decide +kernel
theorem dX3_perform_46 : decode cX3_perform 46 = .ok (.invokevirtual 154, 3) := by decide +kernel
theorem dX3_perform_49 : decode cX3_perform 49 = .ok (.ireturn, 1) := by decide +kernel
theorem dX3_perform_50 : decode cX3_perform 50 = .ok (.aload_n 0, 1) := by decide +kernel
theorem dX3_perform_51 : decode cX3_perform 51 = .ok (.iload_n 2, 1) := by decide +kernel
theorem dX3_perform_52 : decode cX3_perform 52 = .ok (.iload_n 3, 1) := by decide +kernel
theorem dX3_perform_53 : decode cX3_perform 53 = .ok (.iload 4, 2) := by decide +kernel
theorem dX3_perform_55 : decode cX3_perform 55 = .ok (.invokevirtual 157, 3) := by decide +kernel
theorem dX3_perform_58 : decode cX3_perform 58 = .ok (.ireturn, 1) := by decide +kernel
theorem dX3_perform_59 : decode cX3_perform 59 = .ok (.aload_n 0, 1) := by decide +kernel
theorem dX3_perform_60 : decode cX3_perform 60 = .ok (.iload_n 2, 1) := by decide +kernel
theorem dX3_perform_61 : decode cX3_perform 61 = .ok (.iload_n 3, 1) := by decide +kernel
theorem dX3_perform_62 : decode cX3_perform 62 = .ok (.invokevirtual 160, 3) := by decide +kernel
theorem dX3_perform_65 : decode cX3_perform 65 = .ok (.ireturn, 1) := by decide +kernel
theorem dX3_perform_66 : decode cX3_perform 66 = .ok (.aload_n 0, 1) := by decide +kernel
theorem dX3_perform_67 : decode cX3_perform 67 = .ok (.iload_n 2, 1) := by decide +kernel
theorem dX3_perform_68 : decode cX3_perform 68 = .ok (.iload_n 3, 1) := by decide +kernel
theorem dX3_perform_69 : decode cX3_perform 69 = .ok (.iconst 0, 1) := by decide +kernel
theorem dX3_perform_70 : decode cX3_perform 70 = .ok (.invokevirtual 163, 3) := by decide +kernel
theorem dX3_perform_73 : decode cX3_perform 73 = .ok (.ireturn, 1) := by decide +kernel
theorem dX3_perform_74 : decode cX3_perform 74 = .ok (.aload_n 0, 1) := by decide +kernel
theorem dX3_perform_75 : decode cX3_perform 75 = .ok (.iload_n 2, 1) := by decide +kernel
theorem dX3_perform_76 : decode cX3_perform 76 = .ok (.iload_n 3, 1) := by decide +kernel
theorem dX3_perform_77 : decode cX3_perform 77 = .ok (.iconst 1, 1) := by decide +kernel
theorem dX3_perform_78 : decode cX3_perform 78 = .ok (.invokevirtual 163, 3) := by decide +kernel
theorem dX3_perform_81 : decode cX3_perform 81 = .ok (.ireturn, 1) := by decide +kernel
theorem dX3_perform_82 : decode cX3_perform 82 = .ok (.aload_n 0, 1) := by decide +kernel
theorem dX3_perform_83 : decode cX3_perform 83 = .ok (.iload_n 3, 1) := by decide +kernel
theorem dX3_perform_84 : decode cX3_perform 84 = .ok (.iload 4, 2) := by decide +kernel
theorem dX3_perform_86 : decode cX3_perform 86 = .ok (.invokevirtual 166, 3) := by decide +kernel
theorem dX3_perform_89 : decode cX3_perform 89 = .ok (.ireturn, 1) := by decide +kernel
theorem dX3_perform_90 : decode cX3_perform 90 = .ok (.aload_n 0, 1) := by decide +kernel
theorem dX3_perform_91 : decode cX3_perform 91 = .ok (.invokevirtual 170, 3) := by decide +kernel
theorem dX3_perform_94 : decode cX3_perform 94 = .ok (.ireturn, 1) := by decide +kernel
theorem dX3_perform_95 : decode cX3_perform 95 = .ok (.aload_n 0, 1) := by decide +kernel
theorem dX3_perform_96 : decode cX3_perform 96 = .ok (.invokevirtual 173, 3) := by decide +kernel
theorem dX3_perform_99 : decode cX3_perform 99 = .ok (.ireturn, 1) := by decide +kernel
theorem dX3_addPart_0 : decode cX3_addPart 0 = .ok (.aload_n 0, 1) := by decide +kernel
theorem dX3_addPart_1 : decode cX3_addPart 1 = .ok (.getfield 29, 3) := by decide +kernel
theorem dX3_addPart_4 : decode cX3_addPart 4 = .ok (.istore_n 2, 1) := by decide +kernel
theorem dX3_addPart_5 : decode cX3_addPart 5 = .ok (.iload_n 2, 1) := by decide +kernel
theorem dX3_addPart_6 : decode cX3_addPart 6 = .ok (.ifCond .lt 47, 3) := by decide +kernel
theorem dX3_addPart_9 : decode cX3_addPart 9 = .ok (.iload_n 2, 1) := by decide +kernel
theorem dX3_addPart_10 : decode cX3_addPart 10 = .ok (.bipush 24, 2) := by decide +kernel
theorem dX3_addPart_12 : decode cX3_addPart 12 = .ok (.if_icmp .ge 41, 3) := by decide +kernel
theorem dX3_addPart_15 : decode cX3_addPart 15 = .ok (.aload_n 0, 1) := by decide +kernel
theorem dX3_addPart_16 : decode cX3_addPart 16 = .ok (.getfield 25, 3) := by decide +kernel
theorem dX3_addPart_19 : decode cX3_addPart 19 = .ok (.iload_n 2, 1) := by decide +kernel
theorem dX3_addPart_20 : decode cX3_addPart 20 = .ok (.iload_n 1, 1) := by decide +kernel
theorem dX3_addPart_21 : decode cX3_addPart 21 = .ok (.iastore, 1) := by decide +kernel
theorem dX3_addPart_22 : decode cX3_addPart 22 = .ok (.aload_n 0, 1) := by decide +kernel
theorem dX3_addPart_23 : decode cX3_addPart 23 = .ok (.dup, 1) := by decide +kernel
theorem dX3_addPart_24 : decode cX3_addPart 24 = .ok (.getfield 33, 3) := by decide +kernel
theorem dX3_addPart_27 : decode cX3_addPart 27 = .ok (.iload_n 2, 1) := by decide +kernel
theorem dX3_addPart_28 : decode cX3_addPart 28 = .ok (.invokestatic 64, 3) := by decide +kernel
theorem dX3_addPart_31 : decode cX3_addPart 31 = .ok (.ior, 1) := by decide +kernel
theorem dX3_addPart_32 : decode cX3_addPart 32 = .ok (.putfield 33, 3) := by decide +kernel
theorem dX3_addPart_35 : decode cX3_addPart 35 = .ok (.aload_n 0, 1) := by decide +kernel
theorem dX3_addPart_36 : decode cX3_addPart 36 = .ok (.getfield 21, 3) := by decide +kernel
theorem dX3_addPart_39 : decode cX3_addPart 39 = .ok (.iload_n 2, 1) := by decide +kernel
theorem dX3_addPart_40 : decode cX3_addPart 40 = .ok (.invokevirtual 176, 3) := by decide +kernel
theorem dX3_addPart_43 : decode cX3_addPart 43 = .ok (.aload_n 0, 1) := by decide +kernel
theorem dX3_addPart_44 : decode cX3_addPart 44 = .ok (.dup, 1) := by decide +kernel
theorem dX3_addPart_45 : decode cX3_addPart 45 = .ok (.getfield 29, 3) := by decide +kernel
theorem dX3_addPart_48 : decode cX3_addPart 48 = .ok (.iconst 1, 1) := by decide +kernel
theorem dX3_addPart_49 : decode cX3_addPart 49 = .ok (.iadd, 1) := by decide +kernel
theorem dX3_addPart_50 : decode cX3_addPart 50 = .ok (.putfield 29, 3) := by decide +kernel
theorem dX3_addPart_53 : decode cX3_addPart 53 = .ok (.iload_n 2, 1) := by decide +kernel
theorem dX3_addPart_54 : decode cX3_addPart 54 = .ok (.ireturn, 1) := by decide +kernel
theorem dX3_addString_0 : decode cX3_addString 0 = .ok (.aload_n 0, 1) := by decide +kernel
theorem dX3_addString_1 : decode cX3_addString 1 = .ok (.getfield 12, 3) := by decide +kernel
theorem dX3_addString_4 : decode cX3_addString 4 = .ok (.iload_n 1, 1) := by decide +kernel
theorem dX3_addString_5 : decode cX3_addString 5 = .ok (.iload_n 2, 1) := by decide +kernel
theorem dX3_addString_6 : decode cX3_addString 6 = .ok (.iload_n 3, 1) := by decide +kernel
theorem dX3_addString_7 : decode cX3_addString 7 = .ok (.invokevirtual 180, 3) := by decide +kernel
theorem dX3_addString_10 : decode cX3_addString 10 = .ok (.iload_n 3, 1) := by decide +kernel
theorem dX3_addString_11 : decode cX3_addString 11 = .ok (.ifCond .eq 22, 3) := by decide +kernel
theorem dX3_addString_14 : decode cX3_addString 14 = .ok (.aload_n 0, 1) := by decide +kernel
theorem dX3_addString_15 : decode cX3_addString 15 = .ok (.getfield 21, 3) := by decide +kernel
theorem dX3_addString_18 : decode cX3_addString 18 = .ok (.iload_n 1, 1) := by decide +kernel
theorem dX3_addString_19 : decode cX3_addString 19 = .ok (.invokevirtual 184, 3) := by decide +kernel
theorem dX3_addString_22 : decode cX3_addString 22 = .ok (.ifCond .eq 11, 3) := by decide +kernel
theorem dX3_addString_25 : decode cX3_addString 25 = .ok (.aload_n 0, 1) := by decide +kernel
theorem dX3_addString_26 : decode cX3_addString 26 = .ok (.getfield 21, 3) := by decide +kernel
theorem dX3_addString_29 : decode cX3_addString 29 = .ok (.iload_n 2, 1) := by decide +kernel
theorem dX3_addString_30 : decode cX3_addString 30 = .ok (.invokevirtual 187, 3) := by decide +kernel
theorem dX3_addString_33 : decode cX3_addString 33 = .ok (.aload_n 0, 1) := by decide +kernel
theorem dX3_addString_34 : decode cX3_addString 34 = .ok (.getfield 12, 3) := by decide +kernel
theorem dX3_addString_37 : decode cX3_addString 37 = .ok (.invokevirtual 91, 3) := by decide +kernel
theorem dX3_addString_40 : decode cX3_addString 40 = .ok (.ireturn, 1) := by decide +kernel
theorem dX3_removeString_0 : decode cX3_removeString 0 = .ok (.aload_n 0, 1) := by decide +kernel
theorem dX3_removeString_1 : decode cX3_removeString 1 = .ok (.invokevirtual 78, 3) := by decide +kernel
theorem dX3_removeString_4 : decode cX3_removeString 4 = .ok (.istore_n 3, 1) := by decide +kernel
theorem dX3_removeString_5 : decode cX3_removeString 5 = .ok (.aload_n 0, 1) := by decide +kernel
theorem dX3_removeString_6 : decode cX3_removeString 6 = .ok (.getfield 12, 3) := by decide +kernel
theorem dX3_removeString_9 : decode cX3_removeString 9 = .ok (.aload_n 0, 1) := by decide +kernel
theorem dX3_removeString_10 : decode cX3_removeString 10 = .ok (.getfield 12, 3) := by decide +kernel
theorem dX3_removeString_13 : decode cX3_removeString 13 = .ok (.iload_n 1, 1) := by decide +kernel
theorem dX3_removeString_14 : decode cX3_removeString 14 = .ok (.iload_n 2, 1) := by decide +kernel
theorem dX3_removeString_15 : decode cX3_removeString 15 = .ok (.invokevirtual 132, 3) := by decide +kernel
theorem dX3_removeString_18 : decode cX3_removeString 18 = .ok (.invokevirtual 190, 3) := by decide +kernel
theorem dX3_removeString_21 : decode cX3_removeString 21 = .ok (.iload_n 3, 1) := by decide +kernel
theorem dX3_removeString_22 : decode cX3_removeString 22 = .ok (.aload_n 0, 1) := by decide +kernel
theorem dX3_removeString_23 : decode cX3_removeString 23 = .ok (.invokevirtual 78, 3) := by decide +kernel
theorem dX3_removeString_26 : decode cX3_removeString 26 = .ok (.iconst (-1), 1) := by decide +kernel
theorem dX3_removeString_27 : decode cX3_removeString 27 = .ok (.ixor, 1) := by decide +kernel
theorem dX3_removeString_28 : decode cX3_removeString 28 = .ok (.iand, 1) := by decide +kernel
theorem dX3_removeString_29 : decode cX3_removeString 29 = .ok (.invokestatic 58, 3) := by decide +kernel
theorem dX3_removeString_32 : decode cX3_removeString 32 = .ok (.ireturn, 1) := by decide +kernel
theorem dX3_setSound_0 : decode cX3_setSound 0 = .ok (.aload_n 0, 1) := by decide +kernel
theorem dX3_setSound_1 : decode cX3_setSound 1 = .ok (.invokevirtual 78, 3) := by decide +kernel
theorem dX3_setSound_4 : decode cX3_setSound 4 = .ok (.istore 4, 2) := by decide +kernel
theorem dX3_setSound_6 : decode cX3_setSound 6 = .ok (.aload_n 0, 1) := by decide +kernel
theorem dX3_setSound_7 : decode cX3_setSound 7 = .ok (.getfield 12, 3) := by decide +kernel
theorem dX3_setSound_10 : decode cX3_setSound 10 = .ok (.aload_n 0, 1) := by decide +kernel
theorem dX3_setSound_11 : decode cX3_setSound 11 = .ok (.getfield 12, 3) := by decide +kernel
theorem dX3_setSound_14 : decode cX3_setSound 14 = .ok (.iload_n 1, 1) := by decide +kernel
theorem dX3_setSound_15 : decode cX3_setSound 15 = .ok (.iload_n 2, 1) := by decide +kernel
theorem dX3_setSound_16 : decode cX3_setSound 16 = .ok (.invokevirtual 132, 3) := by decide +kernel
theorem dX3_setSound_19 : decode cX3_setSound 19 = .ok (.iload_n 3, 1) := by decide +kernel
theorem dX3_setSound_20 : decode cX3_setSound 20 = .ok (.invokevirtual 193, 3) := by decide +kernel
theorem dX3_setSound_23 : decode cX3_setSound 23 = .ok (.iload_n 3, 1) := by decide +kernel
theorem dX3_setSound_24 : decode cX3_setSound 24 = .ok (.ifCond .eq 22, 3) := by decide +kernel
theorem dX3_setSound_27 : decode cX3_setSound 27 = .ok (.aload_n 0, 1) := by decide +kernel
theorem dX3_setSound_28 : decode cX3_setSound 28 = .ok (.getfield 21, 3) := by decide +kernel
theorem dX3_setSound_31 : decode cX3_setSound 31 = .ok (.iload_n 1, 1) := by decide +kernel
theorem dX3_setSound_32 : decode cX3_setSound 32 = .ok (.invokevirtual 184, 3) := by decide +kernel
theorem dX3_setSound_35 : decode cX3_setSound 35 = .ok (.ifCond .eq 11, 3) := by decide +kernel
theorem dX3_setSound_38 : decode cX3_setSound 38 = .ok (.aload_n 0, 1) := by decide +kernel
theorem dX3_setSound_39 : decode cX3_setSound 39 = .ok (.getfield 21, 3) := by decide +kernel
theorem dX3_setSound_42 : decode cX3_setSound 42 = .ok (.iload_n 2, 1) := by decide +kernel
theorem dX3_setSound_43 : decode cX3_setSound 43 = .ok (.invokevirtual 187, 3) := by decide +kernel
theorem dX3_setSound_46 : decode cX3_setSound 46 = .ok (.iload 4, 2) := by decide +kernel
theorem dX3_setSound_48 : decode cX3_setSound 48 = .ok (.aload_n 0, 1) := by decide +kernel
theorem dX3_setSound_49 : decode cX3_setSound 49 = .ok (.invokevirtual 78, 3) := by decide +kernel
theorem dX3_setSound_52 : decode cX3_setSound 52 = .ok (.ixor, 1) := by decide +kernel
theorem dX3_setSound_53 : decode cX3_setSound 53 = .ok (.invokestatic 58, 3) := by decide +kernel
theorem dX3_setSound_56 : decode cX3_setSound 56 = .ok (.ireturn, 1) := by decide +kernel
theorem dX3_setPinned_0 : decode cX3_setPinned 0 = .ok (.iload_n 2, 1) := by decide +kernel
theorem dX3_setPinned_1 : decode cX3_setPinned 1 = .ok (.ifCond .eq 27, 3) := by decide +kernel
theorem dX3_setPinned_4 : decode cX3_setPinned 4 = .ok (.aload_n 0, 1) := by decide +kernel
theorem dX3_setPinned_5 : decode cX3_setPinned 5 = .ok (.dup, 1) := by decide +kernel
theorem dX3_setPinned_6 : decode cX3_setPinned 6 = .ok (.getfield 36, 3) := by decide +kernel
theorem dX3_setPinned_9 : decode cX3_setPinned 9 = .ok (.iload_n 1, 1) := by decide +kernel
theorem dX3_setPinned_10 : decode cX3_setPinned 10 = .ok (.invokestatic 64, 3) := by decide +kernel
theorem dX3_setPinned_13 : decode cX3_setPinned 13 = .ok (.ior, 1) := by decide +kernel
theorem dX3_setPinned_14 : decode cX3_setPinned 14 = .ok (.putfield 36, 3) := by decide +kernel
theorem dX3_setPinned_17 : decode cX3_setPinned 17 = .ok (.aload_n 0, 1) := by decide +kernel
theorem dX3_setPinned_18 : decode cX3_setPinned 18 = .ok (.getfield 21, 3) := by decide +kernel
theorem dX3_setPinned_21 : decode cX3_setPinned 21 = .ok (.iload_n 1, 1) := by decide +kernel
theorem dX3_setPinned_22 : decode cX3_setPinned 22 = .ok (.invokevirtual 187, 3) := by decide +kernel
theorem dX3_setPinned_25 : decode cX3_setPinned 25 = .ok (.goto 18, 3) := by decide +kernel
theorem dX3_setPinned_28 : decode cX3_setPinned 28 = .ok (.aload_n 0, 1) := by decide +kernel
theorem dX3_setPinned_29 : decode cX3_setPinned 29 = .ok (.dup, 1) := by decide +kernel
theorem dX3_setPinned_30 : decode cX3_setPinned 30 = .ok (.getfield 36, 3) := by decide +kernel
theorem dX3_setPinned_33 : decode cX3_setPinned 33 = .ok (.iload_n 1, 1) := by decide +kernel
theorem dX3_setPinned_34 : decode cX3_setPinned 34 = .ok (.invokestatic 64, 3) := by decide +kernel
theorem dX3_setPinned_37 : decode cX3_setPinned 37 = .ok (.iconst (-1), 1) := by decide +kernel
theorem dX3_setPinned_38 : decode cX3_setPinned 38 = .ok (.ixor, 1) := by decide +kernel
theorem dX3_setPinned_39 : decode cX3_setPinned 39 = .ok (.iand, 1) := by decide +kernel
theorem dX3_setPinned_40 : decode cX3_setPinned 40 = .ok (.putfield 36, 3) := by decide +kernel
theorem dX3_setPinned_43 : decode cX3_setPinned 43 = .ok (.aload_n 0, 1) := by decide +kernel
theorem dX3_setPinned_44 : decode cX3_setPinned 44 = .ok (.invokevirtual 78, 3) := by decide +kernel
theorem dX3_setPinned_47 : decode cX3_setPinned 47 = .ok (.invokestatic 58, 3) := by decide +kernel
theorem dX3_setPinned_50 : decode cX3_setPinned 50 = .ok (.ireturn, 1) := by decide +kernel
theorem dX3_beginSweep_0 : decode cX3_beginSweep 0 = .ok (.aload_n 0, 1) := by decide +kernel
theorem dX3_beginSweep_1 : decode cX3_beginSweep 1 = .ok (.getfield 21, 3) := by decide +kernel
theorem dX3_beginSweep_4 : decode cX3_beginSweep 4 = .ok (.aload_n 0, 1) := by decide +kernel
theorem dX3_beginSweep_5 : decode cX3_beginSweep 5 = .ok (.getfield 33, 3) := by decide +kernel
theorem dX3_beginSweep_8 : decode cX3_beginSweep 8 = .ok (.invokevirtual 196, 3) := by decide +kernel
theorem dX3_beginSweep_11 : decode cX3_beginSweep 11 = .ok (.aload_n 0, 1) := by decide +kernel
theorem dX3_beginSweep_12 : decode cX3_beginSweep 12 = .ok (.getfield 36, 3) := by decide +kernel
theorem dX3_beginSweep_15 : decode cX3_beginSweep 15 = .ok (.aload_n 0, 1) := by decide +kernel
theorem dX3_beginSweep_16 : decode cX3_beginSweep 16 = .ok (.getfield 12, 3) := by decide +kernel
theorem dX3_beginSweep_19 : decode cX3_beginSweep 19 = .ok (.bipush 15, 2) := by decide +kernel
theorem dX3_beginSweep_21 : decode cX3_beginSweep 21 = .ok (.invokevirtual 199, 3) := by decide +kernel
theorem dX3_beginSweep_24 : decode cX3_beginSweep 24 = .ok (.ior, 1) := by decide +kernel
theorem dX3_beginSweep_25 : decode cX3_beginSweep 25 = .ok (.istore_n 1, 1) := by decide +kernel
theorem dX3_beginSweep_26 : decode cX3_beginSweep 26 = .ok (.iconst 0, 1) := by decide +kernel
theorem dX3_beginSweep_27 : decode cX3_beginSweep 27 = .ok (.istore_n 2, 1) := by decide +kernel
theorem dX3_beginSweep_28 : decode cX3_beginSweep 28 = .ok (.iload_n 2, 1) := by decide +kernel
theorem dX3_beginSweep_29 : decode cX3_beginSweep 29 = .ok (.bipush 24, 2) := by decide +kernel
theorem dX3_beginSweep_31 : decode cX3_beginSweep 31 = .ok (.if_icmp .ge 26, 3) := by decide +kernel
theorem dX3_beginSweep_34 : decode cX3_beginSweep 34 = .ok (.iload_n 1, 1) := by decide +kernel
theorem dX3_beginSweep_35 : decode cX3_beginSweep 35 = .ok (.iload_n 2, 1) := by decide +kernel
theorem dX3_beginSweep_36 : decode cX3_beginSweep 36 = .ok (.invokestatic 64, 3) := by decide +kernel
theorem dX3_beginSweep_39 : decode cX3_beginSweep 39 = .ok (.iand, 1) := by decide +kernel
theorem dX3_beginSweep_40 : decode cX3_beginSweep 40 = .ok (.ifCond .eq 11, 3) := by decide +kernel
theorem dX3_beginSweep_43 : decode cX3_beginSweep 43 = .ok (.aload_n 0, 1) := by decide +kernel
theorem dX3_beginSweep_44 : decode cX3_beginSweep 44 = .ok (.getfield 21, 3) := by decide +kernel
theorem dX3_beginSweep_47 : decode cX3_beginSweep 47 = .ok (.iload_n 2, 1) := by decide +kernel
theorem dX3_beginSweep_48 : decode cX3_beginSweep 48 = .ok (.invokevirtual 187, 3) := by decide +kernel
theorem dX3_beginSweep_51 : decode cX3_beginSweep 51 = .ok (.iinc 2 1, 3) := by decide +kernel
theorem dX3_beginSweep_54 : decode cX3_beginSweep 54 = .ok (.goto (-26), 3) := by decide +kernel
theorem dX3_beginSweep_57 : decode cX3_beginSweep 57 = .ok (.aload_n 0, 1) := by decide +kernel
theorem dX3_beginSweep_58 : decode cX3_beginSweep 58 = .ok (.getfield 21, 3) := by decide +kernel
theorem dX3_beginSweep_61 : decode cX3_beginSweep 61 = .ok (.invokevirtual 202, 3) := by decide +kernel
theorem dX3_beginSweep_64 : decode cX3_beginSweep 64 = .ok (.ireturn, 1) := by decide +kernel
theorem dX3_takeStep_0 : decode cX3_takeStep 0 = .ok (.aload_n 0, 1) := by decide +kernel
theorem dX3_takeStep_1 : decode cX3_takeStep 1 = .ok (.getfield 21, 3) := by decide +kernel
theorem dX3_takeStep_4 : decode cX3_takeStep 4 = .ok (.invokevirtual 205, 3) := by decide +kernel
theorem dX3_takeStep_7 : decode cX3_takeStep 7 = .ok (.istore_n 1, 1) := by decide +kernel
theorem dX3_takeStep_8 : decode cX3_takeStep 8 = .ok (.iload_n 1, 1) := by decide +kernel
theorem dX3_takeStep_9 : decode cX3_takeStep 9 = .ok (.bipush (-9), 2) := by decide +kernel
theorem dX3_takeStep_11 : decode cX3_takeStep 11 = .ok (.if_icmp .ne 8, 3) := by decide +kernel
theorem dX3_takeStep_14 : decode cX3_takeStep 14 = .ok (.aload_n 0, 1) := by decide +kernel
theorem dX3_takeStep_15 : decode cX3_takeStep 15 = .ok (.invokevirtual 208, 3) := by decide +kernel
theorem dX3_takeStep_18 : decode cX3_takeStep 18 = .ok (.ireturn, 1) := by decide +kernel
theorem dX3_takeStep_19 : decode cX3_takeStep 19 = .ok (.iconst 0, 1) := by decide +kernel
theorem dX3_takeStep_20 : decode cX3_takeStep 20 = .ok (.istore_n 2, 1) := by decide +kernel
theorem dX3_takeStep_21 : decode cX3_takeStep 21 = .ok (.iload_n 2, 1) := by decide +kernel
theorem dX3_takeStep_22 : decode cX3_takeStep 22 = .ok (.aload_n 0, 1) := by decide +kernel
theorem dX3_takeStep_23 : decode cX3_takeStep 23 = .ok (.getfield 12, 3) := by decide +kernel
theorem dX3_takeStep_26 : decode cX3_takeStep 26 = .ok (.invokevirtual 91, 3) := by decide +kernel
theorem dX3_takeStep_29 : decode cX3_takeStep 29 = .ok (.if_icmp .ge 47, 3) := by decide +kernel
theorem dX3_takeStep_32 : decode cX3_takeStep 32 = .ok (.aload_n 0, 1) := by decide +kernel
theorem dX3_takeStep_33 : decode cX3_takeStep 33 = .ok (.getfield 12, 3) := by decide +kernel
theorem dX3_takeStep_36 : decode cX3_takeStep 36 = .ok (.iload_n 2, 1) := by decide +kernel
theorem dX3_takeStep_37 : decode cX3_takeStep 37 = .ok (.invokevirtual 148, 3) := by decide +kernel
theorem dX3_takeStep_40 : decode cX3_takeStep 40 = .ok (.ifCond .eq 30, 3) := by decide +kernel
theorem dX3_takeStep_43 : decode cX3_takeStep 43 = .ok (.aload_n 0, 1) := by decide +kernel
theorem dX3_takeStep_44 : decode cX3_takeStep 44 = .ok (.getfield 12, 3) := by decide +kernel
theorem dX3_takeStep_47 : decode cX3_takeStep 47 = .ok (.iload_n 2, 1) := by decide +kernel
theorem dX3_takeStep_48 : decode cX3_takeStep 48 = .ok (.invokevirtual 211, 3) := by decide +kernel
theorem dX3_takeStep_51 : decode cX3_takeStep 51 = .ok (.iload_n 1, 1) := by decide +kernel
theorem dX3_takeStep_52 : decode cX3_takeStep 52 = .ok (.if_icmp .ne 18, 3) := by decide +kernel
theorem dX3_takeStep_55 : decode cX3_takeStep 55 = .ok (.aload_n 0, 1) := by decide +kernel
theorem dX3_takeStep_56 : decode cX3_takeStep 56 = .ok (.getfield 21, 3) := by decide +kernel
theorem dX3_takeStep_59 : decode cX3_takeStep 59 = .ok (.aload_n 0, 1) := by decide +kernel
theorem dX3_takeStep_60 : decode cX3_takeStep 60 = .ok (.getfield 12, 3) := by decide +kernel
theorem dX3_takeStep_63 : decode cX3_takeStep 63 = .ok (.iload_n 2, 1) := by decide +kernel
theorem dX3_takeStep_64 : decode cX3_takeStep 64 = .ok (.invokevirtual 214, 3) := by decide +kernel
theorem dX3_takeStep_67 : decode cX3_takeStep 67 = .ok (.invokevirtual 187, 3) := by decide +kernel
theorem dX3_takeStep_70 : decode cX3_takeStep 70 = .ok (.iinc 2 1, 3) := by decide +kernel
theorem dX3_takeStep_73 : decode cX3_takeStep 73 = .ok (.goto (-52), 3) := by decide +kernel
theorem dX3_takeStep_76 : decode cX3_takeStep 76 = .ok (.iload_n 1, 1) := by decide +kernel
theorem dX3_takeStep_77 : decode cX3_takeStep 77 = .ok (.ireturn, 1) := by decide +kernel
theorem dX3_endSweep_0 : decode cX3_endSweep 0 = .ok (.aload_n 0, 1) := by decide +kernel
theorem dX3_endSweep_1 : decode cX3_endSweep 1 = .ok (.getfield 21, 3) := by decide +kernel
theorem dX3_endSweep_4 : decode cX3_endSweep 4 = .ok (.invokevirtual 217, 3) := by decide +kernel
theorem dX3_endSweep_7 : decode cX3_endSweep 7 = .ok (.istore_n 1, 1) := by decide +kernel
theorem dX3_endSweep_8 : decode cX3_endSweep 8 = .ok (.aload_n 0, 1) := by decide +kernel
theorem dX3_endSweep_9 : decode cX3_endSweep 9 = .ok (.dup, 1) := by decide +kernel
theorem dX3_endSweep_10 : decode cX3_endSweep 10 = .ok (.getfield 42, 3) := by decide +kernel
theorem dX3_endSweep_13 : decode cX3_endSweep 13 = .ok (.aload_n 0, 1) := by decide +kernel
theorem dX3_endSweep_14 : decode cX3_endSweep 14 = .ok (.getfield 12, 3) := by decide +kernel
theorem dX3_endSweep_17 : decode cX3_endSweep 17 = .ok (.iload_n 1, 1) := by decide +kernel
theorem dX3_endSweep_18 : decode cX3_endSweep 18 = .ok (.invokevirtual 220, 3) := by decide +kernel
theorem dX3_endSweep_21 : decode cX3_endSweep 21 = .ok (.iadd, 1) := by decide +kernel
theorem dX3_endSweep_22 : decode cX3_endSweep 22 = .ok (.putfield 42, 3) := by decide +kernel
theorem dX3_endSweep_25 : decode cX3_endSweep 25 = .ok (.aload_n 0, 1) := by decide +kernel
theorem dX3_endSweep_26 : decode cX3_endSweep 26 = .ok (.dup, 1) := by decide +kernel
theorem dX3_endSweep_27 : decode cX3_endSweep 27 = .ok (.getfield 33, 3) := by decide +kernel
theorem dX3_endSweep_30 : decode cX3_endSweep 30 = .ok (.iload_n 1, 1) := by decide +kernel
theorem dX3_endSweep_31 : decode cX3_endSweep 31 = .ok (.iconst (-1), 1) := by decide +kernel
theorem dX3_endSweep_32 : decode cX3_endSweep 32 = .ok (.ixor, 1) := by decide +kernel
theorem dX3_endSweep_33 : decode cX3_endSweep 33 = .ok (.iand, 1) := by decide +kernel
theorem dX3_endSweep_34 : decode cX3_endSweep 34 = .ok (.putfield 33, 3) := by decide +kernel
theorem dX3_endSweep_37 : decode cX3_endSweep 37 = .ok (.aload_n 0, 1) := by decide +kernel
theorem dX3_endSweep_38 : decode cX3_endSweep 38 = .ok (.getfield 21, 3) := by decide +kernel
theorem dX3_endSweep_41 : decode cX3_endSweep 41 = .ok (.invokevirtual 55, 3) := by decide +kernel
theorem dX3_endSweep_44 : decode cX3_endSweep 44 = .ok (.aload_n 0, 1) := by decide +kernel
theorem dX3_endSweep_45 : decode cX3_endSweep 45 = .ok (.dup, 1) := by decide +kernel
theorem dX3_endSweep_46 : decode cX3_endSweep 46 = .ok (.getfield 39, 3) := by decide +kernel
theorem dX3_endSweep_49 : decode cX3_endSweep 49 = .ok (.iconst 1, 1) := by decide +kernel
theorem dX3_endSweep_50 : decode cX3_endSweep 50 = .ok (.iadd, 1) := by decide +kernel
theorem dX3_endSweep_51 : decode cX3_endSweep 51 = .ok (.putfield 39, 3) := by decide +kernel
theorem dX3_endSweep_54 : decode cX3_endSweep 54 = .ok (.bipush (-9), 2) := by decide +kernel
theorem dX3_endSweep_56 : decode cX3_endSweep 56 = .ok (.iload_n 1, 1) := by decide +kernel
theorem dX3_endSweep_57 : decode cX3_endSweep 57 = .ok (.invokestatic 58, 3) := by decide +kernel
theorem dX3_endSweep_60 : decode cX3_endSweep 60 = .ok (.isub, 1) := by decide +kernel
theorem dX3_endSweep_61 : decode cX3_endSweep 61 = .ok (.ireturn, 1) := by decide +kernel
theorem dX3_finishSweep_0 : decode cX3_finishSweep 0 = .ok (.aload_n 0, 1) := by decide +kernel
theorem dX3_finishSweep_1 : decode cX3_finishSweep 1 = .ok (.getfield 21, 3) := by decide +kernel
theorem dX3_finishSweep_4 : decode cX3_finishSweep 4 = .ok (.invokevirtual 97, 3) := by decide +kernel
theorem dX3_finishSweep_7 : decode cX3_finishSweep 7 = .ok (.ifCond .ne 8, 3) := by decide +kernel
theorem dX3_finishSweep_10 : decode cX3_finishSweep 10 = .ok (.aload_n 0, 1) := by decide +kernel
theorem dX3_finishSweep_11 : decode cX3_finishSweep 11 = .ok (.invokevirtual 170, 3) := by decide +kernel
theorem dX3_finishSweep_14 : decode cX3_finishSweep 14 = .ok (.pop, 1) := by decide +kernel
theorem dX3_finishSweep_15 : decode cX3_finishSweep 15 = .ok (.aload_n 0, 1) := by decide +kernel
theorem dX3_finishSweep_16 : decode cX3_finishSweep 16 = .ok (.bipush 25, 2) := by decide +kernel
theorem dX3_finishSweep_18 : decode cX3_finishSweep 18 = .ok (.invokevirtual 223, 3) := by decide +kernel
theorem dX3_finishSweep_21 : decode cX3_finishSweep 21 = .ok (.return_, 1) := by decide +kernel
theorem dX3_takeSteps_0 : decode cX3_takeSteps 0 = .ok (.iconst 0, 1) := by decide +kernel
theorem dX3_takeSteps_1 : decode cX3_takeSteps 1 = .ok (.istore_n 2, 1) := by decide +kernel
theorem dX3_takeSteps_2 : decode cX3_takeSteps 2 = .ok (.iload_n 2, 1) := by decide +kernel
theorem dX3_takeSteps_3 : decode cX3_takeSteps 3 = .ok (.iload_n 1, 1) := by decide +kernel
theorem dX3_takeSteps_4 : decode cX3_takeSteps 4 = .ok (.if_icmp .ge 24, 3) := by decide +kernel
theorem dX3_takeSteps_7 : decode cX3_takeSteps 7 = .ok (.aload_n 0, 1) := by decide +kernel
theorem dX3_takeSteps_8 : decode cX3_takeSteps 8 = .ok (.getfield 21, 3) := by decide +kernel
theorem dX3_takeSteps_11 : decode cX3_takeSteps 11 = .ok (.invokevirtual 97, 3) := by decide +kernel
theorem dX3_takeSteps_14 : decode cX3_takeSteps 14 = .ok (.ifCond .eq 14, 3) := by decide +kernel
theorem dX3_takeSteps_17 : decode cX3_takeSteps 17 = .ok (.aload_n 0, 1) := by decide +kernel
theorem dX3_takeSteps_18 : decode cX3_takeSteps 18 = .ok (.invokevirtual 173, 3) := by decide +kernel
theorem dX3_takeSteps_21 : decode cX3_takeSteps 21 = .ok (.pop, 1) := by decide +kernel
theorem dX3_takeSteps_22 : decode cX3_takeSteps 22 = .ok (.iinc 2 1, 3) := by decide +kernel
theorem dX3_takeSteps_25 : decode cX3_takeSteps 25 = .ok (.goto (-23), 3) := by decide +kernel
theorem dX3_takeSteps_28 : decode cX3_takeSteps 28 = .ok (.return_, 1) := by decide +kernel
theorem dX4_init_0 : decode cX4_init 0 = .ok (.aload_n 0, 1) := by decide +kernel
theorem dX4_init_1 : decode cX4_init 1 = .ok (.invokespecial 3, 3) := by decide +kernel
theorem dX4_init_4 : decode cX4_init 4 = .ok (.aload_n 0, 1) := by decide +kernel
theorem dX4_init_5 : decode cX4_init 5 = .ok (.bipush 40, 2) := by decide +kernel
theorem dX4_init_7 : decode cX4_init 7 = .ok (.newarray .int, 2) := by decide +kernel
theorem dX4_init_9 : decode cX4_init 9 = .ok (.putfield 9, 3) := by decide +kernel
theorem dX4_init_12 : decode cX4_init 12 = .ok (.aload_n 0, 1) := by decide +kernel
theorem dX4_init_13 : decode cX4_init 13 = .ok (.bipush 40, 2) := by decide +kernel
theorem dX4_init_15 : decode cX4_init 15 = .ok (.newarray .int, 2) := by decide +kernel
theorem dX4_init_17 : decode cX4_init 17 = .ok (.putfield 15, 3) := by decide +kernel
theorem dX4_init_20 : decode cX4_init 20 = .ok (.aload_n 0, 1) := by decide +kernel
theorem dX4_init_21 : decode cX4_init 21 = .ok (.bipush 40, 2) := by decide +kernel
theorem dX4_init_23 : decode cX4_init 23 = .ok (.newarray .boolean, 2) := by decide +kernel
theorem dX4_init_25 : decode cX4_init 25 = .ok (.putfield 18, 3) := by decide +kernel
theorem dX4_init_28 : decode cX4_init 28 = .ok (.aload_n 0, 1) := by decide +kernel
theorem dX4_init_29 : decode cX4_init 29 = .ok (.iconst 0, 1) := by decide +kernel
theorem dX4_init_30 : decode cX4_init 30 = .ok (.putfield 22, 3) := by decide +kernel
theorem dX4_init_33 : decode cX4_init 33 = .ok (.return_, 1) := by decide +kernel
theorem dX4_copyFrom_0 : decode cX4_copyFrom 0 = .ok (.aload_n 0, 1) := by decide +kernel
theorem dX4_copyFrom_1 : decode cX4_copyFrom 1 = .ok (.aload_n 1, 1) := by decide +kernel
theorem dX4_copyFrom_2 : decode cX4_copyFrom 2 = .ok (.getfield 22, 3) := by decide +kernel
theorem dX4_copyFrom_5 : decode cX4_copyFrom 5 = .ok (.putfield 22, 3) := by decide +kernel
theorem dX4_copyFrom_8 : decode cX4_copyFrom 8 = .ok (.iconst 0, 1) := by decide +kernel
theorem dX4_copyFrom_9 : decode cX4_copyFrom 9 = .ok (.istore_n 2, 1) := by decide +kernel
theorem dX4_copyFrom_10 : decode cX4_copyFrom 10 = .ok (.iload_n 2, 1) := by decide +kernel
theorem dX4_copyFrom_11 : decode cX4_copyFrom 11 = .ok (.aload_n 0, 1) := by decide +kernel
theorem dX4_copyFrom_12 : decode cX4_copyFrom 12 = .ok (.getfield 22, 3) := by decide +kernel
theorem dX4_copyFrom_15 : decode cX4_copyFrom 15 = .ok (.if_icmp .ge 51, 3) := by decide +kernel
theorem dX4_copyFrom_18 : decode cX4_copyFrom 18 = .ok (.iload_n 2, 1) := by decide +kernel
theorem dX4_copyFrom_19 : decode cX4_copyFrom 19 = .ok (.bipush 40, 2) := by decide +kernel
theorem dX4_copyFrom_21 : decode cX4_copyFrom 21 = .ok (.if_icmp .ge 45, 3) := by decide +kernel
theorem dX4_copyFrom_24 : decode cX4_copyFrom 24 = .ok (.aload_n 0, 1) := by decide +kernel
theorem dX4_copyFrom_25 : decode cX4_copyFrom 25 = .ok (.getfield 9, 3) := by decide +kernel
theorem dX4_copyFrom_28 : decode cX4_copyFrom 28 = .ok (.iload_n 2, 1) := by decide +kernel
theorem dX4_copyFrom_29 : decode cX4_copyFrom 29 = .ok (.aload_n 1, 1) := by decide +kernel
theorem dX4_copyFrom_30 : decode cX4_copyFrom 30 = .ok (.getfield 9, 3) := by decide +kernel
theorem dX4_copyFrom_33 : decode cX4_copyFrom 33 = .ok (.iload_n 2, 1) := by decide +kernel
theorem dX4_copyFrom_34 : decode cX4_copyFrom 34 = .ok (.iaload, 1) := by decide +kernel
theorem dX4_copyFrom_35 : decode cX4_copyFrom 35 = .ok (.iastore, 1) := by decide +kernel
theorem dX4_copyFrom_36 : decode cX4_copyFrom 36 = .ok (.aload_n 0, 1) := by decide +kernel
theorem dX4_copyFrom_37 : decode cX4_copyFrom 37 = .ok (.getfield 15, 3) := by decide +kernel
theorem dX4_copyFrom_40 : decode cX4_copyFrom 40 = .ok (.iload_n 2, 1) := by decide +kernel
theorem dX4_copyFrom_41 : decode cX4_copyFrom 41 = .ok (.aload_n 1, 1) := by decide +kernel
theorem dX4_copyFrom_42 : decode cX4_copyFrom 42 = .ok (.getfield 15, 3) := by decide +kernel
theorem dX4_copyFrom_45 : decode cX4_copyFrom 45 = .ok (.iload_n 2, 1) := by decide +kernel
theorem dX4_copyFrom_46 : decode cX4_copyFrom 46 = .ok (.iaload, 1) := by decide +kernel
theorem dX4_copyFrom_47 : decode cX4_copyFrom 47 = .ok (.iastore, 1) := by decide +kernel
theorem dX4_copyFrom_48 : decode cX4_copyFrom 48 = .ok (.aload_n 0, 1) := by decide +kernel
theorem dX4_copyFrom_49 : decode cX4_copyFrom 49 = .ok (.getfield 18, 3) := by decide +kernel
theorem dX4_copyFrom_52 : decode cX4_copyFrom 52 = .ok (.iload_n 2, 1) := by decide +kernel
theorem dX4_copyFrom_53 : decode cX4_copyFrom 53 = .ok (.aload_n 1, 1) := by decide +kernel
theorem dX4_copyFrom_54 : decode cX4_copyFrom 54 = .ok (.getfield 18, 3) := by decide +kernel
theorem dX4_copyFrom_57 : decode cX4_copyFrom 57 = .ok (.iload_n 2, 1) := by decide +kernel
theorem dX4_copyFrom_58 : decode cX4_copyFrom 58 = .ok (.baload, 1) := by decide +kernel
theorem dX4_copyFrom_59 : decode cX4_copyFrom 59 = .ok (.bastore, 1) := by decide +kernel
theorem dX4_copyFrom_60 : decode cX4_copyFrom 60 = .ok (.iinc 2 1, 3) := by decide +kernel
theorem dX4_copyFrom_63 : decode cX4_copyFrom 63 = .ok (.goto (-53), 3) := by decide +kernel
theorem dX4_copyFrom_66 : decode cX4_copyFrom 66 = .ok (.return_, 1) := by decide +kernel
theorem dX4_clear_0 : decode cX4_clear 0 = .ok (.aload_n 0, 1) := by decide +kernel
theorem dX4_clear_1 : decode cX4_clear 1 = .ok (.iconst 0, 1) := by decide +kernel
theorem dX4_clear_2 : decode cX4_clear 2 = .ok (.putfield 22, 3) := by decide +kernel
theorem dX4_clear_5 : decode cX4_clear 5 = .ok (.return_, 1) := by decide +kernel
theorem dX4_size_0 : decode cX4_size 0 = .ok (.aload_n 0, 1) := by decide +kernel
theorem dX4_size_1 : decode cX4_size 1 = .ok (.getfield 22, 3) := by decide +kernel
theorem dX4_size_4 : decode cX4_size 4 = .ok (.ireturn, 1) := by decide +kernel
theorem dX4_isFull_0 : decode cX4_isFull 0 = .ok (.aload_n 0, 1) := by decide +kernel
theorem dX4_isFull_1 : decode cX4_isFull 1 = .ok (.getfield 22, 3) := by decide +kernel
theorem dX4_isFull_4 : decode cX4_isFull 4 = .ok (.bipush 40, 2) := by decide +kernel
theorem dX4_isFull_6 : decode cX4_isFull 6 = .ok (.if_icmp .lt 7, 3) := by decide +kernel
theorem dX4_isFull_9 : decode cX4_isFull 9 = .ok (.iconst 1, 1) := by decide +kernel
theorem dX4_isFull_10 : decode cX4_isFull 10 = .ok (.goto 4, 3) := by decide +kernel
theorem dX4_isFull_13 : decode cX4_isFull 13 = .ok (.iconst 0, 1) := by decide +kernel
theorem dX4_isFull_14 : decode cX4_isFull 14 = .ok (.ireturn, 1) := by decide +kernel
theorem dX4_isAt_0 : decode cX4_isAt 0 = .ok (.iload_n 1, 1) := by decide +kernel
theorem dX4_isAt_1 : decode cX4_isAt 1 = .ok (.ifCond .lt 21, 3) := by decide +kernel
theorem dX4_isAt_4 : decode cX4_isAt 4 = .ok (.iload_n 1, 1) := by decide +kernel
theorem dX4_isAt_5 : decode cX4_isAt 5 = .ok (.aload_n 0, 1) := by decide +kernel
theorem dX4_isAt_6 : decode cX4_isAt 6 = .ok (.getfield 22, 3) := by decide +kernel
theorem dX4_isAt_9 : decode cX4_isAt 9 = .ok (.if_icmp .ge 13, 3) := by decide +kernel
theorem dX4_isAt_12 : decode cX4_isAt 12 = .ok (.iload_n 1, 1) := by decide +kernel
theorem dX4_isAt_13 : decode cX4_isAt 13 = .ok (.bipush 40, 2) := by decide +kernel
theorem dX4_isAt_15 : decode cX4_isAt 15 = .ok (.if_icmp .ge 7, 3) := by decide +kernel
theorem dX4_isAt_18 : decode cX4_isAt 18 = .ok (.iconst 1, 1) := by decide +kernel
theorem dX4_isAt_19 : decode cX4_isAt 19 = .ok (.goto 4, 3) := by decide +kernel
theorem dX4_isAt_22 : decode cX4_isAt 22 = .ok (.iconst 0, 1) := by decide +kernel
theorem dX4_isAt_23 : decode cX4_isAt 23 = .ok (.ireturn, 1) := by decide +kernel
theorem dX4_aboveAt_0 : decode cX4_aboveAt 0 = .ok (.aload_n 0, 1) := by decide +kernel
theorem dX4_aboveAt_1 : decode cX4_aboveAt 1 = .ok (.iload_n 1, 1) := by decide +kernel
theorem dX4_aboveAt_2 : decode cX4_aboveAt 2 = .ok (.invokevirtual 26, 3) := by decide +kernel
theorem dX4_aboveAt_5 : decode cX4_aboveAt 5 = .ok (.ifCond .eq 12, 3) := by decide +kernel
theorem dX4_aboveAt_8 : decode cX4_aboveAt 8 = .ok (.aload_n 0, 1) := by decide +kernel
theorem dX4_aboveAt_9 : decode cX4_aboveAt 9 = .ok (.getfield 9, 3) := by decide +kernel
theorem dX4_aboveAt_12 : decode cX4_aboveAt 12 = .ok (.iload_n 1, 1) := by decide +kernel
theorem dX4_aboveAt_13 : decode cX4_aboveAt 13 = .ok (.iaload, 1) := by decide +kernel
theorem dX4_aboveAt_14 : decode cX4_aboveAt 14 = .ok (.goto 5, 3) := by decide +kernel
theorem dX4_aboveAt_17 : decode cX4_aboveAt 17 = .ok (.bipush (-9), 2) := by decide +kernel
theorem dX4_aboveAt_19 : decode cX4_aboveAt 19 = .ok (.ireturn, 1) := by decide +kernel
theorem dX4_belowAt_0 : decode cX4_belowAt 0 = .ok (.aload_n 0, 1) := by decide +kernel
theorem dX4_belowAt_1 : decode cX4_belowAt 1 = .ok (.iload_n 1, 1) := by decide +kernel
theorem dX4_belowAt_2 : decode cX4_belowAt 2 = .ok (.invokevirtual 26, 3) := by decide +kernel
theorem dX4_belowAt_5 : decode cX4_belowAt 5 = .ok (.ifCond .eq 12, 3) := by decide +kernel
theorem dX4_belowAt_8 : decode cX4_belowAt 8 = .ok (.aload_n 0, 1) := by decide +kernel
theorem dX4_belowAt_9 : decode cX4_belowAt 9 = .ok (.getfield 15, 3) := by decide +kernel
theorem dX4_belowAt_12 : decode cX4_belowAt 12 = .ok (.iload_n 1, 1) := by decide +kernel
theorem dX4_belowAt_13 : decode cX4_belowAt 13 = .ok (.iaload, 1) := by decide +kernel
theorem dX4_belowAt_14 : decode cX4_belowAt 14 = .ok (.goto 5, 3) := by decide +kernel
theorem dX4_belowAt_17 : decode cX4_belowAt 17 = .ok (.bipush (-9), 2) := by decide +kernel
theorem dX4_belowAt_19 : decode cX4_belowAt 19 = .ok (.ireturn, 1) := by decide +kernel
theorem dX4_isSoundAt_0 : decode cX4_isSoundAt 0 = .ok (.aload_n 0, 1) := by decide +kernel
theorem dX4_isSoundAt_1 : decode cX4_isSoundAt 1 = .ok (.iload_n 1, 1) := by decide +kernel
theorem dX4_isSoundAt_2 : decode cX4_isSoundAt 2 = .ok (.invokevirtual 26, 3) := by decide +kernel
theorem dX4_isSoundAt_5 : decode cX4_isSoundAt 5 = .ok (.ifCond .eq 16, 3) := by decide +kernel
theorem dX4_isSoundAt_8 : decode cX4_isSoundAt 8 = .ok (.aload_n 0, 1) := by decide +kernel
theorem dX4_isSoundAt_9 : decode cX4_isSoundAt 9 = .ok (.getfield 18, 3) := by decide +kernel
theorem dX4_isSoundAt_12 : decode cX4_isSoundAt 12 = .ok (.iload_n 1, 1) := by decide +kernel
theorem dX4_isSoundAt_13 : decode cX4_isSoundAt 13 = .ok (.baload, 1) := by decide +kernel
theorem dX4_isSoundAt_14 : decode cX4_isSoundAt 14 = .ok (.ifCond .eq 7, 3) := by decide +kernel
theorem dX4_isSoundAt_17 : decode cX4_isSoundAt 17 = .ok (.iconst 1, 1) := by decide +kernel
theorem dX4_isSoundAt_18 : decode cX4_isSoundAt 18 = .ok (.goto 4, 3) := by decide +kernel
theorem dX4_isSoundAt_21 : decode cX4_isSoundAt 21 = .ok (.iconst 0, 1) := by decide +kernel
theorem dX4_isSoundAt_22 : decode cX4_isSoundAt 22 = .ok (.ireturn, 1) := by decide +kernel
theorem dX4_kindAt_0 : decode cX4_kindAt 0 = .ok (.aload_n 0, 1) := by decide +kernel
theorem dX4_kindAt_1 : decode cX4_kindAt 1 = .ok (.iload_n 1, 1) := by decide +kernel
theorem dX4_kindAt_2 : decode cX4_kindAt 2 = .ok (.invokevirtual 26, 3) := by decide +kernel
theorem dX4_kindAt_5 : decode cX4_kindAt 5 = .ok (.ifCond .ne 5, 3) := by decide +kernel
theorem dX4_kindAt_8 : decode cX4_kindAt 8 = .ok (.iconst 0, 1) := by decide +kernel
theorem dX4_kindAt_9 : decode cX4_kindAt 9 = .ok (.ireturn, 1) := by decide +kernel
theorem dX4_kindAt_10 : decode cX4_kindAt 10 = .ok (.aload_n 0, 1) := by decide +kernel
theorem dX4_kindAt_11 : decode cX4_kindAt 11 = .ok (.getfield 18, 3) := by decide +kernel
theorem dX4_kindAt_14 : decode cX4_kindAt 14 = .ok (.iload_n 1, 1) := by decide +kernel
theorem dX4_kindAt_15 : decode cX4_kindAt 15 = .ok (.baload, 1) := by decide +kernel
theorem dX4_kindAt_16 : decode cX4_kindAt 16 = .ok (.ifCond .eq 7, 3) := by decide +kernel
theorem dX4_kindAt_19 : decode cX4_kindAt 19 = .ok (.iconst 1, 1) := by decide +kernel
theorem dX4_kindAt_20 : decode cX4_kindAt 20 = .ok (.goto 4, 3) := by decide +kernel
theorem dX4_kindAt_23 : decode cX4_kindAt 23 = .ok (.iconst 2, 1) := by decide +kernel
theorem dX4_kindAt_24 : decode cX4_kindAt 24 = .ok (.ireturn, 1) := by decide +kernel
theorem dX4_codeAt_0 : decode cX4_codeAt 0 = .ok (.aload_n 0, 1) := by decide +kernel
theorem dX4_codeAt_1 : decode cX4_codeAt 1 = .ok (.iload_n 1, 1) := by decide +kernel
theorem dX4_codeAt_2 : decode cX4_codeAt 2 = .ok (.invokevirtual 26, 3) := by decide +kernel
theorem dX4_codeAt_5 : decode cX4_codeAt 5 = .ok (.ifCond .eq 24, 3) := by decide +kernel
theorem dX4_codeAt_8 : decode cX4_codeAt 8 = .ok (.bipush 100, 2) := by decide +kernel
theorem dX4_codeAt_10 : decode cX4_codeAt 10 = .ok (.iconst 4, 1) := by decide +kernel
theorem dX4_codeAt_11 : decode cX4_codeAt 11 = .ok (.aload_n 0, 1) := by decide +kernel
theorem dX4_codeAt_12 : decode cX4_codeAt 12 = .ok (.getfield 9, 3) := by decide +kernel
theorem dX4_codeAt_15 : decode cX4_codeAt 15 = .ok (.iload_n 1, 1) := by decide +kernel
theorem dX4_codeAt_16 : decode cX4_codeAt 16 = .ok (.iaload, 1) := by decide +kernel
theorem dX4_codeAt_17 : decode cX4_codeAt 17 = .ok (.iadd, 1) := by decide +kernel
theorem dX4_codeAt_18 : decode cX4_codeAt 18 = .ok (.imul, 1) := by decide +kernel
theorem dX4_codeAt_19 : decode cX4_codeAt 19 = .ok (.aload_n 0, 1) := by decide +kernel
theorem dX4_codeAt_20 : decode cX4_codeAt 20 = .ok (.getfield 15, 3) := by decide +kernel
theorem dX4_codeAt_23 : decode cX4_codeAt 23 = .ok (.iload_n 1, 1) := by decide +kernel
theorem dX4_codeAt_24 : decode cX4_codeAt 24 = .ok (.iaload, 1) := by decide +kernel
theorem dX4_codeAt_25 : decode cX4_codeAt 25 = .ok (.iadd, 1) := by decide +kernel
theorem dX4_codeAt_26 : decode cX4_codeAt 26 = .ok (.goto 5, 3) := by decide +kernel
theorem dX4_codeAt_29 : decode cX4_codeAt 29 = .ok (.bipush (-9), 2) := by decide +kernel
theorem dX4_codeAt_31 : decode cX4_codeAt 31 = .ok (.ireturn, 1) := by decide +kernel
theorem dX4_find_0 : decode cX4_find 0 = .ok (.iconst 0, 1) := by decide +kernel
theorem dX4_find_1 : decode cX4_find 1 = .ok (.istore_n 3, 1) := by decide +kernel
theorem dX4_find_2 : decode cX4_find 2 = .ok (.iload_n 3, 1) := by decide +kernel
theorem dX4_find_3 : decode cX4_find 3 = .ok (.aload_n 0, 1) := by decide +kernel
theorem dX4_find_4 : decode cX4_find 4 = .ok (.getfield 22, 3) := by decide +kernel
theorem dX4_find_7 : decode cX4_find 7 = .ok (.if_icmp .ge 37, 3) := by decide +kernel
theorem dX4_find_10 : decode cX4_find 10 = .ok (.iload_n 3, 1) := by decide +kernel
theorem dX4_find_11 : decode cX4_find 11 = .ok (.bipush 40, 2) := by decide +kernel
theorem dX4_find_13 : decode cX4_find 13 = .ok (.if_icmp .ge 31, 3) := by decide +kernel
theorem dX4_find_16 : decode cX4_find 16 = .ok (.aload_n 0, 1) := by decide +kernel
theorem dX4_find_17 : decode cX4_find 17 = .ok (.getfield 9, 3) := by decide +kernel
theorem dX4_find_20 : decode cX4_find 20 = .ok (.iload_n 3, 1) := by decide +kernel
theorem dX4_find_21 : decode cX4_find 21 = .ok (.iaload, 1) := by decide +kernel
theorem dX4_find_22 : decode cX4_find 22 = .ok (.iload_n 1, 1) := by decide +kernel
theorem dX4_find_23 : decode cX4_find 23 = .ok (.if_icmp .ne 15, 3) := by decide +kernel
theorem dX4_find_26 : decode cX4_find 26 = .ok (.aload_n 0, 1) := by decide +kernel
theorem dX4_find_27 : decode cX4_find 27 = .ok (.getfield 15, 3) := by decide +kernel
theorem dX4_find_30 : decode cX4_find 30 = .ok (.iload_n 3, 1) := by decide +kernel
theorem dX4_find_31 : decode cX4_find 31 = .ok (.iaload, 1) := by decide +kernel
theorem dX4_find_32 : decode cX4_find 32 = .ok (.iload_n 2, 1) := by decide +kernel
theorem dX4_find_33 : decode cX4_find 33 = .ok (.if_icmp .ne 5, 3) := by decide +kernel
theorem dX4_find_36 : decode cX4_find 36 = .ok (.iload_n 3, 1) := by decide +kernel
theorem dX4_find_37 : decode cX4_find 37 = .ok (.ireturn, 1) := by decide +kernel
theorem dX4_find_38 : decode cX4_find 38 = .ok (.iinc 3 1, 3) := by decide +kernel
theorem dX4_find_41 : decode cX4_find 41 = .ok (.goto (-39), 3) := by decide +kernel
theorem dX4_find_44 : decode cX4_find 44 = .ok (.iconst (-1), 1) := by decide +kernel
theorem dX4_find_45 : decode cX4_find 45 = .ok (.ireturn, 1) := by decide +kernel
theorem dX4_add_0 : decode cX4_add 0 = .ok (.aload_n 0, 1) := by decide +kernel
theorem dX4_add_1 : decode cX4_add 1 = .ok (.getfield 22, 3) := by decide +kernel
theorem dX4_add_4 : decode cX4_add 4 = .ok (.ifCond .lt 52, 3) := by decide +kernel
theorem dX4_add_7 : decode cX4_add 7 = .ok (.aload_n 0, 1) := by decide +kernel
theorem dX4_add_8 : decode cX4_add 8 = .ok (.getfield 22, 3) := by decide +kernel
theorem dX4_add_11 : decode cX4_add 11 = .ok (.bipush 40, 2) := by decide +kernel
theorem dX4_add_13 : decode cX4_add 13 = .ok (.if_icmp .ge 43, 3) := by decide +kernel
theorem dX4_add_16 : decode cX4_add 16 = .ok (.aload_n 0, 1) := by decide +kernel
theorem dX4_add_17 : decode cX4_add 17 = .ok (.getfield 9, 3) := by decide +kernel
theorem dX4_add_20 : decode cX4_add 20 = .ok (.aload_n 0, 1) := by decide +kernel
theorem dX4_add_21 : decode cX4_add 21 = .ok (.getfield 22, 3) := by decide +kernel
theorem dX4_add_24 : decode cX4_add 24 = .ok (.iload_n 1, 1) := by decide +kernel
theorem dX4_add_25 : decode cX4_add 25 = .ok (.iastore, 1) := by decide +kernel
theorem dX4_add_26 : decode cX4_add 26 = .ok (.aload_n 0, 1) := by decide +kernel
theorem dX4_add_27 : decode cX4_add 27 = .ok (.getfield 15, 3) := by decide +kernel
theorem dX4_add_30 : decode cX4_add 30 = .ok (.aload_n 0, 1) := by decide +kernel
theorem dX4_add_31 : decode cX4_add 31 = .ok (.getfield 22, 3) := by decide +kernel
theorem dX4_add_34 : decode cX4_add 34 = .ok (.iload_n 2, 1) := by decide +kernel
theorem dX4_add_35 : decode cX4_add 35 = .ok (.iastore, 1) := by decide +kernel
theorem dX4_add_36 : decode cX4_add 36 = .ok (.aload_n 0, 1) := by decide +kernel
theorem dX4_add_37 : decode cX4_add 37 = .ok (.getfield 18, 3) := by decide +kernel
theorem dX4_add_40 : decode cX4_add 40 = .ok (.aload_n 0, 1) := by decide +kernel
theorem dX4_add_41 : decode cX4_add 41 = .ok (.getfield 22, 3) := by decide +kernel
theorem dX4_add_44 : decode cX4_add 44 = .ok (.iload_n 3, 1) := by decide +kernel
theorem dX4_add_45 : decode cX4_add 45 = .ok (.bastore, 1) := by decide +kernel
theorem dX4_add_46 : decode cX4_add 46 = .ok (.aload_n 0, 1) := by decide +kernel
theorem dX4_add_47 : decode cX4_add 47 = .ok (.dup, 1) := by decide +kernel
theorem dX4_add_48 : decode cX4_add 48 = .ok (.getfield 22, 3) := by decide +kernel
theorem dX4_add_51 : decode cX4_add 51 = .ok (.iconst 1, 1) := by decide +kernel
theorem dX4_add_52 : decode cX4_add 52 = .ok (.iadd, 1) := by decide +kernel
theorem dX4_add_53 : decode cX4_add 53 = .ok (.putfield 22, 3) := by decide +kernel
theorem dX4_add_56 : decode cX4_add 56 = .ok (.return_, 1) := by decide +kernel
theorem dX4_setSound_0 : decode cX4_setSound 0 = .ok (.aload_n 0, 1) := by decide +kernel
theorem dX4_setSound_1 : decode cX4_setSound 1 = .ok (.iload_n 1, 1) := by decide +kernel
theorem dX4_setSound_2 : decode cX4_setSound 2 = .ok (.invokevirtual 26, 3) := by decide +kernel
theorem dX4_setSound_5 : decode cX4_setSound 5 = .ok (.ifCond .eq 10, 3) := by decide +kernel
theorem dX4_setSound_8 : decode cX4_setSound 8 = .ok (.aload_n 0, 1) := by decide +kernel
theorem dX4_setSound_9 : decode cX4_setSound 9 = .ok (.getfield 18, 3) := by decide +kernel
theorem dX4_setSound_12 : decode cX4_setSound 12 = .ok (.iload_n 1, 1) := by decide +kernel
theorem dX4_setSound_13 : decode cX4_setSound 13 = .ok (.iload_n 2, 1) := by decide +kernel
theorem dX4_setSound_14 : decode cX4_setSound 14 = .ok (.bastore, 1) := by decide +kernel
theorem dX4_setSound_15 : decode cX4_setSound 15 = .ok (.return_, 1) := by decide +kernel
theorem dX4_removeAt_0 : decode cX4_removeAt 0 = .ok (.aload_n 0, 1) := by decide +kernel
theorem dX4_removeAt_1 : decode cX4_removeAt 1 = .ok (.iload_n 1, 1) := by decide +kernel
theorem dX4_removeAt_2 : decode cX4_removeAt 2 = .ok (.invokevirtual 26, 3) := by decide +kernel
theorem dX4_removeAt_5 : decode cX4_removeAt 5 = .ok (.ifCond .ne 4, 3) := by decide +kernel
theorem dX4_removeAt_8 : decode cX4_removeAt 8 = .ok (.return_, 1) := by decide +kernel
theorem dX4_removeAt_9 : decode cX4_removeAt 9 = .ok (.iload_n 1, 1) := by decide +kernel
theorem dX4_removeAt_10 : decode cX4_removeAt 10 = .ok (.iconst 1, 1) := by decide +kernel
theorem dX4_removeAt_11 : decode cX4_removeAt 11 = .ok (.iadd, 1) := by decide +kernel
theorem dX4_removeAt_12 : decode cX4_removeAt 12 = .ok (.istore_n 2, 1) := by decide +kernel
theorem dX4_removeAt_13 : decode cX4_removeAt 13 = .ok (.iload_n 2, 1) := by decide +kernel
theorem dX4_removeAt_14 : decode cX4_removeAt 14 = .ok (.aload_n 0, 1) := by decide +kernel
theorem dX4_removeAt_15 : decode cX4_removeAt 15 = .ok (.getfield 22, 3) := by decide +kernel
theorem dX4_removeAt_18 : decode cX4_removeAt 18 = .ok (.if_icmp .ge 57, 3) := by decide +kernel
theorem dX4_removeAt_21 : decode cX4_removeAt 21 = .ok (.iload_n 2, 1) := by decide +kernel
theorem dX4_removeAt_22 : decode cX4_removeAt 22 = .ok (.bipush 40, 2) := by decide +kernel
theorem dX4_removeAt_24 : decode cX4_removeAt 24 = .ok (.if_icmp .ge 51, 3) := by decide +kernel
theorem dX4_removeAt_27 : decode cX4_removeAt 27 = .ok (.aload_n 0, 1) := by decide +kernel
theorem dX4_removeAt_28 : decode cX4_removeAt 28 = .ok (.getfield 9, 3) := by decide +kernel
theorem dX4_removeAt_31 : decode cX4_removeAt 31 = .ok (.iload_n 2, 1) := by decide +kernel
theorem dX4_removeAt_32 : decode cX4_removeAt 32 = .ok (.iconst 1, 1) := by decide +kernel
theorem dX4_removeAt_33 : decode cX4_removeAt 33 = .ok (.isub, 1) := by decide +kernel
theorem dX4_removeAt_34 : decode cX4_removeAt 34 = .ok (.aload_n 0, 1) := by decide +kernel
theorem dX4_removeAt_35 : decode cX4_removeAt 35 = .ok (.getfield 9, 3) := by decide +kernel
theorem dX4_removeAt_38 : decode cX4_removeAt 38 = .ok (.iload_n 2, 1) := by decide +kernel
theorem dX4_removeAt_39 : decode cX4_removeAt 39 = .ok (.iaload, 1) := by decide +kernel
theorem dX4_removeAt_40 : decode cX4_removeAt 40 = .ok (.iastore, 1) := by decide +kernel
theorem dX4_removeAt_41 : decode cX4_removeAt 41 = .ok (.aload_n 0, 1) := by decide +kernel
theorem dX4_removeAt_42 : decode cX4_removeAt 42 = .ok (.getfield 15, 3) := by decide +kernel
theorem dX4_removeAt_45 : decode cX4_removeAt 45 = .ok (.iload_n 2, 1) := by decide +kernel
theorem dX4_removeAt_46 : decode cX4_removeAt 46 = .ok (.iconst 1, 1) := by decide +kernel
theorem dX4_removeAt_47 : decode cX4_removeAt 47 = .ok (.isub, 1) := by decide +kernel
theorem dX4_removeAt_48 : decode cX4_removeAt 48 = .ok (.aload_n 0, 1) := by decide +kernel
theorem dX4_removeAt_49 : decode cX4_removeAt 49 = .ok (.getfield 15, 3) := by decide +kernel
theorem dX4_removeAt_52 : decode cX4_removeAt 52 = .ok (.iload_n 2, 1) := by decide +kernel
theorem dX4_removeAt_53 : decode cX4_removeAt 53 = .ok (.iaload, 1) := by decide +kernel
theorem dX4_removeAt_54 : decode cX4_removeAt 54 = .ok (.iastore, 1) := by decide +kernel
theorem dX4_removeAt_55 : decode cX4_removeAt 55 = .ok (.aload_n 0, 1) := by decide +kernel
theorem dX4_removeAt_56 : decode cX4_removeAt 56 = .ok (.getfield 18, 3) := by decide +kernel
theorem dX4_removeAt_59 : decode cX4_removeAt 59 = .ok (.iload_n 2, 1) := by decide +kernel
theorem dX4_removeAt_60 : decode cX4_removeAt 60 = .ok (.iconst 1, 1) := by decide +kernel
theorem dX4_removeAt_61 : decode cX4_removeAt 61 = .ok (.isub, 1) := by decide +kernel
theorem dX4_removeAt_62 : decode cX4_removeAt 62 = .ok (.aload_n 0, 1) := by decide +kernel
theorem dX4_removeAt_63 : decode cX4_removeAt 63 = .ok (.getfield 18, 3) := by decide +kernel
theorem dX4_removeAt_66 : decode cX4_removeAt 66 = .ok (.iload_n 2, 1) := by decide +kernel
theorem dX4_removeAt_67 : decode cX4_removeAt 67 = .ok (.baload, 1) := by decide +kernel
theorem dX4_removeAt_68 : decode cX4_removeAt 68 = .ok (.bastore, 1) := by decide +kernel
theorem dX4_removeAt_69 : decode cX4_removeAt 69 = .ok (.iinc 2 1, 3) := by decide +kernel
theorem dX4_removeAt_72 : decode cX4_removeAt 72 = .ok (.goto (-59), 3) := by decide +kernel
theorem dX4_removeAt_75 : decode cX4_removeAt 75 = .ok (.aload_n 0, 1) := by decide +kernel
theorem dX4_removeAt_76 : decode cX4_removeAt 76 = .ok (.dup, 1) := by decide +kernel
theorem dX4_removeAt_77 : decode cX4_removeAt 77 = .ok (.getfield 22, 3) := by decide +kernel
theorem dX4_removeAt_80 : decode cX4_removeAt 80 = .ok (.iconst 1, 1) := by decide +kernel
theorem dX4_removeAt_81 : decode cX4_removeAt 81 = .ok (.isub, 1) := by decide +kernel
theorem dX4_removeAt_82 : decode cX4_removeAt 82 = .ok (.putfield 22, 3) := by decide +kernel
theorem dX4_removeAt_85 : decode cX4_removeAt 85 = .ok (.return_, 1) := by decide +kernel
theorem dX4_removeAll_0 : decode cX4_removeAll 0 = .ok (.iconst 0, 1) := by decide +kernel
theorem dX4_removeAll_1 : decode cX4_removeAll 1 = .ok (.istore_n 2, 1) := by decide +kernel
theorem dX4_removeAll_2 : decode cX4_removeAll 2 = .ok (.iconst 0, 1) := by decide +kernel
theorem dX4_removeAll_3 : decode cX4_removeAll 3 = .ok (.istore_n 3, 1) := by decide +kernel
theorem dX4_removeAll_4 : decode cX4_removeAll 4 = .ok (.iload_n 3, 1) := by decide +kernel
theorem dX4_removeAll_5 : decode cX4_removeAll 5 = .ok (.aload_n 0, 1) := by decide +kernel
theorem dX4_removeAll_6 : decode cX4_removeAll 6 = .ok (.getfield 22, 3) := by decide +kernel
theorem dX4_removeAll_9 : decode cX4_removeAll 9 = .ok (.if_icmp .ge 84, 3) := by decide +kernel
theorem dX4_removeAll_12 : decode cX4_removeAll 12 = .ok (.iload_n 3, 1) := by decide +kernel
theorem dX4_removeAll_13 : decode cX4_removeAll 13 = .ok (.bipush 40, 2) := by decide +kernel
theorem dX4_removeAll_15 : decode cX4_removeAll 15 = .ok (.if_icmp .ge 78, 3) := by decide +kernel
theorem dX4_removeAll_18 : decode cX4_removeAll 18 = .ok (.iconst 1, 1) := by decide +kernel
theorem dX4_removeAll_19 : decode cX4_removeAll 19 = .ok (.aload_n 0, 1) := by decide +kernel
theorem dX4_removeAll_20 : decode cX4_removeAll 20 = .ok (.getfield 9, 3) := by decide +kernel
theorem dX4_removeAll_23 : decode cX4_removeAll 23 = .ok (.iload_n 3, 1) := by decide +kernel
theorem dX4_removeAll_24 : decode cX4_removeAll 24 = .ok (.iaload, 1) := by decide +kernel
theorem dX4_removeAll_25 : decode cX4_removeAll 25 = .ok (.iconst 4, 1) := by decide +kernel
theorem dX4_removeAll_26 : decode cX4_removeAll 26 = .ok (.iadd, 1) := by decide +kernel
theorem dX4_removeAll_27 : decode cX4_removeAll 27 = .ok (.ishl, 1) := by decide +kernel
theorem dX4_removeAll_28 : decode cX4_removeAll 28 = .ok (.iconst 1, 1) := by decide +kernel
theorem dX4_removeAll_29 : decode cX4_removeAll 29 = .ok (.aload_n 0, 1) := by decide +kernel
theorem dX4_removeAll_30 : decode cX4_removeAll 30 = .ok (.getfield 15, 3) := by decide +kernel
theorem dX4_removeAll_33 : decode cX4_removeAll 33 = .ok (.iload_n 3, 1) := by decide +kernel
theorem dX4_removeAll_34 : decode cX4_removeAll 34 = .ok (.iaload, 1) := by decide +kernel
theorem dX4_removeAll_35 : decode cX4_removeAll 35 = .ok (.iconst 4, 1) := by decide +kernel
theorem dX4_removeAll_36 : decode cX4_removeAll 36 = .ok (.iadd, 1) := by decide +kernel
theorem dX4_removeAll_37 : decode cX4_removeAll 37 = .ok (.ishl, 1) := by decide +kernel
theorem dX4_removeAll_38 : decode cX4_removeAll 38 = .ok (.ior, 1) := by decide +kernel
theorem dX4_removeAll_39 : decode cX4_removeAll 39 = .ok (.istore 4, 2) := by decide +kernel
theorem dX4_removeAll_41 : decode cX4_removeAll 41 = .ok (.iload 4, 2) := by decide +kernel
theorem dX4_removeAll_43 : decode cX4_removeAll 43 = .ok (.iload_n 1, 1) := by decide +kernel
theorem dX4_removeAll_44 : decode cX4_removeAll 44 = .ok (.iand, 1) := by decide +kernel
theorem dX4_removeAll_45 : decode cX4_removeAll 45 = .ok (.ifCond .ne 42, 3) := by decide +kernel
theorem dX4_removeAll_48 : decode cX4_removeAll 48 = .ok (.aload_n 0, 1) := by decide +kernel
theorem dX4_removeAll_49 : decode cX4_removeAll 49 = .ok (.getfield 9, 3) := by decide +kernel
theorem dX4_removeAll_52 : decode cX4_removeAll 52 = .ok (.iload_n 2, 1) := by decide +kernel
theorem dX4_removeAll_53 : decode cX4_removeAll 53 = .ok (.aload_n 0, 1) := by decide +kernel
theorem dX4_removeAll_54 : decode cX4_removeAll 54 = .ok (.getfield 9, 3) := by decide +kernel
theorem dX4_removeAll_57 : decode cX4_removeAll 57 = .ok (.iload_n 3, 1) := by decide +kernel
theorem dX4_removeAll_58 : decode cX4_removeAll 58 = .ok (.iaload, 1) := by decide +kernel
theorem dX4_removeAll_59 : decode cX4_removeAll 59 = .ok (.iastore, 1) := by decide +kernel
theorem dX4_removeAll_60 : decode cX4_removeAll 60 = .ok (.aload_n 0, 1) := by decide +kernel
theorem dX4_removeAll_61 : decode cX4_removeAll 61 = .ok (.getfield 15, 3) := by decide +kernel
theorem dX4_removeAll_64 : decode cX4_removeAll 64 = .ok (.iload_n 2, 1) := by decide +kernel
theorem dX4_removeAll_65 : decode cX4_removeAll 65 = .ok (.aload_n 0, 1) := by decide +kernel
theorem dX4_removeAll_66 : decode cX4_removeAll 66 = .ok (.getfield 15, 3) := by decide +kernel
theorem dX4_removeAll_69 : decode cX4_removeAll 69 = .ok (.iload_n 3, 1) := by decide +kernel
theorem dX4_removeAll_70 : decode cX4_removeAll 70 = .ok (.iaload, 1) := by decide +kernel
theorem dX4_removeAll_71 : decode cX4_removeAll 71 = .ok (.iastore, 1) := by decide +kernel
theorem dX4_removeAll_72 : decode cX4_removeAll 72 = .ok (.aload_n 0, 1) := by decide +kernel
theorem dX4_removeAll_73 : decode cX4_removeAll 73 = .ok (.getfield 18, 3) := by decide +kernel
theorem dX4_removeAll_76 : decode cX4_removeAll 76 = .ok (.iload_n 2, 1) := by decide +kernel
theorem dX4_removeAll_77 : decode cX4_removeAll 77 = .ok (.aload_n 0, 1) := by decide +kernel
theorem dX4_removeAll_78 : decode cX4_removeAll 78 = .ok (.getfield 18, 3) := by decide +kernel
theorem dX4_removeAll_81 : decode cX4_removeAll 81 = .ok (.iload_n 3, 1) := by decide +kernel
theorem dX4_removeAll_82 : decode cX4_removeAll 82 = .ok (.baload, 1) := by decide +kernel
theorem dX4_removeAll_83 : decode cX4_removeAll 83 = .ok (.bastore, 1) := by decide +kernel
theorem dX4_removeAll_84 : decode cX4_removeAll 84 = .ok (.iinc 2 1, 3) := by decide +kernel
theorem dX4_removeAll_87 : decode cX4_removeAll 87 = .ok (.iinc 3 1, 3) := by decide +kernel
theorem dX4_removeAll_90 : decode cX4_removeAll 90 = .ok (.goto (-86), 3) := by decide +kernel
theorem dX4_removeAll_93 : decode cX4_removeAll 93 = .ok (.aload_n 0, 1) := by decide +kernel
theorem dX4_removeAll_94 : decode cX4_removeAll 94 = .ok (.getfield 22, 3) := by decide +kernel
theorem dX4_removeAll_97 : decode cX4_removeAll 97 = .ok (.iload_n 2, 1) := by decide +kernel
theorem dX4_removeAll_98 : decode cX4_removeAll 98 = .ok (.isub, 1) := by decide +kernel
theorem dX4_removeAll_99 : decode cX4_removeAll 99 = .ok (.istore_n 3, 1) := by decide +kernel
theorem dX4_removeAll_100 : decode cX4_removeAll 100 = .ok (.aload_n 0, 1) := by decide +kernel
theorem dX4_removeAll_101 : decode cX4_removeAll 101 = .ok (.iload_n 2, 1) := by decide +kernel
theorem dX4_removeAll_102 : decode cX4_removeAll 102 = .ok (.putfield 22, 3) := by decide +kernel
theorem dX4_removeAll_105 : decode cX4_removeAll 105 = .ok (.iload_n 3, 1) := by decide +kernel
theorem dX4_removeAll_106 : decode cX4_removeAll 106 = .ok (.ireturn, 1) := by decide +kernel
theorem dX4_frayed_0 : decode cX4_frayed 0 = .ok (.iconst 0, 1) := by decide +kernel
theorem dX4_frayed_1 : decode cX4_frayed 1 = .ok (.istore_n 1, 1) := by decide +kernel
theorem dX4_frayed_2 : decode cX4_frayed 2 = .ok (.iconst 0, 1) := by decide +kernel
theorem dX4_frayed_3 : decode cX4_frayed 3 = .ok (.istore_n 2, 1) := by decide +kernel
theorem dX4_frayed_4 : decode cX4_frayed 4 = .ok (.iload_n 2, 1) := by decide +kernel
theorem dX4_frayed_5 : decode cX4_frayed 5 = .ok (.aload_n 0, 1) := by decide +kernel
theorem dX4_frayed_6 : decode cX4_frayed 6 = .ok (.getfield 22, 3) := by decide +kernel
theorem dX4_frayed_9 : decode cX4_frayed 9 = .ok (.if_icmp .ge 32, 3) := by decide +kernel
theorem dX4_frayed_12 : decode cX4_frayed 12 = .ok (.iload_n 2, 1) := by decide +kernel
theorem dX4_frayed_13 : decode cX4_frayed 13 = .ok (.bipush 40, 2) := by decide +kernel
theorem dX4_frayed_15 : decode cX4_frayed 15 = .ok (.if_icmp .ge 26, 3) := by decide +kernel
theorem dX4_frayed_18 : decode cX4_frayed 18 = .ok (.iload_n 1, 1) := by decide +kernel
theorem dX4_frayed_19 : decode cX4_frayed 19 = .ok (.aload_n 0, 1) := by decide +kernel
theorem dX4_frayed_20 : decode cX4_frayed 20 = .ok (.getfield 18, 3) := by decide +kernel
theorem dX4_frayed_23 : decode cX4_frayed 23 = .ok (.iload_n 2, 1) := by decide +kernel
theorem dX4_frayed_24 : decode cX4_frayed 24 = .ok (.baload, 1) := by decide +kernel
theorem dX4_frayed_25 : decode cX4_frayed 25 = .ok (.ifCond .eq 7, 3) := by decide +kernel
theorem dX4_frayed_28 : decode cX4_frayed 28 = .ok (.iconst 0, 1) := by decide +kernel
theorem dX4_frayed_29 : decode cX4_frayed 29 = .ok (.goto 4, 3) := by decide +kernel
theorem dX4_frayed_32 : decode cX4_frayed 32 = .ok (.iconst 1, 1) := by decide +kernel
theorem dX4_frayed_33 : decode cX4_frayed 33 = .ok (.iadd, 1) := by decide +kernel
theorem dX4_frayed_34 : decode cX4_frayed 34 = .ok (.istore_n 1, 1) := by decide +kernel
theorem dX4_frayed_35 : decode cX4_frayed 35 = .ok (.iinc 2 1, 3) := by decide +kernel
theorem dX4_frayed_38 : decode cX4_frayed 38 = .ok (.goto (-34), 3) := by decide +kernel
theorem dX4_frayed_41 : decode cX4_frayed 41 = .ok (.iload_n 1, 1) := by decide +kernel
theorem dX4_frayed_42 : decode cX4_frayed 42 = .ok (.ireturn, 1) := by decide +kernel
theorem dX4_soundTo_0 : decode cX4_soundTo 0 = .ok (.iconst 0, 1) := by decide +kernel
theorem dX4_soundTo_1 : decode cX4_soundTo 1 = .ok (.istore_n 2, 1) := by decide +kernel
theorem dX4_soundTo_2 : decode cX4_soundTo 2 = .ok (.iconst 0, 1) := by decide +kernel
theorem dX4_soundTo_3 : decode cX4_soundTo 3 = .ok (.istore_n 3, 1) := by decide +kernel
theorem dX4_soundTo_4 : decode cX4_soundTo 4 = .ok (.iload_n 3, 1) := by decide +kernel
theorem dX4_soundTo_5 : decode cX4_soundTo 5 = .ok (.aload_n 0, 1) := by decide +kernel
theorem dX4_soundTo_6 : decode cX4_soundTo 6 = .ok (.getfield 22, 3) := by decide +kernel
theorem dX4_soundTo_9 : decode cX4_soundTo 9 = .ok (.if_icmp .ge 42, 3) := by decide +kernel
theorem dX4_soundTo_12 : decode cX4_soundTo 12 = .ok (.iload_n 3, 1) := by decide +kernel
theorem dX4_soundTo_13 : decode cX4_soundTo 13 = .ok (.bipush 40, 2) := by decide +kernel
theorem dX4_soundTo_15 : decode cX4_soundTo 15 = .ok (.if_icmp .ge 36, 3) := by decide +kernel
theorem dX4_soundTo_18 : decode cX4_soundTo 18 = .ok (.iload_n 2, 1) := by decide +kernel
theorem dX4_soundTo_19 : decode cX4_soundTo 19 = .ok (.aload_n 0, 1) := by decide +kernel
theorem dX4_soundTo_20 : decode cX4_soundTo 20 = .ok (.getfield 18, 3) := by decide +kernel
theorem dX4_soundTo_23 : decode cX4_soundTo 23 = .ok (.iload_n 3, 1) := by decide +kernel
theorem dX4_soundTo_24 : decode cX4_soundTo 24 = .ok (.baload, 1) := by decide +kernel
theorem dX4_soundTo_25 : decode cX4_soundTo 25 = .ok (.ifCond .eq 17, 3) := by decide +kernel
theorem dX4_soundTo_28 : decode cX4_soundTo 28 = .ok (.aload_n 0, 1) := by decide +kernel
theorem dX4_soundTo_29 : decode cX4_soundTo 29 = .ok (.getfield 15, 3) := by decide +kernel
theorem dX4_soundTo_32 : decode cX4_soundTo 32 = .ok (.iload_n 3, 1) := by decide +kernel
theorem dX4_soundTo_33 : decode cX4_soundTo 33 = .ok (.iaload, 1) := by decide +kernel
theorem dX4_soundTo_34 : decode cX4_soundTo 34 = .ok (.iload_n 1, 1) := by decide +kernel
theorem dX4_soundTo_35 : decode cX4_soundTo 35 = .ok (.if_icmp .ne 7, 3) := by decide +kernel
theorem dX4_soundTo_38 : decode cX4_soundTo 38 = .ok (.iconst 1, 1) := by decide +kernel
theorem dX4_soundTo_39 : decode cX4_soundTo 39 = .ok (.goto 4, 3) := by decide +kernel
theorem dX4_soundTo_42 : decode cX4_soundTo 42 = .ok (.iconst 0, 1) := by decide +kernel
theorem dX4_soundTo_43 : decode cX4_soundTo 43 = .ok (.iadd, 1) := by decide +kernel
theorem dX4_soundTo_44 : decode cX4_soundTo 44 = .ok (.istore_n 2, 1) := by decide +kernel
theorem dX4_soundTo_45 : decode cX4_soundTo 45 = .ok (.iinc 3 1, 3) := by decide +kernel
theorem dX4_soundTo_48 : decode cX4_soundTo 48 = .ok (.goto (-44), 3) := by decide +kernel
theorem dX4_soundTo_51 : decode cX4_soundTo 51 = .ok (.iload_n 2, 1) := by decide +kernel
theorem dX4_soundTo_52 : decode cX4_soundTo 52 = .ok (.ireturn, 1) := by decide +kernel
theorem dX4_under_0 : decode cX4_under 0 = .ok (.iconst 0, 1) := by decide +kernel
theorem dX4_under_1 : decode cX4_under 1 = .ok (.istore_n 2, 1) := by decide +kernel
theorem dX4_under_2 : decode cX4_under 2 = .ok (.iconst 0, 1) := by decide +kernel
theorem dX4_under_3 : decode cX4_under 3 = .ok (.istore_n 3, 1) := by decide +kernel
theorem dX4_under_4 : decode cX4_under 4 = .ok (.iload_n 3, 1) := by decide +kernel
theorem dX4_under_5 : decode cX4_under 5 = .ok (.aload_n 0, 1) := by decide +kernel
theorem dX4_under_6 : decode cX4_under 6 = .ok (.getfield 22, 3) := by decide +kernel
theorem dX4_under_9 : decode cX4_under 9 = .ok (.if_icmp .ge 33, 3) := by decide +kernel
theorem dX4_under_12 : decode cX4_under 12 = .ok (.iload_n 3, 1) := by decide +kernel
theorem dX4_under_13 : decode cX4_under 13 = .ok (.bipush 40, 2) := by decide +kernel
theorem dX4_under_15 : decode cX4_under 15 = .ok (.if_icmp .ge 27, 3) := by decide +kernel
theorem dX4_under_18 : decode cX4_under 18 = .ok (.iload_n 2, 1) := by decide +kernel
theorem dX4_under_19 : decode cX4_under 19 = .ok (.aload_n 0, 1) := by decide +kernel
theorem dX4_under_20 : decode cX4_under 20 = .ok (.getfield 9, 3) := by decide +kernel
theorem dX4_under_23 : decode cX4_under 23 = .ok (.iload_n 3, 1) := by decide +kernel
theorem dX4_under_24 : decode cX4_under 24 = .ok (.iaload, 1) := by decide +kernel
theorem dX4_under_25 : decode cX4_under 25 = .ok (.iload_n 1, 1) := by decide +kernel
theorem dX4_under_26 : decode cX4_under 26 = .ok (.if_icmp .ne 7, 3) := by decide +kernel
theorem dX4_under_29 : decode cX4_under 29 = .ok (.iconst 1, 1) := by decide +kernel
theorem dX4_under_30 : decode cX4_under 30 = .ok (.goto 4, 3) := by decide +kernel
theorem dX4_under_33 : decode cX4_under 33 = .ok (.iconst 0, 1) := by decide +kernel
theorem dX4_under_34 : decode cX4_under 34 = .ok (.iadd, 1) := by decide +kernel
theorem dX4_under_35 : decode cX4_under 35 = .ok (.istore_n 2, 1) := by decide +kernel
theorem dX4_under_36 : decode cX4_under 36 = .ok (.iinc 3 1, 3) := by decide +kernel
theorem dX4_under_39 : decode cX4_under 39 = .ok (.goto (-35), 3) := by decide +kernel
theorem dX4_under_42 : decode cX4_under 42 = .ok (.iload_n 2, 1) := by decide +kernel
theorem dX4_under_43 : decode cX4_under 43 = .ok (.ireturn, 1) := by decide +kernel
theorem dX4_nextBelow_0 : decode cX4_nextBelow 0 = .ok (.iconst 0, 1) := by decide +kernel
theorem dX4_nextBelow_1 : decode cX4_nextBelow 1 = .ok (.istore_n 2, 1) := by decide +kernel
theorem dX4_nextBelow_2 : decode cX4_nextBelow 2 = .ok (.iconst 0, 1) := by decide +kernel
theorem dX4_nextBelow_3 : decode cX4_nextBelow 3 = .ok (.istore_n 3, 1) := by decide +kernel
theorem dX4_nextBelow_4 : decode cX4_nextBelow 4 = .ok (.iload_n 3, 1) := by decide +kernel
theorem dX4_nextBelow_5 : decode cX4_nextBelow 5 = .ok (.aload_n 0, 1) := by decide +kernel
theorem dX4_nextBelow_6 : decode cX4_nextBelow 6 = .ok (.getfield 22, 3) := by decide +kernel
theorem dX4_nextBelow_9 : decode cX4_nextBelow 9 = .ok (.if_icmp .ge 52, 3) := by decide +kernel
theorem dX4_nextBelow_12 : decode cX4_nextBelow 12 = .ok (.iload_n 3, 1) := by decide +kernel
theorem dX4_nextBelow_13 : decode cX4_nextBelow 13 = .ok (.bipush 40, 2) := by decide +kernel
theorem dX4_nextBelow_15 : decode cX4_nextBelow 15 = .ok (.if_icmp .ge 46, 3) := by decide +kernel
theorem dX4_nextBelow_18 : decode cX4_nextBelow 18 = .ok (.aload_n 0, 1) := by decide +kernel
theorem dX4_nextBelow_19 : decode cX4_nextBelow 19 = .ok (.getfield 18, 3) := by decide +kernel
theorem dX4_nextBelow_22 : decode cX4_nextBelow 22 = .ok (.iload_n 3, 1) := by decide +kernel
theorem dX4_nextBelow_23 : decode cX4_nextBelow 23 = .ok (.baload, 1) := by decide +kernel
theorem dX4_nextBelow_24 : decode cX4_nextBelow 24 = .ok (.ifCond .eq 31, 3) := by decide +kernel
theorem dX4_nextBelow_27 : decode cX4_nextBelow 27 = .ok (.iload_n 1, 1) := by decide +kernel
theorem dX4_nextBelow_28 : decode cX4_nextBelow 28 = .ok (.aload_n 0, 1) := by decide +kernel
theorem dX4_nextBelow_29 : decode cX4_nextBelow 29 = .ok (.getfield 9, 3) := by decide +kernel
theorem dX4_nextBelow_32 : decode cX4_nextBelow 32 = .ok (.iload_n 3, 1) := by decide +kernel
theorem dX4_nextBelow_33 : decode cX4_nextBelow 33 = .ok (.iaload, 1) := by decide +kernel
theorem dX4_nextBelow_34 : decode cX4_nextBelow 34 = .ok (.iconst 4, 1) := by decide +kernel
theorem dX4_nextBelow_35 : decode cX4_nextBelow 35 = .ok (.iadd, 1) := by decide +kernel
theorem dX4_nextBelow_36 : decode cX4_nextBelow 36 = .ok (.ishr, 1) := by decide +kernel
theorem dX4_nextBelow_37 : decode cX4_nextBelow 37 = .ok (.iconst 1, 1) := by decide +kernel
theorem dX4_nextBelow_38 : decode cX4_nextBelow 38 = .ok (.iand, 1) := by decide +kernel
theorem dX4_nextBelow_39 : decode cX4_nextBelow 39 = .ok (.ifCond .eq 16, 3) := by decide +kernel
theorem dX4_nextBelow_42 : decode cX4_nextBelow 42 = .ok (.iload_n 2, 1) := by decide +kernel
theorem dX4_nextBelow_43 : decode cX4_nextBelow 43 = .ok (.iconst 1, 1) := by decide +kernel
theorem dX4_nextBelow_44 : decode cX4_nextBelow 44 = .ok (.aload_n 0, 1) := by decide +kernel
theorem dX4_nextBelow_45 : decode cX4_nextBelow 45 = .ok (.getfield 15, 3) := by decide +kernel
theorem dX4_nextBelow_48 : decode cX4_nextBelow 48 = .ok (.iload_n 3, 1) := by decide +kernel
theorem dX4_nextBelow_49 : decode cX4_nextBelow 49 = .ok (.iaload, 1) := by decide +kernel
theorem dX4_nextBelow_50 : decode cX4_nextBelow 50 = .ok (.iconst 4, 1) := by decide +kernel
theorem dX4_nextBelow_51 : decode cX4_nextBelow 51 = .ok (.iadd, 1) := by decide +kernel
theorem dX4_nextBelow_52 : decode cX4_nextBelow 52 = .ok (.ishl, 1) := by decide +kernel
theorem dX4_nextBelow_53 : decode cX4_nextBelow 53 = .ok (.ior, 1) := by decide +kernel
theorem dX4_nextBelow_54 : decode cX4_nextBelow 54 = .ok (.istore_n 2, 1) := by decide +kernel
theorem dX4_nextBelow_55 : decode cX4_nextBelow 55 = .ok (.iinc 3 1, 3) := by decide +kernel
theorem dX4_nextBelow_58 : decode cX4_nextBelow 58 = .ok (.goto (-54), 3) := by decide +kernel
theorem dX4_nextBelow_61 : decode cX4_nextBelow 61 = .ok (.iload_n 2, 1) := by decide +kernel
theorem dX4_nextBelow_62 : decode cX4_nextBelow 62 = .ok (.ireturn, 1) := by decide +kernel
theorem dX4_reach_0 : decode cX4_reach 0 = .ok (.iload_n 1, 1) := by decide +kernel
theorem dX4_reach_1 : decode cX4_reach 1 = .ok (.istore_n 3, 1) := by decide +kernel
theorem dX4_reach_2 : decode cX4_reach 2 = .ok (.iconst 0, 1) := by decide +kernel
theorem dX4_reach_3 : decode cX4_reach 3 = .ok (.istore 4, 2) := by decide +kernel
theorem dX4_reach_5 : decode cX4_reach 5 = .ok (.iload 4, 2) := by decide +kernel
theorem dX4_reach_7 : decode cX4_reach 7 = .ok (.bipush 24, 2) := by decide +kernel
theorem dX4_reach_9 : decode cX4_reach 9 = .ok (.if_icmp .ge 91, 3) := by decide +kernel
theorem dX4_reach_12 : decode cX4_reach 12 = .ok (.iload_n 3, 1) := by decide +kernel
theorem dX4_reach_13 : decode cX4_reach 13 = .ok (.istore 5, 2) := by decide +kernel
theorem dX4_reach_15 : decode cX4_reach 15 = .ok (.iconst 0, 1) := by decide +kernel
theorem dX4_reach_16 : decode cX4_reach 16 = .ok (.istore 6, 2) := by decide +kernel
theorem dX4_reach_18 : decode cX4_reach 18 = .ok (.iload 6, 2) := by decide +kernel
theorem dX4_reach_20 : decode cX4_reach 20 = .ok (.aload_n 0, 1) := by decide +kernel
theorem dX4_reach_21 : decode cX4_reach 21 = .ok (.getfield 22, 3) := by decide +kernel
theorem dX4_reach_24 : decode cX4_reach 24 = .ok (.if_icmp .ge 62, 3) := by decide +kernel
theorem dX4_reach_27 : decode cX4_reach 27 = .ok (.iload 6, 2) := by decide +kernel
theorem dX4_reach_29 : decode cX4_reach 29 = .ok (.bipush 40, 2) := by decide +kernel
theorem dX4_reach_31 : decode cX4_reach 31 = .ok (.if_icmp .ge 55, 3) := by decide +kernel
theorem dX4_reach_34 : decode cX4_reach 34 = .ok (.aload_n 0, 1) := by decide +kernel
theorem dX4_reach_35 : decode cX4_reach 35 = .ok (.getfield 18, 3) := by decide +kernel
theorem dX4_reach_38 : decode cX4_reach 38 = .ok (.iload 6, 2) := by decide +kernel
theorem dX4_reach_40 : decode cX4_reach 40 = .ok (.baload, 1) := by decide +kernel
theorem dX4_reach_41 : decode cX4_reach 41 = .ok (.ifCond .eq 39, 3) := by decide +kernel
theorem dX4_reach_44 : decode cX4_reach 44 = .ok (.iload 6, 2) := by decide +kernel
theorem dX4_reach_46 : decode cX4_reach 46 = .ok (.iload_n 2, 1) := by decide +kernel
theorem dX4_reach_47 : decode cX4_reach 47 = .ok (.if_icmp .eq 33, 3) := by decide +kernel
theorem dX4_reach_50 : decode cX4_reach 50 = .ok (.iload_n 3, 1) := by decide +kernel
theorem dX4_reach_51 : decode cX4_reach 51 = .ok (.aload_n 0, 1) := by decide +kernel
theorem dX4_reach_52 : decode cX4_reach 52 = .ok (.getfield 9, 3) := by decide +kernel
theorem dX4_reach_55 : decode cX4_reach 55 = .ok (.iload 6, 2) := by decide +kernel
theorem dX4_reach_57 : decode cX4_reach 57 = .ok (.iaload, 1) := by decide +kernel
theorem dX4_reach_58 : decode cX4_reach 58 = .ok (.iconst 4, 1) := by decide +kernel
theorem dX4_reach_59 : decode cX4_reach 59 = .ok (.iadd, 1) := by decide +kernel
theorem dX4_reach_60 : decode cX4_reach 60 = .ok (.ishr, 1) := by decide +kernel
theorem dX4_reach_61 : decode cX4_reach 61 = .ok (.iconst 1, 1) := by decide +kernel
theorem dX4_reach_62 : decode cX4_reach 62 = .ok (.iand, 1) := by decide +kernel
theorem dX4_reach_63 : decode cX4_reach 63 = .ok (.ifCond .eq 17, 3) := by decide +kernel
theorem dX4_reach_66 : decode cX4_reach 66 = .ok (.iload_n 3, 1) := by decide +kernel
theorem dX4_reach_67 : decode cX4_reach 67 = .ok (.iconst 1, 1) := by decide +kernel
theorem dX4_reach_68 : decode cX4_reach 68 = .ok (.aload_n 0, 1) := by decide +kernel
theorem dX4_reach_69 : decode cX4_reach 69 = .ok (.getfield 15, 3) := by decide +kernel
theorem dX4_reach_72 : decode cX4_reach 72 = .ok (.iload 6, 2) := by decide +kernel
theorem dX4_reach_74 : decode cX4_reach 74 = .ok (.iaload, 1) := by decide +kernel
theorem dX4_reach_75 : decode cX4_reach 75 = .ok (.iconst 4, 1) := by decide +kernel
theorem dX4_reach_76 : decode cX4_reach 76 = .ok (.iadd, 1) := by decide +kernel
theorem dX4_reach_77 : decode cX4_reach 77 = .ok (.ishl, 1) := by decide +kernel
theorem dX4_reach_78 : decode cX4_reach 78 = .ok (.ior, 1) := by decide +kernel
theorem dX4_reach_79 : decode cX4_reach 79 = .ok (.istore_n 3, 1) := by decide +kernel
theorem dX4_reach_80 : decode cX4_reach 80 = .ok (.iinc 6 1, 3) := by decide +kernel
theorem dX4_reach_83 : decode cX4_reach 83 = .ok (.goto (-65), 3) := by decide +kernel
theorem dX4_reach_86 : decode cX4_reach 86 = .ok (.iload_n 3, 1) := by decide +kernel
theorem dX4_reach_87 : decode cX4_reach 87 = .ok (.iload 5, 2) := by decide +kernel
theorem dX4_reach_89 : decode cX4_reach 89 = .ok (.if_icmp .ne 5, 3) := by decide +kernel
theorem dX4_reach_92 : decode cX4_reach 92 = .ok (.iload_n 3, 1) := by decide +kernel
theorem dX4_reach_93 : decode cX4_reach 93 = .ok (.ireturn, 1) := by decide +kernel
theorem dX4_reach_94 : decode cX4_reach 94 = .ok (.iinc 4 1, 3) := by decide +kernel
theorem dX4_reach_97 : decode cX4_reach 97 = .ok (.goto (-92), 3) := by decide +kernel
theorem dX4_reach_100 : decode cX4_reach 100 = .ok (.iload_n 3, 1) := by decide +kernel
theorem dX4_reach_101 : decode cX4_reach 101 = .ok (.ireturn, 1) := by decide +kernel
theorem dX4_depthOf_0 : decode cX4_depthOf 0 = .ok (.iload_n 1, 1) := by decide +kernel
theorem dX4_depthOf_1 : decode cX4_depthOf 1 = .ok (.istore_n 3, 1) := by decide +kernel
theorem dX4_depthOf_2 : decode cX4_depthOf 2 = .ok (.iconst 0, 1) := by decide +kernel
theorem dX4_depthOf_3 : decode cX4_depthOf 3 = .ok (.istore 4, 2) := by decide +kernel
theorem dX4_depthOf_5 : decode cX4_depthOf 5 = .ok (.iload 4, 2) := by decide +kernel
theorem dX4_depthOf_7 : decode cX4_depthOf 7 = .ok (.bipush 24, 2) := by decide +kernel
theorem dX4_depthOf_9 : decode cX4_depthOf 9 = .ok (.if_icmp .gt 29, 3) := by decide +kernel
theorem dX4_depthOf_12 : decode cX4_depthOf 12 = .ok (.iload_n 3, 1) := by decide +kernel
theorem dX4_depthOf_13 : decode cX4_depthOf 13 = .ok (.iload_n 2, 1) := by decide +kernel
theorem dX4_depthOf_14 : decode cX4_depthOf 14 = .ok (.invokestatic 30, 3) := by decide +kernel
theorem dX4_depthOf_17 : decode cX4_depthOf 17 = .ok (.iand, 1) := by decide +kernel
theorem dX4_depthOf_18 : decode cX4_depthOf 18 = .ok (.ifCond .eq 6, 3) := by decide +kernel
theorem dX4_depthOf_21 : decode cX4_depthOf 21 = .ok (.iload 4, 2) := by decide +kernel
theorem dX4_depthOf_23 : decode cX4_depthOf 23 = .ok (.ireturn, 1) := by decide +kernel
theorem dX4_depthOf_24 : decode cX4_depthOf 24 = .ok (.iload_n 3, 1) := by decide +kernel
theorem dX4_depthOf_25 : decode cX4_depthOf 25 = .ok (.aload_n 0, 1) := by decide +kernel
theorem dX4_depthOf_26 : decode cX4_depthOf 26 = .ok (.iload_n 3, 1) := by decide +kernel
theorem dX4_depthOf_27 : decode cX4_depthOf 27 = .ok (.invokevirtual 34, 3) := by decide +kernel
theorem dX4_depthOf_30 : decode cX4_depthOf 30 = .ok (.ior, 1) := by decide +kernel
theorem dX4_depthOf_31 : decode cX4_depthOf 31 = .ok (.istore_n 3, 1) := by decide +kernel
theorem dX4_depthOf_32 : decode cX4_depthOf 32 = .ok (.iinc 4 1, 3) := by decide +kernel
theorem dX4_depthOf_35 : decode cX4_depthOf 35 = .ok (.goto (-30), 3) := by decide +kernel
theorem dX4_depthOf_38 : decode cX4_depthOf 38 = .ok (.bipush (-9), 2) := by decide +kernel
theorem dX4_depthOf_40 : decode cX4_depthOf 40 = .ok (.ireturn, 1) := by decide +kernel
theorem dX4_greatestDepth_0 : decode cX4_greatestDepth 0 = .ok (.iload_n 1, 1) := by decide +kernel
theorem dX4_greatestDepth_1 : decode cX4_greatestDepth 1 = .ok (.istore_n 2, 1) := by decide +kernel
theorem dX4_greatestDepth_2 : decode cX4_greatestDepth 2 = .ok (.iconst 0, 1) := by decide +kernel
theorem dX4_greatestDepth_3 : decode cX4_greatestDepth 3 = .ok (.istore_n 3, 1) := by decide +kernel
theorem dX4_greatestDepth_4 : decode cX4_greatestDepth 4 = .ok (.iload_n 3, 1) := by decide +kernel
theorem dX4_greatestDepth_5 : decode cX4_greatestDepth 5 = .ok (.bipush 24, 2) := by decide +kernel
theorem dX4_greatestDepth_7 : decode cX4_greatestDepth 7 = .ok (.if_icmp .ge 29, 3) := by decide +kernel
theorem dX4_greatestDepth_10 : decode cX4_greatestDepth 10 = .ok (.iload_n 2, 1) := by decide +kernel
theorem dX4_greatestDepth_11 : decode cX4_greatestDepth 11 = .ok (.aload_n 0, 1) := by decide +kernel
theorem dX4_greatestDepth_12 : decode cX4_greatestDepth 12 = .ok (.iload_n 2, 1) := by decide +kernel
theorem dX4_greatestDepth_13 : decode cX4_greatestDepth 13 = .ok (.invokevirtual 34, 3) := by decide +kernel
theorem dX4_greatestDepth_16 : decode cX4_greatestDepth 16 = .ok (.ior, 1) := by decide +kernel
theorem dX4_greatestDepth_17 : decode cX4_greatestDepth 17 = .ok (.istore 4, 2) := by decide +kernel
theorem dX4_greatestDepth_19 : decode cX4_greatestDepth 19 = .ok (.iload 4, 2) := by decide +kernel
theorem dX4_greatestDepth_21 : decode cX4_greatestDepth 21 = .ok (.iload_n 2, 1) := by decide +kernel
theorem dX4_greatestDepth_22 : decode cX4_greatestDepth 22 = .ok (.if_icmp .ne 5, 3) := by decide +kernel
theorem dX4_greatestDepth_25 : decode cX4_greatestDepth 25 = .ok (.iload_n 3, 1) := by decide +kernel
theorem dX4_greatestDepth_26 : decode cX4_greatestDepth 26 = .ok (.ireturn, 1) := by decide +kernel
theorem dX4_greatestDepth_27 : decode cX4_greatestDepth 27 = .ok (.iload 4, 2) := by decide +kernel
theorem dX4_greatestDepth_29 : decode cX4_greatestDepth 29 = .ok (.istore_n 2, 1) := by decide +kernel
theorem dX4_greatestDepth_30 : decode cX4_greatestDepth 30 = .ok (.iinc 3 1, 3) := by decide +kernel
theorem dX4_greatestDepth_33 : decode cX4_greatestDepth 33 = .ok (.goto (-29), 3) := by decide +kernel
theorem dX4_greatestDepth_36 : decode cX4_greatestDepth 36 = .ok (.bipush 24, 2) := by decide +kernel
theorem dX4_greatestDepth_38 : decode cX4_greatestDepth 38 = .ok (.ireturn, 1) := by decide +kernel
theorem dX4_onWay_0 : decode cX4_onWay 0 = .ok (.aload_n 0, 1) := by decide +kernel
theorem dX4_onWay_1 : decode cX4_onWay 1 = .ok (.iload_n 1, 1) := by decide +kernel
theorem dX4_onWay_2 : decode cX4_onWay 2 = .ok (.iload_n 2, 1) := by decide +kernel
theorem dX4_onWay_3 : decode cX4_onWay 3 = .ok (.invokevirtual 37, 3) := by decide +kernel
theorem dX4_onWay_6 : decode cX4_onWay 6 = .ok (.istore 4, 2) := by decide +kernel
theorem dX4_onWay_8 : decode cX4_onWay 8 = .ok (.iload 4, 2) := by decide +kernel
theorem dX4_onWay_10 : decode cX4_onWay 10 = .ok (.bipush (-9), 2) := by decide +kernel
theorem dX4_onWay_12 : decode cX4_onWay 12 = .ok (.if_icmp .eq 9, 3) := by decide +kernel
theorem dX4_onWay_15 : decode cX4_onWay 15 = .ok (.iload_n 3, 1) := by decide +kernel
theorem dX4_onWay_16 : decode cX4_onWay 16 = .ok (.iload 4, 2) := by decide +kernel
theorem dX4_onWay_18 : decode cX4_onWay 18 = .ok (.if_icmp .le 6, 3) := by decide +kernel
theorem dX4_onWay_21 : decode cX4_onWay 21 = .ok (.bipush (-9), 2) := by decide +kernel
theorem dX4_onWay_23 : decode cX4_onWay 23 = .ok (.ireturn, 1) := by decide +kernel
theorem dX4_onWay_24 : decode cX4_onWay 24 = .ok (.iload_n 2, 1) := by decide +kernel
theorem dX4_onWay_25 : decode cX4_onWay 25 = .ok (.istore 5, 2) := by decide +kernel
theorem dX4_onWay_27 : decode cX4_onWay 27 = .ok (.iload 4, 2) := by decide +kernel
theorem dX4_onWay_29 : decode cX4_onWay 29 = .ok (.iconst 1, 1) := by decide +kernel
theorem dX4_onWay_30 : decode cX4_onWay 30 = .ok (.isub, 1) := by decide +kernel
theorem dX4_onWay_31 : decode cX4_onWay 31 = .ok (.istore 6, 2) := by decide +kernel
theorem dX4_onWay_33 : decode cX4_onWay 33 = .ok (.iload 6, 2) := by decide +kernel
theorem dX4_onWay_35 : decode cX4_onWay 35 = .ok (.iload_n 3, 1) := by decide +kernel
theorem dX4_onWay_36 : decode cX4_onWay 36 = .ok (.if_icmp .lt 20, 3) := by decide +kernel
theorem dX4_onWay_39 : decode cX4_onWay 39 = .ok (.aload_n 0, 1) := by decide +kernel
theorem dX4_onWay_40 : decode cX4_onWay 40 = .ok (.iload_n 1, 1) := by decide +kernel
theorem dX4_onWay_41 : decode cX4_onWay 41 = .ok (.iload 5, 2) := by decide +kernel
theorem dX4_onWay_43 : decode cX4_onWay 43 = .ok (.iload 6, 2) := by decide +kernel
theorem dX4_onWay_45 : decode cX4_onWay 45 = .ok (.invokevirtual 41, 3) := by decide +kernel
theorem dX4_onWay_48 : decode cX4_onWay 48 = .ok (.istore 5, 2) := by decide +kernel
theorem dX4_onWay_50 : decode cX4_onWay 50 = .ok (.iinc 6 (-1), 3) := by decide +kernel
theorem dX4_onWay_53 : decode cX4_onWay 53 = .ok (.goto (-20), 3) := by decide +kernel
theorem dX4_onWay_56 : decode cX4_onWay 56 = .ok (.iload 5, 2) := by decide +kernel
theorem dX4_onWay_58 : decode cX4_onWay 58 = .ok (.ireturn, 1) := by decide +kernel
theorem dX4_firstAbove_0 : decode cX4_firstAbove 0 = .ok (.iconst 0, 1) := by decide +kernel
theorem dX4_firstAbove_1 : decode cX4_firstAbove 1 = .ok (.istore 4, 2) := by decide +kernel
theorem dX4_firstAbove_3 : decode cX4_firstAbove 3 = .ok (.iload 4, 2) := by decide +kernel
theorem dX4_firstAbove_5 : decode cX4_firstAbove 5 = .ok (.aload_n 0, 1) := by decide +kernel
theorem dX4_firstAbove_6 : decode cX4_firstAbove 6 = .ok (.getfield 22, 3) := by decide +kernel
theorem dX4_firstAbove_9 : decode cX4_firstAbove 9 = .ok (.if_icmp .ge 61, 3) := by decide +kernel
theorem dX4_firstAbove_12 : decode cX4_firstAbove 12 = .ok (.iload 4, 2) := by decide +kernel
theorem dX4_firstAbove_14 : decode cX4_firstAbove 14 = .ok (.bipush 40, 2) := by decide +kernel
theorem dX4_firstAbove_16 : decode cX4_firstAbove 16 = .ok (.if_icmp .ge 54, 3) := by decide +kernel
theorem dX4_firstAbove_19 : decode cX4_firstAbove 19 = .ok (.aload_n 0, 1) := by decide +kernel
theorem dX4_firstAbove_20 : decode cX4_firstAbove 20 = .ok (.getfield 18, 3) := by decide +kernel
theorem dX4_firstAbove_23 : decode cX4_firstAbove 23 = .ok (.iload 4, 2) := by decide +kernel
theorem dX4_firstAbove_25 : decode cX4_firstAbove 25 = .ok (.baload, 1) := by decide +kernel
theorem dX4_firstAbove_26 : decode cX4_firstAbove 26 = .ok (.ifCond .eq 38, 3) := by decide +kernel
theorem dX4_firstAbove_29 : decode cX4_firstAbove 29 = .ok (.aload_n 0, 1) := by decide +kernel
theorem dX4_firstAbove_30 : decode cX4_firstAbove 30 = .ok (.getfield 15, 3) := by decide +kernel
theorem dX4_firstAbove_33 : decode cX4_firstAbove 33 = .ok (.iload 4, 2) := by decide +kernel
theorem dX4_firstAbove_35 : decode cX4_firstAbove 35 = .ok (.iaload, 1) := by decide +kernel
theorem dX4_firstAbove_36 : decode cX4_firstAbove 36 = .ok (.iload_n 2, 1) := by decide +kernel
theorem dX4_firstAbove_37 : decode cX4_firstAbove 37 = .ok (.if_icmp .ne 27, 3) := by decide +kernel
theorem dX4_firstAbove_40 : decode cX4_firstAbove 40 = .ok (.aload_n 0, 1) := by decide +kernel
theorem dX4_firstAbove_41 : decode cX4_firstAbove 41 = .ok (.iload_n 1, 1) := by decide +kernel
theorem dX4_firstAbove_42 : decode cX4_firstAbove 42 = .ok (.aload_n 0, 1) := by decide +kernel
theorem dX4_firstAbove_43 : decode cX4_firstAbove 43 = .ok (.getfield 9, 3) := by decide +kernel
theorem dX4_firstAbove_46 : decode cX4_firstAbove 46 = .ok (.iload 4, 2) := by decide +kernel
theorem dX4_firstAbove_48 : decode cX4_firstAbove 48 = .ok (.iaload, 1) := by decide +kernel
theorem dX4_firstAbove_49 : decode cX4_firstAbove 49 = .ok (.invokevirtual 37, 3) := by decide +kernel
theorem dX4_firstAbove_52 : decode cX4_firstAbove 52 = .ok (.iload_n 3, 1) := by decide +kernel
theorem dX4_firstAbove_53 : decode cX4_firstAbove 53 = .ok (.if_icmp .ne 11, 3) := by decide +kernel
theorem dX4_firstAbove_56 : decode cX4_firstAbove 56 = .ok (.aload_n 0, 1) := by decide +kernel
theorem dX4_firstAbove_57 : decode cX4_firstAbove 57 = .ok (.getfield 9, 3) := by decide +kernel
theorem dX4_firstAbove_60 : decode cX4_firstAbove 60 = .ok (.iload 4, 2) := by decide +kernel
theorem dX4_firstAbove_62 : decode cX4_firstAbove 62 = .ok (.iaload, 1) := by decide +kernel
theorem dX4_firstAbove_63 : decode cX4_firstAbove 63 = .ok (.ireturn, 1) := by decide +kernel
theorem dX4_firstAbove_64 : decode cX4_firstAbove 64 = .ok (.iinc 4 1, 3) := by decide +kernel
theorem dX4_firstAbove_67 : decode cX4_firstAbove 67 = .ok (.goto (-64), 3) := by decide +kernel
theorem dX4_firstAbove_70 : decode cX4_firstAbove 70 = .ok (.bipush (-9), 2) := by decide +kernel
theorem dX4_firstAbove_72 : decode cX4_firstAbove 72 = .ok (.ireturn, 1) := by decide +kernel
theorem dX4_isOnRing_0 : decode cX4_isOnRing 0 = .ok (.aload_n 0, 1) := by decide +kernel
theorem dX4_isOnRing_1 : decode cX4_isOnRing 1 = .ok (.iload_n 1, 1) := by decide +kernel
theorem dX4_isOnRing_2 : decode cX4_isOnRing 2 = .ok (.invokestatic 30, 3) := by decide +kernel
theorem dX4_isOnRing_5 : decode cX4_isOnRing 5 = .ok (.invokevirtual 34, 3) := by decide +kernel
theorem dX4_isOnRing_8 : decode cX4_isOnRing 8 = .ok (.istore_n 2, 1) := by decide +kernel
theorem dX4_isOnRing_9 : decode cX4_isOnRing 9 = .ok (.aload_n 0, 1) := by decide +kernel
theorem dX4_isOnRing_10 : decode cX4_isOnRing 10 = .ok (.iload_n 2, 1) := by decide +kernel
theorem dX4_isOnRing_11 : decode cX4_isOnRing 11 = .ok (.iconst (-1), 1) := by decide +kernel
theorem dX4_isOnRing_12 : decode cX4_isOnRing 12 = .ok (.invokevirtual 45, 3) := by decide +kernel
theorem dX4_isOnRing_15 : decode cX4_isOnRing 15 = .ok (.iload_n 1, 1) := by decide +kernel
theorem dX4_isOnRing_16 : decode cX4_isOnRing 16 = .ok (.invokestatic 30, 3) := by decide +kernel
theorem dX4_isOnRing_19 : decode cX4_isOnRing 19 = .ok (.iand, 1) := by decide +kernel
theorem dX4_isOnRing_20 : decode cX4_isOnRing 20 = .ok (.ifCond .eq 7, 3) := by decide +kernel
theorem dX4_isOnRing_23 : decode cX4_isOnRing 23 = .ok (.iconst 1, 1) := by decide +kernel
theorem dX4_isOnRing_24 : decode cX4_isOnRing 24 = .ok (.goto 4, 3) := by decide +kernel
theorem dX4_isOnRing_27 : decode cX4_isOnRing 27 = .ok (.iconst 0, 1) := by decide +kernel
theorem dX4_isOnRing_28 : decode cX4_isOnRing 28 = .ok (.ireturn, 1) := by decide +kernel
theorem dX5_init_0 : decode cX5_init 0 = .ok (.aload_n 0, 1) := by decide +kernel
theorem dX5_init_1 : decode cX5_init 1 = .ok (.invokespecial 3, 3) := by decide +kernel
theorem dX5_init_4 : decode cX5_init 4 = .ok (.aload_n 0, 1) := by decide +kernel
theorem dX5_init_5 : decode cX5_init 5 = .ok (.bipush 24, 2) := by decide +kernel
theorem dX5_init_7 : decode cX5_init 7 = .ok (.newarray .int, 2) := by decide +kernel
theorem dX5_init_9 : decode cX5_init 9 = .ok (.putfield 9, 3) := by decide +kernel
theorem dX5_init_12 : decode cX5_init 12 = .ok (.aload_n 0, 1) := by decide +kernel
theorem dX5_init_13 : decode cX5_init 13 = .ok (.iconst 0, 1) := by decide +kernel
theorem dX5_init_14 : decode cX5_init 14 = .ok (.putfield 15, 3) := by decide +kernel
theorem dX5_init_17 : decode cX5_init 17 = .ok (.aload_n 0, 1) := by decide +kernel
theorem dX5_init_18 : decode cX5_init 18 = .ok (.iconst 0, 1) := by decide +kernel
theorem dX5_init_19 : decode cX5_init 19 = .ok (.putfield 19, 3) := by decide +kernel
theorem dX5_init_22 : decode cX5_init 22 = .ok (.aload_n 0, 1) := by decide +kernel
theorem dX5_init_23 : decode cX5_init 23 = .ok (.iconst 0, 1) := by decide +kernel
theorem dX5_init_24 : decode cX5_init 24 = .ok (.putfield 22, 3) := by decide +kernel
theorem dX5_init_27 : decode cX5_init 27 = .ok (.aload_n 0, 1) := by decide +kernel
theorem dX5_init_28 : decode cX5_init 28 = .ok (.iconst 0, 1) := by decide +kernel
theorem dX5_init_29 : decode cX5_init 29 = .ok (.putfield 25, 3) := by decide +kernel
theorem dX5_init_32 : decode cX5_init 32 = .ok (.return_, 1) := by decide +kernel
theorem dX5_copyFrom_0 : decode cX5_copyFrom 0 = .ok (.aload_n 0, 1) := by decide +kernel
theorem dX5_copyFrom_1 : decode cX5_copyFrom 1 = .ok (.aload_n 1, 1) := by decide +kernel
theorem dX5_copyFrom_2 : decode cX5_copyFrom 2 = .ok (.getfield 15, 3) := by decide +kernel
theorem dX5_copyFrom_5 : decode cX5_copyFrom 5 = .ok (.putfield 15, 3) := by decide +kernel
theorem dX5_copyFrom_8 : decode cX5_copyFrom 8 = .ok (.aload_n 0, 1) := by decide +kernel
theorem dX5_copyFrom_9 : decode cX5_copyFrom 9 = .ok (.aload_n 1, 1) := by decide +kernel
theorem dX5_copyFrom_10 : decode cX5_copyFrom 10 = .ok (.getfield 19, 3) := by decide +kernel
theorem dX5_copyFrom_13 : decode cX5_copyFrom 13 = .ok (.putfield 19, 3) := by decide +kernel
theorem dX5_copyFrom_16 : decode cX5_copyFrom 16 = .ok (.aload_n 0, 1) := by decide +kernel
theorem dX5_copyFrom_17 : decode cX5_copyFrom 17 = .ok (.aload_n 1, 1) := by decide +kernel
theorem dX5_copyFrom_18 : decode cX5_copyFrom 18 = .ok (.getfield 22, 3) := by decide +kernel
theorem dX5_copyFrom_21 : decode cX5_copyFrom 21 = .ok (.putfield 22, 3) := by decide +kernel
theorem dX5_copyFrom_24 : decode cX5_copyFrom 24 = .ok (.aload_n 0, 1) := by decide +kernel
theorem dX5_copyFrom_25 : decode cX5_copyFrom 25 = .ok (.aload_n 1, 1) := by decide +kernel
theorem dX5_copyFrom_26 : decode cX5_copyFrom 26 = .ok (.getfield 25, 3) := by decide +kernel
theorem dX5_copyFrom_29 : decode cX5_copyFrom 29 = .ok (.putfield 25, 3) := by decide +kernel
theorem dX5_copyFrom_32 : decode cX5_copyFrom 32 = .ok (.iconst 0, 1) := by decide +kernel
theorem dX5_copyFrom_33 : decode cX5_copyFrom 33 = .ok (.istore_n 2, 1) := by decide +kernel
theorem dX5_copyFrom_34 : decode cX5_copyFrom 34 = .ok (.iload_n 2, 1) := by decide +kernel
theorem dX5_copyFrom_35 : decode cX5_copyFrom 35 = .ok (.aload_n 0, 1) := by decide +kernel
theorem dX5_copyFrom_36 : decode cX5_copyFrom 36 = .ok (.getfield 15, 3) := by decide +kernel
theorem dX5_copyFrom_39 : decode cX5_copyFrom 39 = .ok (.if_icmp .ge 27, 3) := by decide +kernel
theorem dX5_copyFrom_42 : decode cX5_copyFrom 42 = .ok (.iload_n 2, 1) := by decide +kernel
theorem dX5_copyFrom_43 : decode cX5_copyFrom 43 = .ok (.bipush 24, 2) := by decide +kernel
theorem dX5_copyFrom_45 : decode cX5_copyFrom 45 = .ok (.if_icmp .ge 21, 3) := by decide +kernel
theorem dX5_copyFrom_48 : decode cX5_copyFrom 48 = .ok (.aload_n 0, 1) := by decide +kernel
theorem dX5_copyFrom_49 : decode cX5_copyFrom 49 = .ok (.getfield 9, 3) := by decide +kernel
theorem dX5_copyFrom_52 : decode cX5_copyFrom 52 = .ok (.iload_n 2, 1) := by decide +kernel
theorem dX5_copyFrom_53 : decode cX5_copyFrom 53 = .ok (.aload_n 1, 1) := by decide +kernel
theorem dX5_copyFrom_54 : decode cX5_copyFrom 54 = .ok (.getfield 9, 3) := by decide +kernel
theorem dX5_copyFrom_57 : decode cX5_copyFrom 57 = .ok (.iload_n 2, 1) := by decide +kernel
theorem dX5_copyFrom_58 : decode cX5_copyFrom 58 = .ok (.iaload, 1) := by decide +kernel
theorem dX5_copyFrom_59 : decode cX5_copyFrom 59 = .ok (.iastore, 1) := by decide +kernel
theorem dX5_copyFrom_60 : decode cX5_copyFrom 60 = .ok (.iinc 2 1, 3) := by decide +kernel
theorem dX5_copyFrom_63 : decode cX5_copyFrom 63 = .ok (.goto (-29), 3) := by decide +kernel
theorem dX5_copyFrom_66 : decode cX5_copyFrom 66 = .ok (.return_, 1) := by decide +kernel
theorem dX5_start_0 : decode cX5_start 0 = .ok (.aload_n 0, 1) := by decide +kernel
theorem dX5_start_1 : decode cX5_start 1 = .ok (.invokevirtual 29, 3) := by decide +kernel
theorem dX5_start_4 : decode cX5_start 4 = .ok (.aload_n 0, 1) := by decide +kernel
theorem dX5_start_5 : decode cX5_start 5 = .ok (.iconst 1, 1) := by decide +kernel
theorem dX5_start_6 : decode cX5_start 6 = .ok (.putfield 25, 3) := by decide +kernel
theorem dX5_start_9 : decode cX5_start 9 = .ok (.aload_n 0, 1) := by decide +kernel
theorem dX5_start_10 : decode cX5_start 10 = .ok (.iload_n 1, 1) := by decide +kernel
theorem dX5_start_11 : decode cX5_start 11 = .ok (.putfield 19, 3) := by decide +kernel
theorem dX5_start_14 : decode cX5_start 14 = .ok (.return_, 1) := by decide +kernel
theorem dX5_stop_0 : decode cX5_stop 0 = .ok (.aload_n 0, 1) := by decide +kernel
theorem dX5_stop_1 : decode cX5_stop 1 = .ok (.iconst 0, 1) := by decide +kernel
theorem dX5_stop_2 : decode cX5_stop 2 = .ok (.putfield 25, 3) := by decide +kernel
theorem dX5_stop_5 : decode cX5_stop 5 = .ok (.aload_n 0, 1) := by decide +kernel
theorem dX5_stop_6 : decode cX5_stop 6 = .ok (.iconst 0, 1) := by decide +kernel
theorem dX5_stop_7 : decode cX5_stop 7 = .ok (.putfield 15, 3) := by decide +kernel
theorem dX5_stop_10 : decode cX5_stop 10 = .ok (.aload_n 0, 1) := by decide +kernel
theorem dX5_stop_11 : decode cX5_stop 11 = .ok (.iconst 0, 1) := by decide +kernel
theorem dX5_stop_12 : decode cX5_stop 12 = .ok (.putfield 19, 3) := by decide +kernel
theorem dX5_stop_15 : decode cX5_stop 15 = .ok (.aload_n 0, 1) := by decide +kernel
theorem dX5_stop_16 : decode cX5_stop 16 = .ok (.iconst 0, 1) := by decide +kernel
theorem dX5_stop_17 : decode cX5_stop 17 = .ok (.putfield 22, 3) := by decide +kernel
theorem dX5_stop_20 : decode cX5_stop 20 = .ok (.return_, 1) := by decide +kernel
theorem dX5_isGoing_0 : decode cX5_isGoing 0 = .ok (.aload_n 0, 1) := by decide +kernel
theorem dX5_isGoing_1 : decode cX5_isGoing 1 = .ok (.getfield 25, 3) := by decide +kernel
theorem dX5_isGoing_4 : decode cX5_isGoing 4 = .ok (.ireturn, 1) := by decide +kernel
theorem dX5_whites_0 : decode cX5_whites 0 = .ok (.aload_n 0, 1) := by decide +kernel
theorem dX5_whites_1 : decode cX5_whites 1 = .ok (.getfield 19, 3) := by decide +kernel
theorem dX5_whites_4 : decode cX5_whites 4 = .ok (.ireturn, 1) := by decide +kernel
theorem dX5_graysInRow_0 : decode cX5_graysInRow 0 = .ok (.aload_n 0, 1) := by decide +kernel
theorem dX5_graysInRow_1 : decode cX5_graysInRow 1 = .ok (.getfield 15, 3) := by decide +kernel
theorem dX5_graysInRow_4 : decode cX5_graysInRow 4 = .ok (.ireturn, 1) := by decide +kernel
theorem dX5_colourOf_0 : decode cX5_colourOf 0 = .ok (.aload_n 0, 1) := by decide +kernel
theorem dX5_colourOf_1 : decode cX5_colourOf 1 = .ok (.getfield 25, 3) := by decide +kernel
theorem dX5_colourOf_4 : decode cX5_colourOf 4 = .ok (.ifCond .ne 6, 3) := by decide +kernel
theorem dX5_colourOf_7 : decode cX5_colourOf 7 = .ok (.bipush (-9), 2) := by decide +kernel
theorem dX5_colourOf_9 : decode cX5_colourOf 9 = .ok (.ireturn, 1) := by decide +kernel
theorem dX5_colourOf_10 : decode cX5_colourOf 10 = .ok (.aload_n 0, 1) := by decide +kernel
theorem dX5_colourOf_11 : decode cX5_colourOf 11 = .ok (.getfield 19, 3) := by decide +kernel
theorem dX5_colourOf_14 : decode cX5_colourOf 14 = .ok (.iload_n 1, 1) := by decide +kernel
theorem dX5_colourOf_15 : decode cX5_colourOf 15 = .ok (.invokestatic 32, 3) := by decide +kernel
theorem dX5_colourOf_18 : decode cX5_colourOf 18 = .ok (.iand, 1) := by decide +kernel
theorem dX5_colourOf_19 : decode cX5_colourOf 19 = .ok (.ifCond .eq 5, 3) := by decide +kernel
theorem dX5_colourOf_22 : decode cX5_colourOf 22 = .ok (.iconst 0, 1) := by decide +kernel
theorem dX5_colourOf_23 : decode cX5_colourOf 23 = .ok (.ireturn, 1) := by decide +kernel
theorem dX5_colourOf_24 : decode cX5_colourOf 24 = .ok (.aload_n 0, 1) := by decide +kernel
theorem dX5_colourOf_25 : decode cX5_colourOf 25 = .ok (.getfield 22, 3) := by decide +kernel
theorem dX5_colourOf_28 : decode cX5_colourOf 28 = .ok (.iload_n 1, 1) := by decide +kernel
theorem dX5_colourOf_29 : decode cX5_colourOf 29 = .ok (.invokestatic 32, 3) := by decide +kernel
theorem dX5_colourOf_32 : decode cX5_colourOf 32 = .ok (.iand, 1) := by decide +kernel
theorem dX5_colourOf_33 : decode cX5_colourOf 33 = .ok (.ifCond .eq 7, 3) := by decide +kernel
theorem dX5_colourOf_36 : decode cX5_colourOf 36 = .ok (.iconst 2, 1) := by decide +kernel
theorem dX5_colourOf_37 : decode cX5_colourOf 37 = .ok (.goto 4, 3) := by decide +kernel
theorem dX5_colourOf_40 : decode cX5_colourOf 40 = .ok (.iconst 1, 1) := by decide +kernel
theorem dX5_colourOf_41 : decode cX5_colourOf 41 = .ok (.ireturn, 1) := by decide +kernel
theorem dX5_passesBelow_0 : decode cX5_passesBelow 0 = .ok (.bipush 15, 2) := by decide +kernel
theorem dX5_passesBelow_2 : decode cX5_passesBelow 2 = .ok (.aload_n 0, 1) := by decide +kernel
theorem dX5_passesBelow_3 : decode cX5_passesBelow 3 = .ok (.getfield 22, 3) := by decide +kernel
theorem dX5_passesBelow_6 : decode cX5_passesBelow 6 = .ok (.ior, 1) := by decide +kernel
theorem dX5_passesBelow_7 : decode cX5_passesBelow 7 = .ok (.iload_n 1, 1) := by decide +kernel
theorem dX5_passesBelow_8 : decode cX5_passesBelow 8 = .ok (.invokestatic 32, 3) := by decide +kernel
theorem dX5_passesBelow_11 : decode cX5_passesBelow 11 = .ok (.iand, 1) := by decide +kernel
theorem dX5_passesBelow_12 : decode cX5_passesBelow 12 = .ok (.ifCond .eq 7, 3) := by decide +kernel
theorem dX5_passesBelow_15 : decode cX5_passesBelow 15 = .ok (.iconst 1, 1) := by decide +kernel
theorem dX5_passesBelow_16 : decode cX5_passesBelow 16 = .ok (.goto 4, 3) := by decide +kernel
theorem dX5_passesBelow_19 : decode cX5_passesBelow 19 = .ok (.iconst 0, 1) := by decide +kernel
theorem dX5_passesBelow_20 : decode cX5_passesBelow 20 = .ok (.ireturn, 1) := by decide +kernel
theorem dX5_addBlack_0 : decode cX5_addBlack 0 = .ok (.aload_n 0, 1) := by decide +kernel
theorem dX5_addBlack_1 : decode cX5_addBlack 1 = .ok (.getfield 25, 3) := by decide +kernel
theorem dX5_addBlack_4 : decode cX5_addBlack 4 = .ok (.ifCond .eq 16, 3) := by decide +kernel
theorem dX5_addBlack_7 : decode cX5_addBlack 7 = .ok (.aload_n 0, 1) := by decide +kernel
theorem dX5_addBlack_8 : decode cX5_addBlack 8 = .ok (.dup, 1) := by decide +kernel
theorem dX5_addBlack_9 : decode cX5_addBlack 9 = .ok (.getfield 22, 3) := by decide +kernel
theorem dX5_addBlack_12 : decode cX5_addBlack 12 = .ok (.iload_n 1, 1) := by decide +kernel
theorem dX5_addBlack_13 : decode cX5_addBlack 13 = .ok (.invokestatic 32, 3) := by decide +kernel
theorem dX5_addBlack_16 : decode cX5_addBlack 16 = .ok (.ior, 1) := by decide +kernel
theorem dX5_addBlack_17 : decode cX5_addBlack 17 = .ok (.putfield 22, 3) := by decide +kernel
theorem dX5_addBlack_20 : decode cX5_addBlack 20 = .ok (.return_, 1) := by decide +kernel
theorem dX5_shade_0 : decode cX5_shade 0 = .ok (.aload_n 0, 1) := by decide +kernel
theorem dX5_shade_1 : decode cX5_shade 1 = .ok (.getfield 19, 3) := by decide +kernel
theorem dX5_shade_4 : decode cX5_shade 4 = .ok (.iload_n 1, 1) := by decide +kernel
theorem dX5_shade_5 : decode cX5_shade 5 = .ok (.invokestatic 32, 3) := by decide +kernel
theorem dX5_shade_8 : decode cX5_shade 8 = .ok (.iand, 1) := by decide +kernel
theorem dX5_shade_9 : decode cX5_shade 9 = .ok (.ifCond .eq 54, 3) := by decide +kernel
theorem dX5_shade_12 : decode cX5_shade 12 = .ok (.aload_n 0, 1) := by decide +kernel
theorem dX5_shade_13 : decode cX5_shade 13 = .ok (.getfield 15, 3) := by decide +kernel
theorem dX5_shade_16 : decode cX5_shade 16 = .ok (.ifCond .lt 47, 3) := by decide +kernel
theorem dX5_shade_19 : decode cX5_shade 19 = .ok (.aload_n 0, 1) := by decide +kernel
theorem dX5_shade_20 : decode cX5_shade 20 = .ok (.getfield 15, 3) := by decide +kernel
theorem dX5_shade_23 : decode cX5_shade 23 = .ok (.bipush 24, 2) := by decide +kernel
theorem dX5_shade_25 : decode cX5_shade 25 = .ok (.if_icmp .ge 38, 3) := by decide +kernel
theorem dX5_shade_28 : decode cX5_shade 28 = .ok (.aload_n 0, 1) := by decide +kernel
theorem dX5_shade_29 : decode cX5_shade 29 = .ok (.dup, 1) := by decide +kernel
theorem dX5_shade_30 : decode cX5_shade 30 = .ok (.getfield 19, 3) := by decide +kernel
theorem dX5_shade_33 : decode cX5_shade 33 = .ok (.iload_n 1, 1) := by decide +kernel
theorem dX5_shade_34 : decode cX5_shade 34 = .ok (.invokestatic 32, 3) := by decide +kernel
theorem dX5_shade_37 : decode cX5_shade 37 = .ok (.iconst (-1), 1) := by decide +kernel
theorem dX5_shade_38 : decode cX5_shade 38 = .ok (.ixor, 1) := by decide +kernel
theorem dX5_shade_39 : decode cX5_shade 39 = .ok (.iand, 1) := by decide +kernel
theorem dX5_shade_40 : decode cX5_shade 40 = .ok (.putfield 19, 3) := by decide +kernel
theorem dX5_shade_43 : decode cX5_shade 43 = .ok (.aload_n 0, 1) := by decide +kernel
theorem dX5_shade_44 : decode cX5_shade 44 = .ok (.getfield 9, 3) := by decide +kernel
theorem dX5_shade_47 : decode cX5_shade 47 = .ok (.aload_n 0, 1) := by decide +kernel
theorem dX5_shade_48 : decode cX5_shade 48 = .ok (.getfield 15, 3) := by decide +kernel
theorem dX5_shade_51 : decode cX5_shade 51 = .ok (.iload_n 1, 1) := by decide +kernel
theorem dX5_shade_52 : decode cX5_shade 52 = .ok (.iastore, 1) := by decide +kernel
theorem dX5_shade_53 : decode cX5_shade 53 = .ok (.aload_n 0, 1) := by decide +kernel
theorem dX5_shade_54 : decode cX5_shade 54 = .ok (.dup, 1) := by decide +kernel
theorem dX5_shade_55 : decode cX5_shade 55 = .ok (.getfield 15, 3) := by decide +kernel
theorem dX5_shade_58 : decode cX5_shade 58 = .ok (.iconst 1, 1) := by decide +kernel
theorem dX5_shade_59 : decode cX5_shade 59 = .ok (.iadd, 1) := by decide +kernel
theorem dX5_shade_60 : decode cX5_shade 60 = .ok (.putfield 15, 3) := by decide +kernel
theorem dX5_shade_63 : decode cX5_shade 63 = .ok (.return_, 1) := by decide +kernel
theorem dX5_blackenFirst_0 : decode cX5_blackenFirst 0 = .ok (.aload_n 0, 1) := by decide +kernel
theorem dX5_blackenFirst_1 : decode cX5_blackenFirst 1 = .ok (.getfield 15, 3) := by decide +kernel
theorem dX5_blackenFirst_4 : decode cX5_blackenFirst 4 = .ok (.ifCond .gt 6, 3) := by decide +kernel
theorem dX5_blackenFirst_7 : decode cX5_blackenFirst 7 = .ok (.bipush (-9), 2) := by decide +kernel
theorem dX5_blackenFirst_9 : decode cX5_blackenFirst 9 = .ok (.ireturn, 1) := by decide +kernel
theorem dX5_blackenFirst_10 : decode cX5_blackenFirst 10 = .ok (.aload_n 0, 1) := by decide +kernel
theorem dX5_blackenFirst_11 : decode cX5_blackenFirst 11 = .ok (.getfield 9, 3) := by decide +kernel
theorem dX5_blackenFirst_14 : decode cX5_blackenFirst 14 = .ok (.iconst 0, 1) := by decide +kernel
theorem dX5_blackenFirst_15 : decode cX5_blackenFirst 15 = .ok (.iaload, 1) := by decide +kernel
theorem dX5_blackenFirst_16 : decode cX5_blackenFirst 16 = .ok (.istore_n 1, 1) := by decide +kernel
theorem dX5_blackenFirst_17 : decode cX5_blackenFirst 17 = .ok (.iconst 1, 1) := by decide +kernel
theorem dX5_blackenFirst_18 : decode cX5_blackenFirst 18 = .ok (.istore_n 2, 1) := by decide +kernel
theorem dX5_blackenFirst_19 : decode cX5_blackenFirst 19 = .ok (.iload_n 2, 1) := by decide +kernel
theorem dX5_blackenFirst_20 : decode cX5_blackenFirst 20 = .ok (.aload_n 0, 1) := by decide +kernel
theorem dX5_blackenFirst_21 : decode cX5_blackenFirst 21 = .ok (.getfield 15, 3) := by decide +kernel
theorem dX5_blackenFirst_24 : decode cX5_blackenFirst 24 = .ok (.if_icmp .ge 29, 3) := by decide +kernel
theorem dX5_blackenFirst_27 : decode cX5_blackenFirst 27 = .ok (.iload_n 2, 1) := by decide +kernel
theorem dX5_blackenFirst_28 : decode cX5_blackenFirst 28 = .ok (.bipush 24, 2) := by decide +kernel
theorem dX5_blackenFirst_30 : decode cX5_blackenFirst 30 = .ok (.if_icmp .ge 23, 3) := by decide +kernel
theorem dX5_blackenFirst_33 : decode cX5_blackenFirst 33 = .ok (.aload_n 0, 1) := by decide +kernel
theorem dX5_blackenFirst_34 : decode cX5_blackenFirst 34 = .ok (.getfield 9, 3) := by decide +kernel
theorem dX5_blackenFirst_37 : decode cX5_blackenFirst 37 = .ok (.iload_n 2, 1) := by decide +kernel
theorem dX5_blackenFirst_38 : decode cX5_blackenFirst 38 = .ok (.iconst 1, 1) := by decide +kernel
theorem dX5_blackenFirst_39 : decode cX5_blackenFirst 39 = .ok (.isub, 1) := by decide +kernel
theorem dX5_blackenFirst_40 : decode cX5_blackenFirst 40 = .ok (.aload_n 0, 1) := by decide +kernel
theorem dX5_blackenFirst_41 : decode cX5_blackenFirst 41 = .ok (.getfield 9, 3) := by decide +kernel
theorem dX5_blackenFirst_44 : decode cX5_blackenFirst 44 = .ok (.iload_n 2, 1) := by decide +kernel
theorem dX5_blackenFirst_45 : decode cX5_blackenFirst 45 = .ok (.iaload, 1) := by decide +kernel
theorem dX5_blackenFirst_46 : decode cX5_blackenFirst 46 = .ok (.iastore, 1) := by decide +kernel
theorem dX5_blackenFirst_47 : decode cX5_blackenFirst 47 = .ok (.iinc 2 1, 3) := by decide +kernel
theorem dX5_blackenFirst_50 : decode cX5_blackenFirst 50 = .ok (.goto (-31), 3) := by decide +kernel
theorem dX5_blackenFirst_53 : decode cX5_blackenFirst 53 = .ok (.aload_n 0, 1) := by decide +kernel
theorem dX5_blackenFirst_54 : decode cX5_blackenFirst 54 = .ok (.dup, 1) := by decide +kernel
theorem dX5_blackenFirst_55 : decode cX5_blackenFirst 55 = .ok (.getfield 15, 3) := by decide +kernel
theorem dX5_blackenFirst_58 : decode cX5_blackenFirst 58 = .ok (.iconst 1, 1) := by decide +kernel
theorem dX5_blackenFirst_59 : decode cX5_blackenFirst 59 = .ok (.isub, 1) := by decide +kernel
theorem dX5_blackenFirst_60 : decode cX5_blackenFirst 60 = .ok (.putfield 15, 3) := by decide +kernel
theorem dX5_blackenFirst_63 : decode cX5_blackenFirst 63 = .ok (.aload_n 0, 1) := by decide +kernel
theorem dX5_blackenFirst_64 : decode cX5_blackenFirst 64 = .ok (.dup, 1) := by decide +kernel
theorem dX5_blackenFirst_65 : decode cX5_blackenFirst 65 = .ok (.getfield 22, 3) := by decide +kernel
theorem dX5_blackenFirst_68 : decode cX5_blackenFirst 68 = .ok (.iload_n 1, 1) := by decide +kernel
theorem dX5_blackenFirst_69 : decode cX5_blackenFirst 69 = .ok (.invokestatic 32, 3) := by decide +kernel
theorem dX5_blackenFirst_72 : decode cX5_blackenFirst 72 = .ok (.ior, 1) := by decide +kernel
theorem dX5_blackenFirst_73 : decode cX5_blackenFirst 73 = .ok (.putfield 22, 3) := by decide +kernel
theorem dX5_blackenFirst_76 : decode cX5_blackenFirst 76 = .ok (.iload_n 1, 1) := by decide +kernel
theorem dX5_blackenFirst_77 : decode cX5_blackenFirst 77 = .ok (.ireturn, 1) := by decide +kernel
theorem dX6_init_0 : decode cX6_init 0 = .ok (.aload_n 0, 1) := by decide +kernel
theorem dX6_init_1 : decode cX6_init 1 = .ok (.invokespecial 3, 3) := by decide +kernel
theorem dX6_init_4 : decode cX6_init 4 = .ok (.aload_n 0, 1) := by decide +kernel
theorem dX6_init_5 : decode cX6_init 5 = .ok (.bipush 120, 2) := by decide +kernel
theorem dX6_init_7 : decode cX6_init 7 = .ok (.newarray .int, 2) := by decide +kernel
theorem dX6_init_9 : decode cX6_init 9 = .ok (.putfield 9, 3) := by decide +kernel
theorem dX6_init_12 : decode cX6_init 12 = .ok (.aload_n 0, 1) := by decide +kernel
theorem dX6_init_13 : decode cX6_init 13 = .ok (.iconst 0, 1) := by decide +kernel
theorem dX6_init_14 : decode cX6_init 14 = .ok (.putfield 15, 3) := by decide +kernel
theorem dX6_init_17 : decode cX6_init 17 = .ok (.return_, 1) := by decide +kernel
theorem dX6_isFull_0 : decode cX6_isFull 0 = .ok (.aload_n 0, 1) := by decide +kernel
theorem dX6_isFull_1 : decode cX6_isFull 1 = .ok (.getfield 15, 3) := by decide +kernel
theorem dX6_isFull_4 : decode cX6_isFull 4 = .ok (.bipush 120, 2) := by decide +kernel
theorem dX6_isFull_6 : decode cX6_isFull 6 = .ok (.if_icmp .lt 7, 3) := by decide +kernel
theorem dX6_isFull_9 : decode cX6_isFull 9 = .ok (.iconst 1, 1) := by decide +kernel
theorem dX6_isFull_10 : decode cX6_isFull 10 = .ok (.goto 4, 3) := by decide +kernel
theorem dX6_isFull_13 : decode cX6_isFull 13 = .ok (.iconst 0, 1) := by decide +kernel
theorem dX6_isFull_14 : decode cX6_isFull 14 = .ok (.ireturn, 1) := by decide +kernel
theorem dX6_size_0 : decode cX6_size 0 = .ok (.aload_n 0, 1) := by decide +kernel
theorem dX6_size_1 : decode cX6_size 1 = .ok (.getfield 15, 3) := by decide +kernel
theorem dX6_size_4 : decode cX6_size 4 = .ok (.ireturn, 1) := by decide +kernel
theorem dX6_add_0 : decode cX6_add 0 = .ok (.aload_n 0, 1) := by decide +kernel
theorem dX6_add_1 : decode cX6_add 1 = .ok (.getfield 15, 3) := by decide +kernel
theorem dX6_add_4 : decode cX6_add 4 = .ok (.ifCond .lt 32, 3) := by decide +kernel
theorem dX6_add_7 : decode cX6_add 7 = .ok (.aload_n 0, 1) := by decide +kernel
theorem dX6_add_8 : decode cX6_add 8 = .ok (.getfield 15, 3) := by decide +kernel
theorem dX6_add_11 : decode cX6_add 11 = .ok (.bipush 120, 2) := by decide +kernel
theorem dX6_add_13 : decode cX6_add 13 = .ok (.if_icmp .ge 23, 3) := by decide +kernel
theorem dX6_add_16 : decode cX6_add 16 = .ok (.aload_n 0, 1) := by decide +kernel
theorem dX6_add_17 : decode cX6_add 17 = .ok (.getfield 9, 3) := by decide +kernel
theorem dX6_add_20 : decode cX6_add 20 = .ok (.aload_n 0, 1) := by decide +kernel
theorem dX6_add_21 : decode cX6_add 21 = .ok (.getfield 15, 3) := by decide +kernel
theorem dX6_add_24 : decode cX6_add 24 = .ok (.iload_n 1, 1) := by decide +kernel
theorem dX6_add_25 : decode cX6_add 25 = .ok (.iastore, 1) := by decide +kernel
theorem dX6_add_26 : decode cX6_add 26 = .ok (.aload_n 0, 1) := by decide +kernel
theorem dX6_add_27 : decode cX6_add 27 = .ok (.dup, 1) := by decide +kernel
theorem dX6_add_28 : decode cX6_add 28 = .ok (.getfield 15, 3) := by decide +kernel
theorem dX6_add_31 : decode cX6_add 31 = .ok (.iconst 1, 1) := by decide +kernel
theorem dX6_add_32 : decode cX6_add 32 = .ok (.iadd, 1) := by decide +kernel
theorem dX6_add_33 : decode cX6_add 33 = .ok (.putfield 15, 3) := by decide +kernel
theorem dX6_add_36 : decode cX6_add 36 = .ok (.aload_n 0, 1) := by decide +kernel
theorem dX6_add_37 : decode cX6_add 37 = .ok (.getfield 15, 3) := by decide +kernel
theorem dX6_add_40 : decode cX6_add 40 = .ok (.ireturn, 1) := by decide +kernel
theorem dX6_empty_0 : decode cX6_empty 0 = .ok (.aload_n 0, 1) := by decide +kernel
theorem dX6_empty_1 : decode cX6_empty 1 = .ok (.getfield 15, 3) := by decide +kernel
theorem dX6_empty_4 : decode cX6_empty 4 = .ok (.istore_n 1, 1) := by decide +kernel
theorem dX6_empty_5 : decode cX6_empty 5 = .ok (.aload_n 0, 1) := by decide +kernel
theorem dX6_empty_6 : decode cX6_empty 6 = .ok (.iconst 0, 1) := by decide +kernel
theorem dX6_empty_7 : decode cX6_empty 7 = .ok (.putfield 15, 3) := by decide +kernel
theorem dX6_empty_10 : decode cX6_empty 10 = .ok (.iload_n 1, 1) := by decide +kernel
theorem dX6_empty_11 : decode cX6_empty 11 = .ok (.ireturn, 1) := by decide +kernel
theorem dX6_firstError_0 : decode cX6_firstError 0 = .ok (.iconst 0, 1) := by decide +kernel
theorem dX6_firstError_1 : decode cX6_firstError 1 = .ok (.istore_n 1, 1) := by decide +kernel
theorem dX6_firstError_2 : decode cX6_firstError 2 = .ok (.iconst 0, 1) := by decide +kernel
theorem dX6_firstError_3 : decode cX6_firstError 3 = .ok (.istore_n 2, 1) := by decide +kernel
theorem dX6_firstError_4 : decode cX6_firstError 4 = .ok (.iload_n 2, 1) := by decide +kernel
theorem dX6_firstError_5 : decode cX6_firstError 5 = .ok (.aload_n 0, 1) := by decide +kernel
theorem dX6_firstError_6 : decode cX6_firstError 6 = .ok (.getfield 15, 3) := by decide +kernel
theorem dX6_firstError_9 : decode cX6_firstError 9 = .ok (.if_icmp .ge 33, 3) := by decide +kernel
theorem dX6_firstError_12 : decode cX6_firstError 12 = .ok (.iload_n 2, 1) := by decide +kernel
theorem dX6_firstError_13 : decode cX6_firstError 13 = .ok (.bipush 120, 2) := by decide +kernel
theorem dX6_firstError_15 : decode cX6_firstError 15 = .ok (.if_icmp .ge 27, 3) := by decide +kernel
theorem dX6_firstError_18 : decode cX6_firstError 18 = .ok (.iload_n 1, 1) := by decide +kernel
theorem dX6_firstError_19 : decode cX6_firstError 19 = .ok (.aload_n 0, 1) := by decide +kernel
theorem dX6_firstError_20 : decode cX6_firstError 20 = .ok (.getfield 9, 3) := by decide +kernel
theorem dX6_firstError_23 : decode cX6_firstError 23 = .ok (.iload_n 2, 1) := by decide +kernel
theorem dX6_firstError_24 : decode cX6_firstError 24 = .ok (.iaload, 1) := by decide +kernel
theorem dX6_firstError_25 : decode cX6_firstError 25 = .ok (.invokestatic 19, 3) := by decide +kernel
theorem dX6_firstError_28 : decode cX6_firstError 28 = .ok (.istore_n 1, 1) := by decide +kernel
theorem dX6_firstError_29 : decode cX6_firstError 29 = .ok (.iload_n 1, 1) := by decide +kernel
theorem dX6_firstError_30 : decode cX6_firstError 30 = .ok (.iconst (-1), 1) := by decide +kernel
theorem dX6_firstError_31 : decode cX6_firstError 31 = .ok (.if_icmp .ne 5, 3) := by decide +kernel
theorem dX6_firstError_34 : decode cX6_firstError 34 = .ok (.iload_n 2, 1) := by decide +kernel
theorem dX6_firstError_35 : decode cX6_firstError 35 = .ok (.ireturn, 1) := by decide +kernel
theorem dX6_firstError_36 : decode cX6_firstError 36 = .ok (.iinc 2 1, 3) := by decide +kernel
theorem dX6_firstError_39 : decode cX6_firstError 39 = .ok (.goto (-35), 3) := by decide +kernel
theorem dX6_firstError_42 : decode cX6_firstError 42 = .ok (.iload_n 1, 1) := by decide +kernel
theorem dX6_firstError_43 : decode cX6_firstError 43 = .ok (.iconst 1, 1) := by decide +kernel
theorem dX6_firstError_44 : decode cX6_firstError 44 = .ok (.if_icmp .ne 8, 3) := by decide +kernel
theorem dX6_firstError_47 : decode cX6_firstError 47 = .ok (.bipush (-9), 2) := by decide +kernel
theorem dX6_firstError_49 : decode cX6_firstError 49 = .ok (.goto 7, 3) := by decide +kernel
theorem dX6_firstError_52 : decode cX6_firstError 52 = .ok (.aload_n 0, 1) := by decide +kernel
theorem dX6_firstError_53 : decode cX6_firstError 53 = .ok (.getfield 15, 3) := by decide +kernel
theorem dX6_firstError_56 : decode cX6_firstError 56 = .ok (.ireturn, 1) := by decide +kernel
theorem dX6_placeAfter_0 : decode cX6_placeAfter 0 = .ok (.iload_n 0, 1) := by decide +kernel
theorem dX6_placeAfter_1 : decode cX6_placeAfter 1 = .ok (.tableswitch 151 0 9 #[55, 67, 72, 82, 100, 111, 100, 122, 131, 141], 55) := by decide +kernel
theorem dX6_placeAfter_56 : decode cX6_placeAfter 56 = .ok (.iload_n 1, 1) := by decide +kernel
theorem dX6_placeAfter_57 : decode cX6_placeAfter 57 = .ok (.bipush 83, 2) := by decide +kernel
theorem dX6_placeAfter_59 : decode cX6_placeAfter 59 = .ok (.if_icmp .ne 7, 3) := by decide +kernel
theorem dX6_placeAfter_62 : decode cX6_placeAfter 62 = .ok (.iconst 1, 1) := by decide +kernel
theorem dX6_placeAfter_63 : decode cX6_placeAfter 63 = .ok (.goto 4, 3) := by decide +kernel
theorem dX6_placeAfter_66 : decode cX6_placeAfter 66 = .ok (.iconst (-1), 1) := by decide +kernel
theorem dX6_placeAfter_67 : decode cX6_placeAfter 67 = .ok (.ireturn, 1) := by decide +kernel
theorem dX6_placeAfter_68 : decode cX6_placeAfter 68 = .ok (.iload_n 1, 1) := by decide +kernel
theorem dX6_placeAfter_69 : decode cX6_placeAfter 69 = .ok (.invokestatic 23, 3) := by decide +kernel
theorem dX6_placeAfter_72 : decode cX6_placeAfter 72 = .ok (.ireturn, 1) := by decide +kernel
theorem dX6_placeAfter_73 : decode cX6_placeAfter 73 = .ok (.bipush 49, 2) := by decide +kernel
theorem dX6_placeAfter_75 : decode cX6_placeAfter 75 = .ok (.iload_n 1, 1) := by decide +kernel
theorem dX6_placeAfter_76 : decode cX6_placeAfter 76 = .ok (.bipush 57, 2) := by decide +kernel
theorem dX6_placeAfter_78 : decode cX6_placeAfter 78 = .ok (.iconst 1, 1) := by decide +kernel
theorem dX6_placeAfter_79 : decode cX6_placeAfter 79 = .ok (.invokestatic 27, 3) := by decide +kernel
theorem dX6_placeAfter_82 : decode cX6_placeAfter 82 = .ok (.ireturn, 1) := by decide +kernel
theorem dX6_placeAfter_83 : decode cX6_placeAfter 83 = .ok (.iload_n 1, 1) := by decide +kernel
theorem dX6_placeAfter_84 : decode cX6_placeAfter 84 = .ok (.bipush 104, 2) := by decide +kernel
theorem dX6_placeAfter_86 : decode cX6_placeAfter 86 = .ok (.if_icmp .ne 7, 3) := by decide +kernel
theorem dX6_placeAfter_89 : decode cX6_placeAfter 89 = .ok (.iconst 4, 1) := by decide +kernel
theorem dX6_placeAfter_90 : decode cX6_placeAfter 90 = .ok (.goto 10, 3) := by decide +kernel
theorem dX6_placeAfter_93 : decode cX6_placeAfter 93 = .ok (.iload_n 1, 1) := by decide +kernel
theorem dX6_placeAfter_94 : decode cX6_placeAfter 94 = .ok (.iconst 5, 1) := by decide +kernel
theorem dX6_placeAfter_95 : decode cX6_placeAfter 95 = .ok (.bipush 6, 2) := by decide +kernel
theorem dX6_placeAfter_97 : decode cX6_placeAfter 97 = .ok (.invokestatic 31, 3) := by decide +kernel
theorem dX6_placeAfter_100 : decode cX6_placeAfter 100 = .ok (.ireturn, 1) := by decide +kernel
theorem dX6_placeAfter_101 : decode cX6_placeAfter 101 = .ok (.bipush 48, 2) := by decide +kernel
theorem dX6_placeAfter_103 : decode cX6_placeAfter 103 = .ok (.iload_n 1, 1) := by decide +kernel
theorem dX6_placeAfter_104 : decode cX6_placeAfter 104 = .ok (.bipush 51, 2) := by decide +kernel
theorem dX6_placeAfter_106 : decode cX6_placeAfter 106 = .ok (.bipush 7, 2) := by decide +kernel
theorem dX6_placeAfter_108 : decode cX6_placeAfter 108 = .ok (.invokestatic 27, 3) := by decide +kernel
theorem dX6_placeAfter_111 : decode cX6_placeAfter 111 = .ok (.ireturn, 1) := by decide +kernel
theorem dX6_placeAfter_112 : decode cX6_placeAfter 112 = .ok (.bipush 48, 2) := by decide +kernel
theorem dX6_placeAfter_114 : decode cX6_placeAfter 114 = .ok (.iload_n 1, 1) := by decide +kernel
theorem dX6_placeAfter_115 : decode cX6_placeAfter 115 = .ok (.bipush 57, 2) := by decide +kernel
theorem dX6_placeAfter_117 : decode cX6_placeAfter 117 = .ok (.bipush 7, 2) := by decide +kernel
theorem dX6_placeAfter_119 : decode cX6_placeAfter 119 = .ok (.invokestatic 27, 3) := by decide +kernel
theorem dX6_placeAfter_122 : decode cX6_placeAfter 122 = .ok (.ireturn, 1) := by decide +kernel
theorem dX6_placeAfter_123 : decode cX6_placeAfter 123 = .ok (.iload_n 1, 1) := by decide +kernel
theorem dX6_placeAfter_124 : decode cX6_placeAfter 124 = .ok (.bipush 8, 2) := by decide +kernel
theorem dX6_placeAfter_126 : decode cX6_placeAfter 126 = .ok (.bipush 9, 2) := by decide +kernel
theorem dX6_placeAfter_128 : decode cX6_placeAfter 128 = .ok (.invokestatic 31, 3) := by decide +kernel
theorem dX6_placeAfter_131 : decode cX6_placeAfter 131 = .ok (.ireturn, 1) := by decide +kernel
theorem dX6_placeAfter_132 : decode cX6_placeAfter 132 = .ok (.bipush 48, 2) := by decide +kernel
theorem dX6_placeAfter_134 : decode cX6_placeAfter 134 = .ok (.iload_n 1, 1) := by decide +kernel
theorem dX6_placeAfter_135 : decode cX6_placeAfter 135 = .ok (.bipush 57, 2) := by decide +kernel
theorem dX6_placeAfter_137 : decode cX6_placeAfter 137 = .ok (.iconst 1, 1) := by decide +kernel
theorem dX6_placeAfter_138 : decode cX6_placeAfter 138 = .ok (.invokestatic 27, 3) := by decide +kernel
theorem dX6_placeAfter_141 : decode cX6_placeAfter 141 = .ok (.ireturn, 1) := by decide +kernel
theorem dX6_placeAfter_142 : decode cX6_placeAfter 142 = .ok (.bipush 48, 2) := by decide +kernel
theorem dX6_placeAfter_144 : decode cX6_placeAfter 144 = .ok (.iload_n 1, 1) := by decide +kernel
theorem dX6_placeAfter_145 : decode cX6_placeAfter 145 = .ok (.bipush 51, 2) := by decide +kernel
theorem dX6_placeAfter_147 : decode cX6_placeAfter 147 = .ok (.iconst 1, 1) := by decide +kernel
theorem dX6_placeAfter_148 : decode cX6_placeAfter 148 = .ok (.invokestatic 27, 3) := by decide +kernel
theorem dX6_placeAfter_151 : decode cX6_placeAfter 151 = .ok (.ireturn, 1) := by decide +kernel
theorem dX6_placeAfter_152 : decode cX6_placeAfter 152 = .ok (.iconst (-1), 1) := by decide +kernel
theorem dX6_placeAfter_153 : decode cX6_placeAfter 153 = .ok (.ireturn, 1) := by decide +kernel
theorem dX6_placeAfterLetter_0 : decode cX6_placeAfterLetter 0 = .ok (.iload_n 0, 1) := by decide +kernel
theorem dX6_placeAfterLetter_1 : decode cX6_placeAfterLetter 1 = .ok (.tableswitch 116 98 120 #[114, 116, 116, 116, 109, 116, 116, 116, 116, 116, 116, 109, 107, 116, 111, 116, 116, 114, 109, 116, 116, 116, 109], 107) := by decide +kernel
theorem dX6_placeAfterLetter_108 : decode cX6_placeAfterLetter 108 = .ok (.iconst 2, 1) := by decide +kernel
theorem dX6_placeAfterLetter_109 : decode cX6_placeAfterLetter 109 = .ok (.ireturn, 1) := by decide +kernel
theorem dX6_placeAfterLetter_110 : decode cX6_placeAfterLetter 110 = .ok (.iconst 3, 1) := by decide +kernel
theorem dX6_placeAfterLetter_111 : decode cX6_placeAfterLetter 111 = .ok (.ireturn, 1) := by decide +kernel
theorem dX6_placeAfterLetter_112 : decode cX6_placeAfterLetter 112 = .ok (.bipush 7, 2) := by decide +kernel
theorem dX6_placeAfterLetter_114 : decode cX6_placeAfterLetter 114 = .ok (.ireturn, 1) := by decide +kernel
theorem dX6_placeAfterLetter_115 : decode cX6_placeAfterLetter 115 = .ok (.iconst 1, 1) := by decide +kernel
theorem dX6_placeAfterLetter_116 : decode cX6_placeAfterLetter 116 = .ok (.ireturn, 1) := by decide +kernel
theorem dX6_placeAfterLetter_117 : decode cX6_placeAfterLetter 117 = .ok (.iconst (-1), 1) := by decide +kernel
theorem dX6_placeAfterLetter_118 : decode cX6_placeAfterLetter 118 = .ok (.ireturn, 1) := by decide +kernel
theorem dX6_placeAfterTens_0 : decode cX6_placeAfterTens 0 = .ok (.iload_n 0, 1) := by decide +kernel
theorem dX6_placeAfterTens_1 : decode cX6_placeAfterTens 1 = .ok (.bipush 50, 2) := by decide +kernel
theorem dX6_placeAfterTens_3 : decode cX6_placeAfterTens 3 = .ok (.if_icmp .ne 7, 3) := by decide +kernel
theorem dX6_placeAfterTens_6 : decode cX6_placeAfterTens 6 = .ok (.iload_n 2, 1) := by decide +kernel
theorem dX6_placeAfterTens_7 : decode cX6_placeAfterTens 7 = .ok (.goto 12, 3) := by decide +kernel
theorem dX6_placeAfterTens_10 : decode cX6_placeAfterTens 10 = .ok (.bipush 48, 2) := by decide +kernel
theorem dX6_placeAfterTens_12 : decode cX6_placeAfterTens 12 = .ok (.iload_n 0, 1) := by decide +kernel
theorem dX6_placeAfterTens_13 : decode cX6_placeAfterTens 13 = .ok (.bipush 49, 2) := by decide +kernel
theorem dX6_placeAfterTens_15 : decode cX6_placeAfterTens 15 = .ok (.iload_n 1, 1) := by decide +kernel
theorem dX6_placeAfterTens_16 : decode cX6_placeAfterTens 16 = .ok (.invokestatic 27, 3) := by decide +kernel
theorem dX6_placeAfterTens_19 : decode cX6_placeAfterTens 19 = .ok (.ireturn, 1) := by decide +kernel
theorem dX6_ifBetween_0 : decode cX6_ifBetween 0 = .ok (.iload_n 0, 1) := by decide +kernel
theorem dX6_ifBetween_1 : decode cX6_ifBetween 1 = .ok (.iload_n 1, 1) := by decide +kernel
theorem dX6_ifBetween_2 : decode cX6_ifBetween 2 = .ok (.if_icmp .gt 12, 3) := by decide +kernel
theorem dX6_ifBetween_5 : decode cX6_ifBetween 5 = .ok (.iload_n 1, 1) := by decide +kernel
theorem dX6_ifBetween_6 : decode cX6_ifBetween 6 = .ok (.iload_n 2, 1) := by decide +kernel
theorem dX6_ifBetween_7 : decode cX6_ifBetween 7 = .ok (.if_icmp .gt 7, 3) := by decide +kernel
theorem dX6_ifBetween_10 : decode cX6_ifBetween 10 = .ok (.iload_n 3, 1) := by decide +kernel
theorem dX6_ifBetween_11 : decode cX6_ifBetween 11 = .ok (.goto 4, 3) := by decide +kernel
theorem dX6_ifBetween_14 : decode cX6_ifBetween 14 = .ok (.iconst (-1), 1) := by decide +kernel
theorem dX6_ifBetween_15 : decode cX6_ifBetween 15 = .ok (.ireturn, 1) := by decide +kernel
theorem dX6_isCommandAt_0 : decode cX6_isCommandAt 0 = .ok (.aload_n 0, 1) := by decide +kernel
theorem dX6_isCommandAt_1 : decode cX6_isCommandAt 1 = .ok (.iload_n 1, 1) := by decide +kernel
theorem dX6_isCommandAt_2 : decode cX6_isCommandAt 2 = .ok (.invokevirtual 35, 3) := by decide +kernel
theorem dX6_isCommandAt_5 : decode cX6_isCommandAt 5 = .ok (.invokestatic 23, 3) := by decide +kernel
theorem dX6_isCommandAt_8 : decode cX6_isCommandAt 8 = .ok (.iconst (-1), 1) := by decide +kernel
theorem dX6_isCommandAt_9 : decode cX6_isCommandAt 9 = .ok (.if_icmp .eq 7, 3) := by decide +kernel
theorem dX6_isCommandAt_12 : decode cX6_isCommandAt 12 = .ok (.iconst 1, 1) := by decide +kernel
theorem dX6_isCommandAt_13 : decode cX6_isCommandAt 13 = .ok (.goto 4, 3) := by decide +kernel
theorem dX6_isCommandAt_16 : decode cX6_isCommandAt 16 = .ok (.iconst 0, 1) := by decide +kernel
theorem dX6_isCommandAt_17 : decode cX6_isCommandAt 17 = .ok (.ireturn, 1) := by decide +kernel
theorem dX6_obeyAt_0 : decode cX6_obeyAt 0 = .ok (.aload_n 0, 1) := by decide +kernel
theorem dX6_obeyAt_1 : decode cX6_obeyAt 1 = .ok (.iload_n 1, 1) := by decide +kernel
theorem dX6_obeyAt_2 : decode cX6_obeyAt 2 = .ok (.invokevirtual 35, 3) := by decide +kernel
theorem dX6_obeyAt_5 : decode cX6_obeyAt 5 = .ok (.tableswitch 257 98 120 #[245, 257, 257, 257, 168, 257, 257, 257, 257, 257, 257, 189, 107, 257, 210, 257, 257, 257, 126, 257, 257, 257, 147], 107) := by decide +kernel
theorem dX6_obeyAt_112 : decode cX6_obeyAt 112 = .ok (.aload_n 2, 1) := by decide +kernel
theorem dX6_obeyAt_113 : decode cX6_obeyAt 113 = .ok (.iconst 1, 1) := by decide +kernel
theorem dX6_obeyAt_114 : decode cX6_obeyAt 114 = .ok (.bipush (-9), 2) := by decide +kernel
theorem dX6_obeyAt_116 : decode cX6_obeyAt 116 = .ok (.aload_n 0, 1) := by decide +kernel
theorem dX6_obeyAt_117 : decode cX6_obeyAt 117 = .ok (.iload_n 1, 1) := by decide +kernel
theorem dX6_obeyAt_118 : decode cX6_obeyAt 118 = .ok (.iconst 1, 1) := by decide +kernel
theorem dX6_obeyAt_119 : decode cX6_obeyAt 119 = .ok (.iadd, 1) := by decide +kernel
theorem dX6_obeyAt_120 : decode cX6_obeyAt 120 = .ok (.invokevirtual 35, 3) := by decide +kernel
theorem dX6_obeyAt_123 : decode cX6_obeyAt 123 = .ok (.bipush 48, 2) := by decide +kernel
theorem dX6_obeyAt_125 : decode cX6_obeyAt 125 = .ok (.isub, 1) := by decide +kernel
theorem dX6_obeyAt_126 : decode cX6_obeyAt 126 = .ok (.iconst 0, 1) := by decide +kernel
theorem dX6_obeyAt_127 : decode cX6_obeyAt 127 = .ok (.invokevirtual 38, 3) := by decide +kernel
theorem dX6_obeyAt_130 : decode cX6_obeyAt 130 = .ok (.ireturn, 1) := by decide +kernel
theorem dX6_obeyAt_131 : decode cX6_obeyAt 131 = .ok (.aload_n 2, 1) := by decide +kernel
theorem dX6_obeyAt_132 : decode cX6_obeyAt 132 = .ok (.iconst 2, 1) := by decide +kernel
theorem dX6_obeyAt_133 : decode cX6_obeyAt 133 = .ok (.aload_n 0, 1) := by decide +kernel
theorem dX6_obeyAt_134 : decode cX6_obeyAt 134 = .ok (.iload_n 1, 1) := by decide +kernel
theorem dX6_obeyAt_135 : decode cX6_obeyAt 135 = .ok (.iconst 1, 1) := by decide +kernel
theorem dX6_obeyAt_136 : decode cX6_obeyAt 136 = .ok (.iadd, 1) := by decide +kernel
theorem dX6_obeyAt_137 : decode cX6_obeyAt 137 = .ok (.invokevirtual 44, 3) := by decide +kernel
theorem dX6_obeyAt_140 : decode cX6_obeyAt 140 = .ok (.aload_n 0, 1) := by decide +kernel
theorem dX6_obeyAt_141 : decode cX6_obeyAt 141 = .ok (.iload_n 1, 1) := by decide +kernel
theorem dX6_obeyAt_142 : decode cX6_obeyAt 142 = .ok (.iconst 3, 1) := by decide +kernel
theorem dX6_obeyAt_143 : decode cX6_obeyAt 143 = .ok (.iadd, 1) := by decide +kernel
theorem dX6_obeyAt_144 : decode cX6_obeyAt 144 = .ok (.invokevirtual 47, 3) := by decide +kernel
theorem dX6_obeyAt_147 : decode cX6_obeyAt 147 = .ok (.iconst 1, 1) := by decide +kernel
theorem dX6_obeyAt_148 : decode cX6_obeyAt 148 = .ok (.invokevirtual 38, 3) := by decide +kernel
theorem dX6_obeyAt_151 : decode cX6_obeyAt 151 = .ok (.ireturn, 1) := by decide +kernel
theorem dX6_obeyAt_152 : decode cX6_obeyAt 152 = .ok (.aload_n 2, 1) := by decide +kernel
theorem dX6_obeyAt_153 : decode cX6_obeyAt 153 = .ok (.iconst 3, 1) := by decide +kernel
theorem dX6_obeyAt_154 : decode cX6_obeyAt 154 = .ok (.aload_n 0, 1) := by decide +kernel
theorem dX6_obeyAt_155 : decode cX6_obeyAt 155 = .ok (.iload_n 1, 1) := by decide +kernel
theorem dX6_obeyAt_156 : decode cX6_obeyAt 156 = .ok (.iconst 1, 1) := by decide +kernel
theorem dX6_obeyAt_157 : decode cX6_obeyAt 157 = .ok (.iadd, 1) := by decide +kernel
theorem dX6_obeyAt_158 : decode cX6_obeyAt 158 = .ok (.invokevirtual 44, 3) := by decide +kernel
theorem dX6_obeyAt_161 : decode cX6_obeyAt 161 = .ok (.aload_n 0, 1) := by decide +kernel
theorem dX6_obeyAt_162 : decode cX6_obeyAt 162 = .ok (.iload_n 1, 1) := by decide +kernel
theorem dX6_obeyAt_163 : decode cX6_obeyAt 163 = .ok (.iconst 3, 1) := by decide +kernel
theorem dX6_obeyAt_164 : decode cX6_obeyAt 164 = .ok (.iadd, 1) := by decide +kernel
theorem dX6_obeyAt_165 : decode cX6_obeyAt 165 = .ok (.invokevirtual 47, 3) := by decide +kernel
theorem dX6_obeyAt_168 : decode cX6_obeyAt 168 = .ok (.iconst 0, 1) := by decide +kernel
theorem dX6_obeyAt_169 : decode cX6_obeyAt 169 = .ok (.invokevirtual 38, 3) := by decide +kernel
theorem dX6_obeyAt_172 : decode cX6_obeyAt 172 = .ok (.ireturn, 1) := by decide +kernel
theorem dX6_obeyAt_173 : decode cX6_obeyAt 173 = .ok (.aload_n 2, 1) := by decide +kernel
theorem dX6_obeyAt_174 : decode cX6_obeyAt 174 = .ok (.iconst 4, 1) := by decide +kernel
theorem dX6_obeyAt_175 : decode cX6_obeyAt 175 = .ok (.aload_n 0, 1) := by decide +kernel
theorem dX6_obeyAt_176 : decode cX6_obeyAt 176 = .ok (.iload_n 1, 1) := by decide +kernel
theorem dX6_obeyAt_177 : decode cX6_obeyAt 177 = .ok (.iconst 1, 1) := by decide +kernel
theorem dX6_obeyAt_178 : decode cX6_obeyAt 178 = .ok (.iadd, 1) := by decide +kernel
theorem dX6_obeyAt_179 : decode cX6_obeyAt 179 = .ok (.invokevirtual 44, 3) := by decide +kernel
theorem dX6_obeyAt_182 : decode cX6_obeyAt 182 = .ok (.aload_n 0, 1) := by decide +kernel
theorem dX6_obeyAt_183 : decode cX6_obeyAt 183 = .ok (.iload_n 1, 1) := by decide +kernel
theorem dX6_obeyAt_184 : decode cX6_obeyAt 184 = .ok (.iconst 3, 1) := by decide +kernel
theorem dX6_obeyAt_185 : decode cX6_obeyAt 185 = .ok (.iadd, 1) := by decide +kernel
theorem dX6_obeyAt_186 : decode cX6_obeyAt 186 = .ok (.invokevirtual 47, 3) := by decide +kernel
theorem dX6_obeyAt_189 : decode cX6_obeyAt 189 = .ok (.iconst 0, 1) := by decide +kernel
theorem dX6_obeyAt_190 : decode cX6_obeyAt 190 = .ok (.invokevirtual 38, 3) := by decide +kernel
theorem dX6_obeyAt_193 : decode cX6_obeyAt 193 = .ok (.ireturn, 1) := by decide +kernel
theorem dX6_obeyAt_194 : decode cX6_obeyAt 194 = .ok (.aload_n 2, 1) := by decide +kernel
theorem dX6_obeyAt_195 : decode cX6_obeyAt 195 = .ok (.iconst 5, 1) := by decide +kernel
theorem dX6_obeyAt_196 : decode cX6_obeyAt 196 = .ok (.aload_n 0, 1) := by decide +kernel
theorem dX6_obeyAt_197 : decode cX6_obeyAt 197 = .ok (.iload_n 1, 1) := by decide +kernel
theorem dX6_obeyAt_198 : decode cX6_obeyAt 198 = .ok (.iconst 1, 1) := by decide +kernel
theorem dX6_obeyAt_199 : decode cX6_obeyAt 199 = .ok (.iadd, 1) := by decide +kernel
theorem dX6_obeyAt_200 : decode cX6_obeyAt 200 = .ok (.invokevirtual 44, 3) := by decide +kernel
theorem dX6_obeyAt_203 : decode cX6_obeyAt 203 = .ok (.aload_n 0, 1) := by decide +kernel
theorem dX6_obeyAt_204 : decode cX6_obeyAt 204 = .ok (.iload_n 1, 1) := by decide +kernel
theorem dX6_obeyAt_205 : decode cX6_obeyAt 205 = .ok (.iconst 3, 1) := by decide +kernel
theorem dX6_obeyAt_206 : decode cX6_obeyAt 206 = .ok (.iadd, 1) := by decide +kernel
theorem dX6_obeyAt_207 : decode cX6_obeyAt 207 = .ok (.invokevirtual 47, 3) := by decide +kernel
theorem dX6_obeyAt_210 : decode cX6_obeyAt 210 = .ok (.iconst 0, 1) := by decide +kernel
theorem dX6_obeyAt_211 : decode cX6_obeyAt 211 = .ok (.invokevirtual 38, 3) := by decide +kernel
theorem dX6_obeyAt_214 : decode cX6_obeyAt 214 = .ok (.ireturn, 1) := by decide +kernel
theorem dX6_obeyAt_215 : decode cX6_obeyAt 215 = .ok (.aload_n 2, 1) := by decide +kernel
theorem dX6_obeyAt_216 : decode cX6_obeyAt 216 = .ok (.bipush 6, 2) := by decide +kernel
theorem dX6_obeyAt_218 : decode cX6_obeyAt 218 = .ok (.bipush (-9), 2) := by decide +kernel
theorem dX6_obeyAt_220 : decode cX6_obeyAt 220 = .ok (.aload_n 0, 1) := by decide +kernel
theorem dX6_obeyAt_221 : decode cX6_obeyAt 221 = .ok (.iload_n 1, 1) := by decide +kernel
theorem dX6_obeyAt_222 : decode cX6_obeyAt 222 = .ok (.iconst 1, 1) := by decide +kernel
theorem dX6_obeyAt_223 : decode cX6_obeyAt 223 = .ok (.iadd, 1) := by decide +kernel
theorem dX6_obeyAt_224 : decode cX6_obeyAt 224 = .ok (.invokevirtual 47, 3) := by decide +kernel
theorem dX6_obeyAt_227 : decode cX6_obeyAt 227 = .ok (.aload_n 2, 1) := by decide +kernel
theorem dX6_obeyAt_228 : decode cX6_obeyAt 228 = .ok (.aload_n 0, 1) := by decide +kernel
theorem dX6_obeyAt_229 : decode cX6_obeyAt 229 = .ok (.iload_n 1, 1) := by decide +kernel
theorem dX6_obeyAt_230 : decode cX6_obeyAt 230 = .ok (.iconst 1, 1) := by decide +kernel
theorem dX6_obeyAt_231 : decode cX6_obeyAt 231 = .ok (.iadd, 1) := by decide +kernel
theorem dX6_obeyAt_232 : decode cX6_obeyAt 232 = .ok (.invokevirtual 47, 3) := by decide +kernel
theorem dX6_obeyAt_235 : decode cX6_obeyAt 235 = .ok (.invokevirtual 50, 3) := by decide +kernel
theorem dX6_obeyAt_238 : decode cX6_obeyAt 238 = .ok (.ifCond .ne 7, 3) := by decide +kernel
theorem dX6_obeyAt_241 : decode cX6_obeyAt 241 = .ok (.iconst 1, 1) := by decide +kernel
theorem dX6_obeyAt_242 : decode cX6_obeyAt 242 = .ok (.goto 4, 3) := by decide +kernel
theorem dX6_obeyAt_245 : decode cX6_obeyAt 245 = .ok (.iconst 0, 1) := by decide +kernel
theorem dX6_obeyAt_246 : decode cX6_obeyAt 246 = .ok (.invokevirtual 38, 3) := by decide +kernel
theorem dX6_obeyAt_249 : decode cX6_obeyAt 249 = .ok (.ireturn, 1) := by decide +kernel
theorem dX6_obeyAt_250 : decode cX6_obeyAt 250 = .ok (.aload_n 2, 1) := by decide +kernel
theorem dX6_obeyAt_251 : decode cX6_obeyAt 251 = .ok (.bipush 7, 2) := by decide +kernel
theorem dX6_obeyAt_253 : decode cX6_obeyAt 253 = .ok (.bipush (-9), 2) := by decide +kernel
theorem dX6_obeyAt_255 : decode cX6_obeyAt 255 = .ok (.bipush (-9), 2) := by decide +kernel
theorem dX6_obeyAt_257 : decode cX6_obeyAt 257 = .ok (.iconst 0, 1) := by decide +kernel
theorem dX6_obeyAt_258 : decode cX6_obeyAt 258 = .ok (.invokevirtual 38, 3) := by decide +kernel
theorem dX6_obeyAt_261 : decode cX6_obeyAt 261 = .ok (.ireturn, 1) := by decide +kernel
theorem dX6_obeyAt_262 : decode cX6_obeyAt 262 = .ok (.aload_n 2, 1) := by decide +kernel
theorem dX6_obeyAt_263 : decode cX6_obeyAt 263 = .ok (.bipush 8, 2) := by decide +kernel
theorem dX6_obeyAt_265 : decode cX6_obeyAt 265 = .ok (.bipush (-9), 2) := by decide +kernel
theorem dX6_obeyAt_267 : decode cX6_obeyAt 267 = .ok (.bipush (-9), 2) := by decide +kernel
theorem dX6_obeyAt_269 : decode cX6_obeyAt 269 = .ok (.iconst 0, 1) := by decide +kernel
theorem dX6_obeyAt_270 : decode cX6_obeyAt 270 = .ok (.invokevirtual 38, 3) := by decide +kernel
theorem dX6_obeyAt_273 : decode cX6_obeyAt 273 = .ok (.ireturn, 1) := by decide +kernel
theorem dX6_thingAt_0 : decode cX6_thingAt 0 = .ok (.aload_n 0, 1) := by decide +kernel
theorem dX6_thingAt_1 : decode cX6_thingAt 1 = .ok (.iload_n 1, 1) := by decide +kernel
theorem dX6_thingAt_2 : decode cX6_thingAt 2 = .ok (.invokevirtual 35, 3) := by decide +kernel
theorem dX6_thingAt_5 : decode cX6_thingAt 5 = .ok (.bipush 104, 2) := by decide +kernel
theorem dX6_thingAt_7 : decode cX6_thingAt 7 = .ok (.if_icmp .ne 18, 3) := by decide +kernel
theorem dX6_thingAt_10 : decode cX6_thingAt 10 = .ok (.bipush 48, 2) := by decide +kernel
theorem dX6_thingAt_12 : decode cX6_thingAt 12 = .ok (.aload_n 0, 1) := by decide +kernel
theorem dX6_thingAt_13 : decode cX6_thingAt 13 = .ok (.iload_n 1, 1) := by decide +kernel
theorem dX6_thingAt_14 : decode cX6_thingAt 14 = .ok (.iconst 1, 1) := by decide +kernel
theorem dX6_thingAt_15 : decode cX6_thingAt 15 = .ok (.iadd, 1) := by decide +kernel
theorem dX6_thingAt_16 : decode cX6_thingAt 16 = .ok (.invokevirtual 35, 3) := by decide +kernel
theorem dX6_thingAt_19 : decode cX6_thingAt 19 = .ok (.isub, 1) := by decide +kernel
theorem dX6_thingAt_20 : decode cX6_thingAt 20 = .ok (.iconst 1, 1) := by decide +kernel
theorem dX6_thingAt_21 : decode cX6_thingAt 21 = .ok (.isub, 1) := by decide +kernel
theorem dX6_thingAt_22 : decode cX6_thingAt 22 = .ok (.goto 8, 3) := by decide +kernel
theorem dX6_thingAt_25 : decode cX6_thingAt 25 = .ok (.aload_n 0, 1) := by decide +kernel
theorem dX6_thingAt_26 : decode cX6_thingAt 26 = .ok (.iload_n 1, 1) := by decide +kernel
theorem dX6_thingAt_27 : decode cX6_thingAt 27 = .ok (.invokevirtual 47, 3) := by decide +kernel
theorem dX6_thingAt_30 : decode cX6_thingAt 30 = .ok (.ireturn, 1) := by decide +kernel
theorem dX6_numberAt_0 : decode cX6_numberAt 0 = .ok (.bipush 10, 2) := by decide +kernel
theorem dX6_numberAt_2 : decode cX6_numberAt 2 = .ok (.aload_n 0, 1) := by decide +kernel
theorem dX6_numberAt_3 : decode cX6_numberAt 3 = .ok (.iload_n 1, 1) := by decide +kernel
theorem dX6_numberAt_4 : decode cX6_numberAt 4 = .ok (.invokevirtual 35, 3) := by decide +kernel
theorem dX6_numberAt_7 : decode cX6_numberAt 7 = .ok (.bipush 48, 2) := by decide +kernel
theorem dX6_numberAt_9 : decode cX6_numberAt 9 = .ok (.isub, 1) := by decide +kernel
theorem dX6_numberAt_10 : decode cX6_numberAt 10 = .ok (.imul, 1) := by decide +kernel
theorem dX6_numberAt_11 : decode cX6_numberAt 11 = .ok (.aload_n 0, 1) := by decide +kernel
theorem dX6_numberAt_12 : decode cX6_numberAt 12 = .ok (.iload_n 1, 1) := by decide +kernel
theorem dX6_numberAt_13 : decode cX6_numberAt 13 = .ok (.iconst 1, 1) := by decide +kernel
theorem dX6_numberAt_14 : decode cX6_numberAt 14 = .ok (.iadd, 1) := by decide +kernel
theorem dX6_numberAt_15 : decode cX6_numberAt 15 = .ok (.invokevirtual 35, 3) := by decide +kernel
theorem dX6_numberAt_18 : decode cX6_numberAt 18 = .ok (.iadd, 1) := by decide +kernel
theorem dX6_numberAt_19 : decode cX6_numberAt 19 = .ok (.bipush 48, 2) := by decide +kernel
theorem dX6_numberAt_21 : decode cX6_numberAt 21 = .ok (.isub, 1) := by decide +kernel
theorem dX6_numberAt_22 : decode cX6_numberAt 22 = .ok (.ireturn, 1) := by decide +kernel
theorem dX6_codeAt_0 : decode cX6_codeAt 0 = .ok (.iload_n 1, 1) := by decide +kernel
theorem dX6_codeAt_1 : decode cX6_codeAt 1 = .ok (.ifCond .lt 26, 3) := by decide +kernel
theorem dX6_codeAt_4 : decode cX6_codeAt 4 = .ok (.iload_n 1, 1) := by decide +kernel
theorem dX6_codeAt_5 : decode cX6_codeAt 5 = .ok (.aload_n 0, 1) := by decide +kernel
theorem dX6_codeAt_6 : decode cX6_codeAt 6 = .ok (.getfield 15, 3) := by decide +kernel
theorem dX6_codeAt_9 : decode cX6_codeAt 9 = .ok (.if_icmp .ge 18, 3) := by decide +kernel
theorem dX6_codeAt_12 : decode cX6_codeAt 12 = .ok (.iload_n 1, 1) := by decide +kernel
theorem dX6_codeAt_13 : decode cX6_codeAt 13 = .ok (.bipush 120, 2) := by decide +kernel
theorem dX6_codeAt_15 : decode cX6_codeAt 15 = .ok (.if_icmp .ge 12, 3) := by decide +kernel
theorem dX6_codeAt_18 : decode cX6_codeAt 18 = .ok (.aload_n 0, 1) := by decide +kernel
theorem dX6_codeAt_19 : decode cX6_codeAt 19 = .ok (.getfield 9, 3) := by decide +kernel
theorem dX6_codeAt_22 : decode cX6_codeAt 22 = .ok (.iload_n 1, 1) := by decide +kernel
theorem dX6_codeAt_23 : decode cX6_codeAt 23 = .ok (.iaload, 1) := by decide +kernel
theorem dX6_codeAt_24 : decode cX6_codeAt 24 = .ok (.goto 4, 3) := by decide +kernel
theorem dX6_codeAt_27 : decode cX6_codeAt 27 = .ok (.iconst 0, 1) := by decide +kernel
theorem dX6_codeAt_28 : decode cX6_codeAt 28 = .ok (.ireturn, 1) := by decide +kernel
theorem dX7_init_0 : decode cX7_init 0 = .ok (.aload_n 0, 1) := by decide +kernel
theorem dX7_init_1 : decode cX7_init 1 = .ok (.invokespecial 3, 3) := by decide +kernel
theorem dX7_init_4 : decode cX7_init 4 = .ok (.aload_n 0, 1) := by decide +kernel
theorem dX7_init_5 : decode cX7_init 5 = .ok (.new 9, 3) := by decide +kernel
theorem dX7_init_8 : decode cX7_init 8 = .ok (.dup, 1) := by decide +kernel
theorem dX7_init_9 : decode cX7_init 9 = .ok (.invokespecial 11, 3) := by decide +kernel
theorem dX7_init_12 : decode cX7_init 12 = .ok (.putfield 12, 3) := by decide +kernel
theorem dX7_init_15 : decode cX7_init 15 = .ok (.aload_n 0, 1) := by decide +kernel
theorem dX7_init_16 : decode cX7_init 16 = .ok (.new 9, 3) := by decide +kernel
theorem dX7_init_19 : decode cX7_init 19 = .ok (.dup, 1) := by decide +kernel
theorem dX7_init_20 : decode cX7_init 20 = .ok (.invokespecial 11, 3) := by decide +kernel
theorem dX7_init_23 : decode cX7_init 23 = .ok (.putfield 16, 3) := by decide +kernel
theorem dX7_init_26 : decode cX7_init 26 = .ok (.aload_n 0, 1) := by decide +kernel
theorem dX7_init_27 : decode cX7_init 27 = .ok (.new 19, 3) := by decide +kernel
theorem dX7_init_30 : decode cX7_init 30 = .ok (.dup, 1) := by decide +kernel
theorem dX7_init_31 : decode cX7_init 31 = .ok (.invokespecial 21, 3) := by decide +kernel
theorem dX7_init_34 : decode cX7_init 34 = .ok (.putfield 22, 3) := by decide +kernel
theorem dX7_init_37 : decode cX7_init 37 = .ok (.aload_n 0, 1) := by decide +kernel
theorem dX7_init_38 : decode cX7_init 38 = .ok (.iconst 2, 1) := by decide +kernel
theorem dX7_init_39 : decode cX7_init 39 = .ok (.anewarray 9, 3) := by decide +kernel
theorem dX7_init_42 : decode cX7_init 42 = .ok (.putfield 26, 3) := by decide +kernel
theorem dX7_init_45 : decode cX7_init 45 = .ok (.iconst 0, 1) := by decide +kernel
theorem dX7_init_46 : decode cX7_init 46 = .ok (.istore_n 1, 1) := by decide +kernel
theorem dX7_init_47 : decode cX7_init 47 = .ok (.iload_n 1, 1) := by decide +kernel
theorem dX7_init_48 : decode cX7_init 48 = .ok (.iconst 2, 1) := by decide +kernel
theorem dX7_init_49 : decode cX7_init 49 = .ok (.if_icmp .ge 22, 3) := by decide +kernel
theorem dX7_init_52 : decode cX7_init 52 = .ok (.aload_n 0, 1) := by decide +kernel
theorem dX7_init_53 : decode cX7_init 53 = .ok (.getfield 26, 3) := by decide +kernel
theorem dX7_init_56 : decode cX7_init 56 = .ok (.iload_n 1, 1) := by decide +kernel
theorem dX7_init_57 : decode cX7_init 57 = .ok (.new 9, 3) := by decide +kernel
theorem dX7_init_60 : decode cX7_init 60 = .ok (.dup, 1) := by decide +kernel
theorem dX7_init_61 : decode cX7_init 61 = .ok (.invokespecial 11, 3) := by decide +kernel
theorem dX7_init_64 : decode cX7_init 64 = .ok (.aastore, 1) := by decide +kernel
theorem dX7_init_65 : decode cX7_init 65 = .ok (.iinc 1 1, 3) := by decide +kernel
theorem dX7_init_68 : decode cX7_init 68 = .ok (.goto (-21), 3) := by decide +kernel
theorem dX7_init_71 : decode cX7_init 71 = .ok (.aload_n 0, 1) := by decide +kernel
theorem dX7_init_72 : decode cX7_init 72 = .ok (.iconst 2, 1) := by decide +kernel
theorem dX7_init_73 : decode cX7_init 73 = .ok (.newarray .boolean, 2) := by decide +kernel
theorem dX7_init_75 : decode cX7_init 75 = .ok (.putfield 30, 3) := by decide +kernel
theorem dX7_init_78 : decode cX7_init 78 = .ok (.aload_n 0, 1) := by decide +kernel
theorem dX7_init_79 : decode cX7_init 79 = .ok (.new 34, 3) := by decide +kernel
theorem dX7_init_82 : decode cX7_init 82 = .ok (.dup, 1) := by decide +kernel
theorem dX7_init_83 : decode cX7_init 83 = .ok (.invokespecial 36, 3) := by decide +kernel
theorem dX7_init_86 : decode cX7_init 86 = .ok (.putfield 37, 3) := by decide +kernel
theorem dX7_init_89 : decode cX7_init 89 = .ok (.aload_n 0, 1) := by decide +kernel
theorem dX7_init_90 : decode cX7_init 90 = .ok (.new 41, 3) := by decide +kernel
theorem dX7_init_93 : decode cX7_init 93 = .ok (.dup, 1) := by decide +kernel
theorem dX7_init_94 : decode cX7_init 94 = .ok (.invokespecial 43, 3) := by decide +kernel
theorem dX7_init_97 : decode cX7_init 97 = .ok (.putfield 44, 3) := by decide +kernel
theorem dX7_init_100 : decode cX7_init 100 = .ok (.return_, 1) := by decide +kernel
theorem dX7_append_0 : decode cX7_append 0 = .ok (.iload_n 1, 1) := by decide +kernel
theorem dX7_append_1 : decode cX7_append 1 = .ok (.ifCond .lt 10, 3) := by decide +kernel
theorem dX7_append_4 : decode cX7_append 4 = .ok (.iload_n 1, 1) := by decide +kernel
theorem dX7_append_5 : decode cX7_append 5 = .ok (.sipush 255, 3) := by decide +kernel
theorem dX7_append_8 : decode cX7_append 8 = .ok (.if_icmp .le 13, 3) := by decide +kernel
theorem dX7_append_11 : decode cX7_append 11 = .ok (.new 48, 3) := by decide +kernel
theorem dX7_append_14 : decode cX7_append 14 = .ok (.dup, 1) := by decide +kernel
theorem dX7_append_15 : decode cX7_append 15 = .ok (.ldc 50, 2) := by decide +kernel
theorem dX7_append_17 : decode cX7_append 17 = .ok (.invokespecial 52, 3) := by decide +kernel
theorem dX7_append_20 : decode cX7_append 20 = .ok (.athrow, 1) := by decide +kernel
theorem dX7_append_21 : decode cX7_append 21 = .ok (.aload_n 0, 1) := by decide +kernel
theorem dX7_append_22 : decode cX7_append 22 = .ok (.getfield 37, 3) := by decide +kernel
theorem dX7_append_25 : decode cX7_append 25 = .ok (.invokevirtual 55, 3) := by decide +kernel
theorem dX7_append_28 : decode cX7_append 28 = .ok (.ifCond .eq 13, 3) := by decide +kernel
theorem dX7_append_31 : decode cX7_append 31 = .ok (.new 59, 3) := by decide +kernel
theorem dX7_append_34 : decode cX7_append 34 = .ok (.dup, 1) := by decide +kernel
theorem dX7_append_35 : decode cX7_append 35 = .ok (.ldc 61, 2) := by decide +kernel
theorem dX7_append_37 : decode cX7_append 37 = .ok (.invokespecial 63, 3) := by decide +kernel
theorem dX7_append_40 : decode cX7_append 40 = .ok (.athrow, 1) := by decide +kernel
theorem dX7_append_41 : decode cX7_append 41 = .ok (.aload_n 0, 1) := by decide +kernel
theorem dX7_append_42 : decode cX7_append 42 = .ok (.getfield 37, 3) := by decide +kernel
theorem dX7_append_45 : decode cX7_append 45 = .ok (.iload_n 1, 1) := by decide +kernel
theorem dX7_append_46 : decode cX7_append 46 = .ok (.invokevirtual 64, 3) := by decide +kernel
theorem dX7_append_49 : decode cX7_append 49 = .ok (.ireturn, 1) := by decide +kernel
theorem dX7_clearText_0 : decode cX7_clearText 0 = .ok (.aload_n 0, 1) := by decide +kernel
theorem dX7_clearText_1 : decode cX7_clearText 1 = .ok (.getfield 37, 3) := by decide +kernel
theorem dX7_clearText_4 : decode cX7_clearText 4 = .ok (.invokevirtual 68, 3) := by decide +kernel
theorem dX7_clearText_7 : decode cX7_clearText 7 = .ok (.ireturn, 1) := by decide +kernel
theorem dX7_errorPosition_0 : decode cX7_errorPosition 0 = .ok (.aload_n 0, 1) := by decide +kernel
theorem dX7_errorPosition_1 : decode cX7_errorPosition 1 = .ok (.getfield 37, 3) := by decide +kernel
theorem dX7_errorPosition_4 : decode cX7_errorPosition 4 = .ok (.invokevirtual 72, 3) := by decide +kernel
theorem dX7_errorPosition_7 : decode cX7_errorPosition 7 = .ok (.ireturn, 1) := by decide +kernel
theorem dX7_load_0 : decode cX7_load 0 = .ok (.aload_n 0, 1) := by decide +kernel
theorem dX7_load_1 : decode cX7_load 1 = .ok (.getfield 37, 3) := by decide +kernel
theorem dX7_load_4 : decode cX7_load 4 = .ok (.invokevirtual 72, 3) := by decide +kernel
theorem dX7_load_7 : decode cX7_load 7 = .ok (.bipush (-9), 2) := by decide +kernel
theorem dX7_load_9 : decode cX7_load 9 = .ok (.if_icmp .eq 13, 3) := by decide +kernel
theorem dX7_load_12 : decode cX7_load 12 = .ok (.new 59, 3) := by decide +kernel
theorem dX7_load_15 : decode cX7_load 15 = .ok (.dup, 1) := by decide +kernel
theorem dX7_load_16 : decode cX7_load 16 = .ok (.ldc 75, 2) := by decide +kernel
theorem dX7_load_18 : decode cX7_load 18 = .ok (.invokespecial 63, 3) := by decide +kernel
theorem dX7_load_21 : decode cX7_load 21 = .ok (.athrow, 1) := by decide +kernel
theorem dX7_load_22 : decode cX7_load 22 = .ok (.aload_n 0, 1) := by decide +kernel
theorem dX7_load_23 : decode cX7_load 23 = .ok (.getfield 12, 3) := by decide +kernel
theorem dX7_load_26 : decode cX7_load 26 = .ok (.invokevirtual 77, 3) := by decide +kernel
theorem dX7_load_29 : decode cX7_load 29 = .ok (.aload_n 0, 1) := by decide +kernel
theorem dX7_load_30 : decode cX7_load 30 = .ok (.getfield 22, 3) := by decide +kernel
theorem dX7_load_33 : decode cX7_load 33 = .ok (.invokevirtual 80, 3) := by decide +kernel
theorem dX7_load_36 : decode cX7_load 36 = .ok (.iconst 0, 1) := by decide +kernel
theorem dX7_load_37 : decode cX7_load 37 = .ok (.istore_n 1, 1) := by decide +kernel
theorem dX7_load_38 : decode cX7_load 38 = .ok (.iload_n 1, 1) := by decide +kernel
theorem dX7_load_39 : decode cX7_load 39 = .ok (.iconst 2, 1) := by decide +kernel
theorem dX7_load_40 : decode cX7_load 40 = .ok (.if_icmp .ge 16, 3) := by decide +kernel
theorem dX7_load_43 : decode cX7_load 43 = .ok (.aload_n 0, 1) := by decide +kernel
theorem dX7_load_44 : decode cX7_load 44 = .ok (.getfield 30, 3) := by decide +kernel
theorem dX7_load_47 : decode cX7_load 47 = .ok (.iload_n 1, 1) := by decide +kernel
theorem dX7_load_48 : decode cX7_load 48 = .ok (.iconst 0, 1) := by decide +kernel
theorem dX7_load_49 : decode cX7_load 49 = .ok (.bastore, 1) := by decide +kernel
theorem dX7_load_50 : decode cX7_load 50 = .ok (.iinc 1 1, 3) := by decide +kernel
theorem dX7_load_53 : decode cX7_load 53 = .ok (.goto (-15), 3) := by decide +kernel
theorem dX7_load_56 : decode cX7_load 56 = .ok (.iconst 0, 1) := by decide +kernel
theorem dX7_load_57 : decode cX7_load 57 = .ok (.istore_n 1, 1) := by decide +kernel
theorem dX7_load_58 : decode cX7_load 58 = .ok (.iconst 1, 1) := by decide +kernel
theorem dX7_load_59 : decode cX7_load 59 = .ok (.istore_n 2, 1) := by decide +kernel
theorem dX7_load_60 : decode cX7_load 60 = .ok (.iload_n 2, 1) := by decide +kernel
theorem dX7_load_61 : decode cX7_load 61 = .ok (.aload_n 0, 1) := by decide +kernel
theorem dX7_load_62 : decode cX7_load 62 = .ok (.getfield 37, 3) := by decide +kernel
theorem dX7_load_65 : decode cX7_load 65 = .ok (.invokevirtual 83, 3) := by decide +kernel
theorem dX7_load_68 : decode cX7_load 68 = .ok (.if_icmp .ge 43, 3) := by decide +kernel
theorem dX7_load_71 : decode cX7_load 71 = .ok (.iload_n 1, 1) := by decide +kernel
theorem dX7_load_72 : decode cX7_load 72 = .ok (.aload_n 0, 1) := by decide +kernel
theorem dX7_load_73 : decode cX7_load 73 = .ok (.getfield 37, 3) := by decide +kernel
theorem dX7_load_76 : decode cX7_load 76 = .ok (.iload_n 2, 1) := by decide +kernel
theorem dX7_load_77 : decode cX7_load 77 = .ok (.invokevirtual 86, 3) := by decide +kernel
theorem dX7_load_80 : decode cX7_load 80 = .ok (.ifCond .eq 22, 3) := by decide +kernel
theorem dX7_load_83 : decode cX7_load 83 = .ok (.aload_n 0, 1) := by decide +kernel
theorem dX7_load_84 : decode cX7_load 84 = .ok (.getfield 37, 3) := by decide +kernel
theorem dX7_load_87 : decode cX7_load 87 = .ok (.iload_n 2, 1) := by decide +kernel
theorem dX7_load_88 : decode cX7_load 88 = .ok (.aload_n 0, 1) := by decide +kernel
theorem dX7_load_89 : decode cX7_load 89 = .ok (.getfield 12, 3) := by decide +kernel
theorem dX7_load_92 : decode cX7_load 92 = .ok (.invokevirtual 90, 3) := by decide +kernel
theorem dX7_load_95 : decode cX7_load 95 = .ok (.ifCond .ne 7, 3) := by decide +kernel
theorem dX7_load_98 : decode cX7_load 98 = .ok (.iconst 1, 1) := by decide +kernel
theorem dX7_load_99 : decode cX7_load 99 = .ok (.goto 4, 3) := by decide +kernel
theorem dX7_load_102 : decode cX7_load 102 = .ok (.iconst 0, 1) := by decide +kernel
theorem dX7_load_103 : decode cX7_load 103 = .ok (.iadd, 1) := by decide +kernel
theorem dX7_load_104 : decode cX7_load 104 = .ok (.istore_n 1, 1) := by decide +kernel
theorem dX7_load_105 : decode cX7_load 105 = .ok (.iinc 2 1, 3) := by decide +kernel
theorem dX7_load_108 : decode cX7_load 108 = .ok (.goto (-48), 3) := by decide +kernel
theorem dX7_load_111 : decode cX7_load 111 = .ok (.iload_n 1, 1) := by decide +kernel
theorem dX7_load_112 : decode cX7_load 112 = .ok (.ireturn, 1) := by decide +kernel
theorem dX7_about_0 : decode cX7_about 0 = .ok (.iload_n 1, 1) := by decide +kernel
theorem dX7_about_1 : decode cX7_about 1 = .ok (.ifCond .lt 9, 3) := by decide +kernel
theorem dX7_about_4 : decode cX7_about 4 = .ok (.iload_n 1, 1) := by decide +kernel
theorem dX7_about_5 : decode cX7_about 5 = .ok (.bipush 11, 2) := by decide +kernel
theorem dX7_about_7 : decode cX7_about 7 = .ok (.if_icmp .le 13, 3) := by decide +kernel
theorem dX7_about_10 : decode cX7_about 10 = .ok (.new 48, 3) := by decide +kernel
theorem dX7_about_13 : decode cX7_about 13 = .ok (.dup, 1) := by decide +kernel
theorem dX7_about_14 : decode cX7_about 14 = .ok (.ldc 94, 2) := by decide +kernel
theorem dX7_about_16 : decode cX7_about 16 = .ok (.invokespecial 52, 3) := by decide +kernel
theorem dX7_about_19 : decode cX7_about 19 = .ok (.athrow, 1) := by decide +kernel
theorem dX7_about_20 : decode cX7_about 20 = .ok (.aload_n 0, 1) := by decide +kernel
theorem dX7_about_21 : decode cX7_about 21 = .ok (.getfield 12, 3) := by decide +kernel
theorem dX7_about_24 : decode cX7_about 24 = .ok (.iload_n 1, 1) := by decide +kernel
theorem dX7_about_25 : decode cX7_about 25 = .ok (.invokevirtual 96, 3) := by decide +kernel
theorem dX7_about_28 : decode cX7_about 28 = .ok (.ireturn, 1) := by decide +kernel
theorem dX7_part_0 : decode cX7_part 0 = .ok (.aload_n 0, 1) := by decide +kernel
theorem dX7_part_1 : decode cX7_part 1 = .ok (.getfield 12, 3) := by decide +kernel
theorem dX7_part_4 : decode cX7_part 4 = .ok (.iload_n 1, 1) := by decide +kernel
theorem dX7_part_5 : decode cX7_part 5 = .ok (.invokevirtual 99, 3) := by decide +kernel
theorem dX7_part_8 : decode cX7_part 8 = .ok (.invokestatic 102, 3) := by decide +kernel
theorem dX7_part_11 : decode cX7_part 11 = .ok (.iload_n 2, 1) := by decide +kernel
theorem dX7_part_12 : decode cX7_part 12 = .ok (.ifCond .lt 9, 3) := by decide +kernel
theorem dX7_part_15 : decode cX7_part 15 = .ok (.iload_n 2, 1) := by decide +kernel
theorem dX7_part_16 : decode cX7_part 16 = .ok (.bipush 6, 2) := by decide +kernel
theorem dX7_part_18 : decode cX7_part 18 = .ok (.if_icmp .le 13, 3) := by decide +kernel
theorem dX7_part_21 : decode cX7_part 21 = .ok (.new 48, 3) := by decide +kernel
theorem dX7_part_24 : decode cX7_part 24 = .ok (.dup, 1) := by decide +kernel
theorem dX7_part_25 : decode cX7_part 25 = .ok (.ldc 106, 2) := by decide +kernel
theorem dX7_part_27 : decode cX7_part 27 = .ok (.invokespecial 52, 3) := by decide +kernel
theorem dX7_part_30 : decode cX7_part 30 = .ok (.athrow, 1) := by decide +kernel
theorem dX7_part_31 : decode cX7_part 31 = .ok (.aload_n 0, 1) := by decide +kernel
theorem dX7_part_32 : decode cX7_part 32 = .ok (.getfield 12, 3) := by decide +kernel
theorem dX7_part_35 : decode cX7_part 35 = .ok (.iload_n 1, 1) := by decide +kernel
theorem dX7_part_36 : decode cX7_part 36 = .ok (.iload_n 2, 1) := by decide +kernel
theorem dX7_part_37 : decode cX7_part 37 = .ok (.invokevirtual 108, 3) := by decide +kernel
theorem dX7_part_40 : decode cX7_part 40 = .ok (.ireturn, 1) := by decide +kernel
theorem dX7_string_0 : decode cX7_string 0 = .ok (.aload_n 0, 1) := by decide +kernel
theorem dX7_string_1 : decode cX7_string 1 = .ok (.getfield 12, 3) := by decide +kernel
theorem dX7_string_4 : decode cX7_string 4 = .ok (.iload_n 1, 1) := by decide +kernel
theorem dX7_string_5 : decode cX7_string 5 = .ok (.iload_n 2, 1) := by decide +kernel
theorem dX7_string_6 : decode cX7_string 6 = .ok (.invokevirtual 112, 3) := by decide +kernel
theorem dX7_string_9 : decode cX7_string 9 = .ok (.invokestatic 102, 3) := by decide +kernel
theorem dX7_string_12 : decode cX7_string 12 = .ok (.aload_n 0, 1) := by decide +kernel
theorem dX7_string_13 : decode cX7_string 13 = .ok (.getfield 12, 3) := by decide +kernel
theorem dX7_string_16 : decode cX7_string 16 = .ok (.getfield 115, 3) := by decide +kernel
theorem dX7_string_19 : decode cX7_string 19 = .ok (.aload_n 0, 1) := by decide +kernel
theorem dX7_string_20 : decode cX7_string 20 = .ok (.getfield 12, 3) := by decide +kernel
theorem dX7_string_23 : decode cX7_string 23 = .ok (.getfield 115, 3) := by decide +kernel
theorem dX7_string_26 : decode cX7_string 26 = .ok (.iload_n 1, 1) := by decide +kernel
theorem dX7_string_27 : decode cX7_string 27 = .ok (.iload_n 2, 1) := by decide +kernel
theorem dX7_string_28 : decode cX7_string 28 = .ok (.invokevirtual 119, 3) := by decide +kernel
theorem dX7_string_31 : decode cX7_string 31 = .ok (.invokevirtual 124, 3) := by decide +kernel
theorem dX7_string_34 : decode cX7_string 34 = .ok (.ireturn, 1) := by decide +kernel
theorem dX7_stringAt_0 : decode cX7_stringAt 0 = .ok (.iload_n 1, 1) := by decide +kernel
theorem dX7_stringAt_1 : decode cX7_stringAt 1 = .ok (.ifCond .ge 13, 3) := by decide +kernel
theorem dX7_stringAt_4 : decode cX7_stringAt 4 = .ok (.new 48, 3) := by decide +kernel
theorem dX7_stringAt_7 : decode cX7_stringAt 7 = .ok (.dup, 1) := by decide +kernel
theorem dX7_stringAt_8 : decode cX7_stringAt 8 = .ok (.ldc 127, 2) := by decide +kernel
theorem dX7_stringAt_10 : decode cX7_stringAt 10 = .ok (.invokespecial 52, 3) := by decide +kernel
theorem dX7_stringAt_13 : decode cX7_stringAt 13 = .ok (.athrow, 1) := by decide +kernel
theorem dX7_stringAt_14 : decode cX7_stringAt 14 = .ok (.aload_n 0, 1) := by decide +kernel
theorem dX7_stringAt_15 : decode cX7_stringAt 15 = .ok (.getfield 12, 3) := by decide +kernel
theorem dX7_stringAt_18 : decode cX7_stringAt 18 = .ok (.getfield 115, 3) := by decide +kernel
theorem dX7_stringAt_21 : decode cX7_stringAt 21 = .ok (.iload_n 1, 1) := by decide +kernel
theorem dX7_stringAt_22 : decode cX7_stringAt 22 = .ok (.invokevirtual 129, 3) := by decide +kernel
theorem dX7_stringAt_25 : decode cX7_stringAt 25 = .ok (.ireturn, 1) := by decide +kernel
theorem dX7_make_0 : decode cX7_make 0 = .ok (.aload_n 0, 1) := by decide +kernel
theorem dX7_make_1 : decode cX7_make 1 = .ok (.iconst 1, 1) := by decide +kernel
theorem dX7_make_2 : decode cX7_make 2 = .ok (.bipush (-9), 2) := by decide +kernel
theorem dX7_make_4 : decode cX7_make 4 = .ok (.iload_n 1, 1) := by decide +kernel
theorem dX7_make_5 : decode cX7_make 5 = .ok (.iconst 0, 1) := by decide +kernel
theorem dX7_make_6 : decode cX7_make 6 = .ok (.invokevirtual 132, 3) := by decide +kernel
theorem dX7_make_9 : decode cX7_make 9 = .ok (.ireturn, 1) := by decide +kernel
theorem dX7_tie_0 : decode cX7_tie 0 = .ok (.aload_n 0, 1) := by decide +kernel
theorem dX7_tie_1 : decode cX7_tie 1 = .ok (.iconst 2, 1) := by decide +kernel
theorem dX7_tie_2 : decode cX7_tie 2 = .ok (.iload_n 1, 1) := by decide +kernel
theorem dX7_tie_3 : decode cX7_tie 3 = .ok (.iload_n 2, 1) := by decide +kernel
theorem dX7_tie_4 : decode cX7_tie 4 = .ok (.iload_n 3, 1) := by decide +kernel
theorem dX7_tie_5 : decode cX7_tie 5 = .ok (.invokevirtual 132, 3) := by decide +kernel
theorem dX7_tie_8 : decode cX7_tie 8 = .ok (.ireturn, 1) := by decide +kernel
theorem dX7_cut_0 : decode cX7_cut 0 = .ok (.aload_n 0, 1) := by decide +kernel
theorem dX7_cut_1 : decode cX7_cut 1 = .ok (.iconst 3, 1) := by decide +kernel
theorem dX7_cut_2 : decode cX7_cut 2 = .ok (.iload_n 1, 1) := by decide +kernel
theorem dX7_cut_3 : decode cX7_cut 3 = .ok (.iload_n 2, 1) := by decide +kernel
theorem dX7_cut_4 : decode cX7_cut 4 = .ok (.iconst 0, 1) := by decide +kernel
theorem dX7_cut_5 : decode cX7_cut 5 = .ok (.invokevirtual 132, 3) := by decide +kernel
theorem dX7_cut_8 : decode cX7_cut 8 = .ok (.ireturn, 1) := by decide +kernel
theorem dX7_fray_0 : decode cX7_fray 0 = .ok (.aload_n 0, 1) := by decide +kernel
theorem dX7_fray_1 : decode cX7_fray 1 = .ok (.iconst 4, 1) := by decide +kernel
theorem dX7_fray_2 : decode cX7_fray 2 = .ok (.iload_n 1, 1) := by decide +kernel
theorem dX7_fray_3 : decode cX7_fray 3 = .ok (.iload_n 2, 1) := by decide +kernel
theorem dX7_fray_4 : decode cX7_fray 4 = .ok (.iconst 0, 1) := by decide +kernel
theorem dX7_fray_5 : decode cX7_fray 5 = .ok (.invokevirtual 132, 3) := by decide +kernel
theorem dX7_fray_8 : decode cX7_fray 8 = .ok (.ireturn, 1) := by decide +kernel
theorem dX7_mend_0 : decode cX7_mend 0 = .ok (.aload_n 0, 1) := by decide +kernel
theorem dX7_mend_1 : decode cX7_mend 1 = .ok (.iconst 5, 1) := by decide +kernel
theorem dX7_mend_2 : decode cX7_mend 2 = .ok (.iload_n 1, 1) := by decide +kernel
theorem dX7_mend_3 : decode cX7_mend 3 = .ok (.iload_n 2, 1) := by decide +kernel
theorem dX7_mend_4 : decode cX7_mend 4 = .ok (.iconst 0, 1) := by decide +kernel
theorem dX7_mend_5 : decode cX7_mend 5 = .ok (.invokevirtual 132, 3) := by decide +kernel
theorem dX7_mend_8 : decode cX7_mend 8 = .ok (.ireturn, 1) := by decide +kernel
theorem dX7_pin_0 : decode cX7_pin 0 = .ok (.aload_n 0, 1) := by decide +kernel
theorem dX7_pin_1 : decode cX7_pin 1 = .ok (.bipush 6, 2) := by decide +kernel
theorem dX7_pin_3 : decode cX7_pin 3 = .ok (.bipush (-9), 2) := by decide +kernel
theorem dX7_pin_5 : decode cX7_pin 5 = .ok (.iload_n 1, 1) := by decide +kernel
theorem dX7_pin_6 : decode cX7_pin 6 = .ok (.iload_n 2, 1) := by decide +kernel
theorem dX7_pin_7 : decode cX7_pin 7 = .ok (.invokevirtual 132, 3) := by decide +kernel
theorem dX7_pin_10 : decode cX7_pin 10 = .ok (.ireturn, 1) := by decide +kernel
theorem dX7_begin_0 : decode cX7_begin 0 = .ok (.aload_n 0, 1) := by decide +kernel
theorem dX7_begin_1 : decode cX7_begin 1 = .ok (.bipush 7, 2) := by decide +kernel
theorem dX7_begin_3 : decode cX7_begin 3 = .ok (.bipush (-9), 2) := by decide +kernel
theorem dX7_begin_5 : decode cX7_begin 5 = .ok (.bipush (-9), 2) := by decide +kernel
theorem dX7_begin_7 : decode cX7_begin 7 = .ok (.iconst 0, 1) := by decide +kernel
theorem dX7_begin_8 : decode cX7_begin 8 = .ok (.invokevirtual 132, 3) := by decide +kernel
theorem dX7_begin_11 : decode cX7_begin 11 = .ok (.ireturn, 1) := by decide +kernel
theorem dX7_step_0 : decode cX7_step 0 = .ok (.aload_n 0, 1) := by decide +kernel
theorem dX7_step_1 : decode cX7_step 1 = .ok (.bipush 8, 2) := by decide +kernel
theorem dX7_step_3 : decode cX7_step 3 = .ok (.bipush (-9), 2) := by decide +kernel
theorem dX7_step_5 : decode cX7_step 5 = .ok (.bipush (-9), 2) := by decide +kernel
theorem dX7_step_7 : decode cX7_step 7 = .ok (.iconst 0, 1) := by decide +kernel
theorem dX7_step_8 : decode cX7_step 8 = .ok (.invokevirtual 132, 3) := by decide +kernel
theorem dX7_step_11 : decode cX7_step 11 = .ok (.ireturn, 1) := by decide +kernel
theorem dX7_undo_0 : decode cX7_undo 0 = .ok (.aload_n 0, 1) := by decide +kernel
theorem dX7_undo_1 : decode cX7_undo 1 = .ok (.getfield 22, 3) := by decide +kernel
theorem dX7_undo_4 : decode cX7_undo 4 = .ok (.invokevirtual 136, 3) := by decide +kernel
theorem dX7_undo_7 : decode cX7_undo 7 = .ok (.ifCond .eq 13, 3) := by decide +kernel
theorem dX7_undo_10 : decode cX7_undo 10 = .ok (.new 59, 3) := by decide +kernel
theorem dX7_undo_13 : decode cX7_undo 13 = .ok (.dup, 1) := by decide +kernel
theorem dX7_undo_14 : decode cX7_undo 14 = .ok (.ldc 139, 2) := by decide +kernel
theorem dX7_undo_16 : decode cX7_undo 16 = .ok (.invokespecial 63, 3) := by decide +kernel
theorem dX7_undo_19 : decode cX7_undo 19 = .ok (.athrow, 1) := by decide +kernel
theorem dX7_undo_20 : decode cX7_undo 20 = .ok (.aload_n 0, 1) := by decide +kernel
theorem dX7_undo_21 : decode cX7_undo 21 = .ok (.getfield 22, 3) := by decide +kernel
theorem dX7_undo_24 : decode cX7_undo 24 = .ok (.aload_n 0, 1) := by decide +kernel
theorem dX7_undo_25 : decode cX7_undo 25 = .ok (.getfield 12, 3) := by decide +kernel
theorem dX7_undo_28 : decode cX7_undo 28 = .ok (.invokevirtual 141, 3) := by decide +kernel
theorem dX7_undo_31 : decode cX7_undo 31 = .ok (.ireturn, 1) := by decide +kernel
theorem dX7_act_0 : decode cX7_act 0 = .ok (.aload_n 0, 1) := by decide +kernel
theorem dX7_act_1 : decode cX7_act 1 = .ok (.getfield 12, 3) := by decide +kernel
theorem dX7_act_4 : decode cX7_act 4 = .ok (.iload_n 1, 1) := by decide +kernel
theorem dX7_act_5 : decode cX7_act 5 = .ok (.iload_n 2, 1) := by decide +kernel
theorem dX7_act_6 : decode cX7_act 6 = .ok (.iload_n 3, 1) := by decide +kernel
theorem dX7_act_7 : decode cX7_act 7 = .ok (.invokevirtual 145, 3) := by decide +kernel
theorem dX7_act_10 : decode cX7_act 10 = .ok (.invokestatic 102, 3) := by decide +kernel
theorem dX7_act_13 : decode cX7_act 13 = .ok (.aload_n 0, 1) := by decide +kernel
theorem dX7_act_14 : decode cX7_act 14 = .ok (.getfield 22, 3) := by decide +kernel
theorem dX7_act_17 : decode cX7_act 17 = .ok (.aload_n 0, 1) := by decide +kernel
theorem dX7_act_18 : decode cX7_act 18 = .ok (.getfield 12, 3) := by decide +kernel
theorem dX7_act_21 : decode cX7_act 21 = .ok (.invokevirtual 149, 3) := by decide +kernel
theorem dX7_act_24 : decode cX7_act 24 = .ok (.aload_n 0, 1) := by decide +kernel
theorem dX7_act_25 : decode cX7_act 25 = .ok (.getfield 12, 3) := by decide +kernel
theorem dX7_act_28 : decode cX7_act 28 = .ok (.iload_n 1, 1) := by decide +kernel
theorem dX7_act_29 : decode cX7_act 29 = .ok (.iload_n 2, 1) := by decide +kernel
theorem dX7_act_30 : decode cX7_act 30 = .ok (.iload_n 3, 1) := by decide +kernel
theorem dX7_act_31 : decode cX7_act 31 = .ok (.iload 4, 2) := by decide +kernel
theorem dX7_act_33 : decode cX7_act 33 = .ok (.invokevirtual 153, 3) := by decide +kernel
theorem dX7_act_36 : decode cX7_act 36 = .ok (.ireturn, 1) := by decide +kernel
theorem dX7_refuse_0 : decode cX7_refuse 0 = .ok (.iload_n 0, 1) := by decide +kernel
theorem dX7_refuse_1 : decode cX7_refuse 1 = .ok (.iconst 1, 1) := by decide +kernel
theorem dX7_refuse_2 : decode cX7_refuse 2 = .ok (.if_icmp .ne 13, 3) := by decide +kernel
theorem dX7_refuse_5 : decode cX7_refuse 5 = .ok (.new 156, 3) := by decide +kernel
theorem dX7_refuse_8 : decode cX7_refuse 8 = .ok (.dup, 1) := by decide +kernel
theorem dX7_refuse_9 : decode cX7_refuse 9 = .ok (.ldc 158, 2) := by decide +kernel
theorem dX7_refuse_11 : decode cX7_refuse 11 = .ok (.invokespecial 160, 3) := by decide +kernel
theorem dX7_refuse_14 : decode cX7_refuse 14 = .ok (.athrow, 1) := by decide +kernel
theorem dX7_refuse_15 : decode cX7_refuse 15 = .ok (.iload_n 0, 1) := by decide +kernel
theorem dX7_refuse_16 : decode cX7_refuse 16 = .ok (.iconst 2, 1) := by decide +kernel
theorem dX7_refuse_17 : decode cX7_refuse 17 = .ok (.if_icmp .ne 13, 3) := by decide +kernel
theorem dX7_refuse_20 : decode cX7_refuse 20 = .ok (.new 48, 3) := by decide +kernel
theorem dX7_refuse_23 : decode cX7_refuse 23 = .ok (.dup, 1) := by decide +kernel
theorem dX7_refuse_24 : decode cX7_refuse 24 = .ok (.ldc 161, 2) := by decide +kernel
theorem dX7_refuse_26 : decode cX7_refuse 26 = .ok (.invokespecial 52, 3) := by decide +kernel
theorem dX7_refuse_29 : decode cX7_refuse 29 = .ok (.athrow, 1) := by decide +kernel
theorem dX7_refuse_30 : decode cX7_refuse 30 = .ok (.iload_n 0, 1) := by decide +kernel
theorem dX7_refuse_31 : decode cX7_refuse 31 = .ok (.iconst 3, 1) := by decide +kernel
theorem dX7_refuse_32 : decode cX7_refuse 32 = .ok (.if_icmp .ne 13, 3) := by decide +kernel
theorem dX7_refuse_35 : decode cX7_refuse 35 = .ok (.new 59, 3) := by decide +kernel
theorem dX7_refuse_38 : decode cX7_refuse 38 = .ok (.dup, 1) := by decide +kernel
theorem dX7_refuse_39 : decode cX7_refuse 39 = .ok (.ldc 163, 2) := by decide +kernel
theorem dX7_refuse_41 : decode cX7_refuse 41 = .ok (.invokespecial 63, 3) := by decide +kernel
theorem dX7_refuse_44 : decode cX7_refuse 44 = .ok (.athrow, 1) := by decide +kernel
theorem dX7_refuse_45 : decode cX7_refuse 45 = .ok (.return_, 1) := by decide +kernel
theorem dX7_falls_0 : decode cX7_falls 0 = .ok (.aload_n 0, 1) := by decide +kernel
theorem dX7_falls_1 : decode cX7_falls 1 = .ok (.getfield 12, 3) := by decide +kernel
theorem dX7_falls_4 : decode cX7_falls 4 = .ok (.iconst 3, 1) := by decide +kernel
theorem dX7_falls_5 : decode cX7_falls 5 = .ok (.iload_n 1, 1) := by decide +kernel
theorem dX7_falls_6 : decode cX7_falls 6 = .ok (.iload_n 2, 1) := by decide +kernel
theorem dX7_falls_7 : decode cX7_falls 7 = .ok (.invokevirtual 145, 3) := by decide +kernel
theorem dX7_falls_10 : decode cX7_falls 10 = .ok (.invokestatic 102, 3) := by decide +kernel
theorem dX7_falls_13 : decode cX7_falls 13 = .ok (.aload_n 0, 1) := by decide +kernel
theorem dX7_falls_14 : decode cX7_falls 14 = .ok (.getfield 12, 3) := by decide +kernel
theorem dX7_falls_17 : decode cX7_falls 17 = .ok (.aload_n 0, 1) := by decide +kernel
theorem dX7_falls_18 : decode cX7_falls 18 = .ok (.getfield 12, 3) := by decide +kernel
theorem dX7_falls_21 : decode cX7_falls 21 = .ok (.getfield 115, 3) := by decide +kernel
theorem dX7_falls_24 : decode cX7_falls 24 = .ok (.iload_n 1, 1) := by decide +kernel
theorem dX7_falls_25 : decode cX7_falls 25 = .ok (.iload_n 2, 1) := by decide +kernel
theorem dX7_falls_26 : decode cX7_falls 26 = .ok (.invokevirtual 119, 3) := by decide +kernel
theorem dX7_falls_29 : decode cX7_falls 29 = .ok (.invokevirtual 165, 3) := by decide +kernel
theorem dX7_falls_32 : decode cX7_falls 32 = .ok (.ireturn, 1) := by decide +kernel
theorem dX7_cuts_0 : decode cX7_cuts 0 = .ok (.aload_n 0, 1) := by decide +kernel
theorem dX7_cuts_1 : decode cX7_cuts 1 = .ok (.getfield 12, 3) := by decide +kernel
theorem dX7_cuts_4 : decode cX7_cuts 4 = .ok (.iload_n 1, 1) := by decide +kernel
theorem dX7_cuts_5 : decode cX7_cuts 5 = .ok (.invokevirtual 99, 3) := by decide +kernel
theorem dX7_cuts_8 : decode cX7_cuts 8 = .ok (.invokestatic 102, 3) := by decide +kernel
theorem dX7_cuts_11 : decode cX7_cuts 11 = .ok (.aload_n 0, 1) := by decide +kernel
theorem dX7_cuts_12 : decode cX7_cuts 12 = .ok (.getfield 12, 3) := by decide +kernel
theorem dX7_cuts_15 : decode cX7_cuts 15 = .ok (.iload_n 1, 1) := by decide +kernel
theorem dX7_cuts_16 : decode cX7_cuts 16 = .ok (.invokevirtual 168, 3) := by decide +kernel
theorem dX7_cuts_19 : decode cX7_cuts 19 = .ok (.ifCond .eq 8, 3) := by decide +kernel
theorem dX7_cuts_22 : decode cX7_cuts 22 = .ok (.bipush (-9), 2) := by decide +kernel
theorem dX7_cuts_24 : decode cX7_cuts 24 = .ok (.goto 25, 3) := by decide +kernel
theorem dX7_cuts_27 : decode cX7_cuts 27 = .ok (.aload_n 0, 1) := by decide +kernel
theorem dX7_cuts_28 : decode cX7_cuts 28 = .ok (.getfield 44, 3) := by decide +kernel
theorem dX7_cuts_31 : decode cX7_cuts 31 = .ok (.aload_n 0, 1) := by decide +kernel
theorem dX7_cuts_32 : decode cX7_cuts 32 = .ok (.getfield 12, 3) := by decide +kernel
theorem dX7_cuts_35 : decode cX7_cuts 35 = .ok (.getfield 115, 3) := by decide +kernel
theorem dX7_cuts_38 : decode cX7_cuts 38 = .ok (.aload_n 0, 1) := by decide +kernel
theorem dX7_cuts_39 : decode cX7_cuts 39 = .ok (.getfield 12, 3) := by decide +kernel
theorem dX7_cuts_42 : decode cX7_cuts 42 = .ok (.invokevirtual 171, 3) := by decide +kernel
theorem dX7_cuts_45 : decode cX7_cuts 45 = .ok (.iload_n 1, 1) := by decide +kernel
theorem dX7_cuts_46 : decode cX7_cuts 46 = .ok (.invokevirtual 174, 3) := by decide +kernel
theorem dX7_cuts_49 : decode cX7_cuts 49 = .ok (.ireturn, 1) := by decide +kernel
theorem dX7_heaviest_0 : decode cX7_heaviest 0 = .ok (.iconst (-1), 1) := by decide +kernel
theorem dX7_heaviest_1 : decode cX7_heaviest 1 = .ok (.istore_n 1, 1) := by decide +kernel
theorem dX7_heaviest_2 : decode cX7_heaviest 2 = .ok (.iconst (-1), 1) := by decide +kernel
theorem dX7_heaviest_3 : decode cX7_heaviest 3 = .ok (.istore_n 2, 1) := by decide +kernel
theorem dX7_heaviest_4 : decode cX7_heaviest 4 = .ok (.iconst 0, 1) := by decide +kernel
theorem dX7_heaviest_5 : decode cX7_heaviest 5 = .ok (.istore_n 3, 1) := by decide +kernel
theorem dX7_heaviest_6 : decode cX7_heaviest 6 = .ok (.iload_n 3, 1) := by decide +kernel
theorem dX7_heaviest_7 : decode cX7_heaviest 7 = .ok (.aload_n 0, 1) := by decide +kernel
theorem dX7_heaviest_8 : decode cX7_heaviest 8 = .ok (.getfield 12, 3) := by decide +kernel
theorem dX7_heaviest_11 : decode cX7_heaviest 11 = .ok (.getfield 115, 3) := by decide +kernel
theorem dX7_heaviest_14 : decode cX7_heaviest 14 = .ok (.invokevirtual 178, 3) := by decide +kernel
theorem dX7_heaviest_17 : decode cX7_heaviest 17 = .ok (.if_icmp .ge 30, 3) := by decide +kernel
theorem dX7_heaviest_20 : decode cX7_heaviest 20 = .ok (.aload_n 0, 1) := by decide +kernel
theorem dX7_heaviest_21 : decode cX7_heaviest 21 = .ok (.getfield 12, 3) := by decide +kernel
theorem dX7_heaviest_24 : decode cX7_heaviest 24 = .ok (.iload_n 3, 1) := by decide +kernel
theorem dX7_heaviest_25 : decode cX7_heaviest 25 = .ok (.invokevirtual 165, 3) := by decide +kernel
theorem dX7_heaviest_28 : decode cX7_heaviest 28 = .ok (.istore 4, 2) := by decide +kernel
theorem dX7_heaviest_30 : decode cX7_heaviest 30 = .ok (.iload 4, 2) := by decide +kernel
theorem dX7_heaviest_32 : decode cX7_heaviest 32 = .ok (.iload_n 2, 1) := by decide +kernel
theorem dX7_heaviest_33 : decode cX7_heaviest 33 = .ok (.if_icmp .le 8, 3) := by decide +kernel
theorem dX7_heaviest_36 : decode cX7_heaviest 36 = .ok (.iload 4, 2) := by decide +kernel
theorem dX7_heaviest_38 : decode cX7_heaviest 38 = .ok (.istore_n 2, 1) := by decide +kernel
theorem dX7_heaviest_39 : decode cX7_heaviest 39 = .ok (.iload_n 3, 1) := by decide +kernel
theorem dX7_heaviest_40 : decode cX7_heaviest 40 = .ok (.istore_n 1, 1) := by decide +kernel
theorem dX7_heaviest_41 : decode cX7_heaviest 41 = .ok (.iinc 3 1, 3) := by decide +kernel
theorem dX7_heaviest_44 : decode cX7_heaviest 44 = .ok (.goto (-38), 3) := by decide +kernel
theorem dX7_heaviest_47 : decode cX7_heaviest 47 = .ok (.aload_n 0, 1) := by decide +kernel
theorem dX7_heaviest_48 : decode cX7_heaviest 48 = .ok (.getfield 12, 3) := by decide +kernel
theorem dX7_heaviest_51 : decode cX7_heaviest 51 = .ok (.getfield 115, 3) := by decide +kernel
theorem dX7_heaviest_54 : decode cX7_heaviest 54 = .ok (.iload_n 1, 1) := by decide +kernel
theorem dX7_heaviest_55 : decode cX7_heaviest 55 = .ok (.invokevirtual 129, 3) := by decide +kernel
theorem dX7_heaviest_58 : decode cX7_heaviest 58 = .ok (.ireturn, 1) := by decide +kernel
theorem dX7_rings_0 : decode cX7_rings 0 = .ok (.aload_n 0, 1) := by decide +kernel
theorem dX7_rings_1 : decode cX7_rings 1 = .ok (.getfield 12, 3) := by decide +kernel
theorem dX7_rings_4 : decode cX7_rings 4 = .ok (.invokevirtual 179, 3) := by decide +kernel
theorem dX7_rings_7 : decode cX7_rings 7 = .ok (.ireturn, 1) := by decide +kernel
theorem dX7_takes_0 : decode cX7_takes 0 = .ok (.aload_n 0, 1) := by decide +kernel
theorem dX7_takes_1 : decode cX7_takes 1 = .ok (.getfield 16, 3) := by decide +kernel
theorem dX7_takes_4 : decode cX7_takes 4 = .ok (.aload_n 0, 1) := by decide +kernel
theorem dX7_takes_5 : decode cX7_takes 5 = .ok (.getfield 12, 3) := by decide +kernel
theorem dX7_takes_8 : decode cX7_takes 8 = .ok (.invokevirtual 182, 3) := by decide +kernel
theorem dX7_takes_11 : decode cX7_takes 11 = .ok (.aload_n 0, 1) := by decide +kernel
theorem dX7_takes_12 : decode cX7_takes 12 = .ok (.getfield 16, 3) := by decide +kernel
theorem dX7_takes_15 : decode cX7_takes 15 = .ok (.invokevirtual 185, 3) := by decide +kernel
theorem dX7_takes_18 : decode cX7_takes 18 = .ok (.aload_n 0, 1) := by decide +kernel
theorem dX7_takes_19 : decode cX7_takes 19 = .ok (.getfield 16, 3) := by decide +kernel
theorem dX7_takes_22 : decode cX7_takes 22 = .ok (.invokevirtual 188, 3) := by decide +kernel
theorem dX7_takes_25 : decode cX7_takes 25 = .ok (.aload_n 0, 1) := by decide +kernel
theorem dX7_takes_26 : decode cX7_takes 26 = .ok (.getfield 12, 3) := by decide +kernel
theorem dX7_takes_29 : decode cX7_takes 29 = .ok (.invokevirtual 188, 3) := by decide +kernel
theorem dX7_takes_32 : decode cX7_takes 32 = .ok (.isub, 1) := by decide +kernel
theorem dX7_takes_33 : decode cX7_takes 33 = .ok (.ireturn, 1) := by decide +kernel
theorem dX7_spares_0 : decode cX7_spares 0 = .ok (.aload_n 0, 1) := by decide +kernel
theorem dX7_spares_1 : decode cX7_spares 1 = .ok (.getfield 12, 3) := by decide +kernel
theorem dX7_spares_4 : decode cX7_spares 4 = .ok (.getfield 191, 3) := by decide +kernel
theorem dX7_spares_7 : decode cX7_spares 7 = .ok (.invokevirtual 195, 3) := by decide +kernel
theorem dX7_spares_10 : decode cX7_spares 10 = .ok (.ifCond .ne 5, 3) := by decide +kernel
theorem dX7_spares_13 : decode cX7_spares 13 = .ok (.iconst 0, 1) := by decide +kernel
theorem dX7_spares_14 : decode cX7_spares 14 = .ok (.ireturn, 1) := by decide +kernel
theorem dX7_spares_15 : decode cX7_spares 15 = .ok (.aload_n 0, 1) := by decide +kernel
theorem dX7_spares_16 : decode cX7_spares 16 = .ok (.getfield 16, 3) := by decide +kernel
theorem dX7_spares_19 : decode cX7_spares 19 = .ok (.aload_n 0, 1) := by decide +kernel
theorem dX7_spares_20 : decode cX7_spares 20 = .ok (.getfield 12, 3) := by decide +kernel
theorem dX7_spares_23 : decode cX7_spares 23 = .ok (.invokevirtual 182, 3) := by decide +kernel
theorem dX7_spares_26 : decode cX7_spares 26 = .ok (.aload_n 0, 1) := by decide +kernel
theorem dX7_spares_27 : decode cX7_spares 27 = .ok (.getfield 16, 3) := by decide +kernel
theorem dX7_spares_30 : decode cX7_spares 30 = .ok (.invokevirtual 185, 3) := by decide +kernel
theorem dX7_spares_33 : decode cX7_spares 33 = .ok (.aload_n 0, 1) := by decide +kernel
theorem dX7_spares_34 : decode cX7_spares 34 = .ok (.getfield 16, 3) := by decide +kernel
theorem dX7_spares_37 : decode cX7_spares 37 = .ok (.invokevirtual 200, 3) := by decide +kernel
theorem dX7_spares_40 : decode cX7_spares 40 = .ok (.aload_n 0, 1) := by decide +kernel
theorem dX7_spares_41 : decode cX7_spares 41 = .ok (.getfield 12, 3) := by decide +kernel
theorem dX7_spares_44 : decode cX7_spares 44 = .ok (.invokevirtual 203, 3) := by decide +kernel
theorem dX7_spares_47 : decode cX7_spares 47 = .ok (.iconst (-1), 1) := by decide +kernel
theorem dX7_spares_48 : decode cX7_spares 48 = .ok (.ixor, 1) := by decide +kernel
theorem dX7_spares_49 : decode cX7_spares 49 = .ok (.iand, 1) := by decide +kernel
theorem dX7_spares_50 : decode cX7_spares 50 = .ok (.invokestatic 206, 3) := by decide +kernel
theorem dX7_spares_53 : decode cX7_spares 53 = .ok (.ireturn, 1) := by decide +kernel
theorem dX7_way_0 : decode cX7_way 0 = .ok (.aload_n 0, 1) := by decide +kernel
theorem dX7_way_1 : decode cX7_way 1 = .ok (.getfield 12, 3) := by decide +kernel
theorem dX7_way_4 : decode cX7_way 4 = .ok (.iload_n 1, 1) := by decide +kernel
theorem dX7_way_5 : decode cX7_way 5 = .ok (.invokevirtual 99, 3) := by decide +kernel
theorem dX7_way_8 : decode cX7_way 8 = .ok (.invokestatic 102, 3) := by decide +kernel
theorem dX7_way_11 : decode cX7_way 11 = .ok (.iload_n 2, 1) := by decide +kernel
theorem dX7_way_12 : decode cX7_way 12 = .ok (.ifCond .ge 13, 3) := by decide +kernel
theorem dX7_way_15 : decode cX7_way 15 = .ok (.new 48, 3) := by decide +kernel
theorem dX7_way_18 : decode cX7_way 18 = .ok (.dup, 1) := by decide +kernel
theorem dX7_way_19 : decode cX7_way 19 = .ok (.ldc 127, 2) := by decide +kernel
theorem dX7_way_21 : decode cX7_way 21 = .ok (.invokespecial 52, 3) := by decide +kernel
theorem dX7_way_24 : decode cX7_way 24 = .ok (.athrow, 1) := by decide +kernel
theorem dX7_way_25 : decode cX7_way 25 = .ok (.aload_n 0, 1) := by decide +kernel
theorem dX7_way_26 : decode cX7_way 26 = .ok (.getfield 12, 3) := by decide +kernel
theorem dX7_way_29 : decode cX7_way 29 = .ok (.getfield 115, 3) := by decide +kernel
theorem dX7_way_32 : decode cX7_way 32 = .ok (.aload_n 0, 1) := by decide +kernel
theorem dX7_way_33 : decode cX7_way 33 = .ok (.getfield 12, 3) := by decide +kernel
theorem dX7_way_36 : decode cX7_way 36 = .ok (.invokevirtual 171, 3) := by decide +kernel
theorem dX7_way_39 : decode cX7_way 39 = .ok (.iload_n 1, 1) := by decide +kernel
theorem dX7_way_40 : decode cX7_way 40 = .ok (.iload_n 2, 1) := by decide +kernel
theorem dX7_way_41 : decode cX7_way 41 = .ok (.invokevirtual 211, 3) := by decide +kernel
theorem dX7_way_44 : decode cX7_way 44 = .ok (.ireturn, 1) := by decide +kernel
theorem dX7_runScript_0 : decode cX7_runScript 0 = .ok (.iload_n 1, 1) := by decide +kernel
theorem dX7_runScript_1 : decode cX7_runScript 1 = .ok (.iconst 1, 1) := by decide +kernel
theorem dX7_runScript_2 : decode cX7_runScript 2 = .ok (.if_icmp .lt 8, 3) := by decide +kernel
theorem dX7_runScript_5 : decode cX7_runScript 5 = .ok (.iload_n 1, 1) := by decide +kernel
theorem dX7_runScript_6 : decode cX7_runScript 6 = .ok (.iconst 3, 1) := by decide +kernel
theorem dX7_runScript_7 : decode cX7_runScript 7 = .ok (.if_icmp .le 13, 3) := by decide +kernel
theorem dX7_runScript_10 : decode cX7_runScript 10 = .ok (.new 48, 3) := by decide +kernel
theorem dX7_runScript_13 : decode cX7_runScript 13 = .ok (.dup, 1) := by decide +kernel
theorem dX7_runScript_14 : decode cX7_runScript 14 = .ok (.ldc 214, 2) := by decide +kernel
theorem dX7_runScript_16 : decode cX7_runScript 16 = .ok (.invokespecial 52, 3) := by decide +kernel
theorem dX7_runScript_19 : decode cX7_runScript 19 = .ok (.athrow, 1) := by decide +kernel
theorem dX7_runScript_20 : decode cX7_runScript 20 = .ok (.lload_n 2, 1) := by decide +kernel
theorem dX7_runScript_21 : decode cX7_runScript 21 = .ok (.lconst 0, 1) := by decide +kernel
theorem dX7_runScript_22 : decode cX7_runScript 22 = .ok (.lcmp, 1) := by decide +kernel
theorem dX7_runScript_23 : decode cX7_runScript 23 = .ok (.ifCond .lt 12, 3) := by decide +kernel
theorem dX7_runScript_26 : decode cX7_runScript 26 = .ok (.lload_n 2, 1) := by decide +kernel
theorem dX7_runScript_27 : decode cX7_runScript 27 = .ok (.iload_n 1, 1) := by decide +kernel
theorem dX7_runScript_28 : decode cX7_runScript 28 = .ok (.invokestatic 216, 3) := by decide +kernel
theorem dX7_runScript_31 : decode cX7_runScript 31 = .ok (.lcmp, 1) := by decide +kernel
theorem dX7_runScript_32 : decode cX7_runScript 32 = .ok (.ifCond .lt 13, 3) := by decide +kernel
theorem dX7_runScript_35 : decode cX7_runScript 35 = .ok (.new 48, 3) := by decide +kernel
theorem dX7_runScript_38 : decode cX7_runScript 38 = .ok (.dup, 1) := by decide +kernel
theorem dX7_runScript_39 : decode cX7_runScript 39 = .ok (.ldc 222, 2) := by decide +kernel
theorem dX7_runScript_41 : decode cX7_runScript 41 = .ok (.invokespecial 52, 3) := by decide +kernel
theorem dX7_runScript_44 : decode cX7_runScript 44 = .ok (.athrow, 1) := by decide +kernel
theorem dX7_runScript_45 : decode cX7_runScript 45 = .ok (.aload_n 0, 1) := by decide +kernel
theorem dX7_runScript_46 : decode cX7_runScript 46 = .ok (.getfield 16, 3) := by decide +kernel
theorem dX7_runScript_49 : decode cX7_runScript 49 = .ok (.aload_n 0, 1) := by decide +kernel
theorem dX7_runScript_50 : decode cX7_runScript 50 = .ok (.getfield 12, 3) := by decide +kernel
theorem dX7_runScript_53 : decode cX7_runScript 53 = .ok (.invokevirtual 182, 3) := by decide +kernel
theorem dX7_runScript_56 : decode cX7_runScript 56 = .ok (.iconst 0, 1) := by decide +kernel
theorem dX7_runScript_57 : decode cX7_runScript 57 = .ok (.istore 4, 2) := by decide +kernel
theorem dX7_runScript_59 : decode cX7_runScript 59 = .ok (.iload 4, 2) := by decide +kernel
theorem dX7_runScript_61 : decode cX7_runScript 61 = .ok (.iload_n 1, 1) := by decide +kernel
theorem dX7_runScript_62 : decode cX7_runScript 62 = .ok (.if_icmp .ge 32, 3) := by decide +kernel
theorem dX7_runScript_65 : decode cX7_runScript 65 = .ok (.aload_n 0, 1) := by decide +kernel
theorem dX7_runScript_66 : decode cX7_runScript 66 = .ok (.getfield 16, 3) := by decide +kernel
theorem dX7_runScript_69 : decode cX7_runScript 69 = .ok (.lload_n 2, 1) := by decide +kernel
theorem dX7_runScript_70 : decode cX7_runScript 70 = .ok (.iload_n 1, 1) := by decide +kernel
theorem dX7_runScript_71 : decode cX7_runScript 71 = .ok (.iconst 1, 1) := by decide +kernel
theorem dX7_runScript_72 : decode cX7_runScript 72 = .ok (.isub, 1) := by decide +kernel
theorem dX7_runScript_73 : decode cX7_runScript 73 = .ok (.iload 4, 2) := by decide +kernel
theorem dX7_runScript_75 : decode cX7_runScript 75 = .ok (.isub, 1) := by decide +kernel
theorem dX7_runScript_76 : decode cX7_runScript 76 = .ok (.invokestatic 224, 3) := by decide +kernel
theorem dX7_runScript_79 : decode cX7_runScript 79 = .ok (.invokestatic 228, 3) := by decide +kernel
theorem dX7_runScript_82 : decode cX7_runScript 82 = .ok (.ifCond .ne 6, 3) := by decide +kernel
theorem dX7_runScript_85 : decode cX7_runScript 85 = .ok (.iload 4, 2) := by decide +kernel
theorem dX7_runScript_87 : decode cX7_runScript 87 = .ok (.ireturn, 1) := by decide +kernel
theorem dX7_runScript_88 : decode cX7_runScript 88 = .ok (.iinc 4 1, 3) := by decide +kernel
theorem dX7_runScript_91 : decode cX7_runScript 91 = .ok (.goto (-32), 3) := by decide +kernel
theorem dX7_runScript_94 : decode cX7_runScript 94 = .ok (.bipush (-9), 2) := by decide +kernel
theorem dX7_runScript_96 : decode cX7_runScript 96 = .ok (.ireturn, 1) := by decide +kernel
theorem dX7_simulate_0 : decode cX7_simulate 0 = .ok (.iload_n 3, 1) := by decide +kernel
theorem dX7_simulate_1 : decode cX7_simulate 1 = .ok (.iconst 1, 1) := by decide +kernel
theorem dX7_simulate_2 : decode cX7_simulate 2 = .ok (.if_icmp .lt 10, 3) := by decide +kernel
theorem dX7_simulate_5 : decode cX7_simulate 5 = .ok (.iload_n 3, 1) := by decide +kernel
theorem dX7_simulate_6 : decode cX7_simulate 6 = .ok (.sipush 200, 3) := by decide +kernel
theorem dX7_simulate_9 : decode cX7_simulate 9 = .ok (.if_icmp .le 13, 3) := by decide +kernel
theorem dX7_simulate_12 : decode cX7_simulate 12 = .ok (.new 48, 3) := by decide +kernel
theorem dX7_simulate_15 : decode cX7_simulate 15 = .ok (.dup, 1) := by decide +kernel
theorem dX7_simulate_16 : decode cX7_simulate 16 = .ok (.ldc 232, 2) := by decide +kernel
theorem dX7_simulate_18 : decode cX7_simulate 18 = .ok (.invokespecial 52, 3) := by decide +kernel
theorem dX7_simulate_21 : decode cX7_simulate 21 = .ok (.athrow, 1) := by decide +kernel
theorem dX7_simulate_22 : decode cX7_simulate 22 = .ok (.aload_n 0, 1) := by decide +kernel
theorem dX7_simulate_23 : decode cX7_simulate 23 = .ok (.getfield 16, 3) := by decide +kernel
theorem dX7_simulate_26 : decode cX7_simulate 26 = .ok (.aload_n 0, 1) := by decide +kernel
theorem dX7_simulate_27 : decode cX7_simulate 27 = .ok (.getfield 12, 3) := by decide +kernel
theorem dX7_simulate_30 : decode cX7_simulate 30 = .ok (.invokevirtual 182, 3) := by decide +kernel
theorem dX7_simulate_33 : decode cX7_simulate 33 = .ok (.lload_n 1, 1) := by decide +kernel
theorem dX7_simulate_34 : decode cX7_simulate 34 = .ok (.lstore 4, 2) := by decide +kernel
theorem dX7_simulate_36 : decode cX7_simulate 36 = .ok (.iconst 0, 1) := by decide +kernel
theorem dX7_simulate_37 : decode cX7_simulate 37 = .ok (.istore 6, 2) := by decide +kernel
theorem dX7_simulate_39 : decode cX7_simulate 39 = .ok (.iload 6, 2) := by decide +kernel
theorem dX7_simulate_41 : decode cX7_simulate 41 = .ok (.iload_n 3, 1) := by decide +kernel
theorem dX7_simulate_42 : decode cX7_simulate 42 = .ok (.if_icmp .ge 31, 3) := by decide +kernel
theorem dX7_simulate_45 : decode cX7_simulate 45 = .ok (.lload 4, 2) := by decide +kernel
theorem dX7_simulate_47 : decode cX7_simulate 47 = .ok (.ldc2_w 234, 3) := by decide +kernel
theorem dX7_simulate_50 : decode cX7_simulate 50 = .ok (.lmul, 1) := by decide +kernel
theorem dX7_simulate_51 : decode cX7_simulate 51 = .ok (.ldc2_w 236, 3) := by decide +kernel
theorem dX7_simulate_54 : decode cX7_simulate 54 = .ok (.ladd, 1) := by decide +kernel
theorem dX7_simulate_55 : decode cX7_simulate 55 = .ok (.lstore 4, 2) := by decide +kernel
theorem dX7_simulate_57 : decode cX7_simulate 57 = .ok (.aload_n 0, 1) := by decide +kernel
theorem dX7_simulate_58 : decode cX7_simulate 58 = .ok (.lload 4, 2) := by decide +kernel
theorem dX7_simulate_60 : decode cX7_simulate 60 = .ok (.bipush 33, 2) := by decide +kernel
theorem dX7_simulate_62 : decode cX7_simulate 62 = .ok (.lushr, 1) := by decide +kernel
theorem dX7_simulate_63 : decode cX7_simulate 63 = .ok (.l2i, 1) := by decide +kernel
theorem dX7_simulate_64 : decode cX7_simulate 64 = .ok (.invokevirtual 238, 3) := by decide +kernel
theorem dX7_simulate_67 : decode cX7_simulate 67 = .ok (.iinc 6 1, 3) := by decide +kernel
theorem dX7_simulate_70 : decode cX7_simulate 70 = .ok (.goto (-31), 3) := by decide +kernel
theorem dX7_simulate_73 : decode cX7_simulate 73 = .ok (.sipush 1000, 3) := by decide +kernel
theorem dX7_simulate_76 : decode cX7_simulate 76 = .ok (.aload_n 0, 1) := by decide +kernel
theorem dX7_simulate_77 : decode cX7_simulate 77 = .ok (.getfield 16, 3) := by decide +kernel
theorem dX7_simulate_80 : decode cX7_simulate 80 = .ok (.invokevirtual 188, 3) := by decide +kernel
theorem dX7_simulate_83 : decode cX7_simulate 83 = .ok (.aload_n 0, 1) := by decide +kernel
theorem dX7_simulate_84 : decode cX7_simulate 84 = .ok (.getfield 12, 3) := by decide +kernel
theorem dX7_simulate_87 : decode cX7_simulate 87 = .ok (.invokevirtual 188, 3) := by decide +kernel
theorem dX7_simulate_90 : decode cX7_simulate 90 = .ok (.isub, 1) := by decide +kernel
theorem dX7_simulate_91 : decode cX7_simulate 91 = .ok (.imul, 1) := by decide +kernel
theorem dX7_simulate_92 : decode cX7_simulate 92 = .ok (.aload_n 0, 1) := by decide +kernel
theorem dX7_simulate_93 : decode cX7_simulate 93 = .ok (.getfield 16, 3) := by decide +kernel
theorem dX7_simulate_96 : decode cX7_simulate 96 = .ok (.aload_n 0, 1) := by decide +kernel
theorem dX7_simulate_97 : decode cX7_simulate 97 = .ok (.getfield 16, 3) := by decide +kernel
theorem dX7_simulate_100 : decode cX7_simulate 100 = .ok (.invokevirtual 203, 3) := by decide +kernel
theorem dX7_simulate_103 : decode cX7_simulate 103 = .ok (.invokevirtual 241, 3) := by decide +kernel
theorem dX7_simulate_106 : decode cX7_simulate 106 = .ok (.iadd, 1) := by decide +kernel
theorem dX7_simulate_107 : decode cX7_simulate 107 = .ok (.ireturn, 1) := by decide +kernel
theorem dX7_takeTurn_0 : decode cX7_takeTurn 0 = .ok (.iload_n 1, 1) := by decide +kernel
theorem dX7_takeTurn_1 : decode cX7_takeTurn 1 = .ok (.bipush 16, 2) := by decide +kernel
theorem dX7_takeTurn_3 : decode cX7_takeTurn 3 = .ok (.idiv, 1) := by decide +kernel
theorem dX7_takeTurn_4 : decode cX7_takeTurn 4 = .ok (.bipush 24, 2) := by decide +kernel
theorem dX7_takeTurn_6 : decode cX7_takeTurn 6 = .ok (.irem, 1) := by decide +kernel
theorem dX7_takeTurn_7 : decode cX7_takeTurn 7 = .ok (.istore_n 2, 1) := by decide +kernel
theorem dX7_takeTurn_8 : decode cX7_takeTurn 8 = .ok (.iload_n 1, 1) := by decide +kernel
theorem dX7_takeTurn_9 : decode cX7_takeTurn 9 = .ok (.sipush 512, 3) := by decide +kernel
theorem dX7_takeTurn_12 : decode cX7_takeTurn 12 = .ok (.idiv, 1) := by decide +kernel
theorem dX7_takeTurn_13 : decode cX7_takeTurn 13 = .ok (.bipush 28, 2) := by decide +kernel
theorem dX7_takeTurn_15 : decode cX7_takeTurn 15 = .ok (.irem, 1) := by decide +kernel
theorem dX7_takeTurn_16 : decode cX7_takeTurn 16 = .ok (.iconst 4, 1) := by decide +kernel
theorem dX7_takeTurn_17 : decode cX7_takeTurn 17 = .ok (.isub, 1) := by decide +kernel
theorem dX7_takeTurn_18 : decode cX7_takeTurn 18 = .ok (.istore_n 3, 1) := by decide +kernel
theorem dX7_takeTurn_19 : decode cX7_takeTurn 19 = .ok (.iload_n 1, 1) := by decide +kernel
theorem dX7_takeTurn_20 : decode cX7_takeTurn 20 = .ok (.bipush 8, 2) := by decide +kernel
theorem dX7_takeTurn_22 : decode cX7_takeTurn 22 = .ok (.irem, 1) := by decide +kernel
theorem dX7_takeTurn_23 : decode cX7_takeTurn 23 = .ok (.tableswitch 129 0 5 #[37, 37, 52, 67, 82, 97], 37) := by decide +kernel
theorem dX7_takeTurn_60 : decode cX7_takeTurn 60 = .ok (.aload_n 0, 1) := by decide +kernel
theorem dX7_takeTurn_61 : decode cX7_takeTurn 61 = .ok (.getfield 16, 3) := by decide +kernel
theorem dX7_takeTurn_64 : decode cX7_takeTurn 64 = .ok (.iconst 2, 1) := by decide +kernel
theorem dX7_takeTurn_65 : decode cX7_takeTurn 65 = .ok (.iload_n 3, 1) := by decide +kernel
theorem dX7_takeTurn_66 : decode cX7_takeTurn 66 = .ok (.iload_n 2, 1) := by decide +kernel
theorem dX7_takeTurn_67 : decode cX7_takeTurn 67 = .ok (.iconst 1, 1) := by decide +kernel
theorem dX7_takeTurn_68 : decode cX7_takeTurn 68 = .ok (.invokevirtual 244, 3) := by decide +kernel
theorem dX7_takeTurn_71 : decode cX7_takeTurn 71 = .ok (.pop, 1) := by decide +kernel
theorem dX7_takeTurn_72 : decode cX7_takeTurn 72 = .ok (.goto 113, 3) := by decide +kernel
theorem dX7_takeTurn_75 : decode cX7_takeTurn 75 = .ok (.aload_n 0, 1) := by decide +kernel
theorem dX7_takeTurn_76 : decode cX7_takeTurn 76 = .ok (.getfield 16, 3) := by decide +kernel
theorem dX7_takeTurn_79 : decode cX7_takeTurn 79 = .ok (.iconst 3, 1) := by decide +kernel
theorem dX7_takeTurn_80 : decode cX7_takeTurn 80 = .ok (.iload_n 3, 1) := by decide +kernel
theorem dX7_takeTurn_81 : decode cX7_takeTurn 81 = .ok (.iload_n 2, 1) := by decide +kernel
theorem dX7_takeTurn_82 : decode cX7_takeTurn 82 = .ok (.iconst 0, 1) := by decide +kernel
theorem dX7_takeTurn_83 : decode cX7_takeTurn 83 = .ok (.invokevirtual 244, 3) := by decide +kernel
theorem dX7_takeTurn_86 : decode cX7_takeTurn 86 = .ok (.pop, 1) := by decide +kernel
theorem dX7_takeTurn_87 : decode cX7_takeTurn 87 = .ok (.goto 98, 3) := by decide +kernel
theorem dX7_takeTurn_90 : decode cX7_takeTurn 90 = .ok (.aload_n 0, 1) := by decide +kernel
theorem dX7_takeTurn_91 : decode cX7_takeTurn 91 = .ok (.getfield 16, 3) := by decide +kernel
theorem dX7_takeTurn_94 : decode cX7_takeTurn 94 = .ok (.iconst 4, 1) := by decide +kernel
theorem dX7_takeTurn_95 : decode cX7_takeTurn 95 = .ok (.iload_n 3, 1) := by decide +kernel
theorem dX7_takeTurn_96 : decode cX7_takeTurn 96 = .ok (.iload_n 2, 1) := by decide +kernel
theorem dX7_takeTurn_97 : decode cX7_takeTurn 97 = .ok (.iconst 0, 1) := by decide +kernel
theorem dX7_takeTurn_98 : decode cX7_takeTurn 98 = .ok (.invokevirtual 244, 3) := by decide +kernel
theorem dX7_takeTurn_101 : decode cX7_takeTurn 101 = .ok (.pop, 1) := by decide +kernel
theorem dX7_takeTurn_102 : decode cX7_takeTurn 102 = .ok (.goto 83, 3) := by decide +kernel
theorem dX7_takeTurn_105 : decode cX7_takeTurn 105 = .ok (.aload_n 0, 1) := by decide +kernel
theorem dX7_takeTurn_106 : decode cX7_takeTurn 106 = .ok (.getfield 16, 3) := by decide +kernel
theorem dX7_takeTurn_109 : decode cX7_takeTurn 109 = .ok (.iconst 5, 1) := by decide +kernel
theorem dX7_takeTurn_110 : decode cX7_takeTurn 110 = .ok (.iload_n 3, 1) := by decide +kernel
theorem dX7_takeTurn_111 : decode cX7_takeTurn 111 = .ok (.iload_n 2, 1) := by decide +kernel
theorem dX7_takeTurn_112 : decode cX7_takeTurn 112 = .ok (.iconst 0, 1) := by decide +kernel
theorem dX7_takeTurn_113 : decode cX7_takeTurn 113 = .ok (.invokevirtual 244, 3) := by decide +kernel
theorem dX7_takeTurn_116 : decode cX7_takeTurn 116 = .ok (.pop, 1) := by decide +kernel
theorem dX7_takeTurn_117 : decode cX7_takeTurn 117 = .ok (.goto 68, 3) := by decide +kernel
theorem dX7_takeTurn_120 : decode cX7_takeTurn 120 = .ok (.aload_n 0, 1) := by decide +kernel
theorem dX7_takeTurn_121 : decode cX7_takeTurn 121 = .ok (.getfield 16, 3) := by decide +kernel
theorem dX7_takeTurn_124 : decode cX7_takeTurn 124 = .ok (.bipush 6, 2) := by decide +kernel
theorem dX7_takeTurn_126 : decode cX7_takeTurn 126 = .ok (.bipush (-9), 2) := by decide +kernel
theorem dX7_takeTurn_128 : decode cX7_takeTurn 128 = .ok (.iload_n 2, 1) := by decide +kernel
theorem dX7_takeTurn_129 : decode cX7_takeTurn 129 = .ok (.iload_n 1, 1) := by decide +kernel
theorem dX7_takeTurn_130 : decode cX7_takeTurn 130 = .ok (.sipush 16384, 3) := by decide +kernel
theorem dX7_takeTurn_133 : decode cX7_takeTurn 133 = .ok (.idiv, 1) := by decide +kernel
theorem dX7_takeTurn_134 : decode cX7_takeTurn 134 = .ok (.iconst 2, 1) := by decide +kernel
theorem dX7_takeTurn_135 : decode cX7_takeTurn 135 = .ok (.irem, 1) := by decide +kernel
theorem dX7_takeTurn_136 : decode cX7_takeTurn 136 = .ok (.iconst 1, 1) := by decide +kernel
theorem dX7_takeTurn_137 : decode cX7_takeTurn 137 = .ok (.if_icmp .ne 7, 3) := by decide +kernel
theorem dX7_takeTurn_140 : decode cX7_takeTurn 140 = .ok (.iconst 1, 1) := by decide +kernel
theorem dX7_takeTurn_141 : decode cX7_takeTurn 141 = .ok (.goto 4, 3) := by decide +kernel
theorem dX7_takeTurn_144 : decode cX7_takeTurn 144 = .ok (.iconst 0, 1) := by decide +kernel
theorem dX7_takeTurn_145 : decode cX7_takeTurn 145 = .ok (.invokevirtual 244, 3) := by decide +kernel
theorem dX7_takeTurn_148 : decode cX7_takeTurn 148 = .ok (.pop, 1) := by decide +kernel
theorem dX7_takeTurn_149 : decode cX7_takeTurn 149 = .ok (.goto 36, 3) := by decide +kernel
theorem dX7_takeTurn_152 : decode cX7_takeTurn 152 = .ok (.aload_n 0, 1) := by decide +kernel
theorem dX7_takeTurn_153 : decode cX7_takeTurn 153 = .ok (.getfield 16, 3) := by decide +kernel
theorem dX7_takeTurn_156 : decode cX7_takeTurn 156 = .ok (.aload_n 0, 1) := by decide +kernel
theorem dX7_takeTurn_157 : decode cX7_takeTurn 157 = .ok (.getfield 16, 3) := by decide +kernel
theorem dX7_takeTurn_160 : decode cX7_takeTurn 160 = .ok (.getfield 191, 3) := by decide +kernel
theorem dX7_takeTurn_163 : decode cX7_takeTurn 163 = .ok (.invokevirtual 195, 3) := by decide +kernel
theorem dX7_takeTurn_166 : decode cX7_takeTurn 166 = .ok (.ifCond .eq 8, 3) := by decide +kernel
theorem dX7_takeTurn_169 : decode cX7_takeTurn 169 = .ok (.bipush 8, 2) := by decide +kernel
theorem dX7_takeTurn_171 : decode cX7_takeTurn 171 = .ok (.goto 5, 3) := by decide +kernel
theorem dX7_takeTurn_174 : decode cX7_takeTurn 174 = .ok (.bipush 7, 2) := by decide +kernel
theorem dX7_takeTurn_176 : decode cX7_takeTurn 176 = .ok (.bipush (-9), 2) := by decide +kernel
theorem dX7_takeTurn_178 : decode cX7_takeTurn 178 = .ok (.bipush (-9), 2) := by decide +kernel
theorem dX7_takeTurn_180 : decode cX7_takeTurn 180 = .ok (.iconst 0, 1) := by decide +kernel
theorem dX7_takeTurn_181 : decode cX7_takeTurn 181 = .ok (.invokevirtual 244, 3) := by decide +kernel
theorem dX7_takeTurn_184 : decode cX7_takeTurn 184 = .ok (.pop, 1) := by decide +kernel
theorem dX7_takeTurn_185 : decode cX7_takeTurn 185 = .ok (.return_, 1) := by decide +kernel
theorem dX7_save_0 : decode cX7_save 0 = .ok (.iload_n 1, 1) := by decide +kernel
theorem dX7_save_1 : decode cX7_save 1 = .ok (.ifCond .lt 8, 3) := by decide +kernel
theorem dX7_save_4 : decode cX7_save 4 = .ok (.iload_n 1, 1) := by decide +kernel
theorem dX7_save_5 : decode cX7_save 5 = .ok (.iconst 2, 1) := by decide +kernel
theorem dX7_save_6 : decode cX7_save 6 = .ok (.if_icmp .lt 13, 3) := by decide +kernel
theorem dX7_save_9 : decode cX7_save 9 = .ok (.new 156, 3) := by decide +kernel
theorem dX7_save_12 : decode cX7_save 12 = .ok (.dup, 1) := by decide +kernel
theorem dX7_save_13 : decode cX7_save 13 = .ok (.ldc 248, 2) := by decide +kernel
theorem dX7_save_15 : decode cX7_save 15 = .ok (.invokespecial 160, 3) := by decide +kernel
theorem dX7_save_18 : decode cX7_save 18 = .ok (.athrow, 1) := by decide +kernel
theorem dX7_save_19 : decode cX7_save 19 = .ok (.aload_n 0, 1) := by decide +kernel
theorem dX7_save_20 : decode cX7_save 20 = .ok (.getfield 26, 3) := by decide +kernel
theorem dX7_save_23 : decode cX7_save 23 = .ok (.iload_n 1, 1) := by decide +kernel
theorem dX7_save_24 : decode cX7_save 24 = .ok (.aaload, 1) := by decide +kernel
theorem dX7_save_25 : decode cX7_save 25 = .ok (.astore_n 2, 1) := by decide +kernel
theorem dX7_save_26 : decode cX7_save 26 = .ok (.aload_n 2, 1) := by decide +kernel
theorem dX7_save_27 : decode cX7_save 27 = .ok (.ifnull 18, 3) := by decide +kernel
theorem dX7_save_30 : decode cX7_save 30 = .ok (.aload_n 2, 1) := by decide +kernel
theorem dX7_save_31 : decode cX7_save 31 = .ok (.aload_n 0, 1) := by decide +kernel
theorem dX7_save_32 : decode cX7_save 32 = .ok (.getfield 12, 3) := by decide +kernel
theorem dX7_save_35 : decode cX7_save 35 = .ok (.invokevirtual 182, 3) := by decide +kernel
theorem dX7_save_38 : decode cX7_save 38 = .ok (.aload_n 0, 1) := by decide +kernel
theorem dX7_save_39 : decode cX7_save 39 = .ok (.getfield 30, 3) := by decide +kernel
theorem dX7_save_42 : decode cX7_save 42 = .ok (.iload_n 1, 1) := by decide +kernel
theorem dX7_save_43 : decode cX7_save 43 = .ok (.iconst 1, 1) := by decide +kernel
theorem dX7_save_44 : decode cX7_save 44 = .ok (.bastore, 1) := by decide +kernel
theorem dX7_save_45 : decode cX7_save 45 = .ok (.aload_n 0, 1) := by decide +kernel
theorem dX7_save_46 : decode cX7_save 46 = .ok (.getfield 12, 3) := by decide +kernel
theorem dX7_save_49 : decode cX7_save 49 = .ok (.invokevirtual 200, 3) := by decide +kernel
theorem dX7_save_52 : decode cX7_save 52 = .ok (.invokestatic 206, 3) := by decide +kernel
theorem dX7_save_55 : decode cX7_save 55 = .ok (.ireturn, 1) := by decide +kernel
theorem dX7_restore_0 : decode cX7_restore 0 = .ok (.iload_n 1, 1) := by decide +kernel
theorem dX7_restore_1 : decode cX7_restore 1 = .ok (.ifCond .lt 8, 3) := by decide +kernel
theorem dX7_restore_4 : decode cX7_restore 4 = .ok (.iload_n 1, 1) := by decide +kernel
theorem dX7_restore_5 : decode cX7_restore 5 = .ok (.iconst 2, 1) := by decide +kernel
theorem dX7_restore_6 : decode cX7_restore 6 = .ok (.if_icmp .lt 13, 3) := by decide +kernel
theorem dX7_restore_9 : decode cX7_restore 9 = .ok (.new 156, 3) := by decide +kernel
theorem dX7_restore_12 : decode cX7_restore 12 = .ok (.dup, 1) := by decide +kernel
theorem dX7_restore_13 : decode cX7_restore 13 = .ok (.ldc 248, 2) := by decide +kernel
theorem dX7_restore_15 : decode cX7_restore 15 = .ok (.invokespecial 160, 3) := by decide +kernel
theorem dX7_restore_18 : decode cX7_restore 18 = .ok (.athrow, 1) := by decide +kernel
theorem dX7_restore_19 : decode cX7_restore 19 = .ok (.aload_n 0, 1) := by decide +kernel
theorem dX7_restore_20 : decode cX7_restore 20 = .ok (.getfield 30, 3) := by decide +kernel
theorem dX7_restore_23 : decode cX7_restore 23 = .ok (.iload_n 1, 1) := by decide +kernel
theorem dX7_restore_24 : decode cX7_restore 24 = .ok (.baload, 1) := by decide +kernel
theorem dX7_restore_25 : decode cX7_restore 25 = .ok (.ifCond .ne 13, 3) := by decide +kernel
theorem dX7_restore_28 : decode cX7_restore 28 = .ok (.new 59, 3) := by decide +kernel
theorem dX7_restore_31 : decode cX7_restore 31 = .ok (.dup, 1) := by decide +kernel
theorem dX7_restore_32 : decode cX7_restore 32 = .ok (.ldc 250, 2) := by decide +kernel
theorem dX7_restore_34 : decode cX7_restore 34 = .ok (.invokespecial 63, 3) := by decide +kernel
theorem dX7_restore_37 : decode cX7_restore 37 = .ok (.athrow, 1) := by decide +kernel
theorem dX7_restore_38 : decode cX7_restore 38 = .ok (.aload_n 0, 1) := by decide +kernel
theorem dX7_restore_39 : decode cX7_restore 39 = .ok (.getfield 12, 3) := by decide +kernel
theorem dX7_restore_42 : decode cX7_restore 42 = .ok (.aload_n 0, 1) := by decide +kernel
theorem dX7_restore_43 : decode cX7_restore 43 = .ok (.getfield 26, 3) := by decide +kernel
theorem dX7_restore_46 : decode cX7_restore 46 = .ok (.iload_n 1, 1) := by decide +kernel
theorem dX7_restore_47 : decode cX7_restore 47 = .ok (.aaload, 1) := by decide +kernel
theorem dX7_restore_48 : decode cX7_restore 48 = .ok (.invokevirtual 182, 3) := by decide +kernel
theorem dX7_restore_51 : decode cX7_restore 51 = .ok (.aload_n 0, 1) := by decide +kernel
theorem dX7_restore_52 : decode cX7_restore 52 = .ok (.getfield 22, 3) := by decide +kernel
theorem dX7_restore_55 : decode cX7_restore 55 = .ok (.invokevirtual 80, 3) := by decide +kernel
theorem dX7_restore_58 : decode cX7_restore 58 = .ok (.aload_n 0, 1) := by decide +kernel
theorem dX7_restore_59 : decode cX7_restore 59 = .ok (.getfield 12, 3) := by decide +kernel
theorem dX7_restore_62 : decode cX7_restore 62 = .ok (.invokevirtual 200, 3) := by decide +kernel
theorem dX7_restore_65 : decode cX7_restore 65 = .ok (.invokestatic 206, 3) := by decide +kernel
theorem dX7_restore_68 : decode cX7_restore 68 = .ok (.ireturn, 1) := by decide +kernel
theorem dX7_bitOf_0 : decode cX7_bitOf 0 = .ok (.iload_n 0, 1) := by decide +kernel
theorem dX7_bitOf_1 : decode cX7_bitOf 1 = .ok (.bipush (-4), 2) := by decide +kernel
theorem dX7_bitOf_3 : decode cX7_bitOf 3 = .ok (.if_icmp .lt 17, 3) := by decide +kernel
theorem dX7_bitOf_6 : decode cX7_bitOf 6 = .ok (.iload_n 0, 1) := by decide +kernel
theorem dX7_bitOf_7 : decode cX7_bitOf 7 = .ok (.bipush 24, 2) := by decide +kernel
theorem dX7_bitOf_9 : decode cX7_bitOf 9 = .ok (.if_icmp .ge 11, 3) := by decide +kernel
theorem dX7_bitOf_12 : decode cX7_bitOf 12 = .ok (.iconst 1, 1) := by decide +kernel
theorem dX7_bitOf_13 : decode cX7_bitOf 13 = .ok (.iload_n 0, 1) := by decide +kernel
theorem dX7_bitOf_14 : decode cX7_bitOf 14 = .ok (.iconst 4, 1) := by decide +kernel
theorem dX7_bitOf_15 : decode cX7_bitOf 15 = .ok (.iadd, 1) := by decide +kernel
theorem dX7_bitOf_16 : decode cX7_bitOf 16 = .ok (.ishl, 1) := by decide +kernel
theorem dX7_bitOf_17 : decode cX7_bitOf 17 = .ok (.goto 4, 3) := by decide +kernel
theorem dX7_bitOf_20 : decode cX7_bitOf 20 = .ok (.iconst 0, 1) := by decide +kernel
theorem dX7_bitOf_21 : decode cX7_bitOf 21 = .ok (.ireturn, 1) := by decide +kernel
theorem dJ6_bitCount_0f7a4_0 : decode cJ6_bitCount_0f7a4 0 = .ok (.iload_n 0, 1) := by decide +kernel
theorem dJ6_bitCount_0f7a4_1 : decode cJ6_bitCount_0f7a4 1 = .ok (.iload_n 0, 1) := by decide +kernel
theorem dJ6_bitCount_0f7a4_2 : decode cJ6_bitCount_0f7a4 2 = .ok (.iconst 1, 1) := by decide +kernel
theorem dJ6_bitCount_0f7a4_3 : decode cJ6_bitCount_0f7a4 3 = .ok (.iushr, 1) := by decide +kernel
theorem dJ6_bitCount_0f7a4_4 : decode cJ6_bitCount_0f7a4 4 = .ok (.ldc_w 265, 3) := by decide +kernel
theorem dJ6_bitCount_0f7a4_7 : decode cJ6_bitCount_0f7a4 7 = .ok (.iand, 1) := by decide +kernel
theorem dJ6_bitCount_0f7a4_8 : decode cJ6_bitCount_0f7a4 8 = .ok (.isub, 1) := by decide +kernel
theorem dJ6_bitCount_0f7a4_9 : decode cJ6_bitCount_0f7a4 9 = .ok (.istore_n 0, 1) := by decide +kernel
theorem dJ6_bitCount_0f7a4_10 : decode cJ6_bitCount_0f7a4 10 = .ok (.iload_n 0, 1) := by decide +kernel
theorem dJ6_bitCount_0f7a4_11 : decode cJ6_bitCount_0f7a4 11 = .ok (.ldc_w 266, 3) := by decide +kernel
theorem dJ6_bitCount_0f7a4_14 : decode cJ6_bitCount_0f7a4 14 = .ok (.iand, 1) := by decide +kernel
theorem dJ6_bitCount_0f7a4_15 : decode cJ6_bitCount_0f7a4 15 = .ok (.iload_n 0, 1) := by decide +kernel
theorem dJ6_bitCount_0f7a4_16 : decode cJ6_bitCount_0f7a4 16 = .ok (.iconst 2, 1) := by decide +kernel
theorem dJ6_bitCount_0f7a4_17 : decode cJ6_bitCount_0f7a4 17 = .ok (.iushr, 1) := by decide +kernel
theorem dJ6_bitCount_0f7a4_18 : decode cJ6_bitCount_0f7a4 18 = .ok (.ldc_w 266, 3) := by decide +kernel
theorem dJ6_bitCount_0f7a4_21 : decode cJ6_bitCount_0f7a4 21 = .ok (.iand, 1) := by decide +kernel
theorem dJ6_bitCount_0f7a4_22 : decode cJ6_bitCount_0f7a4 22 = .ok (.iadd, 1) := by decide +kernel
theorem dJ6_bitCount_0f7a4_23 : decode cJ6_bitCount_0f7a4 23 = .ok (.istore_n 0, 1) := by decide +kernel
theorem dJ6_bitCount_0f7a4_24 : decode cJ6_bitCount_0f7a4 24 = .ok (.iload_n 0, 1) := by decide +kernel
theorem dJ6_bitCount_0f7a4_25 : decode cJ6_bitCount_0f7a4 25 = .ok (.iload_n 0, 1) := by decide +kernel
theorem dJ6_bitCount_0f7a4_26 : decode cJ6_bitCount_0f7a4 26 = .ok (.iconst 4, 1) := by decide +kernel
theorem dJ6_bitCount_0f7a4_27 : decode cJ6_bitCount_0f7a4 27 = .ok (.iushr, 1) := by decide +kernel
theorem dJ6_bitCount_0f7a4_28 : decode cJ6_bitCount_0f7a4 28 = .ok (.iadd, 1) := by decide +kernel
theorem dJ6_bitCount_0f7a4_29 : decode cJ6_bitCount_0f7a4 29 = .ok (.ldc_w 267, 3) := by decide +kernel
theorem dJ6_bitCount_0f7a4_32 : decode cJ6_bitCount_0f7a4 32 = .ok (.iand, 1) := by decide +kernel
theorem dJ6_bitCount_0f7a4_33 : decode cJ6_bitCount_0f7a4 33 = .ok (.istore_n 0, 1) := by decide +kernel
theorem dJ6_bitCount_0f7a4_34 : decode cJ6_bitCount_0f7a4 34 = .ok (.iload_n 0, 1) := by decide +kernel
theorem dJ6_bitCount_0f7a4_35 : decode cJ6_bitCount_0f7a4 35 = .ok (.iload_n 0, 1) := by decide +kernel
theorem dJ6_bitCount_0f7a4_36 : decode cJ6_bitCount_0f7a4 36 = .ok (.bipush 8, 2) := by decide +kernel
theorem dJ6_bitCount_0f7a4_38 : decode cJ6_bitCount_0f7a4 38 = .ok (.iushr, 1) := by decide +kernel
theorem dJ6_bitCount_0f7a4_39 : decode cJ6_bitCount_0f7a4 39 = .ok (.iadd, 1) := by decide +kernel
theorem dJ6_bitCount_0f7a4_40 : decode cJ6_bitCount_0f7a4 40 = .ok (.istore_n 0, 1) := by decide +kernel
theorem dJ6_bitCount_0f7a4_41 : decode cJ6_bitCount_0f7a4 41 = .ok (.iload_n 0, 1) := by decide +kernel
theorem dJ6_bitCount_0f7a4_42 : decode cJ6_bitCount_0f7a4 42 = .ok (.iload_n 0, 1) := by decide +kernel
theorem dJ6_bitCount_0f7a4_43 : decode cJ6_bitCount_0f7a4 43 = .ok (.bipush 16, 2) := by decide +kernel
theorem dJ6_bitCount_0f7a4_45 : decode cJ6_bitCount_0f7a4 45 = .ok (.iushr, 1) := by decide +kernel
theorem dJ6_bitCount_0f7a4_46 : decode cJ6_bitCount_0f7a4 46 = .ok (.iadd, 1) := by decide +kernel
theorem dJ6_bitCount_0f7a4_47 : decode cJ6_bitCount_0f7a4 47 = .ok (.istore_n 0, 1) := by decide +kernel
theorem dJ6_bitCount_0f7a4_48 : decode cJ6_bitCount_0f7a4 48 = .ok (.iload_n 0, 1) := by decide +kernel
theorem dJ6_bitCount_0f7a4_49 : decode cJ6_bitCount_0f7a4 49 = .ok (.bipush 63, 2) := by decide +kernel
theorem dJ6_bitCount_0f7a4_51 : decode cJ6_bitCount_0f7a4 51 = .ok (.iand, 1) := by decide +kernel
theorem dJ6_bitCount_0f7a4_52 : decode cJ6_bitCount_0f7a4 52 = .ok (.ireturn, 1) := by decide +kernel
theorem dJ9_floorMod_7cf53_0 : decode cJ9_floorMod_7cf53 0 = .ok (.iload_n 0, 1) := by decide +kernel
theorem dJ9_floorMod_7cf53_1 : decode cJ9_floorMod_7cf53 1 = .ok (.iload_n 1, 1) := by decide +kernel
theorem dJ9_floorMod_7cf53_2 : decode cJ9_floorMod_7cf53 2 = .ok (.irem, 1) := by decide +kernel
theorem dJ9_floorMod_7cf53_3 : decode cJ9_floorMod_7cf53 3 = .ok (.istore_n 2, 1) := by decide +kernel
theorem dJ9_floorMod_7cf53_4 : decode cJ9_floorMod_7cf53 4 = .ok (.iload_n 0, 1) := by decide +kernel
theorem dJ9_floorMod_7cf53_5 : decode cJ9_floorMod_7cf53 5 = .ok (.iload_n 1, 1) := by decide +kernel
theorem dJ9_floorMod_7cf53_6 : decode cJ9_floorMod_7cf53 6 = .ok (.ixor, 1) := by decide +kernel
theorem dJ9_floorMod_7cf53_7 : decode cJ9_floorMod_7cf53 7 = .ok (.ifCond .ge 11, 3) := by decide +kernel
theorem dJ9_floorMod_7cf53_10 : decode cJ9_floorMod_7cf53 10 = .ok (.iload_n 2, 1) := by decide +kernel
theorem dJ9_floorMod_7cf53_11 : decode cJ9_floorMod_7cf53 11 = .ok (.ifCond .eq 7, 3) := by decide +kernel
theorem dJ9_floorMod_7cf53_14 : decode cJ9_floorMod_7cf53 14 = .ok (.iload_n 2, 1) := by decide +kernel
theorem dJ9_floorMod_7cf53_15 : decode cJ9_floorMod_7cf53 15 = .ok (.iload_n 1, 1) := by decide +kernel
theorem dJ9_floorMod_7cf53_16 : decode cJ9_floorMod_7cf53 16 = .ok (.iadd, 1) := by decide +kernel
theorem dJ9_floorMod_7cf53_17 : decode cJ9_floorMod_7cf53 17 = .ok (.ireturn, 1) := by decide +kernel
theorem dJ9_floorMod_7cf53_18 : decode cJ9_floorMod_7cf53 18 = .ok (.iload_n 2, 1) := by decide +kernel
theorem dJ9_floorMod_7cf53_19 : decode cJ9_floorMod_7cf53 19 = .ok (.ireturn, 1) := by decide +kernel
