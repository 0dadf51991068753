theorem dX8_init_0 : decode cX8_init 0 = .ok (.aload_n 0, 1) := by decide +kernel
theorem dX8_init_1 : decode cX8_init 1 = .ok (.invokespecial 1, 3) := by decide +kernel
theorem dX8_init_4 : decode cX8_init 4 = .ok (.aload_n 0, 1) := by decide +kernel
theorem dX8_init_5 : decode cX8_init 5 = .ok (.bipush 120, 2) := by decide +kernel
theorem dX8_init_7 : decode cX8_init 7 = .ok (.newarray .int, 2) := by decide +kernel
theorem dX8_init_9 : decode cX8_init 9 = .ok (.putfield 7, 3) := by decide +kernel
theorem dX8_init_12 : decode cX8_init 12 = .ok (.aload_n 0, 1) := by decide +kernel
theorem dX8_init_13 : decode cX8_init 13 = .ok (.sipush 247, 3) := by decide +kernel
theorem dX8_init_16 : decode cX8_init 16 = .ok (.newarray .int, 2) := by decide +kernel
theorem dX8_init_18 : decode cX8_init 18 = .ok (.putfield 13, 3) := by decide +kernel
theorem dX8_init_21 : decode cX8_init 21 = .ok (.aload_n 0, 1) := by decide +kernel
theorem dX8_init_22 : decode cX8_init 22 = .ok (.sipush 247, 3) := by decide +kernel
theorem dX8_init_25 : decode cX8_init 25 = .ok (.newarray .int, 2) := by decide +kernel
theorem dX8_init_27 : decode cX8_init 27 = .ok (.putfield 16, 3) := by decide +kernel
theorem dX8_init_30 : decode cX8_init 30 = .ok (.aload_n 0, 1) := by decide +kernel
theorem dX8_init_31 : decode cX8_init 31 = .ok (.sipush 247, 3) := by decide +kernel
theorem dX8_init_34 : decode cX8_init 34 = .ok (.newarray .int, 2) := by decide +kernel
theorem dX8_init_36 : decode cX8_init 36 = .ok (.putfield 19, 3) := by decide +kernel
theorem dX8_init_39 : decode cX8_init 39 = .ok (.aload_n 0, 1) := by decide +kernel
theorem dX8_init_40 : decode cX8_init 40 = .ok (.sipush 3458, 3) := by decide +kernel
theorem dX8_init_43 : decode cX8_init 43 = .ok (.newarray .int, 2) := by decide +kernel
theorem dX8_init_45 : decode cX8_init 45 = .ok (.putfield 22, 3) := by decide +kernel
theorem dX8_init_48 : decode cX8_init 48 = .ok (.aload_n 0, 1) := by decide +kernel
theorem dX8_init_49 : decode cX8_init 49 = .ok (.sipush 494, 3) := by decide +kernel
theorem dX8_init_52 : decode cX8_init 52 = .ok (.newarray .int, 2) := by decide +kernel
theorem dX8_init_54 : decode cX8_init 54 = .ok (.putfield 25, 3) := by decide +kernel
theorem dX8_init_57 : decode cX8_init 57 = .ok (.aload_n 0, 1) := by decide +kernel
theorem dX8_init_58 : decode cX8_init 58 = .ok (.iconst 2, 1) := by decide +kernel
theorem dX8_init_59 : decode cX8_init 59 = .ok (.newarray .boolean, 2) := by decide +kernel
theorem dX8_init_61 : decode cX8_init 61 = .ok (.putfield 28, 3) := by decide +kernel
theorem dX8_init_64 : decode cX8_init 64 = .ok (.aload_n 0, 1) := by decide +kernel
theorem dX8_init_65 : decode cX8_init 65 = .ok (.bipush 24, 2) := by decide +kernel
theorem dX8_init_67 : decode cX8_init 67 = .ok (.newarray .int, 2) := by decide +kernel
theorem dX8_init_69 : decode cX8_init 69 = .ok (.putfield 32, 3) := by decide +kernel
theorem dX8_init_72 : decode cX8_init 72 = .ok (.aload_n 0, 1) := by decide +kernel
theorem dX8_init_73 : decode cX8_init 73 = .ok (.bipush 24, 2) := by decide +kernel
theorem dX8_init_75 : decode cX8_init 75 = .ok (.newarray .boolean, 2) := by decide +kernel
theorem dX8_init_77 : decode cX8_init 77 = .ok (.putfield 35, 3) := by decide +kernel
theorem dX8_init_80 : decode cX8_init 80 = .ok (.aload_n 0, 1) := by decide +kernel
theorem dX8_init_81 : decode cX8_init 81 = .ok (.bipush 40, 2) := by decide +kernel
theorem dX8_init_83 : decode cX8_init 83 = .ok (.newarray .boolean, 2) := by decide +kernel
theorem dX8_init_85 : decode cX8_init 85 = .ok (.putfield 38, 3) := by decide +kernel
theorem dX8_init_88 : decode cX8_init 88 = .ok (.aload_n 0, 1) := by decide +kernel
theorem dX8_init_89 : decode cX8_init 89 = .ok (.bipush 24, 2) := by decide +kernel
theorem dX8_init_91 : decode cX8_init 91 = .ok (.newarray .int, 2) := by decide +kernel
theorem dX8_init_93 : decode cX8_init 93 = .ok (.putfield 41, 3) := by decide +kernel
theorem dX8_init_96 : decode cX8_init 96 = .ok (.aload_n 0, 1) := by decide +kernel
theorem dX8_init_97 : decode cX8_init 97 = .ok (.bipush 24, 2) := by decide +kernel
theorem dX8_init_99 : decode cX8_init 99 = .ok (.newarray .int, 2) := by decide +kernel
theorem dX8_init_101 : decode cX8_init 101 = .ok (.putfield 44, 3) := by decide +kernel
theorem dX8_init_104 : decode cX8_init 104 = .ok (.return_, 1) := by decide +kernel
theorem dX8_thrown_0 : decode cX8_thrown 0 = .ok (.aload_n 0, 1) := by decide +kernel
theorem dX8_thrown_1 : decode cX8_thrown 1 = .ok (.getfield 47, 3) := by decide +kernel
theorem dX8_thrown_4 : decode cX8_thrown 4 = .ok (.ireturn, 1) := by decide +kernel
theorem dX8_refused_0 : decode cX8_refused 0 = .ok (.aload_n 0, 1) := by decide +kernel
theorem dX8_refused_1 : decode cX8_refused 1 = .ok (.iload_n 1, 1) := by decide +kernel
theorem dX8_refused_2 : decode cX8_refused 2 = .ok (.putfield 47, 3) := by decide +kernel
theorem dX8_refused_5 : decode cX8_refused 5 = .ok (.iload_n 1, 1) := by decide +kernel
theorem dX8_refused_6 : decode cX8_refused 6 = .ok (.ifCond .le 7, 3) := by decide +kernel
theorem dX8_refused_9 : decode cX8_refused 9 = .ok (.iconst 1, 1) := by decide +kernel
theorem dX8_refused_10 : decode cX8_refused 10 = .ok (.goto 4, 3) := by decide +kernel
theorem dX8_refused_13 : decode cX8_refused 13 = .ok (.iconst 0, 1) := by decide +kernel
theorem dX8_refused_14 : decode cX8_refused 14 = .ok (.ireturn, 1) := by decide +kernel
theorem dX8_in_0 : decode cX8_in 0 = .ok (.lload_n 0, 1) := by decide +kernel
theorem dX8_in_1 : decode cX8_in 1 = .ok (.lload_n 2, 1) := by decide +kernel
theorem dX8_in_2 : decode cX8_in 2 = .ok (.lcmp, 1) := by decide +kernel
theorem dX8_in_3 : decode cX8_in 3 = .ok (.ifCond .lt 14, 3) := by decide +kernel
theorem dX8_in_6 : decode cX8_in 6 = .ok (.lload_n 0, 1) := by decide +kernel
theorem dX8_in_7 : decode cX8_in 7 = .ok (.lload 4, 2) := by decide +kernel
theorem dX8_in_9 : decode cX8_in 9 = .ok (.lcmp, 1) := by decide +kernel
theorem dX8_in_10 : decode cX8_in 10 = .ok (.ifCond .gt 7, 3) := by decide +kernel
theorem dX8_in_13 : decode cX8_in 13 = .ok (.iconst 1, 1) := by decide +kernel
theorem dX8_in_14 : decode cX8_in 14 = .ok (.goto 4, 3) := by decide +kernel
theorem dX8_in_17 : decode cX8_in 17 = .ok (.iconst 0, 1) := by decide +kernel
theorem dX8_in_18 : decode cX8_in 18 = .ok (.ireturn, 1) := by decide +kernel
theorem dX8_copy_0 : decode cX8_copy 0 = .ok (.iconst 0, 1) := by decide +kernel
theorem dX8_copy_1 : decode cX8_copy 1 = .ok (.istore 5, 2) := by decide +kernel
theorem dX8_copy_3 : decode cX8_copy 3 = .ok (.iload 5, 2) := by decide +kernel
theorem dX8_copy_5 : decode cX8_copy 5 = .ok (.iload 4, 2) := by decide +kernel
theorem dX8_copy_7 : decode cX8_copy 7 = .ok (.if_icmp .ge 21, 3) := by decide +kernel
theorem dX8_copy_10 : decode cX8_copy 10 = .ok (.aload_n 2, 1) := by decide +kernel
theorem dX8_copy_11 : decode cX8_copy 11 = .ok (.iload_n 3, 1) := by decide +kernel
theorem dX8_copy_12 : decode cX8_copy 12 = .ok (.iload 5, 2) := by decide +kernel
theorem dX8_copy_14 : decode cX8_copy 14 = .ok (.iadd, 1) := by decide +kernel
theorem dX8_copy_15 : decode cX8_copy 15 = .ok (.aload_n 0, 1) := by decide +kernel
theorem dX8_copy_16 : decode cX8_copy 16 = .ok (.iload_n 1, 1) := by decide +kernel
theorem dX8_copy_17 : decode cX8_copy 17 = .ok (.iload 5, 2) := by decide +kernel
theorem dX8_copy_19 : decode cX8_copy 19 = .ok (.iadd, 1) := by decide +kernel
theorem dX8_copy_20 : decode cX8_copy 20 = .ok (.iaload, 1) := by decide +kernel
theorem dX8_copy_21 : decode cX8_copy 21 = .ok (.iastore, 1) := by decide +kernel
theorem dX8_copy_22 : decode cX8_copy 22 = .ok (.iinc 5 1, 3) := by decide +kernel
theorem dX8_copy_25 : decode cX8_copy 25 = .ok (.goto (-22), 3) := by decide +kernel
theorem dX8_copy_28 : decode cX8_copy 28 = .ok (.return_, 1) := by decide +kernel
theorem dX8_tenTo_0 : decode cX8_tenTo 0 = .ok (.lconst 1, 1) := by decide +kernel
theorem dX8_tenTo_1 : decode cX8_tenTo 1 = .ok (.lstore_n 1, 1) := by decide +kernel
theorem dX8_tenTo_2 : decode cX8_tenTo 2 = .ok (.iconst 0, 1) := by decide +kernel
theorem dX8_tenTo_3 : decode cX8_tenTo 3 = .ok (.istore_n 3, 1) := by decide +kernel
theorem dX8_tenTo_4 : decode cX8_tenTo 4 = .ok (.iload_n 3, 1) := by decide +kernel
theorem dX8_tenTo_5 : decode cX8_tenTo 5 = .ok (.iload_n 0, 1) := by decide +kernel
theorem dX8_tenTo_6 : decode cX8_tenTo 6 = .ok (.if_icmp .ge 15, 3) := by decide +kernel
theorem dX8_tenTo_9 : decode cX8_tenTo 9 = .ok (.lload_n 1, 1) := by decide +kernel
theorem dX8_tenTo_10 : decode cX8_tenTo 10 = .ok (.ldc2_w 51, 3) := by decide +kernel
theorem dX8_tenTo_13 : decode cX8_tenTo 13 = .ok (.lmul, 1) := by decide +kernel
theorem dX8_tenTo_14 : decode cX8_tenTo 14 = .ok (.lstore_n 1, 1) := by decide +kernel
theorem dX8_tenTo_15 : decode cX8_tenTo 15 = .ok (.iinc 3 1, 3) := by decide +kernel
theorem dX8_tenTo_18 : decode cX8_tenTo 18 = .ok (.goto (-14), 3) := by decide +kernel
theorem dX8_tenTo_21 : decode cX8_tenTo 21 = .ok (.lload_n 1, 1) := by decide +kernel
theorem dX8_tenTo_22 : decode cX8_tenTo 22 = .ok (.lreturn, 1) := by decide +kernel
theorem dX8_remember_0 : decode cX8_remember 0 = .ok (.aload_n 0, 1) := by decide +kernel
theorem dX8_remember_1 : decode cX8_remember 1 = .ok (.getfield 53, 3) := by decide +kernel
theorem dX8_remember_4 : decode cX8_remember 4 = .ok (.bipush 14, 2) := by decide +kernel
theorem dX8_remember_6 : decode cX8_remember 6 = .ok (.if_icmp .ne 31, 3) := by decide +kernel
theorem dX8_remember_9 : decode cX8_remember 9 = .ok (.aload_n 0, 1) := by decide +kernel
theorem dX8_remember_10 : decode cX8_remember 10 = .ok (.getfield 22, 3) := by decide +kernel
theorem dX8_remember_13 : decode cX8_remember 13 = .ok (.sipush 247, 3) := by decide +kernel
theorem dX8_remember_16 : decode cX8_remember 16 = .ok (.aload_n 0, 1) := by decide +kernel
theorem dX8_remember_17 : decode cX8_remember 17 = .ok (.getfield 22, 3) := by decide +kernel
theorem dX8_remember_20 : decode cX8_remember 20 = .ok (.iconst 0, 1) := by decide +kernel
theorem dX8_remember_21 : decode cX8_remember 21 = .ok (.sipush 3211, 3) := by decide +kernel
theorem dX8_remember_24 : decode cX8_remember 24 = .ok (.invokestatic 56, 3) := by decide +kernel
theorem dX8_remember_27 : decode cX8_remember 27 = .ok (.aload_n 0, 1) := by decide +kernel
theorem dX8_remember_28 : decode cX8_remember 28 = .ok (.dup, 1) := by decide +kernel
theorem dX8_remember_29 : decode cX8_remember 29 = .ok (.getfield 53, 3) := by decide +kernel
theorem dX8_remember_32 : decode cX8_remember 32 = .ok (.iconst 1, 1) := by decide +kernel
theorem dX8_remember_33 : decode cX8_remember 33 = .ok (.isub, 1) := by decide +kernel
theorem dX8_remember_34 : decode cX8_remember 34 = .ok (.putfield 53, 3) := by decide +kernel
theorem dX8_remember_37 : decode cX8_remember 37 = .ok (.aload_n 0, 1) := by decide +kernel
theorem dX8_remember_38 : decode cX8_remember 38 = .ok (.getfield 16, 3) := by decide +kernel
theorem dX8_remember_41 : decode cX8_remember 41 = .ok (.iconst 0, 1) := by decide +kernel
theorem dX8_remember_42 : decode cX8_remember 42 = .ok (.aload_n 0, 1) := by decide +kernel
theorem dX8_remember_43 : decode cX8_remember 43 = .ok (.getfield 22, 3) := by decide +kernel
theorem dX8_remember_46 : decode cX8_remember 46 = .ok (.sipush 247, 3) := by decide +kernel
theorem dX8_remember_49 : decode cX8_remember 49 = .ok (.aload_n 0, 1) := by decide +kernel
theorem dX8_remember_50 : decode cX8_remember 50 = .ok (.getfield 53, 3) := by decide +kernel
theorem dX8_remember_53 : decode cX8_remember 53 = .ok (.imul, 1) := by decide +kernel
theorem dX8_remember_54 : decode cX8_remember 54 = .ok (.sipush 247, 3) := by decide +kernel
theorem dX8_remember_57 : decode cX8_remember 57 = .ok (.invokestatic 56, 3) := by decide +kernel
theorem dX8_remember_60 : decode cX8_remember 60 = .ok (.aload_n 0, 1) := by decide +kernel
theorem dX8_remember_61 : decode cX8_remember 61 = .ok (.dup, 1) := by decide +kernel
theorem dX8_remember_62 : decode cX8_remember 62 = .ok (.getfield 53, 3) := by decide +kernel
theorem dX8_remember_65 : decode cX8_remember 65 = .ok (.iconst 1, 1) := by decide +kernel
theorem dX8_remember_66 : decode cX8_remember 66 = .ok (.iadd, 1) := by decide +kernel
theorem dX8_remember_67 : decode cX8_remember 67 = .ok (.putfield 53, 3) := by decide +kernel
theorem dX8_remember_70 : decode cX8_remember 70 = .ok (.return_, 1) := by decide +kernel
theorem dX8_tryIt_0 : decode cX8_tryIt 0 = .ok (.aload_n 0, 1) := by decide +kernel
theorem dX8_tryIt_1 : decode cX8_tryIt 1 = .ok (.getfield 16, 3) := by decide +kernel
theorem dX8_tryIt_4 : decode cX8_tryIt 4 = .ok (.iconst 0, 1) := by decide +kernel
theorem dX8_tryIt_5 : decode cX8_tryIt 5 = .ok (.aload_n 0, 1) := by decide +kernel
theorem dX8_tryIt_6 : decode cX8_tryIt 6 = .ok (.getfield 19, 3) := by decide +kernel
theorem dX8_tryIt_9 : decode cX8_tryIt 9 = .ok (.iconst 0, 1) := by decide +kernel
theorem dX8_tryIt_10 : decode cX8_tryIt 10 = .ok (.sipush 247, 3) := by decide +kernel
theorem dX8_tryIt_13 : decode cX8_tryIt 13 = .ok (.invokestatic 56, 3) := by decide +kernel
theorem dX8_tryIt_16 : decode cX8_tryIt 16 = .ok (.return_, 1) := by decide +kernel
theorem dX8_partAt_0 : decode cX8_partAt 0 = .ok (.bipush 7, 2) := by decide +kernel
theorem dX8_partAt_2 : decode cX8_partAt 2 = .ok (.iconst 4, 1) := by decide +kernel
theorem dX8_partAt_3 : decode cX8_partAt 3 = .ok (.iload_n 0, 1) := by decide +kernel
theorem dX8_partAt_4 : decode cX8_partAt 4 = .ok (.imul, 1) := by decide +kernel
theorem dX8_partAt_5 : decode cX8_partAt 5 = .ok (.iadd, 1) := by decide +kernel
theorem dX8_partAt_6 : decode cX8_partAt 6 = .ok (.iload_n 1, 1) := by decide +kernel
theorem dX8_partAt_7 : decode cX8_partAt 7 = .ok (.iadd, 1) := by decide +kernel
theorem dX8_partAt_8 : decode cX8_partAt 8 = .ok (.ireturn, 1) := by decide +kernel
theorem dX8_cordAt_0 : decode cX8_cordAt 0 = .ok (.bipush 103, 2) := by decide +kernel
theorem dX8_cordAt_2 : decode cX8_cordAt 2 = .ok (.iconst 3, 1) := by decide +kernel
theorem dX8_cordAt_3 : decode cX8_cordAt 3 = .ok (.iload_n 0, 1) := by decide +kernel
theorem dX8_cordAt_4 : decode cX8_cordAt 4 = .ok (.imul, 1) := by decide +kernel
theorem dX8_cordAt_5 : decode cX8_cordAt 5 = .ok (.iadd, 1) := by decide +kernel
theorem dX8_cordAt_6 : decode cX8_cordAt 6 = .ok (.iload_n 1, 1) := by decide +kernel
theorem dX8_cordAt_7 : decode cX8_cordAt 7 = .ok (.iadd, 1) := by decide +kernel
theorem dX8_cordAt_8 : decode cX8_cordAt 8 = .ok (.ireturn, 1) := by decide +kernel
theorem dX8_isPart_0 : decode cX8_isPart 0 = .ok (.iload_n 1, 1) := by decide +kernel
theorem dX8_isPart_1 : decode cX8_isPart 1 = .ok (.i2l, 1) := by decide +kernel
theorem dX8_isPart_2 : decode cX8_isPart 2 = .ok (.lconst 0, 1) := by decide +kernel
theorem dX8_isPart_3 : decode cX8_isPart 3 = .ok (.aload_n 0, 1) := by decide +kernel
theorem dX8_isPart_4 : decode cX8_isPart 4 = .ok (.iconst 0, 1) := by decide +kernel
theorem dX8_isPart_5 : decode cX8_isPart 5 = .ok (.iaload, 1) := by decide +kernel
theorem dX8_isPart_6 : decode cX8_isPart 6 = .ok (.iconst 1, 1) := by decide +kernel
theorem dX8_isPart_7 : decode cX8_isPart 7 = .ok (.isub, 1) := by decide +kernel
theorem dX8_isPart_8 : decode cX8_isPart 8 = .ok (.i2l, 1) := by decide +kernel
theorem dX8_isPart_9 : decode cX8_isPart 9 = .ok (.invokestatic 60, 3) := by decide +kernel
theorem dX8_isPart_12 : decode cX8_isPart 12 = .ok (.ifCond .eq 34, 3) := by decide +kernel
theorem dX8_isPart_15 : decode cX8_isPart 15 = .ok (.aload_n 0, 1) := by decide +kernel
theorem dX8_isPart_16 : decode cX8_isPart 16 = .ok (.iload_n 1, 1) := by decide +kernel
theorem dX8_isPart_17 : decode cX8_isPart 17 = .ok (.i2l, 1) := by decide +kernel
theorem dX8_isPart_18 : decode cX8_isPart 18 = .ok (.lconst 0, 1) := by decide +kernel
theorem dX8_isPart_19 : decode cX8_isPart 19 = .ok (.ldc2_w 64, 3) := by decide +kernel
theorem dX8_isPart_22 : decode cX8_isPart 22 = .ok (.invokestatic 60, 3) := by decide +kernel
theorem dX8_isPart_25 : decode cX8_isPart 25 = .ok (.ifCond .eq 7, 3) := by decide +kernel
theorem dX8_isPart_28 : decode cX8_isPart 28 = .ok (.iload_n 1, 1) := by decide +kernel
theorem dX8_isPart_29 : decode cX8_isPart 29 = .ok (.goto 4, 3) := by decide +kernel
theorem dX8_isPart_32 : decode cX8_isPart 32 = .ok (.iconst 0, 1) := by decide +kernel
theorem dX8_isPart_33 : decode cX8_isPart 33 = .ok (.iconst 1, 1) := by decide +kernel
theorem dX8_isPart_34 : decode cX8_isPart 34 = .ok (.invokestatic 66, 3) := by decide +kernel
theorem dX8_isPart_37 : decode cX8_isPart 37 = .ok (.iaload, 1) := by decide +kernel
theorem dX8_isPart_38 : decode cX8_isPart 38 = .ok (.iconst 1, 1) := by decide +kernel
theorem dX8_isPart_39 : decode cX8_isPart 39 = .ok (.if_icmp .ne 7, 3) := by decide +kernel
theorem dX8_isPart_42 : decode cX8_isPart 42 = .ok (.iconst 1, 1) := by decide +kernel
theorem dX8_isPart_43 : decode cX8_isPart 43 = .ok (.goto 4, 3) := by decide +kernel
theorem dX8_isPart_46 : decode cX8_isPart 46 = .ok (.iconst 0, 1) := by decide +kernel
theorem dX8_isPart_47 : decode cX8_isPart 47 = .ok (.ireturn, 1) := by decide +kernel
theorem dX8_isThing_0 : decode cX8_isThing 0 = .ok (.iload_n 1, 1) := by decide +kernel
theorem dX8_isThing_1 : decode cX8_isThing 1 = .ok (.i2l, 1) := by decide +kernel
theorem dX8_isThing_2 : decode cX8_isThing 2 = .ok (.ldc2_w 70, 3) := by decide +kernel
theorem dX8_isThing_5 : decode cX8_isThing 5 = .ok (.ldc2_w 72, 3) := by decide +kernel
theorem dX8_isThing_8 : decode cX8_isThing 8 = .ok (.invokestatic 60, 3) := by decide +kernel
theorem dX8_isThing_11 : decode cX8_isThing 11 = .ok (.ifCond .ne 11, 3) := by decide +kernel
theorem dX8_isThing_14 : decode cX8_isThing 14 = .ok (.aload_n 0, 1) := by decide +kernel
theorem dX8_isThing_15 : decode cX8_isThing 15 = .ok (.iload_n 1, 1) := by decide +kernel
theorem dX8_isThing_16 : decode cX8_isThing 16 = .ok (.invokestatic 74, 3) := by decide +kernel
theorem dX8_isThing_19 : decode cX8_isThing 19 = .ok (.ifCond .eq 7, 3) := by decide +kernel
theorem dX8_isThing_22 : decode cX8_isThing 22 = .ok (.iconst 1, 1) := by decide +kernel
theorem dX8_isThing_23 : decode cX8_isThing 23 = .ok (.goto 4, 3) := by decide +kernel
theorem dX8_isThing_26 : decode cX8_isThing 26 = .ok (.iconst 0, 1) := by decide +kernel
theorem dX8_isThing_27 : decode cX8_isThing 27 = .ok (.ireturn, 1) := by decide +kernel
theorem dX8_find_0 : decode cX8_find 0 = .ok (.bipush (-9), 2) := by decide +kernel
theorem dX8_find_2 : decode cX8_find 2 = .ok (.istore_n 3, 1) := by decide +kernel
theorem dX8_find_3 : decode cX8_find 3 = .ok (.iconst 0, 1) := by decide +kernel
theorem dX8_find_4 : decode cX8_find 4 = .ok (.istore 4, 2) := by decide +kernel
theorem dX8_find_6 : decode cX8_find 6 = .ok (.iload 4, 2) := by decide +kernel
theorem dX8_find_8 : decode cX8_find 8 = .ok (.aload_n 0, 1) := by decide +kernel
theorem dX8_find_9 : decode cX8_find 9 = .ok (.iconst 2, 1) := by decide +kernel
theorem dX8_find_10 : decode cX8_find 10 = .ok (.iaload, 1) := by decide +kernel
theorem dX8_find_11 : decode cX8_find 11 = .ok (.if_icmp .ge 40, 3) := by decide +kernel
theorem dX8_find_14 : decode cX8_find 14 = .ok (.aload_n 0, 1) := by decide +kernel
theorem dX8_find_15 : decode cX8_find 15 = .ok (.iload 4, 2) := by decide +kernel
theorem dX8_find_17 : decode cX8_find 17 = .ok (.iconst 0, 1) := by decide +kernel
theorem dX8_find_18 : decode cX8_find 18 = .ok (.invokestatic 78, 3) := by decide +kernel
theorem dX8_find_21 : decode cX8_find 21 = .ok (.iaload, 1) := by decide +kernel
theorem dX8_find_22 : decode cX8_find 22 = .ok (.iload_n 1, 1) := by decide +kernel
theorem dX8_find_23 : decode cX8_find 23 = .ok (.if_icmp .ne 20, 3) := by decide +kernel
theorem dX8_find_26 : decode cX8_find 26 = .ok (.aload_n 0, 1) := by decide +kernel
theorem dX8_find_27 : decode cX8_find 27 = .ok (.iload 4, 2) := by decide +kernel
theorem dX8_find_29 : decode cX8_find 29 = .ok (.iconst 1, 1) := by decide +kernel
theorem dX8_find_30 : decode cX8_find 30 = .ok (.invokestatic 78, 3) := by decide +kernel
theorem dX8_find_33 : decode cX8_find 33 = .ok (.iaload, 1) := by decide +kernel
theorem dX8_find_34 : decode cX8_find 34 = .ok (.iload_n 2, 1) := by decide +kernel
theorem dX8_find_35 : decode cX8_find 35 = .ok (.if_icmp .ne 8, 3) := by decide +kernel
theorem dX8_find_38 : decode cX8_find 38 = .ok (.iload 4, 2) := by decide +kernel
theorem dX8_find_40 : decode cX8_find 40 = .ok (.goto 4, 3) := by decide +kernel
theorem dX8_find_43 : decode cX8_find 43 = .ok (.iload_n 3, 1) := by decide +kernel
theorem dX8_find_44 : decode cX8_find 44 = .ok (.istore_n 3, 1) := by decide +kernel
theorem dX8_find_45 : decode cX8_find 45 = .ok (.iinc 4 1, 3) := by decide +kernel
theorem dX8_find_48 : decode cX8_find 48 = .ok (.goto (-42), 3) := by decide +kernel
theorem dX8_find_51 : decode cX8_find 51 = .ok (.iload_n 3, 1) := by decide +kernel
theorem dX8_find_52 : decode cX8_find 52 = .ok (.ireturn, 1) := by decide +kernel
theorem dX8_lay_0 : decode cX8_lay 0 = .ok (.iconst 0, 1) := by decide +kernel
theorem dX8_lay_1 : decode cX8_lay 1 = .ok (.istore_n 2, 1) := by decide +kernel
theorem dX8_lay_2 : decode cX8_lay 2 = .ok (.iload_n 2, 1) := by decide +kernel
theorem dX8_lay_3 : decode cX8_lay 3 = .ok (.bipush 24, 2) := by decide +kernel
theorem dX8_lay_5 : decode cX8_lay 5 = .ok (.if_icmp .ge 40, 3) := by decide +kernel
theorem dX8_lay_8 : decode cX8_lay 8 = .ok (.aload_n 0, 1) := by decide +kernel
theorem dX8_lay_9 : decode cX8_lay 9 = .ok (.getfield 32, 3) := by decide +kernel
theorem dX8_lay_12 : decode cX8_lay 12 = .ok (.iload_n 2, 1) := by decide +kernel
theorem dX8_lay_13 : decode cX8_lay 13 = .ok (.aload_n 1, 1) := by decide +kernel
theorem dX8_lay_14 : decode cX8_lay 14 = .ok (.iload_n 2, 1) := by decide +kernel
theorem dX8_lay_15 : decode cX8_lay 15 = .ok (.invokestatic 74, 3) := by decide +kernel
theorem dX8_lay_18 : decode cX8_lay 18 = .ok (.ifCond .eq 18, 3) := by decide +kernel
theorem dX8_lay_21 : decode cX8_lay 21 = .ok (.aload_n 1, 1) := by decide +kernel
theorem dX8_lay_22 : decode cX8_lay 22 = .ok (.iload_n 2, 1) := by decide +kernel
theorem dX8_lay_23 : decode cX8_lay 23 = .ok (.iconst 2, 1) := by decide +kernel
theorem dX8_lay_24 : decode cX8_lay 24 = .ok (.invokestatic 66, 3) := by decide +kernel
theorem dX8_lay_27 : decode cX8_lay 27 = .ok (.iaload, 1) := by decide +kernel
theorem dX8_lay_28 : decode cX8_lay 28 = .ok (.iconst 1, 1) := by decide +kernel
theorem dX8_lay_29 : decode cX8_lay 29 = .ok (.if_icmp .ne 7, 3) := by decide +kernel
theorem dX8_lay_32 : decode cX8_lay 32 = .ok (.iconst 0, 1) := by decide +kernel
theorem dX8_lay_33 : decode cX8_lay 33 = .ok (.goto 5, 3) := by decide +kernel
theorem dX8_lay_36 : decode cX8_lay 36 = .ok (.bipush 99, 2) := by decide +kernel
theorem dX8_lay_38 : decode cX8_lay 38 = .ok (.iastore, 1) := by decide +kernel
theorem dX8_lay_39 : decode cX8_lay 39 = .ok (.iinc 2 1, 3) := by decide +kernel
theorem dX8_lay_42 : decode cX8_lay 42 = .ok (.goto (-40), 3) := by decide +kernel
theorem dX8_lay_45 : decode cX8_lay 45 = .ok (.iconst 1, 1) := by decide +kernel
theorem dX8_lay_46 : decode cX8_lay 46 = .ok (.istore_n 2, 1) := by decide +kernel
theorem dX8_lay_47 : decode cX8_lay 47 = .ok (.iload_n 2, 1) := by decide +kernel
theorem dX8_lay_48 : decode cX8_lay 48 = .ok (.ifCond .eq 95, 3) := by decide +kernel
theorem dX8_lay_51 : decode cX8_lay 51 = .ok (.iconst 0, 1) := by decide +kernel
theorem dX8_lay_52 : decode cX8_lay 52 = .ok (.istore_n 2, 1) := by decide +kernel
theorem dX8_lay_53 : decode cX8_lay 53 = .ok (.iconst 0, 1) := by decide +kernel
theorem dX8_lay_54 : decode cX8_lay 54 = .ok (.istore_n 3, 1) := by decide +kernel
theorem dX8_lay_55 : decode cX8_lay 55 = .ok (.iload_n 3, 1) := by decide +kernel
theorem dX8_lay_56 : decode cX8_lay 56 = .ok (.aload_n 1, 1) := by decide +kernel
theorem dX8_lay_57 : decode cX8_lay 57 = .ok (.iconst 2, 1) := by decide +kernel
theorem dX8_lay_58 : decode cX8_lay 58 = .ok (.iaload, 1) := by decide +kernel
theorem dX8_lay_59 : decode cX8_lay 59 = .ok (.if_icmp .ge 81, 3) := by decide +kernel
theorem dX8_lay_62 : decode cX8_lay 62 = .ok (.aload_n 1, 1) := by decide +kernel
theorem dX8_lay_63 : decode cX8_lay 63 = .ok (.iload_n 3, 1) := by decide +kernel
theorem dX8_lay_64 : decode cX8_lay 64 = .ok (.iconst 0, 1) := by decide +kernel
theorem dX8_lay_65 : decode cX8_lay 65 = .ok (.invokestatic 78, 3) := by decide +kernel
theorem dX8_lay_68 : decode cX8_lay 68 = .ok (.iaload, 1) := by decide +kernel
theorem dX8_lay_69 : decode cX8_lay 69 = .ok (.istore 4, 2) := by decide +kernel
theorem dX8_lay_71 : decode cX8_lay 71 = .ok (.aload_n 1, 1) := by decide +kernel
theorem dX8_lay_72 : decode cX8_lay 72 = .ok (.iload_n 3, 1) := by decide +kernel
theorem dX8_lay_73 : decode cX8_lay 73 = .ok (.iconst 1, 1) := by decide +kernel
theorem dX8_lay_74 : decode cX8_lay 74 = .ok (.invokestatic 78, 3) := by decide +kernel
theorem dX8_lay_77 : decode cX8_lay 77 = .ok (.iaload, 1) := by decide +kernel
theorem dX8_lay_78 : decode cX8_lay 78 = .ok (.istore 5, 2) := by decide +kernel
theorem dX8_lay_80 : decode cX8_lay 80 = .ok (.iload 4, 2) := by decide +kernel
theorem dX8_lay_82 : decode cX8_lay 82 = .ok (.ifCond .ge 7, 3) := by decide +kernel
theorem dX8_lay_85 : decode cX8_lay 85 = .ok (.iconst 0, 1) := by decide +kernel
theorem dX8_lay_86 : decode cX8_lay 86 = .ok (.goto 10, 3) := by decide +kernel
theorem dX8_lay_89 : decode cX8_lay 89 = .ok (.aload_n 0, 1) := by decide +kernel
theorem dX8_lay_90 : decode cX8_lay 90 = .ok (.getfield 32, 3) := by decide +kernel
theorem dX8_lay_93 : decode cX8_lay 93 = .ok (.iload 4, 2) := by decide +kernel
theorem dX8_lay_95 : decode cX8_lay 95 = .ok (.iaload, 1) := by decide +kernel
theorem dX8_lay_96 : decode cX8_lay 96 = .ok (.iconst 1, 1) := by decide +kernel
theorem dX8_lay_97 : decode cX8_lay 97 = .ok (.iadd, 1) := by decide +kernel
theorem dX8_lay_98 : decode cX8_lay 98 = .ok (.istore 6, 2) := by decide +kernel
theorem dX8_lay_100 : decode cX8_lay 100 = .ok (.aload_n 1, 1) := by decide +kernel
theorem dX8_lay_101 : decode cX8_lay 101 = .ok (.iload_n 3, 1) := by decide +kernel
theorem dX8_lay_102 : decode cX8_lay 102 = .ok (.iconst 2, 1) := by decide +kernel
theorem dX8_lay_103 : decode cX8_lay 103 = .ok (.invokestatic 78, 3) := by decide +kernel
theorem dX8_lay_106 : decode cX8_lay 106 = .ok (.iaload, 1) := by decide +kernel
theorem dX8_lay_107 : decode cX8_lay 107 = .ok (.iconst 1, 1) := by decide +kernel
theorem dX8_lay_108 : decode cX8_lay 108 = .ok (.if_icmp .ne 26, 3) := by decide +kernel
theorem dX8_lay_111 : decode cX8_lay 111 = .ok (.iload 6, 2) := by decide +kernel
theorem dX8_lay_113 : decode cX8_lay 113 = .ok (.aload_n 0, 1) := by decide +kernel
theorem dX8_lay_114 : decode cX8_lay 114 = .ok (.getfield 32, 3) := by decide +kernel
theorem dX8_lay_117 : decode cX8_lay 117 = .ok (.iload 5, 2) := by decide +kernel
theorem dX8_lay_119 : decode cX8_lay 119 = .ok (.iaload, 1) := by decide +kernel
theorem dX8_lay_120 : decode cX8_lay 120 = .ok (.if_icmp .ge 14, 3) := by decide +kernel
theorem dX8_lay_123 : decode cX8_lay 123 = .ok (.aload_n 0, 1) := by decide +kernel
theorem dX8_lay_124 : decode cX8_lay 124 = .ok (.getfield 32, 3) := by decide +kernel
theorem dX8_lay_127 : decode cX8_lay 127 = .ok (.iload 5, 2) := by decide +kernel
theorem dX8_lay_129 : decode cX8_lay 129 = .ok (.iload 6, 2) := by decide +kernel
theorem dX8_lay_131 : decode cX8_lay 131 = .ok (.iastore, 1) := by decide +kernel
theorem dX8_lay_132 : decode cX8_lay 132 = .ok (.iconst 1, 1) := by decide +kernel
theorem dX8_lay_133 : decode cX8_lay 133 = .ok (.istore_n 2, 1) := by decide +kernel
theorem dX8_lay_134 : decode cX8_lay 134 = .ok (.iinc 3 1, 3) := by decide +kernel
theorem dX8_lay_137 : decode cX8_lay 137 = .ok (.goto (-82), 3) := by decide +kernel
theorem dX8_lay_140 : decode cX8_lay 140 = .ok (.goto (-93), 3) := by decide +kernel
theorem dX8_lay_143 : decode cX8_lay 143 = .ok (.return_, 1) := by decide +kernel
theorem dX8_heldMany_0 : decode cX8_heldMany 0 = .ok (.aload_n 0, 1) := by decide +kernel
theorem dX8_heldMany_1 : decode cX8_heldMany 1 = .ok (.aload_n 1, 1) := by decide +kernel
theorem dX8_heldMany_2 : decode cX8_heldMany 2 = .ok (.invokevirtual 81, 3) := by decide +kernel
theorem dX8_heldMany_5 : decode cX8_heldMany 5 = .ok (.iconst 0, 1) := by decide +kernel
theorem dX8_heldMany_6 : decode cX8_heldMany 6 = .ok (.istore_n 2, 1) := by decide +kernel
theorem dX8_heldMany_7 : decode cX8_heldMany 7 = .ok (.iconst 0, 1) := by decide +kernel
theorem dX8_heldMany_8 : decode cX8_heldMany 8 = .ok (.istore_n 3, 1) := by decide +kernel
theorem dX8_heldMany_9 : decode cX8_heldMany 9 = .ok (.iload_n 3, 1) := by decide +kernel
theorem dX8_heldMany_10 : decode cX8_heldMany 10 = .ok (.bipush 24, 2) := by decide +kernel
theorem dX8_heldMany_12 : decode cX8_heldMany 12 = .ok (.if_icmp .ge 28, 3) := by decide +kernel
theorem dX8_heldMany_15 : decode cX8_heldMany 15 = .ok (.iload_n 2, 1) := by decide +kernel
theorem dX8_heldMany_16 : decode cX8_heldMany 16 = .ok (.aload_n 0, 1) := by decide +kernel
theorem dX8_heldMany_17 : decode cX8_heldMany 17 = .ok (.getfield 32, 3) := by decide +kernel
theorem dX8_heldMany_20 : decode cX8_heldMany 20 = .ok (.iload_n 3, 1) := by decide +kernel
theorem dX8_heldMany_21 : decode cX8_heldMany 21 = .ok (.iaload, 1) := by decide +kernel
theorem dX8_heldMany_22 : decode cX8_heldMany 22 = .ok (.bipush 99, 2) := by decide +kernel
theorem dX8_heldMany_24 : decode cX8_heldMany 24 = .ok (.if_icmp .ge 7, 3) := by decide +kernel
theorem dX8_heldMany_27 : decode cX8_heldMany 27 = .ok (.iconst 1, 1) := by decide +kernel
theorem dX8_heldMany_28 : decode cX8_heldMany 28 = .ok (.goto 4, 3) := by decide +kernel
theorem dX8_heldMany_31 : decode cX8_heldMany 31 = .ok (.iconst 0, 1) := by decide +kernel
theorem dX8_heldMany_32 : decode cX8_heldMany 32 = .ok (.iadd, 1) := by decide +kernel
theorem dX8_heldMany_33 : decode cX8_heldMany 33 = .ok (.istore_n 2, 1) := by decide +kernel
theorem dX8_heldMany_34 : decode cX8_heldMany 34 = .ok (.iinc 3 1, 3) := by decide +kernel
theorem dX8_heldMany_37 : decode cX8_heldMany 37 = .ok (.goto (-28), 3) := by decide +kernel
theorem dX8_heldMany_40 : decode cX8_heldMany 40 = .ok (.iload_n 2, 1) := by decide +kernel
theorem dX8_heldMany_41 : decode cX8_heldMany 41 = .ok (.ireturn, 1) := by decide +kernel
theorem dX8_heldWeight_0 : decode cX8_heldWeight 0 = .ok (.aload_n 0, 1) := by decide +kernel
theorem dX8_heldWeight_1 : decode cX8_heldWeight 1 = .ok (.aload_n 1, 1) := by decide +kernel
theorem dX8_heldWeight_2 : decode cX8_heldWeight 2 = .ok (.invokevirtual 81, 3) := by decide +kernel
theorem dX8_heldWeight_5 : decode cX8_heldWeight 5 = .ok (.iconst 0, 1) := by decide +kernel
theorem dX8_heldWeight_6 : decode cX8_heldWeight 6 = .ok (.istore_n 2, 1) := by decide +kernel
theorem dX8_heldWeight_7 : decode cX8_heldWeight 7 = .ok (.iconst 0, 1) := by decide +kernel
theorem dX8_heldWeight_8 : decode cX8_heldWeight 8 = .ok (.istore_n 3, 1) := by decide +kernel
theorem dX8_heldWeight_9 : decode cX8_heldWeight 9 = .ok (.iload_n 3, 1) := by decide +kernel
theorem dX8_heldWeight_10 : decode cX8_heldWeight 10 = .ok (.bipush 24, 2) := by decide +kernel
theorem dX8_heldWeight_12 : decode cX8_heldWeight 12 = .ok (.if_icmp .ge 34, 3) := by decide +kernel
theorem dX8_heldWeight_15 : decode cX8_heldWeight 15 = .ok (.iload_n 2, 1) := by decide +kernel
theorem dX8_heldWeight_16 : decode cX8_heldWeight 16 = .ok (.aload_n 0, 1) := by decide +kernel
theorem dX8_heldWeight_17 : decode cX8_heldWeight 17 = .ok (.getfield 32, 3) := by decide +kernel
theorem dX8_heldWeight_20 : decode cX8_heldWeight 20 = .ok (.iload_n 3, 1) := by decide +kernel
theorem dX8_heldWeight_21 : decode cX8_heldWeight 21 = .ok (.iaload, 1) := by decide +kernel
theorem dX8_heldWeight_22 : decode cX8_heldWeight 22 = .ok (.bipush 99, 2) := by decide +kernel
theorem dX8_heldWeight_24 : decode cX8_heldWeight 24 = .ok (.if_icmp .ge 13, 3) := by decide +kernel
theorem dX8_heldWeight_27 : decode cX8_heldWeight 27 = .ok (.aload_n 1, 1) := by decide +kernel
theorem dX8_heldWeight_28 : decode cX8_heldWeight 28 = .ok (.iload_n 3, 1) := by decide +kernel
theorem dX8_heldWeight_29 : decode cX8_heldWeight 29 = .ok (.iconst 0, 1) := by decide +kernel
theorem dX8_heldWeight_30 : decode cX8_heldWeight 30 = .ok (.invokestatic 66, 3) := by decide +kernel
theorem dX8_heldWeight_33 : decode cX8_heldWeight 33 = .ok (.iaload, 1) := by decide +kernel
theorem dX8_heldWeight_34 : decode cX8_heldWeight 34 = .ok (.goto 4, 3) := by decide +kernel
theorem dX8_heldWeight_37 : decode cX8_heldWeight 37 = .ok (.iconst 0, 1) := by decide +kernel
theorem dX8_heldWeight_38 : decode cX8_heldWeight 38 = .ok (.iadd, 1) := by decide +kernel
theorem dX8_heldWeight_39 : decode cX8_heldWeight 39 = .ok (.istore_n 2, 1) := by decide +kernel
theorem dX8_heldWeight_40 : decode cX8_heldWeight 40 = .ok (.iinc 3 1, 3) := by decide +kernel
theorem dX8_heldWeight_43 : decode cX8_heldWeight 43 = .ok (.goto (-34), 3) := by decide +kernel
theorem dX8_heldWeight_46 : decode cX8_heldWeight 46 = .ok (.iload_n 2, 1) := by decide +kernel
theorem dX8_heldWeight_47 : decode cX8_heldWeight 47 = .ok (.ireturn, 1) := by decide +kernel
theorem dX8_redden_0 : decode cX8_redden 0 = .ok (.aload_n 0, 1) := by decide +kernel
theorem dX8_redden_1 : decode cX8_redden 1 = .ok (.iconst 3, 1) := by decide +kernel
theorem dX8_redden_2 : decode cX8_redden 2 = .ok (.iaload, 1) := by decide +kernel
theorem dX8_redden_3 : decode cX8_redden 3 = .ok (.iconst 1, 1) := by decide +kernel
theorem dX8_redden_4 : decode cX8_redden 4 = .ok (.if_icmp .ne 40, 3) := by decide +kernel
theorem dX8_redden_7 : decode cX8_redden 7 = .ok (.aload_n 0, 1) := by decide +kernel
theorem dX8_redden_8 : decode cX8_redden 8 = .ok (.iload_n 1, 1) := by decide +kernel
theorem dX8_redden_9 : decode cX8_redden 9 = .ok (.iconst 3, 1) := by decide +kernel
theorem dX8_redden_10 : decode cX8_redden 10 = .ok (.invokestatic 66, 3) := by decide +kernel
theorem dX8_redden_13 : decode cX8_redden 13 = .ok (.iaload, 1) := by decide +kernel
theorem dX8_redden_14 : decode cX8_redden 14 = .ok (.ifCond .ne 30, 3) := by decide +kernel
theorem dX8_redden_17 : decode cX8_redden 17 = .ok (.aload_n 0, 1) := by decide +kernel
theorem dX8_redden_18 : decode cX8_redden 18 = .ok (.iload_n 1, 1) := by decide +kernel
theorem dX8_redden_19 : decode cX8_redden 19 = .ok (.iconst 3, 1) := by decide +kernel
theorem dX8_redden_20 : decode cX8_redden 20 = .ok (.invokestatic 66, 3) := by decide +kernel
theorem dX8_redden_23 : decode cX8_redden 23 = .ok (.iconst 1, 1) := by decide +kernel
theorem dX8_redden_24 : decode cX8_redden 24 = .ok (.iastore, 1) := by decide +kernel
theorem dX8_redden_25 : decode cX8_redden 25 = .ok (.aload_n 0, 1) := by decide +kernel
theorem dX8_redden_26 : decode cX8_redden 26 = .ok (.sipush 223, 3) := by decide +kernel
theorem dX8_redden_29 : decode cX8_redden 29 = .ok (.aload_n 0, 1) := by decide +kernel
theorem dX8_redden_30 : decode cX8_redden 30 = .ok (.bipush 6, 2) := by decide +kernel
theorem dX8_redden_32 : decode cX8_redden 32 = .ok (.iaload, 1) := by decide +kernel
theorem dX8_redden_33 : decode cX8_redden 33 = .ok (.iadd, 1) := by decide +kernel
theorem dX8_redden_34 : decode cX8_redden 34 = .ok (.iload_n 1, 1) := by decide +kernel
theorem dX8_redden_35 : decode cX8_redden 35 = .ok (.iastore, 1) := by decide +kernel
theorem dX8_redden_36 : decode cX8_redden 36 = .ok (.aload_n 0, 1) := by decide +kernel
theorem dX8_redden_37 : decode cX8_redden 37 = .ok (.bipush 6, 2) := by decide +kernel
theorem dX8_redden_39 : decode cX8_redden 39 = .ok (.dup2, 1) := by decide +kernel
theorem dX8_redden_40 : decode cX8_redden 40 = .ok (.iaload, 1) := by decide +kernel
theorem dX8_redden_41 : decode cX8_redden 41 = .ok (.iconst 1, 1) := by decide +kernel
theorem dX8_redden_42 : decode cX8_redden 42 = .ok (.iadd, 1) := by decide +kernel
theorem dX8_redden_43 : decode cX8_redden 43 = .ok (.iastore, 1) := by decide +kernel
theorem dX8_redden_44 : decode cX8_redden 44 = .ok (.return_, 1) := by decide +kernel
theorem dX8_beginIn_0 : decode cX8_beginIn 0 = .ok (.aload_n 0, 1) := by decide +kernel
theorem dX8_beginIn_1 : decode cX8_beginIn 1 = .ok (.iconst 3, 1) := by decide +kernel
theorem dX8_beginIn_2 : decode cX8_beginIn 2 = .ok (.iconst 1, 1) := by decide +kernel
theorem dX8_beginIn_3 : decode cX8_beginIn 3 = .ok (.iastore, 1) := by decide +kernel
theorem dX8_beginIn_4 : decode cX8_beginIn 4 = .ok (.aload_n 0, 1) := by decide +kernel
theorem dX8_beginIn_5 : decode cX8_beginIn 5 = .ok (.bipush 6, 2) := by decide +kernel
theorem dX8_beginIn_7 : decode cX8_beginIn 7 = .ok (.iconst 0, 1) := by decide +kernel
theorem dX8_beginIn_8 : decode cX8_beginIn 8 = .ok (.iastore, 1) := by decide +kernel
theorem dX8_beginIn_9 : decode cX8_beginIn 9 = .ok (.iconst 0, 1) := by decide +kernel
theorem dX8_beginIn_10 : decode cX8_beginIn 10 = .ok (.istore_n 1, 1) := by decide +kernel
theorem dX8_beginIn_11 : decode cX8_beginIn 11 = .ok (.iload_n 1, 1) := by decide +kernel
theorem dX8_beginIn_12 : decode cX8_beginIn 12 = .ok (.aload_n 0, 1) := by decide +kernel
theorem dX8_beginIn_13 : decode cX8_beginIn 13 = .ok (.iconst 0, 1) := by decide +kernel
theorem dX8_beginIn_14 : decode cX8_beginIn 14 = .ok (.iaload, 1) := by decide +kernel
theorem dX8_beginIn_15 : decode cX8_beginIn 15 = .ok (.if_icmp .ge 17, 3) := by decide +kernel
theorem dX8_beginIn_18 : decode cX8_beginIn 18 = .ok (.aload_n 0, 1) := by decide +kernel
theorem dX8_beginIn_19 : decode cX8_beginIn 19 = .ok (.iload_n 1, 1) := by decide +kernel
theorem dX8_beginIn_20 : decode cX8_beginIn 20 = .ok (.iconst 3, 1) := by decide +kernel
theorem dX8_beginIn_21 : decode cX8_beginIn 21 = .ok (.invokestatic 66, 3) := by decide +kernel
theorem dX8_beginIn_24 : decode cX8_beginIn 24 = .ok (.iconst 0, 1) := by decide +kernel
theorem dX8_beginIn_25 : decode cX8_beginIn 25 = .ok (.iastore, 1) := by decide +kernel
theorem dX8_beginIn_26 : decode cX8_beginIn 26 = .ok (.iinc 1 1, 3) := by decide +kernel
theorem dX8_beginIn_29 : decode cX8_beginIn 29 = .ok (.goto (-18), 3) := by decide +kernel
theorem dX8_beginIn_32 : decode cX8_beginIn 32 = .ok (.iconst 0, 1) := by decide +kernel
theorem dX8_beginIn_33 : decode cX8_beginIn 33 = .ok (.istore_n 1, 1) := by decide +kernel
theorem dX8_beginIn_34 : decode cX8_beginIn 34 = .ok (.iload_n 1, 1) := by decide +kernel
theorem dX8_beginIn_35 : decode cX8_beginIn 35 = .ok (.aload_n 0, 1) := by decide +kernel
theorem dX8_beginIn_36 : decode cX8_beginIn 36 = .ok (.iconst 0, 1) := by decide +kernel
theorem dX8_beginIn_37 : decode cX8_beginIn 37 = .ok (.iaload, 1) := by decide +kernel
theorem dX8_beginIn_38 : decode cX8_beginIn 38 = .ok (.if_icmp .ge 100, 3) := by decide +kernel
theorem dX8_beginIn_41 : decode cX8_beginIn 41 = .ok (.aload_n 0, 1) := by decide +kernel
theorem dX8_beginIn_42 : decode cX8_beginIn 42 = .ok (.iload_n 1, 1) := by decide +kernel
theorem dX8_beginIn_43 : decode cX8_beginIn 43 = .ok (.iconst 2, 1) := by decide +kernel
theorem dX8_beginIn_44 : decode cX8_beginIn 44 = .ok (.invokestatic 66, 3) := by decide +kernel
theorem dX8_beginIn_47 : decode cX8_beginIn 47 = .ok (.iaload, 1) := by decide +kernel
theorem dX8_beginIn_48 : decode cX8_beginIn 48 = .ok (.iconst 1, 1) := by decide +kernel
theorem dX8_beginIn_49 : decode cX8_beginIn 49 = .ok (.if_icmp .ne 7, 3) := by decide +kernel
theorem dX8_beginIn_52 : decode cX8_beginIn 52 = .ok (.iconst 1, 1) := by decide +kernel
theorem dX8_beginIn_53 : decode cX8_beginIn 53 = .ok (.goto 4, 3) := by decide +kernel
theorem dX8_beginIn_56 : decode cX8_beginIn 56 = .ok (.iconst 0, 1) := by decide +kernel
theorem dX8_beginIn_57 : decode cX8_beginIn 57 = .ok (.istore_n 2, 1) := by decide +kernel
theorem dX8_beginIn_58 : decode cX8_beginIn 58 = .ok (.iconst 0, 1) := by decide +kernel
theorem dX8_beginIn_59 : decode cX8_beginIn 59 = .ok (.istore_n 3, 1) := by decide +kernel
theorem dX8_beginIn_60 : decode cX8_beginIn 60 = .ok (.iload_n 3, 1) := by decide +kernel
theorem dX8_beginIn_61 : decode cX8_beginIn 61 = .ok (.aload_n 0, 1) := by decide +kernel
theorem dX8_beginIn_62 : decode cX8_beginIn 62 = .ok (.iconst 2, 1) := by decide +kernel
theorem dX8_beginIn_63 : decode cX8_beginIn 63 = .ok (.iaload, 1) := by decide +kernel
theorem dX8_beginIn_64 : decode cX8_beginIn 64 = .ok (.if_icmp .ge 51, 3) := by decide +kernel
theorem dX8_beginIn_67 : decode cX8_beginIn 67 = .ok (.iload_n 2, 1) := by decide +kernel
theorem dX8_beginIn_68 : decode cX8_beginIn 68 = .ok (.ifCond .ne 35, 3) := by decide +kernel
theorem dX8_beginIn_71 : decode cX8_beginIn 71 = .ok (.aload_n 0, 1) := by decide +kernel
theorem dX8_beginIn_72 : decode cX8_beginIn 72 = .ok (.iload_n 3, 1) := by decide +kernel
theorem dX8_beginIn_73 : decode cX8_beginIn 73 = .ok (.iconst 0, 1) := by decide +kernel
theorem dX8_beginIn_74 : decode cX8_beginIn 74 = .ok (.invokestatic 78, 3) := by decide +kernel
theorem dX8_beginIn_77 : decode cX8_beginIn 77 = .ok (.iaload, 1) := by decide +kernel
theorem dX8_beginIn_78 : decode cX8_beginIn 78 = .ok (.ifCond .ge 29, 3) := by decide +kernel
theorem dX8_beginIn_81 : decode cX8_beginIn 81 = .ok (.aload_n 0, 1) := by decide +kernel
theorem dX8_beginIn_82 : decode cX8_beginIn 82 = .ok (.iload_n 3, 1) := by decide +kernel
theorem dX8_beginIn_83 : decode cX8_beginIn 83 = .ok (.iconst 1, 1) := by decide +kernel
theorem dX8_beginIn_84 : decode cX8_beginIn 84 = .ok (.invokestatic 78, 3) := by decide +kernel
theorem dX8_beginIn_87 : decode cX8_beginIn 87 = .ok (.iaload, 1) := by decide +kernel
theorem dX8_beginIn_88 : decode cX8_beginIn 88 = .ok (.iload_n 1, 1) := by decide +kernel
theorem dX8_beginIn_89 : decode cX8_beginIn 89 = .ok (.if_icmp .ne 18, 3) := by decide +kernel
theorem dX8_beginIn_92 : decode cX8_beginIn 92 = .ok (.aload_n 0, 1) := by decide +kernel
theorem dX8_beginIn_93 : decode cX8_beginIn 93 = .ok (.iload_n 3, 1) := by decide +kernel
theorem dX8_beginIn_94 : decode cX8_beginIn 94 = .ok (.iconst 2, 1) := by decide +kernel
theorem dX8_beginIn_95 : decode cX8_beginIn 95 = .ok (.invokestatic 78, 3) := by decide +kernel
theorem dX8_beginIn_98 : decode cX8_beginIn 98 = .ok (.iaload, 1) := by decide +kernel
theorem dX8_beginIn_99 : decode cX8_beginIn 99 = .ok (.iconst 1, 1) := by decide +kernel
theorem dX8_beginIn_100 : decode cX8_beginIn 100 = .ok (.if_icmp .ne 7, 3) := by decide +kernel
theorem dX8_beginIn_103 : decode cX8_beginIn 103 = .ok (.iconst 1, 1) := by decide +kernel
theorem dX8_beginIn_104 : decode cX8_beginIn 104 = .ok (.goto 4, 3) := by decide +kernel
theorem dX8_beginIn_107 : decode cX8_beginIn 107 = .ok (.iconst 0, 1) := by decide +kernel
theorem dX8_beginIn_108 : decode cX8_beginIn 108 = .ok (.istore_n 2, 1) := by decide +kernel
theorem dX8_beginIn_109 : decode cX8_beginIn 109 = .ok (.iinc 3 1, 3) := by decide +kernel
theorem dX8_beginIn_112 : decode cX8_beginIn 112 = .ok (.goto (-52), 3) := by decide +kernel
theorem dX8_beginIn_115 : decode cX8_beginIn 115 = .ok (.iload_n 2, 1) := by decide +kernel
theorem dX8_beginIn_116 : decode cX8_beginIn 116 = .ok (.ifCond .eq 16, 3) := by decide +kernel
theorem dX8_beginIn_119 : decode cX8_beginIn 119 = .ok (.aload_n 0, 1) := by decide +kernel
theorem dX8_beginIn_120 : decode cX8_beginIn 120 = .ok (.iload_n 1, 1) := by decide +kernel
theorem dX8_beginIn_121 : decode cX8_beginIn 121 = .ok (.invokestatic 74, 3) := by decide +kernel
theorem dX8_beginIn_124 : decode cX8_beginIn 124 = .ok (.ifCond .eq 8, 3) := by decide +kernel
theorem dX8_beginIn_127 : decode cX8_beginIn 127 = .ok (.aload_n 0, 1) := by decide +kernel
theorem dX8_beginIn_128 : decode cX8_beginIn 128 = .ok (.iload_n 1, 1) := by decide +kernel
theorem dX8_beginIn_129 : decode cX8_beginIn 129 = .ok (.invokestatic 85, 3) := by decide +kernel
theorem dX8_beginIn_132 : decode cX8_beginIn 132 = .ok (.iinc 1 1, 3) := by decide +kernel
theorem dX8_beginIn_135 : decode cX8_beginIn 135 = .ok (.goto (-101), 3) := by decide +kernel
theorem dX8_beginIn_138 : decode cX8_beginIn 138 = .ok (.aload_n 0, 1) := by decide +kernel
theorem dX8_beginIn_139 : decode cX8_beginIn 139 = .ok (.bipush 6, 2) := by decide +kernel
theorem dX8_beginIn_141 : decode cX8_beginIn 141 = .ok (.iaload, 1) := by decide +kernel
theorem dX8_beginIn_142 : decode cX8_beginIn 142 = .ok (.ireturn, 1) := by decide +kernel
theorem dX8_removeString_0 : decode cX8_removeString 0 = .ok (.aload_n 0, 1) := by decide +kernel
theorem dX8_removeString_1 : decode cX8_removeString 1 = .ok (.iload_n 1, 1) := by decide +kernel
theorem dX8_removeString_2 : decode cX8_removeString 2 = .ok (.iconst 1, 1) := by decide +kernel
theorem dX8_removeString_3 : decode cX8_removeString 3 = .ok (.iadd, 1) := by decide +kernel
theorem dX8_removeString_4 : decode cX8_removeString 4 = .ok (.iconst 0, 1) := by decide +kernel
theorem dX8_removeString_5 : decode cX8_removeString 5 = .ok (.invokestatic 78, 3) := by decide +kernel
theorem dX8_removeString_8 : decode cX8_removeString 8 = .ok (.aload_n 0, 1) := by decide +kernel
theorem dX8_removeString_9 : decode cX8_removeString 9 = .ok (.iload_n 1, 1) := by decide +kernel
theorem dX8_removeString_10 : decode cX8_removeString 10 = .ok (.iconst 0, 1) := by decide +kernel
theorem dX8_removeString_11 : decode cX8_removeString 11 = .ok (.invokestatic 78, 3) := by decide +kernel
theorem dX8_removeString_14 : decode cX8_removeString 14 = .ok (.iconst 3, 1) := by decide +kernel
theorem dX8_removeString_15 : decode cX8_removeString 15 = .ok (.aload_n 0, 1) := by decide +kernel
theorem dX8_removeString_16 : decode cX8_removeString 16 = .ok (.iconst 2, 1) := by decide +kernel
theorem dX8_removeString_17 : decode cX8_removeString 17 = .ok (.iaload, 1) := by decide +kernel
theorem dX8_removeString_18 : decode cX8_removeString 18 = .ok (.iconst 1, 1) := by decide +kernel
theorem dX8_removeString_19 : decode cX8_removeString 19 = .ok (.isub, 1) := by decide +kernel
theorem dX8_removeString_20 : decode cX8_removeString 20 = .ok (.iload_n 1, 1) := by decide +kernel
theorem dX8_removeString_21 : decode cX8_removeString 21 = .ok (.isub, 1) := by decide +kernel
theorem dX8_removeString_22 : decode cX8_removeString 22 = .ok (.imul, 1) := by decide +kernel
theorem dX8_removeString_23 : decode cX8_removeString 23 = .ok (.invokestatic 56, 3) := by decide +kernel
theorem dX8_removeString_26 : decode cX8_removeString 26 = .ok (.aload_n 0, 1) := by decide +kernel
theorem dX8_removeString_27 : decode cX8_removeString 27 = .ok (.iconst 2, 1) := by decide +kernel
theorem dX8_removeString_28 : decode cX8_removeString 28 = .ok (.dup2, 1) := by decide +kernel
theorem dX8_removeString_29 : decode cX8_removeString 29 = .ok (.iaload, 1) := by decide +kernel
theorem dX8_removeString_30 : decode cX8_removeString 30 = .ok (.iconst 1, 1) := by decide +kernel
theorem dX8_removeString_31 : decode cX8_removeString 31 = .ok (.isub, 1) := by decide +kernel
theorem dX8_removeString_32 : decode cX8_removeString 32 = .ok (.iastore, 1) := by decide +kernel
theorem dX8_removeString_33 : decode cX8_removeString 33 = .ok (.return_, 1) := by decide +kernel
theorem dX8_sweepPart_0 : decode cX8_sweepPart 0 = .ok (.aload_n 0, 1) := by decide +kernel
theorem dX8_sweepPart_1 : decode cX8_sweepPart 1 = .ok (.iload_n 1, 1) := by decide +kernel
theorem dX8_sweepPart_2 : decode cX8_sweepPart 2 = .ok (.iconst 1, 1) := by decide +kernel
theorem dX8_sweepPart_3 : decode cX8_sweepPart 3 = .ok (.invokestatic 66, 3) := by decide +kernel
theorem dX8_sweepPart_6 : decode cX8_sweepPart 6 = .ok (.iconst 0, 1) := by decide +kernel
theorem dX8_sweepPart_7 : decode cX8_sweepPart 7 = .ok (.iastore, 1) := by decide +kernel
theorem dX8_sweepPart_8 : decode cX8_sweepPart 8 = .ok (.aload_n 0, 1) := by decide +kernel
theorem dX8_sweepPart_9 : decode cX8_sweepPart 9 = .ok (.iload_n 1, 1) := by decide +kernel
theorem dX8_sweepPart_10 : decode cX8_sweepPart 10 = .ok (.iconst 2, 1) := by decide +kernel
theorem dX8_sweepPart_11 : decode cX8_sweepPart 11 = .ok (.invokestatic 66, 3) := by decide +kernel
theorem dX8_sweepPart_14 : decode cX8_sweepPart 14 = .ok (.iconst 0, 1) := by decide +kernel
theorem dX8_sweepPart_15 : decode cX8_sweepPart 15 = .ok (.iastore, 1) := by decide +kernel
theorem dX8_sweepPart_16 : decode cX8_sweepPart 16 = .ok (.aload_n 0, 1) := by decide +kernel
theorem dX8_sweepPart_17 : decode cX8_sweepPart 17 = .ok (.iconst 1, 1) := by decide +kernel
theorem dX8_sweepPart_18 : decode cX8_sweepPart 18 = .ok (.dup2, 1) := by decide +kernel
theorem dX8_sweepPart_19 : decode cX8_sweepPart 19 = .ok (.iaload, 1) := by decide +kernel
theorem dX8_sweepPart_20 : decode cX8_sweepPart 20 = .ok (.iconst 1, 1) := by decide +kernel
theorem dX8_sweepPart_21 : decode cX8_sweepPart 21 = .ok (.iadd, 1) := by decide +kernel
theorem dX8_sweepPart_22 : decode cX8_sweepPart 22 = .ok (.iastore, 1) := by decide +kernel
theorem dX8_sweepPart_23 : decode cX8_sweepPart 23 = .ok (.iconst 0, 1) := by decide +kernel
theorem dX8_sweepPart_24 : decode cX8_sweepPart 24 = .ok (.istore_n 2, 1) := by decide +kernel
theorem dX8_sweepPart_25 : decode cX8_sweepPart 25 = .ok (.iload_n 2, 1) := by decide +kernel
theorem dX8_sweepPart_26 : decode cX8_sweepPart 26 = .ok (.aload_n 0, 1) := by decide +kernel
theorem dX8_sweepPart_27 : decode cX8_sweepPart 27 = .ok (.iconst 2, 1) := by decide +kernel
theorem dX8_sweepPart_28 : decode cX8_sweepPart 28 = .ok (.iaload, 1) := by decide +kernel
theorem dX8_sweepPart_29 : decode cX8_sweepPart 29 = .ok (.if_icmp .ge 46, 3) := by decide +kernel
theorem dX8_sweepPart_32 : decode cX8_sweepPart 32 = .ok (.aload_n 0, 1) := by decide +kernel
theorem dX8_sweepPart_33 : decode cX8_sweepPart 33 = .ok (.iload_n 2, 1) := by decide +kernel
theorem dX8_sweepPart_34 : decode cX8_sweepPart 34 = .ok (.iconst 0, 1) := by decide +kernel
theorem dX8_sweepPart_35 : decode cX8_sweepPart 35 = .ok (.invokestatic 78, 3) := by decide +kernel
theorem dX8_sweepPart_38 : decode cX8_sweepPart 38 = .ok (.iaload, 1) := by decide +kernel
theorem dX8_sweepPart_39 : decode cX8_sweepPart 39 = .ok (.iload_n 1, 1) := by decide +kernel
theorem dX8_sweepPart_40 : decode cX8_sweepPart 40 = .ok (.if_icmp .eq 14, 3) := by decide +kernel
theorem dX8_sweepPart_43 : decode cX8_sweepPart 43 = .ok (.aload_n 0, 1) := by decide +kernel
theorem dX8_sweepPart_44 : decode cX8_sweepPart 44 = .ok (.iload_n 2, 1) := by decide +kernel
theorem dX8_sweepPart_45 : decode cX8_sweepPart 45 = .ok (.iconst 1, 1) := by decide +kernel
theorem dX8_sweepPart_46 : decode cX8_sweepPart 46 = .ok (.invokestatic 78, 3) := by decide +kernel
theorem dX8_sweepPart_49 : decode cX8_sweepPart 49 = .ok (.iaload, 1) := by decide +kernel
theorem dX8_sweepPart_50 : decode cX8_sweepPart 50 = .ok (.iload_n 1, 1) := by decide +kernel
theorem dX8_sweepPart_51 : decode cX8_sweepPart 51 = .ok (.if_icmp .ne 18, 3) := by decide +kernel
theorem dX8_sweepPart_54 : decode cX8_sweepPart 54 = .ok (.aload_n 0, 1) := by decide +kernel
theorem dX8_sweepPart_55 : decode cX8_sweepPart 55 = .ok (.iload_n 2, 1) := by decide +kernel
theorem dX8_sweepPart_56 : decode cX8_sweepPart 56 = .ok (.invokestatic 89, 3) := by decide +kernel
theorem dX8_sweepPart_59 : decode cX8_sweepPart 59 = .ok (.aload_n 0, 1) := by decide +kernel
theorem dX8_sweepPart_60 : decode cX8_sweepPart 60 = .ok (.iconst 5, 1) := by decide +kernel
theorem dX8_sweepPart_61 : decode cX8_sweepPart 61 = .ok (.dup2, 1) := by decide +kernel
theorem dX8_sweepPart_62 : decode cX8_sweepPart 62 = .ok (.iaload, 1) := by decide +kernel
theorem dX8_sweepPart_63 : decode cX8_sweepPart 63 = .ok (.iconst 1, 1) := by decide +kernel
theorem dX8_sweepPart_64 : decode cX8_sweepPart 64 = .ok (.iadd, 1) := by decide +kernel
theorem dX8_sweepPart_65 : decode cX8_sweepPart 65 = .ok (.iastore, 1) := by decide +kernel
theorem dX8_sweepPart_66 : decode cX8_sweepPart 66 = .ok (.goto (-41), 3) := by decide +kernel
theorem dX8_sweepPart_69 : decode cX8_sweepPart 69 = .ok (.iinc 2 1, 3) := by decide +kernel
theorem dX8_sweepPart_72 : decode cX8_sweepPart 72 = .ok (.goto (-47), 3) := by decide +kernel
theorem dX8_sweepPart_75 : decode cX8_sweepPart 75 = .ok (.return_, 1) := by decide +kernel
theorem dX8_endIn_0 : decode cX8_endIn 0 = .ok (.iconst 0, 1) := by decide +kernel
theorem dX8_endIn_1 : decode cX8_endIn 1 = .ok (.istore_n 1, 1) := by decide +kernel
theorem dX8_endIn_2 : decode cX8_endIn 2 = .ok (.iconst 0, 1) := by decide +kernel
theorem dX8_endIn_3 : decode cX8_endIn 3 = .ok (.istore_n 2, 1) := by decide +kernel
theorem dX8_endIn_4 : decode cX8_endIn 4 = .ok (.iload_n 2, 1) := by decide +kernel
theorem dX8_endIn_5 : decode cX8_endIn 5 = .ok (.aload_n 0, 1) := by decide +kernel
theorem dX8_endIn_6 : decode cX8_endIn 6 = .ok (.iconst 0, 1) := by decide +kernel
theorem dX8_endIn_7 : decode cX8_endIn 7 = .ok (.iaload, 1) := by decide +kernel
theorem dX8_endIn_8 : decode cX8_endIn 8 = .ok (.if_icmp .ge 35, 3) := by decide +kernel
theorem dX8_endIn_11 : decode cX8_endIn 11 = .ok (.aload_n 0, 1) := by decide +kernel
theorem dX8_endIn_12 : decode cX8_endIn 12 = .ok (.iload_n 2, 1) := by decide +kernel
theorem dX8_endIn_13 : decode cX8_endIn 13 = .ok (.invokestatic 74, 3) := by decide +kernel
theorem dX8_endIn_16 : decode cX8_endIn 16 = .ok (.ifCond .eq 21, 3) := by decide +kernel
theorem dX8_endIn_19 : decode cX8_endIn 19 = .ok (.aload_n 0, 1) := by decide +kernel
theorem dX8_endIn_20 : decode cX8_endIn 20 = .ok (.iload_n 2, 1) := by decide +kernel
theorem dX8_endIn_21 : decode cX8_endIn 21 = .ok (.iconst 3, 1) := by decide +kernel
theorem dX8_endIn_22 : decode cX8_endIn 22 = .ok (.invokestatic 66, 3) := by decide +kernel
theorem dX8_endIn_25 : decode cX8_endIn 25 = .ok (.iaload, 1) := by decide +kernel
theorem dX8_endIn_26 : decode cX8_endIn 26 = .ok (.ifCond .ne 11, 3) := by decide +kernel
theorem dX8_endIn_29 : decode cX8_endIn 29 = .ok (.aload_n 0, 1) := by decide +kernel
theorem dX8_endIn_30 : decode cX8_endIn 30 = .ok (.iload_n 2, 1) := by decide +kernel
theorem dX8_endIn_31 : decode cX8_endIn 31 = .ok (.invokestatic 92, 3) := by decide +kernel
theorem dX8_endIn_34 : decode cX8_endIn 34 = .ok (.iinc 1 1, 3) := by decide +kernel
theorem dX8_endIn_37 : decode cX8_endIn 37 = .ok (.iinc 2 1, 3) := by decide +kernel
theorem dX8_endIn_40 : decode cX8_endIn 40 = .ok (.goto (-36), 3) := by decide +kernel
theorem dX8_endIn_43 : decode cX8_endIn 43 = .ok (.aload_n 0, 1) := by decide +kernel
theorem dX8_endIn_44 : decode cX8_endIn 44 = .ok (.iconst 3, 1) := by decide +kernel
theorem dX8_endIn_45 : decode cX8_endIn 45 = .ok (.iconst 0, 1) := by decide +kernel
theorem dX8_endIn_46 : decode cX8_endIn 46 = .ok (.iastore, 1) := by decide +kernel
theorem dX8_endIn_47 : decode cX8_endIn 47 = .ok (.aload_n 0, 1) := by decide +kernel
theorem dX8_endIn_48 : decode cX8_endIn 48 = .ok (.iconst 4, 1) := by decide +kernel
theorem dX8_endIn_49 : decode cX8_endIn 49 = .ok (.dup2, 1) := by decide +kernel
theorem dX8_endIn_50 : decode cX8_endIn 50 = .ok (.iaload, 1) := by decide +kernel
theorem dX8_endIn_51 : decode cX8_endIn 51 = .ok (.iconst 1, 1) := by decide +kernel
theorem dX8_endIn_52 : decode cX8_endIn 52 = .ok (.iadd, 1) := by decide +kernel
theorem dX8_endIn_53 : decode cX8_endIn 53 = .ok (.iastore, 1) := by decide +kernel
theorem dX8_endIn_54 : decode cX8_endIn 54 = .ok (.iload_n 1, 1) := by decide +kernel
theorem dX8_endIn_55 : decode cX8_endIn 55 = .ok (.ireturn, 1) := by decide +kernel
theorem dX8_stepIn_0 : decode cX8_stepIn 0 = .ok (.aload_n 0, 1) := by decide +kernel
theorem dX8_stepIn_1 : decode cX8_stepIn 1 = .ok (.bipush 6, 2) := by decide +kernel
theorem dX8_stepIn_3 : decode cX8_stepIn 3 = .ok (.iaload, 1) := by decide +kernel
theorem dX8_stepIn_4 : decode cX8_stepIn 4 = .ok (.ifCond .ne 11, 3) := by decide +kernel
theorem dX8_stepIn_7 : decode cX8_stepIn 7 = .ok (.bipush (-9), 2) := by decide +kernel
theorem dX8_stepIn_9 : decode cX8_stepIn 9 = .ok (.aload_n 0, 1) := by decide +kernel
theorem dX8_stepIn_10 : decode cX8_stepIn 10 = .ok (.invokestatic 95, 3) := by decide +kernel
theorem dX8_stepIn_13 : decode cX8_stepIn 13 = .ok (.isub, 1) := by decide +kernel
theorem dX8_stepIn_14 : decode cX8_stepIn 14 = .ok (.ireturn, 1) := by decide +kernel
theorem dX8_stepIn_15 : decode cX8_stepIn 15 = .ok (.aload_n 0, 1) := by decide +kernel
theorem dX8_stepIn_16 : decode cX8_stepIn 16 = .ok (.sipush 223, 3) := by decide +kernel
theorem dX8_stepIn_19 : decode cX8_stepIn 19 = .ok (.iaload, 1) := by decide +kernel
theorem dX8_stepIn_20 : decode cX8_stepIn 20 = .ok (.istore_n 1, 1) := by decide +kernel
theorem dX8_stepIn_21 : decode cX8_stepIn 21 = .ok (.aload_n 0, 1) := by decide +kernel
theorem dX8_stepIn_22 : decode cX8_stepIn 22 = .ok (.bipush 6, 2) := by decide +kernel
theorem dX8_stepIn_24 : decode cX8_stepIn 24 = .ok (.dup2, 1) := by decide +kernel
theorem dX8_stepIn_25 : decode cX8_stepIn 25 = .ok (.iaload, 1) := by decide +kernel
theorem dX8_stepIn_26 : decode cX8_stepIn 26 = .ok (.iconst 1, 1) := by decide +kernel
theorem dX8_stepIn_27 : decode cX8_stepIn 27 = .ok (.isub, 1) := by decide +kernel
theorem dX8_stepIn_28 : decode cX8_stepIn 28 = .ok (.iastore, 1) := by decide +kernel
theorem dX8_stepIn_29 : decode cX8_stepIn 29 = .ok (.aload_n 0, 1) := by decide +kernel
theorem dX8_stepIn_30 : decode cX8_stepIn 30 = .ok (.sipush 224, 3) := by decide +kernel
theorem dX8_stepIn_33 : decode cX8_stepIn 33 = .ok (.aload_n 0, 1) := by decide +kernel
theorem dX8_stepIn_34 : decode cX8_stepIn 34 = .ok (.sipush 223, 3) := by decide +kernel
theorem dX8_stepIn_37 : decode cX8_stepIn 37 = .ok (.aload_n 0, 1) := by decide +kernel
theorem dX8_stepIn_38 : decode cX8_stepIn 38 = .ok (.bipush 6, 2) := by decide +kernel
theorem dX8_stepIn_40 : decode cX8_stepIn 40 = .ok (.iaload, 1) := by decide +kernel
theorem dX8_stepIn_41 : decode cX8_stepIn 41 = .ok (.invokestatic 56, 3) := by decide +kernel
theorem dX8_stepIn_44 : decode cX8_stepIn 44 = .ok (.aload_n 0, 1) := by decide +kernel
theorem dX8_stepIn_45 : decode cX8_stepIn 45 = .ok (.iload_n 1, 1) := by decide +kernel
theorem dX8_stepIn_46 : decode cX8_stepIn 46 = .ok (.iconst 3, 1) := by decide +kernel
theorem dX8_stepIn_47 : decode cX8_stepIn 47 = .ok (.invokestatic 66, 3) := by decide +kernel
theorem dX8_stepIn_50 : decode cX8_stepIn 50 = .ok (.iconst 2, 1) := by decide +kernel
theorem dX8_stepIn_51 : decode cX8_stepIn 51 = .ok (.iastore, 1) := by decide +kernel
theorem dX8_stepIn_52 : decode cX8_stepIn 52 = .ok (.iconst 0, 1) := by decide +kernel
theorem dX8_stepIn_53 : decode cX8_stepIn 53 = .ok (.istore_n 2, 1) := by decide +kernel
theorem dX8_stepIn_54 : decode cX8_stepIn 54 = .ok (.iload_n 2, 1) := by decide +kernel
theorem dX8_stepIn_55 : decode cX8_stepIn 55 = .ok (.aload_n 0, 1) := by decide +kernel
theorem dX8_stepIn_56 : decode cX8_stepIn 56 = .ok (.iconst 2, 1) := by decide +kernel
theorem dX8_stepIn_57 : decode cX8_stepIn 57 = .ok (.iaload, 1) := by decide +kernel
theorem dX8_stepIn_58 : decode cX8_stepIn 58 = .ok (.if_icmp .ge 42, 3) := by decide +kernel
theorem dX8_stepIn_61 : decode cX8_stepIn 61 = .ok (.aload_n 0, 1) := by decide +kernel
theorem dX8_stepIn_62 : decode cX8_stepIn 62 = .ok (.iload_n 2, 1) := by decide +kernel
theorem dX8_stepIn_63 : decode cX8_stepIn 63 = .ok (.iconst 0, 1) := by decide +kernel
theorem dX8_stepIn_64 : decode cX8_stepIn 64 = .ok (.invokestatic 78, 3) := by decide +kernel
theorem dX8_stepIn_67 : decode cX8_stepIn 67 = .ok (.iaload, 1) := by decide +kernel
theorem dX8_stepIn_68 : decode cX8_stepIn 68 = .ok (.iload_n 1, 1) := by decide +kernel
theorem dX8_stepIn_69 : decode cX8_stepIn 69 = .ok (.if_icmp .ne 25, 3) := by decide +kernel
theorem dX8_stepIn_72 : decode cX8_stepIn 72 = .ok (.aload_n 0, 1) := by decide +kernel
theorem dX8_stepIn_73 : decode cX8_stepIn 73 = .ok (.iload_n 2, 1) := by decide +kernel
theorem dX8_stepIn_74 : decode cX8_stepIn 74 = .ok (.iconst 2, 1) := by decide +kernel
theorem dX8_stepIn_75 : decode cX8_stepIn 75 = .ok (.invokestatic 78, 3) := by decide +kernel
theorem dX8_stepIn_78 : decode cX8_stepIn 78 = .ok (.iaload, 1) := by decide +kernel
theorem dX8_stepIn_79 : decode cX8_stepIn 79 = .ok (.iconst 1, 1) := by decide +kernel
theorem dX8_stepIn_80 : decode cX8_stepIn 80 = .ok (.if_icmp .ne 14, 3) := by decide +kernel
theorem dX8_stepIn_83 : decode cX8_stepIn 83 = .ok (.aload_n 0, 1) := by decide +kernel
theorem dX8_stepIn_84 : decode cX8_stepIn 84 = .ok (.aload_n 0, 1) := by decide +kernel
theorem dX8_stepIn_85 : decode cX8_stepIn 85 = .ok (.iload_n 2, 1) := by decide +kernel
theorem dX8_stepIn_86 : decode cX8_stepIn 86 = .ok (.iconst 1, 1) := by decide +kernel
theorem dX8_stepIn_87 : decode cX8_stepIn 87 = .ok (.invokestatic 78, 3) := by decide +kernel
theorem dX8_stepIn_90 : decode cX8_stepIn 90 = .ok (.iaload, 1) := by decide +kernel
theorem dX8_stepIn_91 : decode cX8_stepIn 91 = .ok (.invokestatic 85, 3) := by decide +kernel
theorem dX8_stepIn_94 : decode cX8_stepIn 94 = .ok (.iinc 2 1, 3) := by decide +kernel
theorem dX8_stepIn_97 : decode cX8_stepIn 97 = .ok (.goto (-43), 3) := by decide +kernel
theorem dX8_stepIn_100 : decode cX8_stepIn 100 = .ok (.iload_n 1, 1) := by decide +kernel
theorem dX8_stepIn_101 : decode cX8_stepIn 101 = .ok (.ireturn, 1) := by decide +kernel
theorem dX8_makeIn_0 : decode cX8_makeIn 0 = .ok (.aload_n 0, 1) := by decide +kernel
theorem dX8_makeIn_1 : decode cX8_makeIn 1 = .ok (.iconst 0, 1) := by decide +kernel
theorem dX8_makeIn_2 : decode cX8_makeIn 2 = .ok (.iaload, 1) := by decide +kernel
theorem dX8_makeIn_3 : decode cX8_makeIn 3 = .ok (.istore_n 2, 1) := by decide +kernel
theorem dX8_makeIn_4 : decode cX8_makeIn 4 = .ok (.aload_n 0, 1) := by decide +kernel
theorem dX8_makeIn_5 : decode cX8_makeIn 5 = .ok (.iload_n 2, 1) := by decide +kernel
theorem dX8_makeIn_6 : decode cX8_makeIn 6 = .ok (.iconst 0, 1) := by decide +kernel
theorem dX8_makeIn_7 : decode cX8_makeIn 7 = .ok (.invokestatic 66, 3) := by decide +kernel
theorem dX8_makeIn_10 : decode cX8_makeIn 10 = .ok (.iload_n 1, 1) := by decide +kernel
theorem dX8_makeIn_11 : decode cX8_makeIn 11 = .ok (.iastore, 1) := by decide +kernel
theorem dX8_makeIn_12 : decode cX8_makeIn 12 = .ok (.aload_n 0, 1) := by decide +kernel
theorem dX8_makeIn_13 : decode cX8_makeIn 13 = .ok (.iload_n 2, 1) := by decide +kernel
theorem dX8_makeIn_14 : decode cX8_makeIn 14 = .ok (.iconst 1, 1) := by decide +kernel
theorem dX8_makeIn_15 : decode cX8_makeIn 15 = .ok (.invokestatic 66, 3) := by decide +kernel
theorem dX8_makeIn_18 : decode cX8_makeIn 18 = .ok (.iconst 1, 1) := by decide +kernel
theorem dX8_makeIn_19 : decode cX8_makeIn 19 = .ok (.iastore, 1) := by decide +kernel
theorem dX8_makeIn_20 : decode cX8_makeIn 20 = .ok (.aload_n 0, 1) := by decide +kernel
theorem dX8_makeIn_21 : decode cX8_makeIn 21 = .ok (.iload_n 2, 1) := by decide +kernel
theorem dX8_makeIn_22 : decode cX8_makeIn 22 = .ok (.iconst 2, 1) := by decide +kernel
theorem dX8_makeIn_23 : decode cX8_makeIn 23 = .ok (.invokestatic 66, 3) := by decide +kernel
theorem dX8_makeIn_26 : decode cX8_makeIn 26 = .ok (.iconst 0, 1) := by decide +kernel
theorem dX8_makeIn_27 : decode cX8_makeIn 27 = .ok (.iastore, 1) := by decide +kernel
theorem dX8_makeIn_28 : decode cX8_makeIn 28 = .ok (.aload_n 0, 1) := by decide +kernel
theorem dX8_makeIn_29 : decode cX8_makeIn 29 = .ok (.iload_n 2, 1) := by decide +kernel
theorem dX8_makeIn_30 : decode cX8_makeIn 30 = .ok (.iconst 3, 1) := by decide +kernel
theorem dX8_makeIn_31 : decode cX8_makeIn 31 = .ok (.invokestatic 66, 3) := by decide +kernel
theorem dX8_makeIn_34 : decode cX8_makeIn 34 = .ok (.iconst 2, 1) := by decide +kernel
theorem dX8_makeIn_35 : decode cX8_makeIn 35 = .ok (.iastore, 1) := by decide +kernel
theorem dX8_makeIn_36 : decode cX8_makeIn 36 = .ok (.aload_n 0, 1) := by decide +kernel
theorem dX8_makeIn_37 : decode cX8_makeIn 37 = .ok (.iconst 0, 1) := by decide +kernel
theorem dX8_makeIn_38 : decode cX8_makeIn 38 = .ok (.dup2, 1) := by decide +kernel
theorem dX8_makeIn_39 : decode cX8_makeIn 39 = .ok (.iaload, 1) := by decide +kernel
theorem dX8_makeIn_40 : decode cX8_makeIn 40 = .ok (.iconst 1, 1) := by decide +kernel
theorem dX8_makeIn_41 : decode cX8_makeIn 41 = .ok (.iadd, 1) := by decide +kernel
theorem dX8_makeIn_42 : decode cX8_makeIn 42 = .ok (.iastore, 1) := by decide +kernel
theorem dX8_makeIn_43 : decode cX8_makeIn 43 = .ok (.iload_n 2, 1) := by decide +kernel
theorem dX8_makeIn_44 : decode cX8_makeIn 44 = .ok (.ireturn, 1) := by decide +kernel
theorem dX8_canTie_0 : decode cX8_canTie 0 = .ok (.aload_n 0, 1) := by decide +kernel
theorem dX8_canTie_1 : decode cX8_canTie 1 = .ok (.iload_n 1, 1) := by decide +kernel
theorem dX8_canTie_2 : decode cX8_canTie 2 = .ok (.iload_n 2, 1) := by decide +kernel
theorem dX8_canTie_3 : decode cX8_canTie 3 = .ok (.invokestatic 99, 3) := by decide +kernel
theorem dX8_canTie_6 : decode cX8_canTie 6 = .ok (.bipush (-9), 2) := by decide +kernel
theorem dX8_canTie_8 : decode cX8_canTie 8 = .ok (.if_icmp .ne 15, 3) := by decide +kernel
theorem dX8_canTie_11 : decode cX8_canTie 11 = .ok (.aload_n 0, 1) := by decide +kernel
theorem dX8_canTie_12 : decode cX8_canTie 12 = .ok (.iconst 2, 1) := by decide +kernel
theorem dX8_canTie_13 : decode cX8_canTie 13 = .ok (.iaload, 1) := by decide +kernel
theorem dX8_canTie_14 : decode cX8_canTie 14 = .ok (.bipush 40, 2) := by decide +kernel
theorem dX8_canTie_16 : decode cX8_canTie 16 = .ok (.if_icmp .ge 7, 3) := by decide +kernel
theorem dX8_canTie_19 : decode cX8_canTie 19 = .ok (.iconst 1, 1) := by decide +kernel
theorem dX8_canTie_20 : decode cX8_canTie 20 = .ok (.goto 4, 3) := by decide +kernel
theorem dX8_canTie_23 : decode cX8_canTie 23 = .ok (.iconst 0, 1) := by decide +kernel
theorem dX8_canTie_24 : decode cX8_canTie 24 = .ok (.ireturn, 1) := by decide +kernel
theorem dX8_colors_0 : decode cX8_colors 0 = .ok (.iload_n 1, 1) := by decide +kernel
theorem dX8_colors_1 : decode cX8_colors 1 = .ok (.ifCond .lt 14, 3) := by decide +kernel
theorem dX8_colors_4 : decode cX8_colors 4 = .ok (.aload_n 0, 1) := by decide +kernel
theorem dX8_colors_5 : decode cX8_colors 5 = .ok (.iload_n 1, 1) := by decide +kernel
theorem dX8_colors_6 : decode cX8_colors 6 = .ok (.iconst 3, 1) := by decide +kernel
theorem dX8_colors_7 : decode cX8_colors 7 = .ok (.invokestatic 66, 3) := by decide +kernel
theorem dX8_colors_10 : decode cX8_colors 10 = .ok (.iaload, 1) := by decide +kernel
theorem dX8_colors_11 : decode cX8_colors 11 = .ok (.iconst 2, 1) := by decide +kernel
theorem dX8_colors_12 : decode cX8_colors 12 = .ok (.if_icmp .ne 7, 3) := by decide +kernel
theorem dX8_colors_15 : decode cX8_colors 15 = .ok (.iconst 1, 1) := by decide +kernel
theorem dX8_colors_16 : decode cX8_colors 16 = .ok (.goto 4, 3) := by decide +kernel
theorem dX8_colors_19 : decode cX8_colors 19 = .ok (.iconst 0, 1) := by decide +kernel
theorem dX8_colors_20 : decode cX8_colors 20 = .ok (.ireturn, 1) := by decide +kernel
theorem dX8_tieIn_0 : decode cX8_tieIn 0 = .ok (.aload_n 0, 1) := by decide +kernel
theorem dX8_tieIn_1 : decode cX8_tieIn 1 = .ok (.iconst 2, 1) := by decide +kernel
theorem dX8_tieIn_2 : decode cX8_tieIn 2 = .ok (.iaload, 1) := by decide +kernel
theorem dX8_tieIn_3 : decode cX8_tieIn 3 = .ok (.istore 4, 2) := by decide +kernel
theorem dX8_tieIn_5 : decode cX8_tieIn 5 = .ok (.aload_n 0, 1) := by decide +kernel
theorem dX8_tieIn_6 : decode cX8_tieIn 6 = .ok (.iload 4, 2) := by decide +kernel
theorem dX8_tieIn_8 : decode cX8_tieIn 8 = .ok (.iconst 0, 1) := by decide +kernel
theorem dX8_tieIn_9 : decode cX8_tieIn 9 = .ok (.invokestatic 78, 3) := by decide +kernel
theorem dX8_tieIn_12 : decode cX8_tieIn 12 = .ok (.iload_n 1, 1) := by decide +kernel
theorem dX8_tieIn_13 : decode cX8_tieIn 13 = .ok (.iastore, 1) := by decide +kernel
theorem dX8_tieIn_14 : decode cX8_tieIn 14 = .ok (.aload_n 0, 1) := by decide +kernel
theorem dX8_tieIn_15 : decode cX8_tieIn 15 = .ok (.iload 4, 2) := by decide +kernel
theorem dX8_tieIn_17 : decode cX8_tieIn 17 = .ok (.iconst 1, 1) := by decide +kernel
theorem dX8_tieIn_18 : decode cX8_tieIn 18 = .ok (.invokestatic 78, 3) := by decide +kernel
theorem dX8_tieIn_21 : decode cX8_tieIn 21 = .ok (.iload_n 2, 1) := by decide +kernel
theorem dX8_tieIn_22 : decode cX8_tieIn 22 = .ok (.iastore, 1) := by decide +kernel
theorem dX8_tieIn_23 : decode cX8_tieIn 23 = .ok (.aload_n 0, 1) := by decide +kernel
theorem dX8_tieIn_24 : decode cX8_tieIn 24 = .ok (.iload 4, 2) := by decide +kernel
theorem dX8_tieIn_26 : decode cX8_tieIn 26 = .ok (.iconst 2, 1) := by decide +kernel
theorem dX8_tieIn_27 : decode cX8_tieIn 27 = .ok (.invokestatic 78, 3) := by decide +kernel
theorem dX8_tieIn_30 : decode cX8_tieIn 30 = .ok (.iload_n 3, 1) := by decide +kernel
theorem dX8_tieIn_31 : decode cX8_tieIn 31 = .ok (.iastore, 1) := by decide +kernel
theorem dX8_tieIn_32 : decode cX8_tieIn 32 = .ok (.aload_n 0, 1) := by decide +kernel
theorem dX8_tieIn_33 : decode cX8_tieIn 33 = .ok (.iconst 2, 1) := by decide +kernel
theorem dX8_tieIn_34 : decode cX8_tieIn 34 = .ok (.dup2, 1) := by decide +kernel
theorem dX8_tieIn_35 : decode cX8_tieIn 35 = .ok (.iaload, 1) := by decide +kernel
theorem dX8_tieIn_36 : decode cX8_tieIn 36 = .ok (.iconst 1, 1) := by decide +kernel
theorem dX8_tieIn_37 : decode cX8_tieIn 37 = .ok (.iadd, 1) := by decide +kernel
theorem dX8_tieIn_38 : decode cX8_tieIn 38 = .ok (.iastore, 1) := by decide +kernel
theorem dX8_tieIn_39 : decode cX8_tieIn 39 = .ok (.iload_n 3, 1) := by decide +kernel
theorem dX8_tieIn_40 : decode cX8_tieIn 40 = .ok (.iconst 1, 1) := by decide +kernel
theorem dX8_tieIn_41 : decode cX8_tieIn 41 = .ok (.if_icmp .ne 16, 3) := by decide +kernel
theorem dX8_tieIn_44 : decode cX8_tieIn 44 = .ok (.aload_n 0, 1) := by decide +kernel
theorem dX8_tieIn_45 : decode cX8_tieIn 45 = .ok (.iload_n 1, 1) := by decide +kernel
theorem dX8_tieIn_46 : decode cX8_tieIn 46 = .ok (.invokestatic 103, 3) := by decide +kernel
theorem dX8_tieIn_49 : decode cX8_tieIn 49 = .ok (.ifCond .eq 8, 3) := by decide +kernel
theorem dX8_tieIn_52 : decode cX8_tieIn 52 = .ok (.aload_n 0, 1) := by decide +kernel
theorem dX8_tieIn_53 : decode cX8_tieIn 53 = .ok (.iload_n 2, 1) := by decide +kernel
theorem dX8_tieIn_54 : decode cX8_tieIn 54 = .ok (.invokestatic 85, 3) := by decide +kernel
theorem dX8_tieIn_57 : decode cX8_tieIn 57 = .ok (.return_, 1) := by decide +kernel
theorem dX8_mendIn_0 : decode cX8_mendIn 0 = .ok (.aload_n 0, 1) := by decide +kernel
theorem dX8_mendIn_1 : decode cX8_mendIn 1 = .ok (.iload_n 1, 1) := by decide +kernel
theorem dX8_mendIn_2 : decode cX8_mendIn 2 = .ok (.iconst 2, 1) := by decide +kernel
theorem dX8_mendIn_3 : decode cX8_mendIn 3 = .ok (.invokestatic 78, 3) := by decide +kernel
theorem dX8_mendIn_6 : decode cX8_mendIn 6 = .ok (.iconst 1, 1) := by decide +kernel
theorem dX8_mendIn_7 : decode cX8_mendIn 7 = .ok (.iastore, 1) := by decide +kernel
theorem dX8_mendIn_8 : decode cX8_mendIn 8 = .ok (.aload_n 0, 1) := by decide +kernel
theorem dX8_mendIn_9 : decode cX8_mendIn 9 = .ok (.aload_n 0, 1) := by decide +kernel
theorem dX8_mendIn_10 : decode cX8_mendIn 10 = .ok (.iload_n 1, 1) := by decide +kernel
theorem dX8_mendIn_11 : decode cX8_mendIn 11 = .ok (.iconst 0, 1) := by decide +kernel
theorem dX8_mendIn_12 : decode cX8_mendIn 12 = .ok (.invokestatic 78, 3) := by decide +kernel
theorem dX8_mendIn_15 : decode cX8_mendIn 15 = .ok (.iaload, 1) := by decide +kernel
theorem dX8_mendIn_16 : decode cX8_mendIn 16 = .ok (.invokestatic 103, 3) := by decide +kernel
theorem dX8_mendIn_19 : decode cX8_mendIn 19 = .ok (.ifCond .eq 14, 3) := by decide +kernel
theorem dX8_mendIn_22 : decode cX8_mendIn 22 = .ok (.aload_n 0, 1) := by decide +kernel
theorem dX8_mendIn_23 : decode cX8_mendIn 23 = .ok (.aload_n 0, 1) := by decide +kernel
theorem dX8_mendIn_24 : decode cX8_mendIn 24 = .ok (.iload_n 1, 1) := by decide +kernel
theorem dX8_mendIn_25 : decode cX8_mendIn 25 = .ok (.iconst 1, 1) := by decide +kernel
theorem dX8_mendIn_26 : decode cX8_mendIn 26 = .ok (.invokestatic 78, 3) := by decide +kernel
theorem dX8_mendIn_29 : decode cX8_mendIn 29 = .ok (.iaload, 1) := by decide +kernel
theorem dX8_mendIn_30 : decode cX8_mendIn 30 = .ok (.invokestatic 85, 3) := by decide +kernel
theorem dX8_mendIn_33 : decode cX8_mendIn 33 = .ok (.return_, 1) := by decide +kernel
theorem dX8_pinIn_0 : decode cX8_pinIn 0 = .ok (.aload_n 0, 1) := by decide +kernel
theorem dX8_pinIn_1 : decode cX8_pinIn 1 = .ok (.iload_n 1, 1) := by decide +kernel
theorem dX8_pinIn_2 : decode cX8_pinIn 2 = .ok (.iconst 2, 1) := by decide +kernel
theorem dX8_pinIn_3 : decode cX8_pinIn 3 = .ok (.invokestatic 66, 3) := by decide +kernel
theorem dX8_pinIn_6 : decode cX8_pinIn 6 = .ok (.iload_n 2, 1) := by decide +kernel
theorem dX8_pinIn_7 : decode cX8_pinIn 7 = .ok (.ifCond .eq 7, 3) := by decide +kernel
theorem dX8_pinIn_10 : decode cX8_pinIn 10 = .ok (.iconst 1, 1) := by decide +kernel
theorem dX8_pinIn_11 : decode cX8_pinIn 11 = .ok (.goto 4, 3) := by decide +kernel
theorem dX8_pinIn_14 : decode cX8_pinIn 14 = .ok (.iconst 0, 1) := by decide +kernel
theorem dX8_pinIn_15 : decode cX8_pinIn 15 = .ok (.iastore, 1) := by decide +kernel
theorem dX8_pinIn_16 : decode cX8_pinIn 16 = .ok (.iload_n 2, 1) := by decide +kernel
theorem dX8_pinIn_17 : decode cX8_pinIn 17 = .ok (.ifCond .eq 8, 3) := by decide +kernel
theorem dX8_pinIn_20 : decode cX8_pinIn 20 = .ok (.aload_n 0, 1) := by decide +kernel
theorem dX8_pinIn_21 : decode cX8_pinIn 21 = .ok (.iload_n 1, 1) := by decide +kernel
theorem dX8_pinIn_22 : decode cX8_pinIn 22 = .ok (.invokestatic 85, 3) := by decide +kernel
theorem dX8_pinIn_25 : decode cX8_pinIn 25 = .ok (.return_, 1) := by decide +kernel
theorem dX8_append_0 : decode cX8_append 0 = .ok (.aload_n 0, 1) := by decide +kernel
theorem dX8_append_1 : decode cX8_append 1 = .ok (.iload_n 1, 1) := by decide +kernel
theorem dX8_append_2 : decode cX8_append 2 = .ok (.i2l, 1) := by decide +kernel
theorem dX8_append_3 : decode cX8_append 3 = .ok (.lconst 0, 1) := by decide +kernel
theorem dX8_append_4 : decode cX8_append 4 = .ok (.ldc2_w 106, 3) := by decide +kernel
theorem dX8_append_7 : decode cX8_append 7 = .ok (.invokestatic 60, 3) := by decide +kernel
theorem dX8_append_10 : decode cX8_append 10 = .ok (.ifCond .ne 7, 3) := by decide +kernel
theorem dX8_append_13 : decode cX8_append 13 = .ok (.iconst 1, 1) := by decide +kernel
theorem dX8_append_14 : decode cX8_append 14 = .ok (.goto 17, 3) := by decide +kernel
theorem dX8_append_17 : decode cX8_append 17 = .ok (.aload_n 0, 1) := by decide +kernel
theorem dX8_append_18 : decode cX8_append 18 = .ok (.getfield 108, 3) := by decide +kernel
theorem dX8_append_21 : decode cX8_append 21 = .ok (.bipush 120, 2) := by decide +kernel
theorem dX8_append_23 : decode cX8_append 23 = .ok (.if_icmp .ne 7, 3) := by decide +kernel
theorem dX8_append_26 : decode cX8_append 26 = .ok (.iconst 2, 1) := by decide +kernel
theorem dX8_append_27 : decode cX8_append 27 = .ok (.goto 4, 3) := by decide +kernel
theorem dX8_append_30 : decode cX8_append 30 = .ok (.iconst 0, 1) := by decide +kernel
theorem dX8_append_31 : decode cX8_append 31 = .ok (.invokevirtual 111, 3) := by decide +kernel
theorem dX8_append_34 : decode cX8_append 34 = .ok (.ifCond .eq 5, 3) := by decide +kernel
theorem dX8_append_37 : decode cX8_append 37 = .ok (.iconst 0, 1) := by decide +kernel
theorem dX8_append_38 : decode cX8_append 38 = .ok (.ireturn, 1) := by decide +kernel
theorem dX8_append_39 : decode cX8_append 39 = .ok (.aload_n 0, 1) := by decide +kernel
theorem dX8_append_40 : decode cX8_append 40 = .ok (.getfield 7, 3) := by decide +kernel
theorem dX8_append_43 : decode cX8_append 43 = .ok (.aload_n 0, 1) := by decide +kernel
theorem dX8_append_44 : decode cX8_append 44 = .ok (.getfield 108, 3) := by decide +kernel
theorem dX8_append_47 : decode cX8_append 47 = .ok (.iload_n 1, 1) := by decide +kernel
theorem dX8_append_48 : decode cX8_append 48 = .ok (.iastore, 1) := by decide +kernel
theorem dX8_append_49 : decode cX8_append 49 = .ok (.aload_n 0, 1) := by decide +kernel
theorem dX8_append_50 : decode cX8_append 50 = .ok (.dup, 1) := by decide +kernel
theorem dX8_append_51 : decode cX8_append 51 = .ok (.getfield 108, 3) := by decide +kernel
theorem dX8_append_54 : decode cX8_append 54 = .ok (.iconst 1, 1) := by decide +kernel
theorem dX8_append_55 : decode cX8_append 55 = .ok (.iadd, 1) := by decide +kernel
theorem dX8_append_56 : decode cX8_append 56 = .ok (.putfield 108, 3) := by decide +kernel
theorem dX8_append_59 : decode cX8_append 59 = .ok (.aload_n 0, 1) := by decide +kernel
theorem dX8_append_60 : decode cX8_append 60 = .ok (.getfield 108, 3) := by decide +kernel
theorem dX8_append_63 : decode cX8_append 63 = .ok (.ireturn, 1) := by decide +kernel
theorem dX8_clearText_0 : decode cX8_clearText 0 = .ok (.aload_n 0, 1) := by decide +kernel
theorem dX8_clearText_1 : decode cX8_clearText 1 = .ok (.iconst 0, 1) := by decide +kernel
theorem dX8_clearText_2 : decode cX8_clearText 2 = .ok (.putfield 47, 3) := by decide +kernel
theorem dX8_clearText_5 : decode cX8_clearText 5 = .ok (.aload_n 0, 1) := by decide +kernel
theorem dX8_clearText_6 : decode cX8_clearText 6 = .ok (.getfield 108, 3) := by decide +kernel
theorem dX8_clearText_9 : decode cX8_clearText 9 = .ok (.istore_n 1, 1) := by decide +kernel
theorem dX8_clearText_10 : decode cX8_clearText 10 = .ok (.aload_n 0, 1) := by decide +kernel
theorem dX8_clearText_11 : decode cX8_clearText 11 = .ok (.iconst 0, 1) := by decide +kernel
theorem dX8_clearText_12 : decode cX8_clearText 12 = .ok (.putfield 108, 3) := by decide +kernel
theorem dX8_clearText_15 : decode cX8_clearText 15 = .ok (.iload_n 1, 1) := by decide +kernel
theorem dX8_clearText_16 : decode cX8_clearText 16 = .ok (.ireturn, 1) := by decide +kernel
theorem dX8_isNext_0 : decode cX8_isNext 0 = .ok (.aload_n 0, 1) := by decide +kernel
theorem dX8_isNext_1 : decode cX8_isNext 1 = .ok (.getfield 115, 3) := by decide +kernel
theorem dX8_isNext_4 : decode cX8_isNext 4 = .ok (.aload_n 0, 1) := by decide +kernel
theorem dX8_isNext_5 : decode cX8_isNext 5 = .ok (.getfield 108, 3) := by decide +kernel
theorem dX8_isNext_8 : decode cX8_isNext 8 = .ok (.if_icmp .ge 20, 3) := by decide +kernel
theorem dX8_isNext_11 : decode cX8_isNext 11 = .ok (.aload_n 0, 1) := by decide +kernel
theorem dX8_isNext_12 : decode cX8_isNext 12 = .ok (.getfield 7, 3) := by decide +kernel
theorem dX8_isNext_15 : decode cX8_isNext 15 = .ok (.aload_n 0, 1) := by decide +kernel
theorem dX8_isNext_16 : decode cX8_isNext 16 = .ok (.getfield 115, 3) := by decide +kernel
theorem dX8_isNext_19 : decode cX8_isNext 19 = .ok (.iaload, 1) := by decide +kernel
theorem dX8_isNext_20 : decode cX8_isNext 20 = .ok (.iload_n 1, 1) := by decide +kernel
theorem dX8_isNext_21 : decode cX8_isNext 21 = .ok (.if_icmp .ne 7, 3) := by decide +kernel
theorem dX8_isNext_24 : decode cX8_isNext 24 = .ok (.iconst 1, 1) := by decide +kernel
theorem dX8_isNext_25 : decode cX8_isNext 25 = .ok (.goto 4, 3) := by decide +kernel
theorem dX8_isNext_28 : decode cX8_isNext 28 = .ok (.iconst 0, 1) := by decide +kernel
theorem dX8_isNext_29 : decode cX8_isNext 29 = .ok (.ireturn, 1) := by decide +kernel
theorem dX8_accept_0 : decode cX8_accept 0 = .ok (.aload_n 0, 1) := by decide +kernel
theorem dX8_accept_1 : decode cX8_accept 1 = .ok (.aload_n 0, 1) := by decide +kernel
theorem dX8_accept_2 : decode cX8_accept 2 = .ok (.getfield 118, 3) := by decide +kernel
theorem dX8_accept_5 : decode cX8_accept 5 = .ok (.ifCond .eq 11, 3) := by decide +kernel
theorem dX8_accept_8 : decode cX8_accept 8 = .ok (.iload_n 1, 1) := by decide +kernel
theorem dX8_accept_9 : decode cX8_accept 9 = .ok (.ifCond .eq 7, 3) := by decide +kernel
theorem dX8_accept_12 : decode cX8_accept 12 = .ok (.iconst 1, 1) := by decide +kernel
theorem dX8_accept_13 : decode cX8_accept 13 = .ok (.goto 4, 3) := by decide +kernel
theorem dX8_accept_16 : decode cX8_accept 16 = .ok (.iconst 0, 1) := by decide +kernel
theorem dX8_accept_17 : decode cX8_accept 17 = .ok (.putfield 118, 3) := by decide +kernel
theorem dX8_accept_20 : decode cX8_accept 20 = .ok (.aload_n 0, 1) := by decide +kernel
theorem dX8_accept_21 : decode cX8_accept 21 = .ok (.dup, 1) := by decide +kernel
theorem dX8_accept_22 : decode cX8_accept 22 = .ok (.getfield 115, 3) := by decide +kernel
theorem dX8_accept_25 : decode cX8_accept 25 = .ok (.aload_n 0, 1) := by decide +kernel
theorem dX8_accept_26 : decode cX8_accept 26 = .ok (.getfield 118, 3) := by decide +kernel
theorem dX8_accept_29 : decode cX8_accept 29 = .ok (.ifCond .eq 7, 3) := by decide +kernel
theorem dX8_accept_32 : decode cX8_accept 32 = .ok (.iconst 1, 1) := by decide +kernel
theorem dX8_accept_33 : decode cX8_accept 33 = .ok (.goto 4, 3) := by decide +kernel
theorem dX8_accept_36 : decode cX8_accept 36 = .ok (.iconst 0, 1) := by decide +kernel
theorem dX8_accept_37 : decode cX8_accept 37 = .ok (.iadd, 1) := by decide +kernel
theorem dX8_accept_38 : decode cX8_accept 38 = .ok (.putfield 115, 3) := by decide +kernel
theorem dX8_accept_41 : decode cX8_accept 41 = .ok (.return_, 1) := by decide +kernel
theorem dX8_digit_0 : decode cX8_digit 0 = .ok (.aload_n 0, 1) := by decide +kernel
theorem dX8_digit_1 : decode cX8_digit 1 = .ok (.getfield 115, 3) := by decide +kernel
theorem dX8_digit_4 : decode cX8_digit 4 = .ok (.aload_n 0, 1) := by decide +kernel
theorem dX8_digit_5 : decode cX8_digit 5 = .ok (.getfield 108, 3) := by decide +kernel
theorem dX8_digit_8 : decode cX8_digit 8 = .ok (.if_icmp .ge 18, 3) := by decide +kernel
theorem dX8_digit_11 : decode cX8_digit 11 = .ok (.aload_n 0, 1) := by decide +kernel
theorem dX8_digit_12 : decode cX8_digit 12 = .ok (.getfield 7, 3) := by decide +kernel
theorem dX8_digit_15 : decode cX8_digit 15 = .ok (.aload_n 0, 1) := by decide +kernel
theorem dX8_digit_16 : decode cX8_digit 16 = .ok (.getfield 115, 3) := by decide +kernel
theorem dX8_digit_19 : decode cX8_digit 19 = .ok (.iaload, 1) := by decide +kernel
theorem dX8_digit_20 : decode cX8_digit 20 = .ok (.bipush 48, 2) := by decide +kernel
theorem dX8_digit_22 : decode cX8_digit 22 = .ok (.isub, 1) := by decide +kernel
theorem dX8_digit_23 : decode cX8_digit 23 = .ok (.goto 5, 3) := by decide +kernel
theorem dX8_digit_26 : decode cX8_digit 26 = .ok (.bipush (-9), 2) := by decide +kernel
theorem dX8_digit_28 : decode cX8_digit 28 = .ok (.istore_n 3, 1) := by decide +kernel
theorem dX8_digit_29 : decode cX8_digit 29 = .ok (.aload_n 0, 1) := by decide +kernel
theorem dX8_digit_30 : decode cX8_digit 30 = .ok (.iload_n 3, 1) := by decide +kernel
theorem dX8_digit_31 : decode cX8_digit 31 = .ok (.i2l, 1) := by decide +kernel
theorem dX8_digit_32 : decode cX8_digit 32 = .ok (.lconst 0, 1) := by decide +kernel
theorem dX8_digit_33 : decode cX8_digit 33 = .ok (.ldc2_w 122, 3) := by decide +kernel
theorem dX8_digit_36 : decode cX8_digit 36 = .ok (.invokestatic 60, 3) := by decide +kernel
theorem dX8_digit_39 : decode cX8_digit 39 = .ok (.ifCond .eq 19, 3) := by decide +kernel
theorem dX8_digit_42 : decode cX8_digit 42 = .ok (.iload_n 3, 1) := by decide +kernel
theorem dX8_digit_43 : decode cX8_digit 43 = .ok (.i2l, 1) := by decide +kernel
theorem dX8_digit_44 : decode cX8_digit 44 = .ok (.iload_n 1, 1) := by decide +kernel
theorem dX8_digit_45 : decode cX8_digit 45 = .ok (.i2l, 1) := by decide +kernel
theorem dX8_digit_46 : decode cX8_digit 46 = .ok (.iload_n 2, 1) := by decide +kernel
theorem dX8_digit_47 : decode cX8_digit 47 = .ok (.i2l, 1) := by decide +kernel
theorem dX8_digit_48 : decode cX8_digit 48 = .ok (.invokestatic 60, 3) := by decide +kernel
theorem dX8_digit_51 : decode cX8_digit 51 = .ok (.ifCond .eq 7, 3) := by decide +kernel
theorem dX8_digit_54 : decode cX8_digit 54 = .ok (.iconst 1, 1) := by decide +kernel
theorem dX8_digit_55 : decode cX8_digit 55 = .ok (.goto 4, 3) := by decide +kernel
theorem dX8_digit_58 : decode cX8_digit 58 = .ok (.iconst 0, 1) := by decide +kernel
theorem dX8_digit_59 : decode cX8_digit 59 = .ok (.invokevirtual 124, 3) := by decide +kernel
theorem dX8_digit_62 : decode cX8_digit 62 = .ok (.aload_n 0, 1) := by decide +kernel
theorem dX8_digit_63 : decode cX8_digit 63 = .ok (.getfield 118, 3) := by decide +kernel
theorem dX8_digit_66 : decode cX8_digit 66 = .ok (.ifCond .eq 7, 3) := by decide +kernel
theorem dX8_digit_69 : decode cX8_digit 69 = .ok (.iload_n 3, 1) := by decide +kernel
theorem dX8_digit_70 : decode cX8_digit 70 = .ok (.goto 4, 3) := by decide +kernel
theorem dX8_digit_73 : decode cX8_digit 73 = .ok (.iload_n 1, 1) := by decide +kernel
theorem dX8_digit_74 : decode cX8_digit 74 = .ok (.ireturn, 1) := by decide +kernel
theorem dX8_partRead_0 : decode cX8_partRead 0 = .ok (.aload_n 0, 1) := by decide +kernel
theorem dX8_partRead_1 : decode cX8_partRead 1 = .ok (.iconst 0, 1) := by decide +kernel
theorem dX8_partRead_2 : decode cX8_partRead 2 = .ok (.iconst 2, 1) := by decide +kernel
theorem dX8_partRead_3 : decode cX8_partRead 3 = .ok (.invokevirtual 128, 3) := by decide +kernel
theorem dX8_partRead_6 : decode cX8_partRead 6 = .ok (.istore_n 1, 1) := by decide +kernel
theorem dX8_partRead_7 : decode cX8_partRead 7 = .ok (.bipush 10, 2) := by decide +kernel
theorem dX8_partRead_9 : decode cX8_partRead 9 = .ok (.iload_n 1, 1) := by decide +kernel
theorem dX8_partRead_10 : decode cX8_partRead 10 = .ok (.imul, 1) := by decide +kernel
theorem dX8_partRead_11 : decode cX8_partRead 11 = .ok (.aload_n 0, 1) := by decide +kernel
theorem dX8_partRead_12 : decode cX8_partRead 12 = .ok (.iconst 0, 1) := by decide +kernel
theorem dX8_partRead_13 : decode cX8_partRead 13 = .ok (.iload_n 1, 1) := by decide +kernel
theorem dX8_partRead_14 : decode cX8_partRead 14 = .ok (.iconst 2, 1) := by decide +kernel
theorem dX8_partRead_15 : decode cX8_partRead 15 = .ok (.if_icmp .ne 7, 3) := by decide +kernel
theorem dX8_partRead_18 : decode cX8_partRead 18 = .ok (.iconst 3, 1) := by decide +kernel
theorem dX8_partRead_19 : decode cX8_partRead 19 = .ok (.goto 5, 3) := by decide +kernel
theorem dX8_partRead_22 : decode cX8_partRead 22 = .ok (.bipush 9, 2) := by decide +kernel
theorem dX8_partRead_24 : decode cX8_partRead 24 = .ok (.invokevirtual 128, 3) := by decide +kernel
theorem dX8_partRead_27 : decode cX8_partRead 27 = .ok (.iadd, 1) := by decide +kernel
theorem dX8_partRead_28 : decode cX8_partRead 28 = .ok (.ireturn, 1) := by decide +kernel
theorem dX8_thingRead_0 : decode cX8_thingRead 0 = .ok (.aload_n 0, 1) := by decide +kernel
theorem dX8_thingRead_1 : decode cX8_thingRead 1 = .ok (.bipush 104, 2) := by decide +kernel
theorem dX8_thingRead_3 : decode cX8_thingRead 3 = .ok (.invokevirtual 131, 3) := by decide +kernel
theorem dX8_thingRead_6 : decode cX8_thingRead 6 = .ok (.ifCond .eq 17, 3) := by decide +kernel
theorem dX8_thingRead_9 : decode cX8_thingRead 9 = .ok (.aload_n 0, 1) := by decide +kernel
theorem dX8_thingRead_10 : decode cX8_thingRead 10 = .ok (.iconst 1, 1) := by decide +kernel
theorem dX8_thingRead_11 : decode cX8_thingRead 11 = .ok (.invokevirtual 124, 3) := by decide +kernel
theorem dX8_thingRead_14 : decode cX8_thingRead 14 = .ok (.iconst (-1), 1) := by decide +kernel
theorem dX8_thingRead_15 : decode cX8_thingRead 15 = .ok (.aload_n 0, 1) := by decide +kernel
theorem dX8_thingRead_16 : decode cX8_thingRead 16 = .ok (.iconst 0, 1) := by decide +kernel
theorem dX8_thingRead_17 : decode cX8_thingRead 17 = .ok (.iconst 3, 1) := by decide +kernel
theorem dX8_thingRead_18 : decode cX8_thingRead 18 = .ok (.invokevirtual 128, 3) := by decide +kernel
theorem dX8_thingRead_21 : decode cX8_thingRead 21 = .ok (.isub, 1) := by decide +kernel
theorem dX8_thingRead_22 : decode cX8_thingRead 22 = .ok (.ireturn, 1) := by decide +kernel
theorem dX8_thingRead_23 : decode cX8_thingRead 23 = .ok (.aload_n 0, 1) := by decide +kernel
theorem dX8_thingRead_24 : decode cX8_thingRead 24 = .ok (.invokevirtual 134, 3) := by decide +kernel
theorem dX8_thingRead_27 : decode cX8_thingRead 27 = .ok (.ireturn, 1) := by decide +kernel
theorem dX8_count_0 : decode cX8_count 0 = .ok (.aload_n 0, 1) := by decide +kernel
theorem dX8_count_1 : decode cX8_count 1 = .ok (.dup, 1) := by decide +kernel
theorem dX8_count_2 : decode cX8_count 2 = .ok (.getfield 138, 3) := by decide +kernel
theorem dX8_count_5 : decode cX8_count 5 = .ok (.iload_n 1, 1) := by decide +kernel
theorem dX8_count_6 : decode cX8_count 6 = .ok (.ifCond .eq 7, 3) := by decide +kernel
theorem dX8_count_9 : decode cX8_count 9 = .ok (.iconst 0, 1) := by decide +kernel
theorem dX8_count_10 : decode cX8_count 10 = .ok (.goto 4, 3) := by decide +kernel
theorem dX8_count_13 : decode cX8_count 13 = .ok (.iconst 1, 1) := by decide +kernel
theorem dX8_count_14 : decode cX8_count 14 = .ok (.iadd, 1) := by decide +kernel
theorem dX8_count_15 : decode cX8_count 15 = .ok (.putfield 138, 3) := by decide +kernel
theorem dX8_count_18 : decode cX8_count 18 = .ok (.return_, 1) := by decide +kernel
theorem dX8_readString_0 : decode cX8_readString 0 = .ok (.aload_n 0, 1) := by decide +kernel
theorem dX8_readString_1 : decode cX8_readString 1 = .ok (.iconst 1, 1) := by decide +kernel
theorem dX8_readString_2 : decode cX8_readString 2 = .ok (.invokevirtual 124, 3) := by decide +kernel
theorem dX8_readString_5 : decode cX8_readString 5 = .ok (.aload_n 0, 1) := by decide +kernel
theorem dX8_readString_6 : decode cX8_readString 6 = .ok (.invokevirtual 141, 3) := by decide +kernel
theorem dX8_readString_9 : decode cX8_readString 9 = .ok (.istore_n 2, 1) := by decide +kernel
theorem dX8_readString_10 : decode cX8_readString 10 = .ok (.aload_n 0, 1) := by decide +kernel
theorem dX8_readString_11 : decode cX8_readString 11 = .ok (.invokevirtual 134, 3) := by decide +kernel
theorem dX8_readString_14 : decode cX8_readString 14 = .ok (.istore_n 3, 1) := by decide +kernel
theorem dX8_readString_15 : decode cX8_readString 15 = .ok (.aload_n 0, 1) := by decide +kernel
theorem dX8_readString_16 : decode cX8_readString 16 = .ok (.getfield 118, 3) := by decide +kernel
theorem dX8_readString_19 : decode cX8_readString 19 = .ok (.ifCond .ne 4, 3) := by decide +kernel
theorem dX8_readString_22 : decode cX8_readString 22 = .ok (.return_, 1) := by decide +kernel
theorem dX8_readString_23 : decode cX8_readString 23 = .ok (.aload_n 0, 1) := by decide +kernel
theorem dX8_readString_24 : decode cX8_readString 24 = .ok (.getfield 13, 3) := by decide +kernel
theorem dX8_readString_27 : decode cX8_readString 27 = .ok (.iload_n 2, 1) := by decide +kernel
theorem dX8_readString_28 : decode cX8_readString 28 = .ok (.invokestatic 144, 3) := by decide +kernel
theorem dX8_readString_31 : decode cX8_readString 31 = .ok (.ifCond .eq 18, 3) := by decide +kernel
theorem dX8_readString_34 : decode cX8_readString 34 = .ok (.aload_n 0, 1) := by decide +kernel
theorem dX8_readString_35 : decode cX8_readString 35 = .ok (.getfield 13, 3) := by decide +kernel
theorem dX8_readString_38 : decode cX8_readString 38 = .ok (.iload_n 3, 1) := by decide +kernel
theorem dX8_readString_39 : decode cX8_readString 39 = .ok (.invokestatic 74, 3) := by decide +kernel
theorem dX8_readString_42 : decode cX8_readString 42 = .ok (.ifCond .eq 7, 3) := by decide +kernel
theorem dX8_readString_45 : decode cX8_readString 45 = .ok (.iconst 1, 1) := by decide +kernel
theorem dX8_readString_46 : decode cX8_readString 46 = .ok (.goto 4, 3) := by decide +kernel
theorem dX8_readString_49 : decode cX8_readString 49 = .ok (.iconst 0, 1) := by decide +kernel
theorem dX8_readString_50 : decode cX8_readString 50 = .ok (.istore 4, 2) := by decide +kernel
theorem dX8_readString_52 : decode cX8_readString 52 = .ok (.iload 4, 2) := by decide +kernel
theorem dX8_readString_54 : decode cX8_readString 54 = .ok (.ifCond .eq 15, 3) := by decide +kernel
theorem dX8_readString_57 : decode cX8_readString 57 = .ok (.aload_n 0, 1) := by decide +kernel
theorem dX8_readString_58 : decode cX8_readString 58 = .ok (.getfield 13, 3) := by decide +kernel
theorem dX8_readString_61 : decode cX8_readString 61 = .ok (.iload_n 2, 1) := by decide +kernel
theorem dX8_readString_62 : decode cX8_readString 62 = .ok (.iload_n 3, 1) := by decide +kernel
theorem dX8_readString_63 : decode cX8_readString 63 = .ok (.invokestatic 99, 3) := by decide +kernel
theorem dX8_readString_66 : decode cX8_readString 66 = .ok (.goto 5, 3) := by decide +kernel
theorem dX8_readString_69 : decode cX8_readString 69 = .ok (.bipush (-9), 2) := by decide +kernel
theorem dX8_readString_71 : decode cX8_readString 71 = .ok (.istore 5, 2) := by decide +kernel
theorem dX8_readString_73 : decode cX8_readString 73 = .ok (.iload_n 1, 1) := by decide +kernel
theorem dX8_readString_74 : decode cX8_readString 74 = .ok (.bipush 116, 2) := by decide +kernel
theorem dX8_readString_76 : decode cX8_readString 76 = .ok (.if_icmp .ne 33, 3) := by decide +kernel
theorem dX8_readString_79 : decode cX8_readString 79 = .ok (.iload 4, 2) := by decide +kernel
theorem dX8_readString_81 : decode cX8_readString 81 = .ok (.ifCond .eq 24, 3) := by decide +kernel
theorem dX8_readString_84 : decode cX8_readString 84 = .ok (.iload_n 2, 1) := by decide +kernel
theorem dX8_readString_85 : decode cX8_readString 85 = .ok (.iload_n 3, 1) := by decide +kernel
theorem dX8_readString_86 : decode cX8_readString 86 = .ok (.if_icmp .eq 19, 3) := by decide +kernel
theorem dX8_readString_89 : decode cX8_readString 89 = .ok (.aload_n 0, 1) := by decide +kernel
theorem dX8_readString_90 : decode cX8_readString 90 = .ok (.getfield 13, 3) := by decide +kernel
theorem dX8_readString_93 : decode cX8_readString 93 = .ok (.iload_n 2, 1) := by decide +kernel
theorem dX8_readString_94 : decode cX8_readString 94 = .ok (.iload_n 3, 1) := by decide +kernel
theorem dX8_readString_95 : decode cX8_readString 95 = .ok (.invokestatic 147, 3) := by decide +kernel
theorem dX8_readString_98 : decode cX8_readString 98 = .ok (.ifCond .eq 7, 3) := by decide +kernel
theorem dX8_readString_101 : decode cX8_readString 101 = .ok (.iconst 1, 1) := by decide +kernel
theorem dX8_readString_102 : decode cX8_readString 102 = .ok (.goto 59, 3) := by decide +kernel
theorem dX8_readString_105 : decode cX8_readString 105 = .ok (.iconst 0, 1) := by decide +kernel
theorem dX8_readString_106 : decode cX8_readString 106 = .ok (.goto 55, 3) := by decide +kernel
theorem dX8_readString_109 : decode cX8_readString 109 = .ok (.iload 5, 2) := by decide +kernel
theorem dX8_readString_111 : decode cX8_readString 111 = .ok (.bipush (-9), 2) := by decide +kernel
theorem dX8_readString_113 : decode cX8_readString 113 = .ok (.if_icmp .eq 47, 3) := by decide +kernel
theorem dX8_readString_116 : decode cX8_readString 116 = .ok (.iload_n 1, 1) := by decide +kernel
theorem dX8_readString_117 : decode cX8_readString 117 = .ok (.bipush 120, 2) := by decide +kernel
theorem dX8_readString_119 : decode cX8_readString 119 = .ok (.if_icmp .eq 37, 3) := by decide +kernel
theorem dX8_readString_122 : decode cX8_readString 122 = .ok (.aload_n 0, 1) := by decide +kernel
theorem dX8_readString_123 : decode cX8_readString 123 = .ok (.getfield 13, 3) := by decide +kernel
theorem dX8_readString_126 : decode cX8_readString 126 = .ok (.iload 5, 2) := by decide +kernel
theorem dX8_readString_128 : decode cX8_readString 128 = .ok (.iconst 2, 1) := by decide +kernel
theorem dX8_readString_129 : decode cX8_readString 129 = .ok (.invokestatic 78, 3) := by decide +kernel
theorem dX8_readString_132 : decode cX8_readString 132 = .ok (.iaload, 1) := by decide +kernel
theorem dX8_readString_133 : decode cX8_readString 133 = .ok (.iconst 1, 1) := by decide +kernel
theorem dX8_readString_134 : decode cX8_readString 134 = .ok (.if_icmp .ne 7, 3) := by decide +kernel
theorem dX8_readString_137 : decode cX8_readString 137 = .ok (.iconst 1, 1) := by decide +kernel
theorem dX8_readString_138 : decode cX8_readString 138 = .ok (.goto 4, 3) := by decide +kernel
theorem dX8_readString_141 : decode cX8_readString 141 = .ok (.iconst 0, 1) := by decide +kernel
theorem dX8_readString_142 : decode cX8_readString 142 = .ok (.iload_n 1, 1) := by decide +kernel
theorem dX8_readString_143 : decode cX8_readString 143 = .ok (.bipush 102, 2) := by decide +kernel
theorem dX8_readString_145 : decode cX8_readString 145 = .ok (.if_icmp .ne 7, 3) := by decide +kernel
theorem dX8_readString_148 : decode cX8_readString 148 = .ok (.iconst 1, 1) := by decide +kernel
theorem dX8_readString_149 : decode cX8_readString 149 = .ok (.goto 4, 3) := by decide +kernel
theorem dX8_readString_152 : decode cX8_readString 152 = .ok (.iconst 0, 1) := by decide +kernel
theorem dX8_readString_153 : decode cX8_readString 153 = .ok (.if_icmp .ne 7, 3) := by decide +kernel
theorem dX8_readString_156 : decode cX8_readString 156 = .ok (.iconst 1, 1) := by decide +kernel
theorem dX8_readString_157 : decode cX8_readString 157 = .ok (.goto 4, 3) := by decide +kernel
theorem dX8_readString_160 : decode cX8_readString 160 = .ok (.iconst 0, 1) := by decide +kernel
theorem dX8_readString_161 : decode cX8_readString 161 = .ok (.istore 6, 2) := by decide +kernel
theorem dX8_readString_163 : decode cX8_readString 163 = .ok (.aload_n 0, 1) := by decide +kernel
theorem dX8_readString_164 : decode cX8_readString 164 = .ok (.iload 6, 2) := by decide +kernel
theorem dX8_readString_166 : decode cX8_readString 166 = .ok (.invokevirtual 151, 3) := by decide +kernel
theorem dX8_readString_169 : decode cX8_readString 169 = .ok (.iload 6, 2) := by decide +kernel
theorem dX8_readString_171 : decode cX8_readString 171 = .ok (.ifCond .ne 4, 3) := by decide +kernel
theorem dX8_readString_174 : decode cX8_readString 174 = .ok (.return_, 1) := by decide +kernel
theorem dX8_readString_175 : decode cX8_readString 175 = .ok (.iload_n 1, 1) := by decide +kernel
theorem dX8_readString_176 : decode cX8_readString 176 = .ok (.bipush 116, 2) := by decide +kernel
theorem dX8_readString_178 : decode cX8_readString 178 = .ok (.if_icmp .ne 16, 3) := by decide +kernel
theorem dX8_readString_181 : decode cX8_readString 181 = .ok (.aload_n 0, 1) := by decide +kernel
theorem dX8_readString_182 : decode cX8_readString 182 = .ok (.getfield 13, 3) := by decide +kernel
theorem dX8_readString_185 : decode cX8_readString 185 = .ok (.iload_n 2, 1) := by decide +kernel
theorem dX8_readString_186 : decode cX8_readString 186 = .ok (.iload_n 3, 1) := by decide +kernel
theorem dX8_readString_187 : decode cX8_readString 187 = .ok (.iconst 1, 1) := by decide +kernel
theorem dX8_readString_188 : decode cX8_readString 188 = .ok (.invokestatic 154, 3) := by decide +kernel
theorem dX8_readString_191 : decode cX8_readString 191 = .ok (.goto 51, 3) := by decide +kernel
theorem dX8_readString_194 : decode cX8_readString 194 = .ok (.iload_n 1, 1) := by decide +kernel
theorem dX8_readString_195 : decode cX8_readString 195 = .ok (.bipush 120, 2) := by decide +kernel
theorem dX8_readString_197 : decode cX8_readString 197 = .ok (.if_icmp .ne 15, 3) := by decide +kernel
theorem dX8_readString_200 : decode cX8_readString 200 = .ok (.aload_n 0, 1) := by decide +kernel
theorem dX8_readString_201 : decode cX8_readString 201 = .ok (.getfield 13, 3) := by decide +kernel
theorem dX8_readString_204 : decode cX8_readString 204 = .ok (.iload 5, 2) := by decide +kernel
theorem dX8_readString_206 : decode cX8_readString 206 = .ok (.invokestatic 89, 3) := by decide +kernel
theorem dX8_readString_209 : decode cX8_readString 209 = .ok (.goto 33, 3) := by decide +kernel
theorem dX8_readString_212 : decode cX8_readString 212 = .ok (.iload_n 1, 1) := by decide +kernel
theorem dX8_readString_213 : decode cX8_readString 213 = .ok (.bipush 102, 2) := by decide +kernel
theorem dX8_readString_215 : decode cX8_readString 215 = .ok (.if_icmp .ne 18, 3) := by decide +kernel
theorem dX8_readString_218 : decode cX8_readString 218 = .ok (.aload_n 0, 1) := by decide +kernel
theorem dX8_readString_219 : decode cX8_readString 219 = .ok (.getfield 13, 3) := by decide +kernel
theorem dX8_readString_222 : decode cX8_readString 222 = .ok (.iload 5, 2) := by decide +kernel
theorem dX8_readString_224 : decode cX8_readString 224 = .ok (.iconst 2, 1) := by decide +kernel
theorem dX8_readString_225 : decode cX8_readString 225 = .ok (.invokestatic 78, 3) := by decide +kernel
theorem dX8_readString_228 : decode cX8_readString 228 = .ok (.iconst 0, 1) := by decide +kernel
theorem dX8_readString_229 : decode cX8_readString 229 = .ok (.iastore, 1) := by decide +kernel
theorem dX8_readString_230 : decode cX8_readString 230 = .ok (.goto 12, 3) := by decide +kernel
theorem dX8_readString_233 : decode cX8_readString 233 = .ok (.aload_n 0, 1) := by decide +kernel
theorem dX8_readString_234 : decode cX8_readString 234 = .ok (.getfield 13, 3) := by decide +kernel
theorem dX8_readString_237 : decode cX8_readString 237 = .ok (.iload 5, 2) := by decide +kernel
theorem dX8_readString_239 : decode cX8_readString 239 = .ok (.invokestatic 158, 3) := by decide +kernel
theorem dX8_readString_242 : decode cX8_readString 242 = .ok (.return_, 1) := by decide +kernel
theorem dX8_readMake_0 : decode cX8_readMake 0 = .ok (.aload_n 0, 1) := by decide +kernel
theorem dX8_readMake_1 : decode cX8_readMake 1 = .ok (.iconst 1, 1) := by decide +kernel
theorem dX8_readMake_2 : decode cX8_readMake 2 = .ok (.invokevirtual 124, 3) := by decide +kernel
theorem dX8_readMake_5 : decode cX8_readMake 5 = .ok (.aload_n 0, 1) := by decide +kernel
theorem dX8_readMake_6 : decode cX8_readMake 6 = .ok (.iconst 1, 1) := by decide +kernel
theorem dX8_readMake_7 : decode cX8_readMake 7 = .ok (.bipush 9, 2) := by decide +kernel
theorem dX8_readMake_9 : decode cX8_readMake 9 = .ok (.invokevirtual 128, 3) := by decide +kernel
theorem dX8_readMake_12 : decode cX8_readMake 12 = .ok (.istore_n 1, 1) := by decide +kernel
theorem dX8_readMake_13 : decode cX8_readMake 13 = .ok (.aload_n 0, 1) := by decide +kernel
theorem dX8_readMake_14 : decode cX8_readMake 14 = .ok (.getfield 118, 3) := by decide +kernel
theorem dX8_readMake_17 : decode cX8_readMake 17 = .ok (.ifCond .eq 43, 3) := by decide +kernel
theorem dX8_readMake_20 : decode cX8_readMake 20 = .ok (.aload_n 0, 1) := by decide +kernel
theorem dX8_readMake_21 : decode cX8_readMake 21 = .ok (.aload_n 0, 1) := by decide +kernel
theorem dX8_readMake_22 : decode cX8_readMake 22 = .ok (.getfield 13, 3) := by decide +kernel
theorem dX8_readMake_25 : decode cX8_readMake 25 = .ok (.iconst 0, 1) := by decide +kernel
theorem dX8_readMake_26 : decode cX8_readMake 26 = .ok (.iaload, 1) := by decide +kernel
theorem dX8_readMake_27 : decode cX8_readMake 27 = .ok (.bipush 24, 2) := by decide +kernel
theorem dX8_readMake_29 : decode cX8_readMake 29 = .ok (.if_icmp .ge 7, 3) := by decide +kernel
theorem dX8_readMake_32 : decode cX8_readMake 32 = .ok (.iconst 1, 1) := by decide +kernel
theorem dX8_readMake_33 : decode cX8_readMake 33 = .ok (.goto 4, 3) := by decide +kernel
theorem dX8_readMake_36 : decode cX8_readMake 36 = .ok (.iconst 0, 1) := by decide +kernel
theorem dX8_readMake_37 : decode cX8_readMake 37 = .ok (.invokevirtual 151, 3) := by decide +kernel
theorem dX8_readMake_40 : decode cX8_readMake 40 = .ok (.aload_n 0, 1) := by decide +kernel
theorem dX8_readMake_41 : decode cX8_readMake 41 = .ok (.getfield 13, 3) := by decide +kernel
theorem dX8_readMake_44 : decode cX8_readMake 44 = .ok (.iconst 0, 1) := by decide +kernel
theorem dX8_readMake_45 : decode cX8_readMake 45 = .ok (.iaload, 1) := by decide +kernel
theorem dX8_readMake_46 : decode cX8_readMake 46 = .ok (.bipush 24, 2) := by decide +kernel
theorem dX8_readMake_48 : decode cX8_readMake 48 = .ok (.if_icmp .ge 12, 3) := by decide +kernel
theorem dX8_readMake_51 : decode cX8_readMake 51 = .ok (.aload_n 0, 1) := by decide +kernel
theorem dX8_readMake_52 : decode cX8_readMake 52 = .ok (.getfield 13, 3) := by decide +kernel
theorem dX8_readMake_55 : decode cX8_readMake 55 = .ok (.iload_n 1, 1) := by decide +kernel
theorem dX8_readMake_56 : decode cX8_readMake 56 = .ok (.invokestatic 161, 3) := by decide +kernel
theorem dX8_readMake_59 : decode cX8_readMake 59 = .ok (.pop, 1) := by decide +kernel
theorem dX8_readMake_60 : decode cX8_readMake 60 = .ok (.return_, 1) := by decide +kernel
theorem dX8_readPin_0 : decode cX8_readPin 0 = .ok (.aload_n 0, 1) := by decide +kernel
theorem dX8_readPin_1 : decode cX8_readPin 1 = .ok (.iconst 1, 1) := by decide +kernel
theorem dX8_readPin_2 : decode cX8_readPin 2 = .ok (.invokevirtual 124, 3) := by decide +kernel
theorem dX8_readPin_5 : decode cX8_readPin 5 = .ok (.aload_n 0, 1) := by decide +kernel
theorem dX8_readPin_6 : decode cX8_readPin 6 = .ok (.invokevirtual 134, 3) := by decide +kernel
theorem dX8_readPin_9 : decode cX8_readPin 9 = .ok (.istore_n 1, 1) := by decide +kernel
theorem dX8_readPin_10 : decode cX8_readPin 10 = .ok (.aload_n 0, 1) := by decide +kernel
theorem dX8_readPin_11 : decode cX8_readPin 11 = .ok (.getfield 118, 3) := by decide +kernel
theorem dX8_readPin_14 : decode cX8_readPin 14 = .ok (.ifCond .eq 52, 3) := by decide +kernel
theorem dX8_readPin_17 : decode cX8_readPin 17 = .ok (.aload_n 0, 1) := by decide +kernel
theorem dX8_readPin_18 : decode cX8_readPin 18 = .ok (.aload_n 0, 1) := by decide +kernel
theorem dX8_readPin_19 : decode cX8_readPin 19 = .ok (.getfield 13, 3) := by decide +kernel
theorem dX8_readPin_22 : decode cX8_readPin 22 = .ok (.iload_n 1, 1) := by decide +kernel
theorem dX8_readPin_23 : decode cX8_readPin 23 = .ok (.invokestatic 74, 3) := by decide +kernel
theorem dX8_readPin_26 : decode cX8_readPin 26 = .ok (.invokevirtual 151, 3) := by decide +kernel
theorem dX8_readPin_29 : decode cX8_readPin 29 = .ok (.aload_n 0, 1) := by decide +kernel
theorem dX8_readPin_30 : decode cX8_readPin 30 = .ok (.getfield 13, 3) := by decide +kernel
theorem dX8_readPin_33 : decode cX8_readPin 33 = .ok (.iload_n 1, 1) := by decide +kernel
theorem dX8_readPin_34 : decode cX8_readPin 34 = .ok (.invokestatic 74, 3) := by decide +kernel
theorem dX8_readPin_37 : decode cX8_readPin 37 = .ok (.ifCond .eq 29, 3) := by decide +kernel
theorem dX8_readPin_40 : decode cX8_readPin 40 = .ok (.aload_n 0, 1) := by decide +kernel
theorem dX8_readPin_41 : decode cX8_readPin 41 = .ok (.getfield 13, 3) := by decide +kernel
theorem dX8_readPin_44 : decode cX8_readPin 44 = .ok (.iload_n 1, 1) := by decide +kernel
theorem dX8_readPin_45 : decode cX8_readPin 45 = .ok (.aload_n 0, 1) := by decide +kernel
theorem dX8_readPin_46 : decode cX8_readPin 46 = .ok (.getfield 13, 3) := by decide +kernel
theorem dX8_readPin_49 : decode cX8_readPin 49 = .ok (.iload_n 1, 1) := by decide +kernel
theorem dX8_readPin_50 : decode cX8_readPin 50 = .ok (.iconst 2, 1) := by decide +kernel
theorem dX8_readPin_51 : decode cX8_readPin 51 = .ok (.invokestatic 66, 3) := by decide +kernel
theorem dX8_readPin_54 : decode cX8_readPin 54 = .ok (.iaload, 1) := by decide +kernel
theorem dX8_readPin_55 : decode cX8_readPin 55 = .ok (.ifCond .ne 7, 3) := by decide +kernel
theorem dX8_readPin_58 : decode cX8_readPin 58 = .ok (.iconst 1, 1) := by decide +kernel
theorem dX8_readPin_59 : decode cX8_readPin 59 = .ok (.goto 4, 3) := by decide +kernel
theorem dX8_readPin_62 : decode cX8_readPin 62 = .ok (.iconst 0, 1) := by decide +kernel
theorem dX8_readPin_63 : decode cX8_readPin 63 = .ok (.invokestatic 165, 3) := by decide +kernel
theorem dX8_readPin_66 : decode cX8_readPin 66 = .ok (.return_, 1) := by decide +kernel
theorem dX8_readSweep_0 : decode cX8_readSweep 0 = .ok (.aload_n 0, 1) := by decide +kernel
theorem dX8_readSweep_1 : decode cX8_readSweep 1 = .ok (.iconst 1, 1) := by decide +kernel
theorem dX8_readSweep_2 : decode cX8_readSweep 2 = .ok (.invokevirtual 124, 3) := by decide +kernel
theorem dX8_readSweep_5 : decode cX8_readSweep 5 = .ok (.aload_n 0, 1) := by decide +kernel
theorem dX8_readSweep_6 : decode cX8_readSweep 6 = .ok (.getfield 13, 3) := by decide +kernel
theorem dX8_readSweep_9 : decode cX8_readSweep 9 = .ok (.iconst 3, 1) := by decide +kernel
theorem dX8_readSweep_10 : decode cX8_readSweep 10 = .ok (.iaload, 1) := by decide +kernel
theorem dX8_readSweep_11 : decode cX8_readSweep 11 = .ok (.ifCond .ne 7, 3) := by decide +kernel
theorem dX8_readSweep_14 : decode cX8_readSweep 14 = .ok (.iconst 1, 1) := by decide +kernel
theorem dX8_readSweep_15 : decode cX8_readSweep 15 = .ok (.goto 4, 3) := by decide +kernel
theorem dX8_readSweep_18 : decode cX8_readSweep 18 = .ok (.iconst 0, 1) := by decide +kernel
theorem dX8_readSweep_19 : decode cX8_readSweep 19 = .ok (.iload_n 1, 1) := by decide +kernel
theorem dX8_readSweep_20 : decode cX8_readSweep 20 = .ok (.if_icmp .ne 7, 3) := by decide +kernel
theorem dX8_readSweep_23 : decode cX8_readSweep 23 = .ok (.iconst 1, 1) := by decide +kernel
theorem dX8_readSweep_24 : decode cX8_readSweep 24 = .ok (.goto 4, 3) := by decide +kernel
theorem dX8_readSweep_27 : decode cX8_readSweep 27 = .ok (.iconst 0, 1) := by decide +kernel
theorem dX8_readSweep_28 : decode cX8_readSweep 28 = .ok (.istore_n 2, 1) := by decide +kernel
theorem dX8_readSweep_29 : decode cX8_readSweep 29 = .ok (.aload_n 0, 1) := by decide +kernel
theorem dX8_readSweep_30 : decode cX8_readSweep 30 = .ok (.iload_n 2, 1) := by decide +kernel
theorem dX8_readSweep_31 : decode cX8_readSweep 31 = .ok (.invokevirtual 151, 3) := by decide +kernel
theorem dX8_readSweep_34 : decode cX8_readSweep 34 = .ok (.iload_n 2, 1) := by decide +kernel
theorem dX8_readSweep_35 : decode cX8_readSweep 35 = .ok (.ifCond .eq 18, 3) := by decide +kernel
theorem dX8_readSweep_38 : decode cX8_readSweep 38 = .ok (.iload_n 1, 1) := by decide +kernel
theorem dX8_readSweep_39 : decode cX8_readSweep 39 = .ok (.ifCond .eq 14, 3) := by decide +kernel
theorem dX8_readSweep_42 : decode cX8_readSweep 42 = .ok (.aload_n 0, 1) := by decide +kernel
theorem dX8_readSweep_43 : decode cX8_readSweep 43 = .ok (.getfield 13, 3) := by decide +kernel
theorem dX8_readSweep_46 : decode cX8_readSweep 46 = .ok (.invokestatic 169, 3) := by decide +kernel
theorem dX8_readSweep_49 : decode cX8_readSweep 49 = .ok (.pop, 1) := by decide +kernel
theorem dX8_readSweep_50 : decode cX8_readSweep 50 = .ok (.goto 15, 3) := by decide +kernel
theorem dX8_readSweep_53 : decode cX8_readSweep 53 = .ok (.iload_n 2, 1) := by decide +kernel
theorem dX8_readSweep_54 : decode cX8_readSweep 54 = .ok (.ifCond .eq 11, 3) := by decide +kernel
theorem dX8_readSweep_57 : decode cX8_readSweep 57 = .ok (.aload_n 0, 1) := by decide +kernel
theorem dX8_readSweep_58 : decode cX8_readSweep 58 = .ok (.getfield 13, 3) := by decide +kernel
theorem dX8_readSweep_61 : decode cX8_readSweep 61 = .ok (.invokestatic 172, 3) := by decide +kernel
theorem dX8_readSweep_64 : decode cX8_readSweep 64 = .ok (.pop, 1) := by decide +kernel
theorem dX8_readSweep_65 : decode cX8_readSweep 65 = .ok (.return_, 1) := by decide +kernel
theorem dX8_readCommand_0 : decode cX8_readCommand 0 = .ok (.aload_n 0, 1) := by decide +kernel
theorem dX8_readCommand_1 : decode cX8_readCommand 1 = .ok (.bipush 110, 2) := by decide +kernel
theorem dX8_readCommand_3 : decode cX8_readCommand 3 = .ok (.invokevirtual 131, 3) := by decide +kernel
theorem dX8_readCommand_6 : decode cX8_readCommand 6 = .ok (.ifCond .eq 10, 3) := by decide +kernel
theorem dX8_readCommand_9 : decode cX8_readCommand 9 = .ok (.aload_n 0, 1) := by decide +kernel
theorem dX8_readCommand_10 : decode cX8_readCommand 10 = .ok (.invokevirtual 175, 3) := by decide +kernel
theorem dX8_readCommand_13 : decode cX8_readCommand 13 = .ok (.goto 107, 3) := by decide +kernel
theorem dX8_readCommand_16 : decode cX8_readCommand 16 = .ok (.aload_n 0, 1) := by decide +kernel
theorem dX8_readCommand_17 : decode cX8_readCommand 17 = .ok (.bipush 116, 2) := by decide +kernel
theorem dX8_readCommand_19 : decode cX8_readCommand 19 = .ok (.invokevirtual 131, 3) := by decide +kernel
theorem dX8_readCommand_22 : decode cX8_readCommand 22 = .ok (.ifCond .ne 30, 3) := by decide +kernel
theorem dX8_readCommand_25 : decode cX8_readCommand 25 = .ok (.aload_n 0, 1) := by decide +kernel
theorem dX8_readCommand_26 : decode cX8_readCommand 26 = .ok (.bipush 120, 2) := by decide +kernel
theorem dX8_readCommand_28 : decode cX8_readCommand 28 = .ok (.invokevirtual 131, 3) := by decide +kernel
theorem dX8_readCommand_31 : decode cX8_readCommand 31 = .ok (.ifCond .ne 21, 3) := by decide +kernel
theorem dX8_readCommand_34 : decode cX8_readCommand 34 = .ok (.aload_n 0, 1) := by decide +kernel
theorem dX8_readCommand_35 : decode cX8_readCommand 35 = .ok (.bipush 102, 2) := by decide +kernel
theorem dX8_readCommand_37 : decode cX8_readCommand 37 = .ok (.invokevirtual 131, 3) := by decide +kernel
theorem dX8_readCommand_40 : decode cX8_readCommand 40 = .ok (.ifCond .ne 12, 3) := by decide +kernel
theorem dX8_readCommand_43 : decode cX8_readCommand 43 = .ok (.aload_n 0, 1) := by decide +kernel
theorem dX8_readCommand_44 : decode cX8_readCommand 44 = .ok (.bipush 109, 2) := by decide +kernel
theorem dX8_readCommand_46 : decode cX8_readCommand 46 = .ok (.invokevirtual 131, 3) := by decide +kernel
theorem dX8_readCommand_49 : decode cX8_readCommand 49 = .ok (.ifCond .eq 19, 3) := by decide +kernel
theorem dX8_readCommand_52 : decode cX8_readCommand 52 = .ok (.aload_n 0, 1) := by decide +kernel
theorem dX8_readCommand_53 : decode cX8_readCommand 53 = .ok (.aload_n 0, 1) := by decide +kernel
theorem dX8_readCommand_54 : decode cX8_readCommand 54 = .ok (.getfield 7, 3) := by decide +kernel
theorem dX8_readCommand_57 : decode cX8_readCommand 57 = .ok (.aload_n 0, 1) := by decide +kernel
theorem dX8_readCommand_58 : decode cX8_readCommand 58 = .ok (.getfield 115, 3) := by decide +kernel
theorem dX8_readCommand_61 : decode cX8_readCommand 61 = .ok (.iaload, 1) := by decide +kernel
theorem dX8_readCommand_62 : decode cX8_readCommand 62 = .ok (.invokevirtual 178, 3) := by decide +kernel
theorem dX8_readCommand_65 : decode cX8_readCommand 65 = .ok (.goto 55, 3) := by decide +kernel
theorem dX8_readCommand_68 : decode cX8_readCommand 68 = .ok (.aload_n 0, 1) := by decide +kernel
theorem dX8_readCommand_69 : decode cX8_readCommand 69 = .ok (.bipush 112, 2) := by decide +kernel
theorem dX8_readCommand_71 : decode cX8_readCommand 71 = .ok (.invokevirtual 131, 3) := by decide +kernel
theorem dX8_readCommand_74 : decode cX8_readCommand 74 = .ok (.ifCond .eq 10, 3) := by decide +kernel
theorem dX8_readCommand_77 : decode cX8_readCommand 77 = .ok (.aload_n 0, 1) := by decide +kernel
theorem dX8_readCommand_78 : decode cX8_readCommand 78 = .ok (.invokevirtual 182, 3) := by decide +kernel
theorem dX8_readCommand_81 : decode cX8_readCommand 81 = .ok (.goto 39, 3) := by decide +kernel
theorem dX8_readCommand_84 : decode cX8_readCommand 84 = .ok (.aload_n 0, 1) := by decide +kernel
theorem dX8_readCommand_85 : decode cX8_readCommand 85 = .ok (.bipush 98, 2) := by decide +kernel
theorem dX8_readCommand_87 : decode cX8_readCommand 87 = .ok (.invokevirtual 131, 3) := by decide +kernel
theorem dX8_readCommand_90 : decode cX8_readCommand 90 = .ok (.ifCond .ne 12, 3) := by decide +kernel
theorem dX8_readCommand_93 : decode cX8_readCommand 93 = .ok (.aload_n 0, 1) := by decide +kernel
theorem dX8_readCommand_94 : decode cX8_readCommand 94 = .ok (.bipush 115, 2) := by decide +kernel
theorem dX8_readCommand_96 : decode cX8_readCommand 96 = .ok (.invokevirtual 131, 3) := by decide +kernel
theorem dX8_readCommand_99 : decode cX8_readCommand 99 = .ok (.ifCond .eq 16, 3) := by decide +kernel
theorem dX8_readCommand_102 : decode cX8_readCommand 102 = .ok (.aload_n 0, 1) := by decide +kernel
theorem dX8_readCommand_103 : decode cX8_readCommand 103 = .ok (.aload_n 0, 1) := by decide +kernel
theorem dX8_readCommand_104 : decode cX8_readCommand 104 = .ok (.bipush 98, 2) := by decide +kernel
theorem dX8_readCommand_106 : decode cX8_readCommand 106 = .ok (.invokevirtual 131, 3) := by decide +kernel
theorem dX8_readCommand_109 : decode cX8_readCommand 109 = .ok (.invokevirtual 185, 3) := by decide +kernel
theorem dX8_readCommand_112 : decode cX8_readCommand 112 = .ok (.goto 8, 3) := by decide +kernel
theorem dX8_readCommand_115 : decode cX8_readCommand 115 = .ok (.aload_n 0, 1) := by decide +kernel
theorem dX8_readCommand_116 : decode cX8_readCommand 116 = .ok (.iconst 0, 1) := by decide +kernel
theorem dX8_readCommand_117 : decode cX8_readCommand 117 = .ok (.invokevirtual 124, 3) := by decide +kernel
theorem dX8_readCommand_120 : decode cX8_readCommand 120 = .ok (.return_, 1) := by decide +kernel
theorem dX8_readText_0 : decode cX8_readText 0 = .ok (.aload_n 0, 1) := by decide +kernel
theorem dX8_readText_1 : decode cX8_readText 1 = .ok (.iconst 0, 1) := by decide +kernel
theorem dX8_readText_2 : decode cX8_readText 2 = .ok (.putfield 115, 3) := by decide +kernel
theorem dX8_readText_5 : decode cX8_readText 5 = .ok (.aload_n 0, 1) := by decide +kernel
theorem dX8_readText_6 : decode cX8_readText 6 = .ok (.iconst 1, 1) := by decide +kernel
theorem dX8_readText_7 : decode cX8_readText 7 = .ok (.putfield 118, 3) := by decide +kernel
theorem dX8_readText_10 : decode cX8_readText 10 = .ok (.aload_n 0, 1) := by decide +kernel
theorem dX8_readText_11 : decode cX8_readText 11 = .ok (.iconst 0, 1) := by decide +kernel
theorem dX8_readText_12 : decode cX8_readText 12 = .ok (.putfield 138, 3) := by decide +kernel
theorem dX8_readText_15 : decode cX8_readText 15 = .ok (.iconst 0, 1) := by decide +kernel
theorem dX8_readText_16 : decode cX8_readText 16 = .ok (.istore_n 1, 1) := by decide +kernel
theorem dX8_readText_17 : decode cX8_readText 17 = .ok (.iload_n 1, 1) := by decide +kernel
theorem dX8_readText_18 : decode cX8_readText 18 = .ok (.sipush 247, 3) := by decide +kernel
theorem dX8_readText_21 : decode cX8_readText 21 = .ok (.if_icmp .ge 16, 3) := by decide +kernel
theorem dX8_readText_24 : decode cX8_readText 24 = .ok (.aload_n 0, 1) := by decide +kernel
theorem dX8_readText_25 : decode cX8_readText 25 = .ok (.getfield 13, 3) := by decide +kernel
theorem dX8_readText_28 : decode cX8_readText 28 = .ok (.iload_n 1, 1) := by decide +kernel
theorem dX8_readText_29 : decode cX8_readText 29 = .ok (.iconst 0, 1) := by decide +kernel
theorem dX8_readText_30 : decode cX8_readText 30 = .ok (.iastore, 1) := by decide +kernel
theorem dX8_readText_31 : decode cX8_readText 31 = .ok (.iinc 1 1, 3) := by decide +kernel
theorem dX8_readText_34 : decode cX8_readText 34 = .ok (.goto (-17), 3) := by decide +kernel
theorem dX8_readText_37 : decode cX8_readText 37 = .ok (.aload_n 0, 1) := by decide +kernel
theorem dX8_readText_38 : decode cX8_readText 38 = .ok (.aload_n 0, 1) := by decide +kernel
theorem dX8_readText_39 : decode cX8_readText 39 = .ok (.bipush 83, 2) := by decide +kernel
theorem dX8_readText_41 : decode cX8_readText 41 = .ok (.invokevirtual 131, 3) := by decide +kernel
theorem dX8_readText_44 : decode cX8_readText 44 = .ok (.invokevirtual 124, 3) := by decide +kernel
theorem dX8_readText_47 : decode cX8_readText 47 = .ok (.aload_n 0, 1) := by decide +kernel
theorem dX8_readText_48 : decode cX8_readText 48 = .ok (.getfield 118, 3) := by decide +kernel
theorem dX8_readText_51 : decode cX8_readText 51 = .ok (.ifCond .eq 21, 3) := by decide +kernel
theorem dX8_readText_54 : decode cX8_readText 54 = .ok (.aload_n 0, 1) := by decide +kernel
theorem dX8_readText_55 : decode cX8_readText 55 = .ok (.getfield 115, 3) := by decide +kernel
theorem dX8_readText_58 : decode cX8_readText 58 = .ok (.aload_n 0, 1) := by decide +kernel
theorem dX8_readText_59 : decode cX8_readText 59 = .ok (.getfield 108, 3) := by decide +kernel
theorem dX8_readText_62 : decode cX8_readText 62 = .ok (.if_icmp .ge 10, 3) := by decide +kernel
theorem dX8_readText_65 : decode cX8_readText 65 = .ok (.aload_n 0, 1) := by decide +kernel
theorem dX8_readText_66 : decode cX8_readText 66 = .ok (.invokevirtual 188, 3) := by decide +kernel
theorem dX8_readText_69 : decode cX8_readText 69 = .ok (.goto (-22), 3) := by decide +kernel
theorem dX8_readText_72 : decode cX8_readText 72 = .ok (.aload_n 0, 1) := by decide +kernel
theorem dX8_readText_73 : decode cX8_readText 73 = .ok (.getfield 118, 3) := by decide +kernel
theorem dX8_readText_76 : decode cX8_readText 76 = .ok (.ifCond .eq 8, 3) := by decide +kernel
theorem dX8_readText_79 : decode cX8_readText 79 = .ok (.bipush (-9), 2) := by decide +kernel
theorem dX8_readText_81 : decode cX8_readText 81 = .ok (.goto 7, 3) := by decide +kernel
theorem dX8_readText_84 : decode cX8_readText 84 = .ok (.aload_n 0, 1) := by decide +kernel
theorem dX8_readText_85 : decode cX8_readText 85 = .ok (.getfield 115, 3) := by decide +kernel
theorem dX8_readText_88 : decode cX8_readText 88 = .ok (.ireturn, 1) := by decide +kernel
theorem dX8_errorPosition_0 : decode cX8_errorPosition 0 = .ok (.aload_n 0, 1) := by decide +kernel
theorem dX8_errorPosition_1 : decode cX8_errorPosition 1 = .ok (.iconst 0, 1) := by decide +kernel
theorem dX8_errorPosition_2 : decode cX8_errorPosition 2 = .ok (.putfield 47, 3) := by decide +kernel
theorem dX8_errorPosition_5 : decode cX8_errorPosition 5 = .ok (.aload_n 0, 1) := by decide +kernel
theorem dX8_errorPosition_6 : decode cX8_errorPosition 6 = .ok (.invokevirtual 191, 3) := by decide +kernel
theorem dX8_errorPosition_9 : decode cX8_errorPosition 9 = .ok (.ireturn, 1) := by decide +kernel
theorem dX8_load_0 : decode cX8_load 0 = .ok (.aload_n 0, 1) := by decide +kernel
theorem dX8_load_1 : decode cX8_load 1 = .ok (.aload_n 0, 1) := by decide +kernel
theorem dX8_load_2 : decode cX8_load 2 = .ok (.invokevirtual 191, 3) := by decide +kernel
theorem dX8_load_5 : decode cX8_load 5 = .ok (.bipush (-9), 2) := by decide +kernel
theorem dX8_load_7 : decode cX8_load 7 = .ok (.if_icmp .ne 7, 3) := by decide +kernel
theorem dX8_load_10 : decode cX8_load 10 = .ok (.iconst 0, 1) := by decide +kernel
theorem dX8_load_11 : decode cX8_load 11 = .ok (.goto 4, 3) := by decide +kernel
theorem dX8_load_14 : decode cX8_load 14 = .ok (.iconst 1, 1) := by decide +kernel
theorem dX8_load_15 : decode cX8_load 15 = .ok (.invokevirtual 111, 3) := by decide +kernel
theorem dX8_load_18 : decode cX8_load 18 = .ok (.ifCond .eq 5, 3) := by decide +kernel
theorem dX8_load_21 : decode cX8_load 21 = .ok (.iconst 0, 1) := by decide +kernel
theorem dX8_load_22 : decode cX8_load 22 = .ok (.ireturn, 1) := by decide +kernel
theorem dX8_load_23 : decode cX8_load 23 = .ok (.aload_n 0, 1) := by decide +kernel
theorem dX8_load_24 : decode cX8_load 24 = .ok (.getfield 13, 3) := by decide +kernel
theorem dX8_load_27 : decode cX8_load 27 = .ok (.iconst 0, 1) := by decide +kernel
theorem dX8_load_28 : decode cX8_load 28 = .ok (.aload_n 0, 1) := by decide +kernel
theorem dX8_load_29 : decode cX8_load 29 = .ok (.getfield 16, 3) := by decide +kernel
theorem dX8_load_32 : decode cX8_load 32 = .ok (.iconst 0, 1) := by decide +kernel
theorem dX8_load_33 : decode cX8_load 33 = .ok (.sipush 247, 3) := by decide +kernel
theorem dX8_load_36 : decode cX8_load 36 = .ok (.invokestatic 56, 3) := by decide +kernel
theorem dX8_load_39 : decode cX8_load 39 = .ok (.aload_n 0, 1) := by decide +kernel
theorem dX8_load_40 : decode cX8_load 40 = .ok (.iconst 0, 1) := by decide +kernel
theorem dX8_load_41 : decode cX8_load 41 = .ok (.putfield 53, 3) := by decide +kernel
theorem dX8_load_44 : decode cX8_load 44 = .ok (.aload_n 0, 1) := by decide +kernel
theorem dX8_load_45 : decode cX8_load 45 = .ok (.getfield 28, 3) := by decide +kernel
theorem dX8_load_48 : decode cX8_load 48 = .ok (.iconst 0, 1) := by decide +kernel
theorem dX8_load_49 : decode cX8_load 49 = .ok (.iconst 0, 1) := by decide +kernel
theorem dX8_load_50 : decode cX8_load 50 = .ok (.bastore, 1) := by decide +kernel
theorem dX8_load_51 : decode cX8_load 51 = .ok (.aload_n 0, 1) := by decide +kernel
theorem dX8_load_52 : decode cX8_load 52 = .ok (.getfield 28, 3) := by decide +kernel
theorem dX8_load_55 : decode cX8_load 55 = .ok (.iconst 1, 1) := by decide +kernel
theorem dX8_load_56 : decode cX8_load 56 = .ok (.iconst 0, 1) := by decide +kernel
theorem dX8_load_57 : decode cX8_load 57 = .ok (.bastore, 1) := by decide +kernel
theorem dX8_load_58 : decode cX8_load 58 = .ok (.aload_n 0, 1) := by decide +kernel
theorem dX8_load_59 : decode cX8_load 59 = .ok (.getfield 138, 3) := by decide +kernel
theorem dX8_load_62 : decode cX8_load 62 = .ok (.ireturn, 1) := by decide +kernel
theorem dX8_frayed_0 : decode cX8_frayed 0 = .ok (.iconst 0, 1) := by decide +kernel
theorem dX8_frayed_1 : decode cX8_frayed 1 = .ok (.istore_n 1, 1) := by decide +kernel
theorem dX8_frayed_2 : decode cX8_frayed 2 = .ok (.iconst 0, 1) := by decide +kernel
theorem dX8_frayed_3 : decode cX8_frayed 3 = .ok (.istore_n 2, 1) := by decide +kernel
theorem dX8_frayed_4 : decode cX8_frayed 4 = .ok (.iload_n 2, 1) := by decide +kernel
theorem dX8_frayed_5 : decode cX8_frayed 5 = .ok (.aload_n 0, 1) := by decide +kernel
theorem dX8_frayed_6 : decode cX8_frayed 6 = .ok (.getfield 16, 3) := by decide +kernel
theorem dX8_frayed_9 : decode cX8_frayed 9 = .ok (.iconst 2, 1) := by decide +kernel
theorem dX8_frayed_10 : decode cX8_frayed 10 = .ok (.iaload, 1) := by decide +kernel
theorem dX8_frayed_11 : decode cX8_frayed 11 = .ok (.if_icmp .ge 24, 3) := by decide +kernel
theorem dX8_frayed_14 : decode cX8_frayed 14 = .ok (.iload_n 1, 1) := by decide +kernel
theorem dX8_frayed_15 : decode cX8_frayed 15 = .ok (.iconst 1, 1) := by decide +kernel
theorem dX8_frayed_16 : decode cX8_frayed 16 = .ok (.aload_n 0, 1) := by decide +kernel
theorem dX8_frayed_17 : decode cX8_frayed 17 = .ok (.getfield 16, 3) := by decide +kernel
theorem dX8_frayed_20 : decode cX8_frayed 20 = .ok (.iload_n 2, 1) := by decide +kernel
theorem dX8_frayed_21 : decode cX8_frayed 21 = .ok (.iconst 2, 1) := by decide +kernel
theorem dX8_frayed_22 : decode cX8_frayed 22 = .ok (.invokestatic 78, 3) := by decide +kernel
theorem dX8_frayed_25 : decode cX8_frayed 25 = .ok (.iaload, 1) := by decide +kernel
theorem dX8_frayed_26 : decode cX8_frayed 26 = .ok (.isub, 1) := by decide +kernel
theorem dX8_frayed_27 : decode cX8_frayed 27 = .ok (.iadd, 1) := by decide +kernel
theorem dX8_frayed_28 : decode cX8_frayed 28 = .ok (.istore_n 1, 1) := by decide +kernel
theorem dX8_frayed_29 : decode cX8_frayed 29 = .ok (.iinc 2 1, 3) := by decide +kernel
theorem dX8_frayed_32 : decode cX8_frayed 32 = .ok (.goto (-28), 3) := by decide +kernel
theorem dX8_frayed_35 : decode cX8_frayed 35 = .ok (.iload_n 1, 1) := by decide +kernel
theorem dX8_frayed_36 : decode cX8_frayed 36 = .ok (.ireturn, 1) := by decide +kernel
theorem dX8_pinned_0 : decode cX8_pinned 0 = .ok (.iconst 0, 1) := by decide +kernel
theorem dX8_pinned_1 : decode cX8_pinned 1 = .ok (.istore_n 1, 1) := by decide +kernel
theorem dX8_pinned_2 : decode cX8_pinned 2 = .ok (.iconst 0, 1) := by decide +kernel
theorem dX8_pinned_3 : decode cX8_pinned 3 = .ok (.istore_n 2, 1) := by decide +kernel
theorem dX8_pinned_4 : decode cX8_pinned 4 = .ok (.iload_n 2, 1) := by decide +kernel
theorem dX8_pinned_5 : decode cX8_pinned 5 = .ok (.aload_n 0, 1) := by decide +kernel
theorem dX8_pinned_6 : decode cX8_pinned 6 = .ok (.getfield 16, 3) := by decide +kernel
theorem dX8_pinned_9 : decode cX8_pinned 9 = .ok (.iconst 0, 1) := by decide +kernel
theorem dX8_pinned_10 : decode cX8_pinned 10 = .ok (.iaload, 1) := by decide +kernel
theorem dX8_pinned_11 : decode cX8_pinned 11 = .ok (.if_icmp .ge 22, 3) := by decide +kernel
theorem dX8_pinned_14 : decode cX8_pinned 14 = .ok (.iload_n 1, 1) := by decide +kernel
theorem dX8_pinned_15 : decode cX8_pinned 15 = .ok (.aload_n 0, 1) := by decide +kernel
theorem dX8_pinned_16 : decode cX8_pinned 16 = .ok (.getfield 16, 3) := by decide +kernel
theorem dX8_pinned_19 : decode cX8_pinned 19 = .ok (.iload_n 2, 1) := by decide +kernel
theorem dX8_pinned_20 : decode cX8_pinned 20 = .ok (.iconst 2, 1) := by decide +kernel
theorem dX8_pinned_21 : decode cX8_pinned 21 = .ok (.invokestatic 66, 3) := by decide +kernel
theorem dX8_pinned_24 : decode cX8_pinned 24 = .ok (.iaload, 1) := by decide +kernel
theorem dX8_pinned_25 : decode cX8_pinned 25 = .ok (.iadd, 1) := by decide +kernel
theorem dX8_pinned_26 : decode cX8_pinned 26 = .ok (.istore_n 1, 1) := by decide +kernel
theorem dX8_pinned_27 : decode cX8_pinned 27 = .ok (.iinc 2 1, 3) := by decide +kernel
theorem dX8_pinned_30 : decode cX8_pinned 30 = .ok (.goto (-26), 3) := by decide +kernel
theorem dX8_pinned_33 : decode cX8_pinned 33 = .ok (.iload_n 1, 1) := by decide +kernel
theorem dX8_pinned_34 : decode cX8_pinned 34 = .ok (.ireturn, 1) := by decide +kernel
theorem dX8_deepest_0 : decode cX8_deepest 0 = .ok (.aload_n 0, 1) := by decide +kernel
theorem dX8_deepest_1 : decode cX8_deepest 1 = .ok (.aload_n 0, 1) := by decide +kernel
theorem dX8_deepest_2 : decode cX8_deepest 2 = .ok (.getfield 16, 3) := by decide +kernel
theorem dX8_deepest_5 : decode cX8_deepest 5 = .ok (.invokevirtual 81, 3) := by decide +kernel
theorem dX8_deepest_8 : decode cX8_deepest 8 = .ok (.bipush (-9), 2) := by decide +kernel
theorem dX8_deepest_10 : decode cX8_deepest 10 = .ok (.istore_n 1, 1) := by decide +kernel
theorem dX8_deepest_11 : decode cX8_deepest 11 = .ok (.iconst 0, 1) := by decide +kernel
theorem dX8_deepest_12 : decode cX8_deepest 12 = .ok (.istore_n 2, 1) := by decide +kernel
theorem dX8_deepest_13 : decode cX8_deepest 13 = .ok (.iload_n 2, 1) := by decide +kernel
theorem dX8_deepest_14 : decode cX8_deepest 14 = .ok (.bipush 24, 2) := by decide +kernel
theorem dX8_deepest_16 : decode cX8_deepest 16 = .ok (.if_icmp .ge 41, 3) := by decide +kernel
theorem dX8_deepest_19 : decode cX8_deepest 19 = .ok (.aload_n 0, 1) := by decide +kernel
theorem dX8_deepest_20 : decode cX8_deepest 20 = .ok (.getfield 32, 3) := by decide +kernel
theorem dX8_deepest_23 : decode cX8_deepest 23 = .ok (.iload_n 2, 1) := by decide +kernel
theorem dX8_deepest_24 : decode cX8_deepest 24 = .ok (.iaload, 1) := by decide +kernel
theorem dX8_deepest_25 : decode cX8_deepest 25 = .ok (.bipush 99, 2) := by decide +kernel
theorem dX8_deepest_27 : decode cX8_deepest 27 = .ok (.if_icmp .ge 22, 3) := by decide +kernel
theorem dX8_deepest_30 : decode cX8_deepest 30 = .ok (.aload_n 0, 1) := by decide +kernel
theorem dX8_deepest_31 : decode cX8_deepest 31 = .ok (.getfield 32, 3) := by decide +kernel
theorem dX8_deepest_34 : decode cX8_deepest 34 = .ok (.iload_n 2, 1) := by decide +kernel
theorem dX8_deepest_35 : decode cX8_deepest 35 = .ok (.iaload, 1) := by decide +kernel
theorem dX8_deepest_36 : decode cX8_deepest 36 = .ok (.iload_n 1, 1) := by decide +kernel
theorem dX8_deepest_37 : decode cX8_deepest 37 = .ok (.if_icmp .le 12, 3) := by decide +kernel
theorem dX8_deepest_40 : decode cX8_deepest 40 = .ok (.aload_n 0, 1) := by decide +kernel
theorem dX8_deepest_41 : decode cX8_deepest 41 = .ok (.getfield 32, 3) := by decide +kernel
theorem dX8_deepest_44 : decode cX8_deepest 44 = .ok (.iload_n 2, 1) := by decide +kernel
theorem dX8_deepest_45 : decode cX8_deepest 45 = .ok (.iaload, 1) := by decide +kernel
theorem dX8_deepest_46 : decode cX8_deepest 46 = .ok (.goto 4, 3) := by decide +kernel
theorem dX8_deepest_49 : decode cX8_deepest 49 = .ok (.iload_n 1, 1) := by decide +kernel
theorem dX8_deepest_50 : decode cX8_deepest 50 = .ok (.istore_n 1, 1) := by decide +kernel
theorem dX8_deepest_51 : decode cX8_deepest 51 = .ok (.iinc 2 1, 3) := by decide +kernel
theorem dX8_deepest_54 : decode cX8_deepest 54 = .ok (.goto (-41), 3) := by decide +kernel
theorem dX8_deepest_57 : decode cX8_deepest 57 = .ok (.iload_n 1, 1) := by decide +kernel
theorem dX8_deepest_58 : decode cX8_deepest 58 = .ok (.ireturn, 1) := by decide +kernel
theorem dX8_about_0 : decode cX8_about 0 = .ok (.aload_n 0, 1) := by decide +kernel
theorem dX8_about_1 : decode cX8_about 1 = .ok (.iload_n 1, 1) := by decide +kernel
theorem dX8_about_2 : decode cX8_about 2 = .ok (.i2l, 1) := by decide +kernel
theorem dX8_about_3 : decode cX8_about 3 = .ok (.lconst 0, 1) := by decide +kernel
theorem dX8_about_4 : decode cX8_about 4 = .ok (.ldc2_w 194, 3) := by decide +kernel
theorem dX8_about_7 : decode cX8_about 7 = .ok (.invokestatic 60, 3) := by decide +kernel
theorem dX8_about_10 : decode cX8_about 10 = .ok (.ifCond .eq 7, 3) := by decide +kernel
theorem dX8_about_13 : decode cX8_about 13 = .ok (.iconst 0, 1) := by decide +kernel
theorem dX8_about_14 : decode cX8_about 14 = .ok (.goto 4, 3) := by decide +kernel
theorem dX8_about_17 : decode cX8_about 17 = .ok (.iconst 1, 1) := by decide +kernel
theorem dX8_about_18 : decode cX8_about 18 = .ok (.invokevirtual 111, 3) := by decide +kernel
theorem dX8_about_21 : decode cX8_about 21 = .ok (.ifCond .eq 5, 3) := by decide +kernel
theorem dX8_about_24 : decode cX8_about 24 = .ok (.iconst 0, 1) := by decide +kernel
theorem dX8_about_25 : decode cX8_about 25 = .ok (.ireturn, 1) := by decide +kernel
theorem dX8_about_26 : decode cX8_about 26 = .ok (.iload_n 1, 1) := by decide +kernel
theorem dX8_about_27 : decode cX8_about 27 = .ok (.tableswitch 141 0 10 #[57, 71, 78, 85, 92, 97, 102, 111, 120, 127, 134], 57) := by decide +kernel
theorem dX8_about_84 : decode cX8_about 84 = .ok (.aload_n 0, 1) := by decide +kernel
theorem dX8_about_85 : decode cX8_about 85 = .ok (.getfield 16, 3) := by decide +kernel
theorem dX8_about_88 : decode cX8_about 88 = .ok (.iconst 0, 1) := by decide +kernel
theorem dX8_about_89 : decode cX8_about 89 = .ok (.iaload, 1) := by decide +kernel
theorem dX8_about_90 : decode cX8_about 90 = .ok (.aload_n 0, 1) := by decide +kernel
theorem dX8_about_91 : decode cX8_about 91 = .ok (.getfield 16, 3) := by decide +kernel
theorem dX8_about_94 : decode cX8_about 94 = .ok (.iconst 1, 1) := by decide +kernel
theorem dX8_about_95 : decode cX8_about 95 = .ok (.iaload, 1) := by decide +kernel
theorem dX8_about_96 : decode cX8_about 96 = .ok (.isub, 1) := by decide +kernel
theorem dX8_about_97 : decode cX8_about 97 = .ok (.ireturn, 1) := by decide +kernel
theorem dX8_about_98 : decode cX8_about 98 = .ok (.aload_n 0, 1) := by decide +kernel
theorem dX8_about_99 : decode cX8_about 99 = .ok (.getfield 16, 3) := by decide +kernel
theorem dX8_about_102 : decode cX8_about 102 = .ok (.iconst 0, 1) := by decide +kernel
theorem dX8_about_103 : decode cX8_about 103 = .ok (.iaload, 1) := by decide +kernel
theorem dX8_about_104 : decode cX8_about 104 = .ok (.ireturn, 1) := by decide +kernel
theorem dX8_about_105 : decode cX8_about 105 = .ok (.aload_n 0, 1) := by decide +kernel
theorem dX8_about_106 : decode cX8_about 106 = .ok (.getfield 16, 3) := by decide +kernel
theorem dX8_about_109 : decode cX8_about 109 = .ok (.iconst 1, 1) := by decide +kernel
theorem dX8_about_110 : decode cX8_about 110 = .ok (.iaload, 1) := by decide +kernel
theorem dX8_about_111 : decode cX8_about 111 = .ok (.ireturn, 1) := by decide +kernel
theorem dX8_about_112 : decode cX8_about 112 = .ok (.aload_n 0, 1) := by decide +kernel
theorem dX8_about_113 : decode cX8_about 113 = .ok (.getfield 16, 3) := by decide +kernel
theorem dX8_about_116 : decode cX8_about 116 = .ok (.iconst 2, 1) := by decide +kernel
theorem dX8_about_117 : decode cX8_about 117 = .ok (.iaload, 1) := by decide +kernel
theorem dX8_about_118 : decode cX8_about 118 = .ok (.ireturn, 1) := by decide +kernel
theorem dX8_about_119 : decode cX8_about 119 = .ok (.aload_n 0, 1) := by decide +kernel
theorem dX8_about_120 : decode cX8_about 120 = .ok (.invokevirtual 196, 3) := by decide +kernel
theorem dX8_about_123 : decode cX8_about 123 = .ok (.ireturn, 1) := by decide +kernel
theorem dX8_about_124 : decode cX8_about 124 = .ok (.aload_n 0, 1) := by decide +kernel
theorem dX8_about_125 : decode cX8_about 125 = .ok (.invokevirtual 199, 3) := by decide +kernel
theorem dX8_about_128 : decode cX8_about 128 = .ok (.ireturn, 1) := by decide +kernel
theorem dX8_about_129 : decode cX8_about 129 = .ok (.aload_n 0, 1) := by decide +kernel
theorem dX8_about_130 : decode cX8_about 130 = .ok (.aload_n 0, 1) := by decide +kernel
theorem dX8_about_131 : decode cX8_about 131 = .ok (.getfield 16, 3) := by decide +kernel
theorem dX8_about_134 : decode cX8_about 134 = .ok (.invokevirtual 202, 3) := by decide +kernel
theorem dX8_about_137 : decode cX8_about 137 = .ok (.ireturn, 1) := by decide +kernel
theorem dX8_about_138 : decode cX8_about 138 = .ok (.aload_n 0, 1) := by decide +kernel
theorem dX8_about_139 : decode cX8_about 139 = .ok (.aload_n 0, 1) := by decide +kernel
theorem dX8_about_140 : decode cX8_about 140 = .ok (.getfield 16, 3) := by decide +kernel
theorem dX8_about_143 : decode cX8_about 143 = .ok (.invokevirtual 205, 3) := by decide +kernel
theorem dX8_about_146 : decode cX8_about 146 = .ok (.ireturn, 1) := by decide +kernel
theorem dX8_about_147 : decode cX8_about 147 = .ok (.aload_n 0, 1) := by decide +kernel
theorem dX8_about_148 : decode cX8_about 148 = .ok (.getfield 16, 3) := by decide +kernel
theorem dX8_about_151 : decode cX8_about 151 = .ok (.iconst 3, 1) := by decide +kernel
theorem dX8_about_152 : decode cX8_about 152 = .ok (.iaload, 1) := by decide +kernel
theorem dX8_about_153 : decode cX8_about 153 = .ok (.ireturn, 1) := by decide +kernel
theorem dX8_about_154 : decode cX8_about 154 = .ok (.aload_n 0, 1) := by decide +kernel
theorem dX8_about_155 : decode cX8_about 155 = .ok (.getfield 16, 3) := by decide +kernel
theorem dX8_about_158 : decode cX8_about 158 = .ok (.iconst 4, 1) := by decide +kernel
theorem dX8_about_159 : decode cX8_about 159 = .ok (.iaload, 1) := by decide +kernel
theorem dX8_about_160 : decode cX8_about 160 = .ok (.ireturn, 1) := by decide +kernel
theorem dX8_about_161 : decode cX8_about 161 = .ok (.aload_n 0, 1) := by decide +kernel
theorem dX8_about_162 : decode cX8_about 162 = .ok (.getfield 16, 3) := by decide +kernel
theorem dX8_about_165 : decode cX8_about 165 = .ok (.iconst 5, 1) := by decide +kernel
theorem dX8_about_166 : decode cX8_about 166 = .ok (.iaload, 1) := by decide +kernel
theorem dX8_about_167 : decode cX8_about 167 = .ok (.ireturn, 1) := by decide +kernel
theorem dX8_about_168 : decode cX8_about 168 = .ok (.aload_n 0, 1) := by decide +kernel
theorem dX8_about_169 : decode cX8_about 169 = .ok (.invokevirtual 208, 3) := by decide +kernel
theorem dX8_about_172 : decode cX8_about 172 = .ok (.ireturn, 1) := by decide +kernel
theorem dX8_stringsOf_0 : decode cX8_stringsOf 0 = .ok (.iconst 0, 1) := by decide +kernel
theorem dX8_stringsOf_1 : decode cX8_stringsOf 1 = .ok (.istore 4, 2) := by decide +kernel
theorem dX8_stringsOf_3 : decode cX8_stringsOf 3 = .ok (.iconst 0, 1) := by decide +kernel
theorem dX8_stringsOf_4 : decode cX8_stringsOf 4 = .ok (.istore 5, 2) := by decide +kernel
theorem dX8_stringsOf_6 : decode cX8_stringsOf 6 = .ok (.iload 5, 2) := by decide +kernel
theorem dX8_stringsOf_8 : decode cX8_stringsOf 8 = .ok (.aload_n 0, 1) := by decide +kernel
theorem dX8_stringsOf_9 : decode cX8_stringsOf 9 = .ok (.getfield 16, 3) := by decide +kernel
theorem dX8_stringsOf_12 : decode cX8_stringsOf 12 = .ok (.iconst 2, 1) := by decide +kernel
theorem dX8_stringsOf_13 : decode cX8_stringsOf 13 = .ok (.iaload, 1) := by decide +kernel
theorem dX8_stringsOf_14 : decode cX8_stringsOf 14 = .ok (.if_icmp .ge 53, 3) := by decide +kernel
theorem dX8_stringsOf_17 : decode cX8_stringsOf 17 = .ok (.iload 4, 2) := by decide +kernel
theorem dX8_stringsOf_19 : decode cX8_stringsOf 19 = .ok (.aload_n 0, 1) := by decide +kernel
theorem dX8_stringsOf_20 : decode cX8_stringsOf 20 = .ok (.getfield 16, 3) := by decide +kernel
theorem dX8_stringsOf_23 : decode cX8_stringsOf 23 = .ok (.iload 5, 2) := by decide +kernel
theorem dX8_stringsOf_25 : decode cX8_stringsOf 25 = .ok (.iload_n 2, 1) := by decide +kernel
theorem dX8_stringsOf_26 : decode cX8_stringsOf 26 = .ok (.invokestatic 78, 3) := by decide +kernel
theorem dX8_stringsOf_29 : decode cX8_stringsOf 29 = .ok (.iaload, 1) := by decide +kernel
theorem dX8_stringsOf_30 : decode cX8_stringsOf 30 = .ok (.iload_n 1, 1) := by decide +kernel
theorem dX8_stringsOf_31 : decode cX8_stringsOf 31 = .ok (.if_icmp .ne 26, 3) := by decide +kernel
theorem dX8_stringsOf_34 : decode cX8_stringsOf 34 = .ok (.iload_n 3, 1) := by decide +kernel
theorem dX8_stringsOf_35 : decode cX8_stringsOf 35 = .ok (.ifCond .eq 18, 3) := by decide +kernel
theorem dX8_stringsOf_38 : decode cX8_stringsOf 38 = .ok (.aload_n 0, 1) := by decide +kernel
theorem dX8_stringsOf_39 : decode cX8_stringsOf 39 = .ok (.getfield 16, 3) := by decide +kernel
theorem dX8_stringsOf_42 : decode cX8_stringsOf 42 = .ok (.iload 5, 2) := by decide +kernel
theorem dX8_stringsOf_44 : decode cX8_stringsOf 44 = .ok (.iconst 2, 1) := by decide +kernel
theorem dX8_stringsOf_45 : decode cX8_stringsOf 45 = .ok (.invokestatic 78, 3) := by decide +kernel
theorem dX8_stringsOf_48 : decode cX8_stringsOf 48 = .ok (.iaload, 1) := by decide +kernel
theorem dX8_stringsOf_49 : decode cX8_stringsOf 49 = .ok (.iconst 1, 1) := by decide +kernel
theorem dX8_stringsOf_50 : decode cX8_stringsOf 50 = .ok (.if_icmp .ne 7, 3) := by decide +kernel
theorem dX8_stringsOf_53 : decode cX8_stringsOf 53 = .ok (.iconst 1, 1) := by decide +kernel
theorem dX8_stringsOf_54 : decode cX8_stringsOf 54 = .ok (.goto 4, 3) := by decide +kernel
theorem dX8_stringsOf_57 : decode cX8_stringsOf 57 = .ok (.iconst 0, 1) := by decide +kernel
theorem dX8_stringsOf_58 : decode cX8_stringsOf 58 = .ok (.iadd, 1) := by decide +kernel
theorem dX8_stringsOf_59 : decode cX8_stringsOf 59 = .ok (.istore 4, 2) := by decide +kernel
theorem dX8_stringsOf_61 : decode cX8_stringsOf 61 = .ok (.iinc 5 1, 3) := by decide +kernel
theorem dX8_stringsOf_64 : decode cX8_stringsOf 64 = .ok (.goto (-58), 3) := by decide +kernel
theorem dX8_stringsOf_67 : decode cX8_stringsOf 67 = .ok (.iload 4, 2) := by decide +kernel
theorem dX8_stringsOf_69 : decode cX8_stringsOf 69 = .ok (.ireturn, 1) := by decide +kernel
theorem dX8_part_0 : decode cX8_part 0 = .ok (.aload_n 0, 1) := by decide +kernel
theorem dX8_part_1 : decode cX8_part 1 = .ok (.aload_n 0, 1) := by decide +kernel
theorem dX8_part_2 : decode cX8_part 2 = .ok (.getfield 16, 3) := by decide +kernel
theorem dX8_part_5 : decode cX8_part 5 = .ok (.iload_n 1, 1) := by decide +kernel
theorem dX8_part_6 : decode cX8_part 6 = .ok (.invokestatic 74, 3) := by decide +kernel
theorem dX8_part_9 : decode cX8_part 9 = .ok (.ifCond .ne 7, 3) := by decide +kernel
theorem dX8_part_12 : decode cX8_part 12 = .ok (.iconst 1, 1) := by decide +kernel
theorem dX8_part_13 : decode cX8_part 13 = .ok (.goto 20, 3) := by decide +kernel
theorem dX8_part_16 : decode cX8_part 16 = .ok (.iload_n 2, 1) := by decide +kernel
theorem dX8_part_17 : decode cX8_part 17 = .ok (.i2l, 1) := by decide +kernel
theorem dX8_part_18 : decode cX8_part 18 = .ok (.lconst 0, 1) := by decide +kernel
theorem dX8_part_19 : decode cX8_part 19 = .ok (.ldc2_w 211, 3) := by decide +kernel
theorem dX8_part_22 : decode cX8_part 22 = .ok (.invokestatic 60, 3) := by decide +kernel
theorem dX8_part_25 : decode cX8_part 25 = .ok (.ifCond .eq 7, 3) := by decide +kernel
theorem dX8_part_28 : decode cX8_part 28 = .ok (.iconst 0, 1) := by decide +kernel
theorem dX8_part_29 : decode cX8_part 29 = .ok (.goto 4, 3) := by decide +kernel
theorem dX8_part_32 : decode cX8_part 32 = .ok (.iconst 2, 1) := by decide +kernel
theorem dX8_part_33 : decode cX8_part 33 = .ok (.invokevirtual 111, 3) := by decide +kernel
theorem dX8_part_36 : decode cX8_part 36 = .ok (.ifCond .eq 5, 3) := by decide +kernel
theorem dX8_part_39 : decode cX8_part 39 = .ok (.iconst 0, 1) := by decide +kernel
theorem dX8_part_40 : decode cX8_part 40 = .ok (.ireturn, 1) := by decide +kernel
theorem dX8_part_41 : decode cX8_part 41 = .ok (.aload_n 0, 1) := by decide +kernel
theorem dX8_part_42 : decode cX8_part 42 = .ok (.aload_n 0, 1) := by decide +kernel
theorem dX8_part_43 : decode cX8_part 43 = .ok (.getfield 16, 3) := by decide +kernel
theorem dX8_part_46 : decode cX8_part 46 = .ok (.invokevirtual 81, 3) := by decide +kernel
theorem dX8_part_49 : decode cX8_part 49 = .ok (.iload_n 2, 1) := by decide +kernel
theorem dX8_part_50 : decode cX8_part 50 = .ok (.tableswitch 116 0 5 #[38, 49, 60, 77, 100, 108], 38) := by decide +kernel
theorem dX8_part_88 : decode cX8_part 88 = .ok (.aload_n 0, 1) := by decide +kernel
theorem dX8_part_89 : decode cX8_part 89 = .ok (.getfield 16, 3) := by decide +kernel
theorem dX8_part_92 : decode cX8_part 92 = .ok (.iload_n 1, 1) := by decide +kernel
theorem dX8_part_93 : decode cX8_part 93 = .ok (.iconst 0, 1) := by decide +kernel
theorem dX8_part_94 : decode cX8_part 94 = .ok (.invokestatic 66, 3) := by decide +kernel
theorem dX8_part_97 : decode cX8_part 97 = .ok (.iaload, 1) := by decide +kernel
theorem dX8_part_98 : decode cX8_part 98 = .ok (.ireturn, 1) := by decide +kernel
theorem dX8_part_99 : decode cX8_part 99 = .ok (.aload_n 0, 1) := by decide +kernel
theorem dX8_part_100 : decode cX8_part 100 = .ok (.getfield 16, 3) := by decide +kernel
theorem dX8_part_103 : decode cX8_part 103 = .ok (.iload_n 1, 1) := by decide +kernel
theorem dX8_part_104 : decode cX8_part 104 = .ok (.iconst 2, 1) := by decide +kernel
theorem dX8_part_105 : decode cX8_part 105 = .ok (.invokestatic 66, 3) := by decide +kernel
theorem dX8_part_108 : decode cX8_part 108 = .ok (.iaload, 1) := by decide +kernel
theorem dX8_part_109 : decode cX8_part 109 = .ok (.ireturn, 1) := by decide +kernel
theorem dX8_part_110 : decode cX8_part 110 = .ok (.aload_n 0, 1) := by decide +kernel
theorem dX8_part_111 : decode cX8_part 111 = .ok (.getfield 32, 3) := by decide +kernel
theorem dX8_part_114 : decode cX8_part 114 = .ok (.iload_n 1, 1) := by decide +kernel
theorem dX8_part_115 : decode cX8_part 115 = .ok (.iaload, 1) := by decide +kernel
theorem dX8_part_116 : decode cX8_part 116 = .ok (.bipush 99, 2) := by decide +kernel
theorem dX8_part_118 : decode cX8_part 118 = .ok (.if_icmp .ge 7, 3) := by decide +kernel
theorem dX8_part_121 : decode cX8_part 121 = .ok (.iconst 1, 1) := by decide +kernel
theorem dX8_part_122 : decode cX8_part 122 = .ok (.goto 4, 3) := by decide +kernel
theorem dX8_part_125 : decode cX8_part 125 = .ok (.iconst 0, 1) := by decide +kernel
theorem dX8_part_126 : decode cX8_part 126 = .ok (.ireturn, 1) := by decide +kernel
theorem dX8_part_127 : decode cX8_part 127 = .ok (.aload_n 0, 1) := by decide +kernel
theorem dX8_part_128 : decode cX8_part 128 = .ok (.getfield 32, 3) := by decide +kernel
theorem dX8_part_131 : decode cX8_part 131 = .ok (.iload_n 1, 1) := by decide +kernel
theorem dX8_part_132 : decode cX8_part 132 = .ok (.iaload, 1) := by decide +kernel
theorem dX8_part_133 : decode cX8_part 133 = .ok (.bipush 99, 2) := by decide +kernel
theorem dX8_part_135 : decode cX8_part 135 = .ok (.if_icmp .ge 12, 3) := by decide +kernel
theorem dX8_part_138 : decode cX8_part 138 = .ok (.aload_n 0, 1) := by decide +kernel
theorem dX8_part_139 : decode cX8_part 139 = .ok (.getfield 32, 3) := by decide +kernel
theorem dX8_part_142 : decode cX8_part 142 = .ok (.iload_n 1, 1) := by decide +kernel
theorem dX8_part_143 : decode cX8_part 143 = .ok (.iaload, 1) := by decide +kernel
theorem dX8_part_144 : decode cX8_part 144 = .ok (.goto 5, 3) := by decide +kernel
theorem dX8_part_147 : decode cX8_part 147 = .ok (.bipush (-9), 2) := by decide +kernel
theorem dX8_part_149 : decode cX8_part 149 = .ok (.ireturn, 1) := by decide +kernel
theorem dX8_part_150 : decode cX8_part 150 = .ok (.aload_n 0, 1) := by decide +kernel
theorem dX8_part_151 : decode cX8_part 151 = .ok (.iload_n 1, 1) := by decide +kernel
theorem dX8_part_152 : decode cX8_part 152 = .ok (.iconst 1, 1) := by decide +kernel
theorem dX8_part_153 : decode cX8_part 153 = .ok (.iconst 1, 1) := by decide +kernel
theorem dX8_part_154 : decode cX8_part 154 = .ok (.invokevirtual 213, 3) := by decide +kernel
theorem dX8_part_157 : decode cX8_part 157 = .ok (.ireturn, 1) := by decide +kernel
theorem dX8_part_158 : decode cX8_part 158 = .ok (.aload_n 0, 1) := by decide +kernel
theorem dX8_part_159 : decode cX8_part 159 = .ok (.iload_n 1, 1) := by decide +kernel
theorem dX8_part_160 : decode cX8_part 160 = .ok (.iconst 0, 1) := by decide +kernel
theorem dX8_part_161 : decode cX8_part 161 = .ok (.iconst 0, 1) := by decide +kernel
theorem dX8_part_162 : decode cX8_part 162 = .ok (.invokevirtual 213, 3) := by decide +kernel
theorem dX8_part_165 : decode cX8_part 165 = .ok (.ireturn, 1) := by decide +kernel
theorem dX8_part_166 : decode cX8_part 166 = .ok (.aload_n 0, 1) := by decide +kernel
theorem dX8_part_167 : decode cX8_part 167 = .ok (.getfield 16, 3) := by decide +kernel
theorem dX8_part_170 : decode cX8_part 170 = .ok (.iconst 3, 1) := by decide +kernel
theorem dX8_part_171 : decode cX8_part 171 = .ok (.iaload, 1) := by decide +kernel
theorem dX8_part_172 : decode cX8_part 172 = .ok (.iconst 1, 1) := by decide +kernel
theorem dX8_part_173 : decode cX8_part 173 = .ok (.if_icmp .ne 16, 3) := by decide +kernel
theorem dX8_part_176 : decode cX8_part 176 = .ok (.aload_n 0, 1) := by decide +kernel
theorem dX8_part_177 : decode cX8_part 177 = .ok (.getfield 16, 3) := by decide +kernel
theorem dX8_part_180 : decode cX8_part 180 = .ok (.iload_n 1, 1) := by decide +kernel
theorem dX8_part_181 : decode cX8_part 181 = .ok (.iconst 3, 1) := by decide +kernel
theorem dX8_part_182 : decode cX8_part 182 = .ok (.invokestatic 66, 3) := by decide +kernel
theorem dX8_part_185 : decode cX8_part 185 = .ok (.iaload, 1) := by decide +kernel
theorem dX8_part_186 : decode cX8_part 186 = .ok (.goto 5, 3) := by decide +kernel
theorem dX8_part_189 : decode cX8_part 189 = .ok (.bipush (-9), 2) := by decide +kernel
theorem dX8_part_191 : decode cX8_part 191 = .ok (.ireturn, 1) := by decide +kernel
theorem dX8_string_0 : decode cX8_string 0 = .ok (.aload_n 0, 1) := by decide +kernel
theorem dX8_string_1 : decode cX8_string 1 = .ok (.aload_n 0, 1) := by decide +kernel
theorem dX8_string_2 : decode cX8_string 2 = .ok (.getfield 16, 3) := by decide +kernel
theorem dX8_string_5 : decode cX8_string 5 = .ok (.iload_n 1, 1) := by decide +kernel
theorem dX8_string_6 : decode cX8_string 6 = .ok (.invokestatic 144, 3) := by decide +kernel
theorem dX8_string_9 : decode cX8_string 9 = .ok (.ifCond .eq 18, 3) := by decide +kernel
theorem dX8_string_12 : decode cX8_string 12 = .ok (.aload_n 0, 1) := by decide +kernel
theorem dX8_string_13 : decode cX8_string 13 = .ok (.getfield 16, 3) := by decide +kernel
theorem dX8_string_16 : decode cX8_string 16 = .ok (.iload_n 2, 1) := by decide +kernel
theorem dX8_string_17 : decode cX8_string 17 = .ok (.invokestatic 74, 3) := by decide +kernel
theorem dX8_string_20 : decode cX8_string 20 = .ok (.ifCond .eq 7, 3) := by decide +kernel
theorem dX8_string_23 : decode cX8_string 23 = .ok (.iconst 0, 1) := by decide +kernel
theorem dX8_string_24 : decode cX8_string 24 = .ok (.goto 4, 3) := by decide +kernel
theorem dX8_string_27 : decode cX8_string 27 = .ok (.iconst 1, 1) := by decide +kernel
theorem dX8_string_28 : decode cX8_string 28 = .ok (.invokevirtual 111, 3) := by decide +kernel
theorem dX8_string_31 : decode cX8_string 31 = .ok (.ifCond .eq 5, 3) := by decide +kernel
theorem dX8_string_34 : decode cX8_string 34 = .ok (.iconst 0, 1) := by decide +kernel
theorem dX8_string_35 : decode cX8_string 35 = .ok (.ireturn, 1) := by decide +kernel
theorem dX8_string_36 : decode cX8_string 36 = .ok (.aload_n 0, 1) := by decide +kernel
theorem dX8_string_37 : decode cX8_string 37 = .ok (.getfield 16, 3) := by decide +kernel
theorem dX8_string_40 : decode cX8_string 40 = .ok (.iload_n 1, 1) := by decide +kernel
theorem dX8_string_41 : decode cX8_string 41 = .ok (.iload_n 2, 1) := by decide +kernel
theorem dX8_string_42 : decode cX8_string 42 = .ok (.invokestatic 99, 3) := by decide +kernel
theorem dX8_string_45 : decode cX8_string 45 = .ok (.istore_n 3, 1) := by decide +kernel
theorem dX8_string_46 : decode cX8_string 46 = .ok (.iload_n 3, 1) := by decide +kernel
theorem dX8_string_47 : decode cX8_string 47 = .ok (.bipush (-9), 2) := by decide +kernel
theorem dX8_string_49 : decode cX8_string 49 = .ok (.if_icmp .ne 7, 3) := by decide +kernel
theorem dX8_string_52 : decode cX8_string 52 = .ok (.iconst 0, 1) := by decide +kernel
theorem dX8_string_53 : decode cX8_string 53 = .ok (.goto 15, 3) := by decide +kernel
theorem dX8_string_56 : decode cX8_string 56 = .ok (.iconst 2, 1) := by decide +kernel
theorem dX8_string_57 : decode cX8_string 57 = .ok (.aload_n 0, 1) := by decide +kernel
theorem dX8_string_58 : decode cX8_string 58 = .ok (.getfield 16, 3) := by decide +kernel
theorem dX8_string_61 : decode cX8_string 61 = .ok (.iload_n 3, 1) := by decide +kernel
theorem dX8_string_62 : decode cX8_string 62 = .ok (.iconst 2, 1) := by decide +kernel
theorem dX8_string_63 : decode cX8_string 63 = .ok (.invokestatic 78, 3) := by decide +kernel
theorem dX8_string_66 : decode cX8_string 66 = .ok (.iaload, 1) := by decide +kernel
theorem dX8_string_67 : decode cX8_string 67 = .ok (.isub, 1) := by decide +kernel
theorem dX8_string_68 : decode cX8_string 68 = .ok (.ireturn, 1) := by decide +kernel
theorem dX8_tells_0 : decode cX8_tells 0 = .ok (.bipush 100, 2) := by decide +kernel
theorem dX8_tells_2 : decode cX8_tells 2 = .ok (.iconst 4, 1) := by decide +kernel
theorem dX8_tells_3 : decode cX8_tells 3 = .ok (.aload_n 0, 1) := by decide +kernel
theorem dX8_tells_4 : decode cX8_tells 4 = .ok (.getfield 16, 3) := by decide +kernel
theorem dX8_tells_7 : decode cX8_tells 7 = .ok (.iload_n 1, 1) := by decide +kernel
theorem dX8_tells_8 : decode cX8_tells 8 = .ok (.iconst 0, 1) := by decide +kernel
theorem dX8_tells_9 : decode cX8_tells 9 = .ok (.invokestatic 78, 3) := by decide +kernel
theorem dX8_tells_12 : decode cX8_tells 12 = .ok (.iaload, 1) := by decide +kernel
theorem dX8_tells_13 : decode cX8_tells 13 = .ok (.iadd, 1) := by decide +kernel
theorem dX8_tells_14 : decode cX8_tells 14 = .ok (.imul, 1) := by decide +kernel
theorem dX8_tells_15 : decode cX8_tells 15 = .ok (.aload_n 0, 1) := by decide +kernel
theorem dX8_tells_16 : decode cX8_tells 16 = .ok (.getfield 16, 3) := by decide +kernel
theorem dX8_tells_19 : decode cX8_tells 19 = .ok (.iload_n 1, 1) := by decide +kernel
theorem dX8_tells_20 : decode cX8_tells 20 = .ok (.iconst 1, 1) := by decide +kernel
theorem dX8_tells_21 : decode cX8_tells 21 = .ok (.invokestatic 78, 3) := by decide +kernel
theorem dX8_tells_24 : decode cX8_tells 24 = .ok (.iaload, 1) := by decide +kernel
theorem dX8_tells_25 : decode cX8_tells 25 = .ok (.iadd, 1) := by decide +kernel
theorem dX8_tells_26 : decode cX8_tells 26 = .ok (.ireturn, 1) := by decide +kernel
theorem dX8_stringAt_0 : decode cX8_stringAt 0 = .ok (.aload_n 0, 1) := by decide +kernel
theorem dX8_stringAt_1 : decode cX8_stringAt 1 = .ok (.iload_n 1, 1) := by decide +kernel
theorem dX8_stringAt_2 : decode cX8_stringAt 2 = .ok (.ifCond .ge 7, 3) := by decide +kernel
theorem dX8_stringAt_5 : decode cX8_stringAt 5 = .ok (.iconst 1, 1) := by decide +kernel
theorem dX8_stringAt_6 : decode cX8_stringAt 6 = .ok (.goto 4, 3) := by decide +kernel
theorem dX8_stringAt_9 : decode cX8_stringAt 9 = .ok (.iconst 0, 1) := by decide +kernel
theorem dX8_stringAt_10 : decode cX8_stringAt 10 = .ok (.invokevirtual 111, 3) := by decide +kernel
theorem dX8_stringAt_13 : decode cX8_stringAt 13 = .ok (.ifCond .eq 5, 3) := by decide +kernel
theorem dX8_stringAt_16 : decode cX8_stringAt 16 = .ok (.iconst 0, 1) := by decide +kernel
theorem dX8_stringAt_17 : decode cX8_stringAt 17 = .ok (.ireturn, 1) := by decide +kernel
theorem dX8_stringAt_18 : decode cX8_stringAt 18 = .ok (.iload_n 1, 1) := by decide +kernel
theorem dX8_stringAt_19 : decode cX8_stringAt 19 = .ok (.aload_n 0, 1) := by decide +kernel
theorem dX8_stringAt_20 : decode cX8_stringAt 20 = .ok (.getfield 16, 3) := by decide +kernel
theorem dX8_stringAt_23 : decode cX8_stringAt 23 = .ok (.iconst 2, 1) := by decide +kernel
theorem dX8_stringAt_24 : decode cX8_stringAt 24 = .ok (.iaload, 1) := by decide +kernel
theorem dX8_stringAt_25 : decode cX8_stringAt 25 = .ok (.if_icmp .ge 11, 3) := by decide +kernel
theorem dX8_stringAt_28 : decode cX8_stringAt 28 = .ok (.aload_n 0, 1) := by decide +kernel
theorem dX8_stringAt_29 : decode cX8_stringAt 29 = .ok (.iload_n 1, 1) := by decide +kernel
theorem dX8_stringAt_30 : decode cX8_stringAt 30 = .ok (.invokevirtual 217, 3) := by decide +kernel
theorem dX8_stringAt_33 : decode cX8_stringAt 33 = .ok (.goto 5, 3) := by decide +kernel
theorem dX8_stringAt_36 : decode cX8_stringAt 36 = .ok (.bipush (-9), 2) := by decide +kernel
theorem dX8_stringAt_38 : decode cX8_stringAt 38 = .ok (.ireturn, 1) := by decide +kernel
theorem dX8_make_0 : decode cX8_make 0 = .ok (.aload_n 0, 1) := by decide +kernel
theorem dX8_make_1 : decode cX8_make 1 = .ok (.iload_n 1, 1) := by decide +kernel
theorem dX8_make_2 : decode cX8_make 2 = .ok (.i2l, 1) := by decide +kernel
theorem dX8_make_3 : decode cX8_make 3 = .ok (.lconst 1, 1) := by decide +kernel
theorem dX8_make_4 : decode cX8_make 4 = .ok (.ldc2_w 122, 3) := by decide +kernel
theorem dX8_make_7 : decode cX8_make 7 = .ok (.invokestatic 60, 3) := by decide +kernel
theorem dX8_make_10 : decode cX8_make 10 = .ok (.ifCond .ne 7, 3) := by decide +kernel
theorem dX8_make_13 : decode cX8_make 13 = .ok (.iconst 1, 1) := by decide +kernel
theorem dX8_make_14 : decode cX8_make 14 = .ok (.goto 19, 3) := by decide +kernel
theorem dX8_make_17 : decode cX8_make 17 = .ok (.aload_n 0, 1) := by decide +kernel
theorem dX8_make_18 : decode cX8_make 18 = .ok (.getfield 16, 3) := by decide +kernel
theorem dX8_make_21 : decode cX8_make 21 = .ok (.iconst 0, 1) := by decide +kernel
theorem dX8_make_22 : decode cX8_make 22 = .ok (.iaload, 1) := by decide +kernel
theorem dX8_make_23 : decode cX8_make 23 = .ok (.bipush 24, 2) := by decide +kernel
theorem dX8_make_25 : decode cX8_make 25 = .ok (.if_icmp .ne 7, 3) := by decide +kernel
theorem dX8_make_28 : decode cX8_make 28 = .ok (.iconst 2, 1) := by decide +kernel
theorem dX8_make_29 : decode cX8_make 29 = .ok (.goto 4, 3) := by decide +kernel
theorem dX8_make_32 : decode cX8_make 32 = .ok (.iconst 0, 1) := by decide +kernel
theorem dX8_make_33 : decode cX8_make 33 = .ok (.invokevirtual 111, 3) := by decide +kernel
theorem dX8_make_36 : decode cX8_make 36 = .ok (.ifCond .eq 5, 3) := by decide +kernel
theorem dX8_make_39 : decode cX8_make 39 = .ok (.iconst 0, 1) := by decide +kernel
theorem dX8_make_40 : decode cX8_make 40 = .ok (.ireturn, 1) := by decide +kernel
theorem dX8_make_41 : decode cX8_make 41 = .ok (.aload_n 0, 1) := by decide +kernel
theorem dX8_make_42 : decode cX8_make 42 = .ok (.invokevirtual 221, 3) := by decide +kernel
theorem dX8_make_45 : decode cX8_make 45 = .ok (.aload_n 0, 1) := by decide +kernel
theorem dX8_make_46 : decode cX8_make 46 = .ok (.getfield 16, 3) := by decide +kernel
theorem dX8_make_49 : decode cX8_make 49 = .ok (.iload_n 1, 1) := by decide +kernel
theorem dX8_make_50 : decode cX8_make 50 = .ok (.invokestatic 161, 3) := by decide +kernel
theorem dX8_make_53 : decode cX8_make 53 = .ok (.ireturn, 1) := by decide +kernel
theorem dX8_tie_0 : decode cX8_tie 0 = .ok (.aload_n 0, 1) := by decide +kernel
theorem dX8_tie_1 : decode cX8_tie 1 = .ok (.getfield 16, 3) := by decide +kernel
theorem dX8_tie_4 : decode cX8_tie 4 = .ok (.iload_n 1, 1) := by decide +kernel
theorem dX8_tie_5 : decode cX8_tie 5 = .ok (.invokestatic 144, 3) := by decide +kernel
theorem dX8_tie_8 : decode cX8_tie 8 = .ok (.ifCond .eq 18, 3) := by decide +kernel
theorem dX8_tie_11 : decode cX8_tie 11 = .ok (.aload_n 0, 1) := by decide +kernel
theorem dX8_tie_12 : decode cX8_tie 12 = .ok (.getfield 16, 3) := by decide +kernel
theorem dX8_tie_15 : decode cX8_tie 15 = .ok (.iload_n 2, 1) := by decide +kernel
theorem dX8_tie_16 : decode cX8_tie 16 = .ok (.invokestatic 74, 3) := by decide +kernel
theorem dX8_tie_19 : decode cX8_tie 19 = .ok (.ifCond .eq 7, 3) := by decide +kernel
theorem dX8_tie_22 : decode cX8_tie 22 = .ok (.iconst 1, 1) := by decide +kernel
theorem dX8_tie_23 : decode cX8_tie 23 = .ok (.goto 4, 3) := by decide +kernel
theorem dX8_tie_26 : decode cX8_tie 26 = .ok (.iconst 0, 1) := by decide +kernel
theorem dX8_tie_27 : decode cX8_tie 27 = .ok (.istore 4, 2) := by decide +kernel
theorem dX8_tie_29 : decode cX8_tie 29 = .ok (.aload_n 0, 1) := by decide +kernel
theorem dX8_tie_30 : decode cX8_tie 30 = .ok (.iload 4, 2) := by decide +kernel
theorem dX8_tie_32 : decode cX8_tie 32 = .ok (.ifCond .ne 7, 3) := by decide +kernel
theorem dX8_tie_35 : decode cX8_tie 35 = .ok (.iconst 1, 1) := by decide +kernel
theorem dX8_tie_36 : decode cX8_tie 36 = .ok (.goto 29, 3) := by decide +kernel
theorem dX8_tie_39 : decode cX8_tie 39 = .ok (.iload_n 1, 1) := by decide +kernel
theorem dX8_tie_40 : decode cX8_tie 40 = .ok (.iload_n 2, 1) := by decide +kernel
theorem dX8_tie_41 : decode cX8_tie 41 = .ok (.if_icmp .ne 7, 3) := by decide +kernel
theorem dX8_tie_44 : decode cX8_tie 44 = .ok (.iconst 2, 1) := by decide +kernel
theorem dX8_tie_45 : decode cX8_tie 45 = .ok (.goto 20, 3) := by decide +kernel
theorem dX8_tie_48 : decode cX8_tie 48 = .ok (.aload_n 0, 1) := by decide +kernel
theorem dX8_tie_49 : decode cX8_tie 49 = .ok (.getfield 16, 3) := by decide +kernel
theorem dX8_tie_52 : decode cX8_tie 52 = .ok (.iload_n 1, 1) := by decide +kernel
theorem dX8_tie_53 : decode cX8_tie 53 = .ok (.iload_n 2, 1) := by decide +kernel
theorem dX8_tie_54 : decode cX8_tie 54 = .ok (.invokestatic 147, 3) := by decide +kernel
theorem dX8_tie_57 : decode cX8_tie 57 = .ok (.ifCond .eq 7, 3) := by decide +kernel
theorem dX8_tie_60 : decode cX8_tie 60 = .ok (.iconst 0, 1) := by decide +kernel
theorem dX8_tie_61 : decode cX8_tie 61 = .ok (.goto 4, 3) := by decide +kernel
theorem dX8_tie_64 : decode cX8_tie 64 = .ok (.iconst 3, 1) := by decide +kernel
theorem dX8_tie_65 : decode cX8_tie 65 = .ok (.invokevirtual 111, 3) := by decide +kernel
theorem dX8_tie_68 : decode cX8_tie 68 = .ok (.ifCond .eq 5, 3) := by decide +kernel
theorem dX8_tie_71 : decode cX8_tie 71 = .ok (.iconst 0, 1) := by decide +kernel
theorem dX8_tie_72 : decode cX8_tie 72 = .ok (.ireturn, 1) := by decide +kernel
theorem dX8_tie_73 : decode cX8_tie 73 = .ok (.aload_n 0, 1) := by decide +kernel
theorem dX8_tie_74 : decode cX8_tie 74 = .ok (.invokevirtual 221, 3) := by decide +kernel
theorem dX8_tie_77 : decode cX8_tie 77 = .ok (.aload_n 0, 1) := by decide +kernel
theorem dX8_tie_78 : decode cX8_tie 78 = .ok (.getfield 16, 3) := by decide +kernel
theorem dX8_tie_81 : decode cX8_tie 81 = .ok (.iload_n 1, 1) := by decide +kernel
theorem dX8_tie_82 : decode cX8_tie 82 = .ok (.iload_n 2, 1) := by decide +kernel
theorem dX8_tie_83 : decode cX8_tie 83 = .ok (.iload_n 3, 1) := by decide +kernel
theorem dX8_tie_84 : decode cX8_tie 84 = .ok (.ifCond .eq 7, 3) := by decide +kernel
theorem dX8_tie_87 : decode cX8_tie 87 = .ok (.iconst 1, 1) := by decide +kernel
theorem dX8_tie_88 : decode cX8_tie 88 = .ok (.goto 4, 3) := by decide +kernel
theorem dX8_tie_91 : decode cX8_tie 91 = .ok (.iconst 0, 1) := by decide +kernel
theorem dX8_tie_92 : decode cX8_tie 92 = .ok (.invokestatic 154, 3) := by decide +kernel
theorem dX8_tie_95 : decode cX8_tie 95 = .ok (.aload_n 0, 1) := by decide +kernel
theorem dX8_tie_96 : decode cX8_tie 96 = .ok (.getfield 16, 3) := by decide +kernel
theorem dX8_tie_99 : decode cX8_tie 99 = .ok (.iconst 2, 1) := by decide +kernel
theorem dX8_tie_100 : decode cX8_tie 100 = .ok (.iaload, 1) := by decide +kernel
theorem dX8_tie_101 : decode cX8_tie 101 = .ok (.ireturn, 1) := by decide +kernel
theorem dX8_foundString_0 : decode cX8_foundString 0 = .ok (.aload_n 0, 1) := by decide +kernel
theorem dX8_foundString_1 : decode cX8_foundString 1 = .ok (.getfield 16, 3) := by decide +kernel
theorem dX8_foundString_4 : decode cX8_foundString 4 = .ok (.iload_n 1, 1) := by decide +kernel
theorem dX8_foundString_5 : decode cX8_foundString 5 = .ok (.invokestatic 144, 3) := by decide +kernel
theorem dX8_foundString_8 : decode cX8_foundString 8 = .ok (.ifCond .eq 26, 3) := by decide +kernel
theorem dX8_foundString_11 : decode cX8_foundString 11 = .ok (.aload_n 0, 1) := by decide +kernel
theorem dX8_foundString_12 : decode cX8_foundString 12 = .ok (.getfield 16, 3) := by decide +kernel
theorem dX8_foundString_15 : decode cX8_foundString 15 = .ok (.iload_n 2, 1) := by decide +kernel
theorem dX8_foundString_16 : decode cX8_foundString 16 = .ok (.invokestatic 74, 3) := by decide +kernel
theorem dX8_foundString_19 : decode cX8_foundString 19 = .ok (.ifCond .eq 15, 3) := by decide +kernel
theorem dX8_foundString_22 : decode cX8_foundString 22 = .ok (.aload_n 0, 1) := by decide +kernel
theorem dX8_foundString_23 : decode cX8_foundString 23 = .ok (.getfield 16, 3) := by decide +kernel
theorem dX8_foundString_26 : decode cX8_foundString 26 = .ok (.iload_n 1, 1) := by decide +kernel
theorem dX8_foundString_27 : decode cX8_foundString 27 = .ok (.iload_n 2, 1) := by decide +kernel
theorem dX8_foundString_28 : decode cX8_foundString 28 = .ok (.invokestatic 99, 3) := by decide +kernel
theorem dX8_foundString_31 : decode cX8_foundString 31 = .ok (.goto 5, 3) := by decide +kernel
theorem dX8_foundString_34 : decode cX8_foundString 34 = .ok (.bipush (-9), 2) := by decide +kernel
theorem dX8_foundString_36 : decode cX8_foundString 36 = .ok (.ireturn, 1) := by decide +kernel
theorem dX8_cut_0 : decode cX8_cut 0 = .ok (.aload_n 0, 1) := by decide +kernel
theorem dX8_cut_1 : decode cX8_cut 1 = .ok (.iload_n 1, 1) := by decide +kernel
theorem dX8_cut_2 : decode cX8_cut 2 = .ok (.iload_n 2, 1) := by decide +kernel
theorem dX8_cut_3 : decode cX8_cut 3 = .ok (.invokevirtual 224, 3) := by decide +kernel
theorem dX8_cut_6 : decode cX8_cut 6 = .ok (.istore_n 3, 1) := by decide +kernel
theorem dX8_cut_7 : decode cX8_cut 7 = .ok (.aload_n 0, 1) := by decide +kernel
theorem dX8_cut_8 : decode cX8_cut 8 = .ok (.iload_n 3, 1) := by decide +kernel
theorem dX8_cut_9 : decode cX8_cut 9 = .ok (.bipush (-9), 2) := by decide +kernel
theorem dX8_cut_11 : decode cX8_cut 11 = .ok (.if_icmp .ne 7, 3) := by decide +kernel
theorem dX8_cut_14 : decode cX8_cut 14 = .ok (.iconst 1, 1) := by decide +kernel
theorem dX8_cut_15 : decode cX8_cut 15 = .ok (.goto 4, 3) := by decide +kernel
theorem dX8_cut_18 : decode cX8_cut 18 = .ok (.iconst 0, 1) := by decide +kernel
theorem dX8_cut_19 : decode cX8_cut 19 = .ok (.invokevirtual 111, 3) := by decide +kernel
theorem dX8_cut_22 : decode cX8_cut 22 = .ok (.ifCond .eq 5, 3) := by decide +kernel
theorem dX8_cut_25 : decode cX8_cut 25 = .ok (.iconst 0, 1) := by decide +kernel
theorem dX8_cut_26 : decode cX8_cut 26 = .ok (.ireturn, 1) := by decide +kernel
theorem dX8_cut_27 : decode cX8_cut 27 = .ok (.aload_n 0, 1) := by decide +kernel
theorem dX8_cut_28 : decode cX8_cut 28 = .ok (.invokevirtual 221, 3) := by decide +kernel
theorem dX8_cut_31 : decode cX8_cut 31 = .ok (.aload_n 0, 1) := by decide +kernel
theorem dX8_cut_32 : decode cX8_cut 32 = .ok (.aload_n 0, 1) := by decide +kernel
theorem dX8_cut_33 : decode cX8_cut 33 = .ok (.getfield 16, 3) := by decide +kernel
theorem dX8_cut_36 : decode cX8_cut 36 = .ok (.invokevirtual 202, 3) := by decide +kernel
theorem dX8_cut_39 : decode cX8_cut 39 = .ok (.istore 4, 2) := by decide +kernel
theorem dX8_cut_41 : decode cX8_cut 41 = .ok (.aload_n 0, 1) := by decide +kernel
theorem dX8_cut_42 : decode cX8_cut 42 = .ok (.getfield 16, 3) := by decide +kernel
theorem dX8_cut_45 : decode cX8_cut 45 = .ok (.iload_n 3, 1) := by decide +kernel
theorem dX8_cut_46 : decode cX8_cut 46 = .ok (.invokestatic 89, 3) := by decide +kernel
theorem dX8_cut_49 : decode cX8_cut 49 = .ok (.iload 4, 2) := by decide +kernel
theorem dX8_cut_51 : decode cX8_cut 51 = .ok (.aload_n 0, 1) := by decide +kernel
theorem dX8_cut_52 : decode cX8_cut 52 = .ok (.aload_n 0, 1) := by decide +kernel
theorem dX8_cut_53 : decode cX8_cut 53 = .ok (.getfield 16, 3) := by decide +kernel
theorem dX8_cut_56 : decode cX8_cut 56 = .ok (.invokevirtual 202, 3) := by decide +kernel
theorem dX8_cut_59 : decode cX8_cut 59 = .ok (.isub, 1) := by decide +kernel
theorem dX8_cut_60 : decode cX8_cut 60 = .ok (.ireturn, 1) := by decide +kernel
theorem dX8_fray_0 : decode cX8_fray 0 = .ok (.aload_n 0, 1) := by decide +kernel
theorem dX8_fray_1 : decode cX8_fray 1 = .ok (.iload_n 1, 1) := by decide +kernel
theorem dX8_fray_2 : decode cX8_fray 2 = .ok (.iload_n 2, 1) := by decide +kernel
theorem dX8_fray_3 : decode cX8_fray 3 = .ok (.invokevirtual 224, 3) := by decide +kernel
theorem dX8_fray_6 : decode cX8_fray 6 = .ok (.istore_n 3, 1) := by decide +kernel
theorem dX8_fray_7 : decode cX8_fray 7 = .ok (.aload_n 0, 1) := by decide +kernel
theorem dX8_fray_8 : decode cX8_fray 8 = .ok (.iload_n 3, 1) := by decide +kernel
theorem dX8_fray_9 : decode cX8_fray 9 = .ok (.bipush (-9), 2) := by decide +kernel
theorem dX8_fray_11 : decode cX8_fray 11 = .ok (.if_icmp .ne 7, 3) := by decide +kernel
theorem dX8_fray_14 : decode cX8_fray 14 = .ok (.iconst 1, 1) := by decide +kernel
theorem dX8_fray_15 : decode cX8_fray 15 = .ok (.goto 21, 3) := by decide +kernel
theorem dX8_fray_18 : decode cX8_fray 18 = .ok (.aload_n 0, 1) := by decide +kernel
theorem dX8_fray_19 : decode cX8_fray 19 = .ok (.getfield 16, 3) := by decide +kernel
theorem dX8_fray_22 : decode cX8_fray 22 = .ok (.iload_n 3, 1) := by decide +kernel
theorem dX8_fray_23 : decode cX8_fray 23 = .ok (.iconst 2, 1) := by decide +kernel
theorem dX8_fray_24 : decode cX8_fray 24 = .ok (.invokestatic 78, 3) := by decide +kernel
theorem dX8_fray_27 : decode cX8_fray 27 = .ok (.iaload, 1) := by decide +kernel
theorem dX8_fray_28 : decode cX8_fray 28 = .ok (.ifCond .ne 7, 3) := by decide +kernel
theorem dX8_fray_31 : decode cX8_fray 31 = .ok (.iconst 2, 1) := by decide +kernel
theorem dX8_fray_32 : decode cX8_fray 32 = .ok (.goto 4, 3) := by decide +kernel
theorem dX8_fray_35 : decode cX8_fray 35 = .ok (.iconst 0, 1) := by decide +kernel
theorem dX8_fray_36 : decode cX8_fray 36 = .ok (.invokevirtual 111, 3) := by decide +kernel
theorem dX8_fray_39 : decode cX8_fray 39 = .ok (.ifCond .eq 5, 3) := by decide +kernel
theorem dX8_fray_42 : decode cX8_fray 42 = .ok (.iconst 0, 1) := by decide +kernel
theorem dX8_fray_43 : decode cX8_fray 43 = .ok (.ireturn, 1) := by decide +kernel
theorem dX8_fray_44 : decode cX8_fray 44 = .ok (.aload_n 0, 1) := by decide +kernel
theorem dX8_fray_45 : decode cX8_fray 45 = .ok (.invokevirtual 221, 3) := by decide +kernel
theorem dX8_fray_48 : decode cX8_fray 48 = .ok (.aload_n 0, 1) := by decide +kernel
theorem dX8_fray_49 : decode cX8_fray 49 = .ok (.aload_n 0, 1) := by decide +kernel
theorem dX8_fray_50 : decode cX8_fray 50 = .ok (.getfield 16, 3) := by decide +kernel
theorem dX8_fray_53 : decode cX8_fray 53 = .ok (.invokevirtual 202, 3) := by decide +kernel
theorem dX8_fray_56 : decode cX8_fray 56 = .ok (.istore 4, 2) := by decide +kernel
theorem dX8_fray_58 : decode cX8_fray 58 = .ok (.aload_n 0, 1) := by decide +kernel
theorem dX8_fray_59 : decode cX8_fray 59 = .ok (.getfield 16, 3) := by decide +kernel
theorem dX8_fray_62 : decode cX8_fray 62 = .ok (.iload_n 3, 1) := by decide +kernel
theorem dX8_fray_63 : decode cX8_fray 63 = .ok (.iconst 2, 1) := by decide +kernel
theorem dX8_fray_64 : decode cX8_fray 64 = .ok (.invokestatic 78, 3) := by decide +kernel
theorem dX8_fray_67 : decode cX8_fray 67 = .ok (.iconst 0, 1) := by decide +kernel
theorem dX8_fray_68 : decode cX8_fray 68 = .ok (.iastore, 1) := by decide +kernel
theorem dX8_fray_69 : decode cX8_fray 69 = .ok (.iload 4, 2) := by decide +kernel
theorem dX8_fray_71 : decode cX8_fray 71 = .ok (.aload_n 0, 1) := by decide +kernel
theorem dX8_fray_72 : decode cX8_fray 72 = .ok (.aload_n 0, 1) := by decide +kernel
theorem dX8_fray_73 : decode cX8_fray 73 = .ok (.getfield 16, 3) := by decide +kernel
theorem dX8_fray_76 : decode cX8_fray 76 = .ok (.invokevirtual 202, 3) := by decide +kernel
theorem dX8_fray_79 : decode cX8_fray 79 = .ok (.isub, 1) := by decide +kernel
theorem dX8_fray_80 : decode cX8_fray 80 = .ok (.ireturn, 1) := by decide +kernel
theorem dX8_mend_0 : decode cX8_mend 0 = .ok (.aload_n 0, 1) := by decide +kernel
theorem dX8_mend_1 : decode cX8_mend 1 = .ok (.iload_n 1, 1) := by decide +kernel
theorem dX8_mend_2 : decode cX8_mend 2 = .ok (.iload_n 2, 1) := by decide +kernel
theorem dX8_mend_3 : decode cX8_mend 3 = .ok (.invokevirtual 224, 3) := by decide +kernel
theorem dX8_mend_6 : decode cX8_mend 6 = .ok (.istore_n 3, 1) := by decide +kernel
theorem dX8_mend_7 : decode cX8_mend 7 = .ok (.aload_n 0, 1) := by decide +kernel
theorem dX8_mend_8 : decode cX8_mend 8 = .ok (.iload_n 3, 1) := by decide +kernel
theorem dX8_mend_9 : decode cX8_mend 9 = .ok (.bipush (-9), 2) := by decide +kernel
theorem dX8_mend_11 : decode cX8_mend 11 = .ok (.if_icmp .ne 7, 3) := by decide +kernel
theorem dX8_mend_14 : decode cX8_mend 14 = .ok (.iconst 1, 1) := by decide +kernel
theorem dX8_mend_15 : decode cX8_mend 15 = .ok (.goto 22, 3) := by decide +kernel
theorem dX8_mend_18 : decode cX8_mend 18 = .ok (.aload_n 0, 1) := by decide +kernel
theorem dX8_mend_19 : decode cX8_mend 19 = .ok (.getfield 16, 3) := by decide +kernel
theorem dX8_mend_22 : decode cX8_mend 22 = .ok (.iload_n 3, 1) := by decide +kernel
theorem dX8_mend_23 : decode cX8_mend 23 = .ok (.iconst 2, 1) := by decide +kernel
theorem dX8_mend_24 : decode cX8_mend 24 = .ok (.invokestatic 78, 3) := by decide +kernel
theorem dX8_mend_27 : decode cX8_mend 27 = .ok (.iaload, 1) := by decide +kernel
theorem dX8_mend_28 : decode cX8_mend 28 = .ok (.iconst 1, 1) := by decide +kernel
theorem dX8_mend_29 : decode cX8_mend 29 = .ok (.if_icmp .ne 7, 3) := by decide +kernel
theorem dX8_mend_32 : decode cX8_mend 32 = .ok (.iconst 2, 1) := by decide +kernel
theorem dX8_mend_33 : decode cX8_mend 33 = .ok (.goto 4, 3) := by decide +kernel
theorem dX8_mend_36 : decode cX8_mend 36 = .ok (.iconst 0, 1) := by decide +kernel
theorem dX8_mend_37 : decode cX8_mend 37 = .ok (.invokevirtual 111, 3) := by decide +kernel
theorem dX8_mend_40 : decode cX8_mend 40 = .ok (.ifCond .eq 5, 3) := by decide +kernel
theorem dX8_mend_43 : decode cX8_mend 43 = .ok (.iconst 0, 1) := by decide +kernel
theorem dX8_mend_44 : decode cX8_mend 44 = .ok (.ireturn, 1) := by decide +kernel
theorem dX8_mend_45 : decode cX8_mend 45 = .ok (.aload_n 0, 1) := by decide +kernel
theorem dX8_mend_46 : decode cX8_mend 46 = .ok (.invokevirtual 221, 3) := by decide +kernel
theorem dX8_mend_49 : decode cX8_mend 49 = .ok (.aload_n 0, 1) := by decide +kernel
theorem dX8_mend_50 : decode cX8_mend 50 = .ok (.aload_n 0, 1) := by decide +kernel
theorem dX8_mend_51 : decode cX8_mend 51 = .ok (.getfield 16, 3) := by decide +kernel
theorem dX8_mend_54 : decode cX8_mend 54 = .ok (.invokevirtual 202, 3) := by decide +kernel
theorem dX8_mend_57 : decode cX8_mend 57 = .ok (.istore 4, 2) := by decide +kernel
theorem dX8_mend_59 : decode cX8_mend 59 = .ok (.aload_n 0, 1) := by decide +kernel
theorem dX8_mend_60 : decode cX8_mend 60 = .ok (.getfield 16, 3) := by decide +kernel
theorem dX8_mend_63 : decode cX8_mend 63 = .ok (.iload_n 3, 1) := by decide +kernel
theorem dX8_mend_64 : decode cX8_mend 64 = .ok (.invokestatic 158, 3) := by decide +kernel
theorem dX8_mend_67 : decode cX8_mend 67 = .ok (.aload_n 0, 1) := by decide +kernel
theorem dX8_mend_68 : decode cX8_mend 68 = .ok (.aload_n 0, 1) := by decide +kernel
theorem dX8_mend_69 : decode cX8_mend 69 = .ok (.getfield 16, 3) := by decide +kernel
theorem dX8_mend_72 : decode cX8_mend 72 = .ok (.invokevirtual 202, 3) := by decide +kernel
theorem dX8_mend_75 : decode cX8_mend 75 = .ok (.iload 4, 2) := by decide +kernel
theorem dX8_mend_77 : decode cX8_mend 77 = .ok (.isub, 1) := by decide +kernel
theorem dX8_mend_78 : decode cX8_mend 78 = .ok (.ireturn, 1) := by decide +kernel
theorem dX8_pin_0 : decode cX8_pin 0 = .ok (.aload_n 0, 1) := by decide +kernel
theorem dX8_pin_1 : decode cX8_pin 1 = .ok (.aload_n 0, 1) := by decide +kernel
theorem dX8_pin_2 : decode cX8_pin 2 = .ok (.getfield 16, 3) := by decide +kernel
theorem dX8_pin_5 : decode cX8_pin 5 = .ok (.iload_n 1, 1) := by decide +kernel
theorem dX8_pin_6 : decode cX8_pin 6 = .ok (.invokestatic 74, 3) := by decide +kernel
theorem dX8_pin_9 : decode cX8_pin 9 = .ok (.ifCond .eq 7, 3) := by decide +kernel
theorem dX8_pin_12 : decode cX8_pin 12 = .ok (.iconst 0, 1) := by decide +kernel
theorem dX8_pin_13 : decode cX8_pin 13 = .ok (.goto 4, 3) := by decide +kernel
theorem dX8_pin_16 : decode cX8_pin 16 = .ok (.iconst 1, 1) := by decide +kernel
theorem dX8_pin_17 : decode cX8_pin 17 = .ok (.invokevirtual 111, 3) := by decide +kernel
theorem dX8_pin_20 : decode cX8_pin 20 = .ok (.ifCond .eq 5, 3) := by decide +kernel
theorem dX8_pin_23 : decode cX8_pin 23 = .ok (.iconst 0, 1) := by decide +kernel
theorem dX8_pin_24 : decode cX8_pin 24 = .ok (.ireturn, 1) := by decide +kernel
theorem dX8_pin_25 : decode cX8_pin 25 = .ok (.aload_n 0, 1) := by decide +kernel
theorem dX8_pin_26 : decode cX8_pin 26 = .ok (.invokevirtual 221, 3) := by decide +kernel
theorem dX8_pin_29 : decode cX8_pin 29 = .ok (.aload_n 0, 1) := by decide +kernel
theorem dX8_pin_30 : decode cX8_pin 30 = .ok (.getfield 16, 3) := by decide +kernel
theorem dX8_pin_33 : decode cX8_pin 33 = .ok (.iload_n 1, 1) := by decide +kernel
theorem dX8_pin_34 : decode cX8_pin 34 = .ok (.iload_n 2, 1) := by decide +kernel
theorem dX8_pin_35 : decode cX8_pin 35 = .ok (.invokestatic 165, 3) := by decide +kernel
theorem dX8_pin_38 : decode cX8_pin 38 = .ok (.aload_n 0, 1) := by decide +kernel
theorem dX8_pin_39 : decode cX8_pin 39 = .ok (.aload_n 0, 1) := by decide +kernel
theorem dX8_pin_40 : decode cX8_pin 40 = .ok (.getfield 16, 3) := by decide +kernel
theorem dX8_pin_43 : decode cX8_pin 43 = .ok (.invokevirtual 202, 3) := by decide +kernel
theorem dX8_pin_46 : decode cX8_pin 46 = .ok (.ireturn, 1) := by decide +kernel
theorem dX8_begin_0 : decode cX8_begin 0 = .ok (.aload_n 0, 1) := by decide +kernel
theorem dX8_begin_1 : decode cX8_begin 1 = .ok (.aload_n 0, 1) := by decide +kernel
theorem dX8_begin_2 : decode cX8_begin 2 = .ok (.getfield 16, 3) := by decide +kernel
theorem dX8_begin_5 : decode cX8_begin 5 = .ok (.iconst 3, 1) := by decide +kernel
theorem dX8_begin_6 : decode cX8_begin 6 = .ok (.iaload, 1) := by decide +kernel
theorem dX8_begin_7 : decode cX8_begin 7 = .ok (.invokevirtual 111, 3) := by decide +kernel
theorem dX8_begin_10 : decode cX8_begin 10 = .ok (.ifCond .eq 5, 3) := by decide +kernel
theorem dX8_begin_13 : decode cX8_begin 13 = .ok (.iconst 0, 1) := by decide +kernel
theorem dX8_begin_14 : decode cX8_begin 14 = .ok (.ireturn, 1) := by decide +kernel
theorem dX8_begin_15 : decode cX8_begin 15 = .ok (.aload_n 0, 1) := by decide +kernel
theorem dX8_begin_16 : decode cX8_begin 16 = .ok (.invokevirtual 221, 3) := by decide +kernel
theorem dX8_begin_19 : decode cX8_begin 19 = .ok (.aload_n 0, 1) := by decide +kernel
theorem dX8_begin_20 : decode cX8_begin 20 = .ok (.getfield 16, 3) := by decide +kernel
theorem dX8_begin_23 : decode cX8_begin 23 = .ok (.invokestatic 169, 3) := by decide +kernel
theorem dX8_begin_26 : decode cX8_begin 26 = .ok (.ireturn, 1) := by decide +kernel
theorem dX8_step_0 : decode cX8_step 0 = .ok (.aload_n 0, 1) := by decide +kernel
theorem dX8_step_1 : decode cX8_step 1 = .ok (.iconst 1, 1) := by decide +kernel
theorem dX8_step_2 : decode cX8_step 2 = .ok (.aload_n 0, 1) := by decide +kernel
theorem dX8_step_3 : decode cX8_step 3 = .ok (.getfield 16, 3) := by decide +kernel
theorem dX8_step_6 : decode cX8_step 6 = .ok (.iconst 3, 1) := by decide +kernel
theorem dX8_step_7 : decode cX8_step 7 = .ok (.iaload, 1) := by decide +kernel
theorem dX8_step_8 : decode cX8_step 8 = .ok (.isub, 1) := by decide +kernel
theorem dX8_step_9 : decode cX8_step 9 = .ok (.invokevirtual 111, 3) := by decide +kernel
theorem dX8_step_12 : decode cX8_step 12 = .ok (.ifCond .eq 5, 3) := by decide +kernel
theorem dX8_step_15 : decode cX8_step 15 = .ok (.iconst 0, 1) := by decide +kernel
theorem dX8_step_16 : decode cX8_step 16 = .ok (.ireturn, 1) := by decide +kernel
theorem dX8_step_17 : decode cX8_step 17 = .ok (.aload_n 0, 1) := by decide +kernel
theorem dX8_step_18 : decode cX8_step 18 = .ok (.invokevirtual 221, 3) := by decide +kernel
theorem dX8_step_21 : decode cX8_step 21 = .ok (.aload_n 0, 1) := by decide +kernel
theorem dX8_step_22 : decode cX8_step 22 = .ok (.getfield 16, 3) := by decide +kernel
theorem dX8_step_25 : decode cX8_step 25 = .ok (.invokestatic 172, 3) := by decide +kernel
theorem dX8_step_28 : decode cX8_step 28 = .ok (.ireturn, 1) := by decide +kernel
theorem dX8_undo_0 : decode cX8_undo 0 = .ok (.aload_n 0, 1) := by decide +kernel
theorem dX8_undo_1 : decode cX8_undo 1 = .ok (.aload_n 0, 1) := by decide +kernel
theorem dX8_undo_2 : decode cX8_undo 2 = .ok (.getfield 53, 3) := by decide +kernel
theorem dX8_undo_5 : decode cX8_undo 5 = .ok (.ifCond .ne 7, 3) := by decide +kernel
theorem dX8_undo_8 : decode cX8_undo 8 = .ok (.iconst 1, 1) := by decide +kernel
theorem dX8_undo_9 : decode cX8_undo 9 = .ok (.goto 4, 3) := by decide +kernel
theorem dX8_undo_12 : decode cX8_undo 12 = .ok (.iconst 0, 1) := by decide +kernel
theorem dX8_undo_13 : decode cX8_undo 13 = .ok (.invokevirtual 111, 3) := by decide +kernel
theorem dX8_undo_16 : decode cX8_undo 16 = .ok (.ifCond .eq 5, 3) := by decide +kernel
theorem dX8_undo_19 : decode cX8_undo 19 = .ok (.iconst 0, 1) := by decide +kernel
theorem dX8_undo_20 : decode cX8_undo 20 = .ok (.ireturn, 1) := by decide +kernel
theorem dX8_undo_21 : decode cX8_undo 21 = .ok (.aload_n 0, 1) := by decide +kernel
theorem dX8_undo_22 : decode cX8_undo 22 = .ok (.dup, 1) := by decide +kernel
theorem dX8_undo_23 : decode cX8_undo 23 = .ok (.getfield 53, 3) := by decide +kernel
theorem dX8_undo_26 : decode cX8_undo 26 = .ok (.iconst 1, 1) := by decide +kernel
theorem dX8_undo_27 : decode cX8_undo 27 = .ok (.isub, 1) := by decide +kernel
theorem dX8_undo_28 : decode cX8_undo 28 = .ok (.putfield 53, 3) := by decide +kernel
theorem dX8_undo_31 : decode cX8_undo 31 = .ok (.aload_n 0, 1) := by decide +kernel
theorem dX8_undo_32 : decode cX8_undo 32 = .ok (.getfield 22, 3) := by decide +kernel
theorem dX8_undo_35 : decode cX8_undo 35 = .ok (.sipush 247, 3) := by decide +kernel
theorem dX8_undo_38 : decode cX8_undo 38 = .ok (.aload_n 0, 1) := by decide +kernel
theorem dX8_undo_39 : decode cX8_undo 39 = .ok (.getfield 53, 3) := by decide +kernel
theorem dX8_undo_42 : decode cX8_undo 42 = .ok (.imul, 1) := by decide +kernel
theorem dX8_undo_43 : decode cX8_undo 43 = .ok (.aload_n 0, 1) := by decide +kernel
theorem dX8_undo_44 : decode cX8_undo 44 = .ok (.getfield 16, 3) := by decide +kernel
theorem dX8_undo_47 : decode cX8_undo 47 = .ok (.iconst 0, 1) := by decide +kernel
theorem dX8_undo_48 : decode cX8_undo 48 = .ok (.sipush 247, 3) := by decide +kernel
theorem dX8_undo_51 : decode cX8_undo 51 = .ok (.invokestatic 56, 3) := by decide +kernel
theorem dX8_undo_54 : decode cX8_undo 54 = .ok (.aload_n 0, 1) := by decide +kernel
theorem dX8_undo_55 : decode cX8_undo 55 = .ok (.getfield 53, 3) := by decide +kernel
theorem dX8_undo_58 : decode cX8_undo 58 = .ok (.ireturn, 1) := by decide +kernel
theorem dX8_fallsBy_0 : decode cX8_fallsBy 0 = .ok (.aload_n 0, 1) := by decide +kernel
theorem dX8_fallsBy_1 : decode cX8_fallsBy 1 = .ok (.aload_n 0, 1) := by decide +kernel
theorem dX8_fallsBy_2 : decode cX8_fallsBy 2 = .ok (.getfield 16, 3) := by decide +kernel
theorem dX8_fallsBy_5 : decode cX8_fallsBy 5 = .ok (.invokevirtual 205, 3) := by decide +kernel
theorem dX8_fallsBy_8 : decode cX8_fallsBy 8 = .ok (.istore_n 2, 1) := by decide +kernel
theorem dX8_fallsBy_9 : decode cX8_fallsBy 9 = .ok (.aload_n 0, 1) := by decide +kernel
theorem dX8_fallsBy_10 : decode cX8_fallsBy 10 = .ok (.invokevirtual 227, 3) := by decide +kernel
theorem dX8_fallsBy_13 : decode cX8_fallsBy 13 = .ok (.aload_n 0, 1) := by decide +kernel
theorem dX8_fallsBy_14 : decode cX8_fallsBy 14 = .ok (.getfield 19, 3) := by decide +kernel
theorem dX8_fallsBy_17 : decode cX8_fallsBy 17 = .ok (.iload_n 1, 1) := by decide +kernel
theorem dX8_fallsBy_18 : decode cX8_fallsBy 18 = .ok (.invokestatic 89, 3) := by decide +kernel
theorem dX8_fallsBy_21 : decode cX8_fallsBy 21 = .ok (.iload_n 2, 1) := by decide +kernel
theorem dX8_fallsBy_22 : decode cX8_fallsBy 22 = .ok (.aload_n 0, 1) := by decide +kernel
theorem dX8_fallsBy_23 : decode cX8_fallsBy 23 = .ok (.aload_n 0, 1) := by decide +kernel
theorem dX8_fallsBy_24 : decode cX8_fallsBy 24 = .ok (.getfield 19, 3) := by decide +kernel
theorem dX8_fallsBy_27 : decode cX8_fallsBy 27 = .ok (.invokevirtual 205, 3) := by decide +kernel
theorem dX8_fallsBy_30 : decode cX8_fallsBy 30 = .ok (.isub, 1) := by decide +kernel
theorem dX8_fallsBy_31 : decode cX8_fallsBy 31 = .ok (.ireturn, 1) := by decide +kernel
theorem dX8_falls_0 : decode cX8_falls 0 = .ok (.aload_n 0, 1) := by decide +kernel
theorem dX8_falls_1 : decode cX8_falls 1 = .ok (.iload_n 1, 1) := by decide +kernel
theorem dX8_falls_2 : decode cX8_falls 2 = .ok (.iload_n 2, 1) := by decide +kernel
theorem dX8_falls_3 : decode cX8_falls 3 = .ok (.invokevirtual 224, 3) := by decide +kernel
theorem dX8_falls_6 : decode cX8_falls 6 = .ok (.istore_n 3, 1) := by decide +kernel
theorem dX8_falls_7 : decode cX8_falls 7 = .ok (.aload_n 0, 1) := by decide +kernel
theorem dX8_falls_8 : decode cX8_falls 8 = .ok (.iload_n 3, 1) := by decide +kernel
theorem dX8_falls_9 : decode cX8_falls 9 = .ok (.bipush (-9), 2) := by decide +kernel
theorem dX8_falls_11 : decode cX8_falls 11 = .ok (.if_icmp .ne 7, 3) := by decide +kernel
theorem dX8_falls_14 : decode cX8_falls 14 = .ok (.iconst 1, 1) := by decide +kernel
theorem dX8_falls_15 : decode cX8_falls 15 = .ok (.goto 4, 3) := by decide +kernel
theorem dX8_falls_18 : decode cX8_falls 18 = .ok (.iconst 0, 1) := by decide +kernel
theorem dX8_falls_19 : decode cX8_falls 19 = .ok (.invokevirtual 111, 3) := by decide +kernel
theorem dX8_falls_22 : decode cX8_falls 22 = .ok (.ifCond .eq 7, 3) := by decide +kernel
theorem dX8_falls_25 : decode cX8_falls 25 = .ok (.iconst 0, 1) := by decide +kernel
theorem dX8_falls_26 : decode cX8_falls 26 = .ok (.goto 8, 3) := by decide +kernel
theorem dX8_falls_29 : decode cX8_falls 29 = .ok (.aload_n 0, 1) := by decide +kernel
theorem dX8_falls_30 : decode cX8_falls 30 = .ok (.iload_n 3, 1) := by decide +kernel
theorem dX8_falls_31 : decode cX8_falls 31 = .ok (.invokevirtual 230, 3) := by decide +kernel
theorem dX8_falls_34 : decode cX8_falls 34 = .ok (.ireturn, 1) := by decide +kernel
theorem dX8_widen_0 : decode cX8_widen 0 = .ok (.iconst 0, 1) := by decide +kernel
theorem dX8_widen_1 : decode cX8_widen 1 = .ok (.istore_n 2, 1) := by decide +kernel
theorem dX8_widen_2 : decode cX8_widen 2 = .ok (.iconst 0, 1) := by decide +kernel
theorem dX8_widen_3 : decode cX8_widen 3 = .ok (.istore_n 3, 1) := by decide +kernel
theorem dX8_widen_4 : decode cX8_widen 4 = .ok (.iload_n 3, 1) := by decide +kernel
theorem dX8_widen_5 : decode cX8_widen 5 = .ok (.bipush 24, 2) := by decide +kernel
theorem dX8_widen_7 : decode cX8_widen 7 = .ok (.if_icmp .ge 68, 3) := by decide +kernel
theorem dX8_widen_10 : decode cX8_widen 10 = .ok (.aload_n 0, 1) := by decide +kernel
theorem dX8_widen_11 : decode cX8_widen 11 = .ok (.getfield 41, 3) := by decide +kernel
theorem dX8_widen_14 : decode cX8_widen 14 = .ok (.iload_n 3, 1) := by decide +kernel
theorem dX8_widen_15 : decode cX8_widen 15 = .ok (.aload_n 0, 1) := by decide +kernel
theorem dX8_widen_16 : decode cX8_widen 16 = .ok (.getfield 16, 3) := by decide +kernel
theorem dX8_widen_19 : decode cX8_widen 19 = .ok (.iload_n 3, 1) := by decide +kernel
theorem dX8_widen_20 : decode cX8_widen 20 = .ok (.invokestatic 74, 3) := by decide +kernel
theorem dX8_widen_23 : decode cX8_widen 23 = .ok (.ifCond .eq 22, 3) := by decide +kernel
theorem dX8_widen_26 : decode cX8_widen 26 = .ok (.aload_n 0, 1) := by decide +kernel
theorem dX8_widen_27 : decode cX8_widen 27 = .ok (.getfield 16, 3) := by decide +kernel
theorem dX8_widen_30 : decode cX8_widen 30 = .ok (.iload_n 3, 1) := by decide +kernel
theorem dX8_widen_31 : decode cX8_widen 31 = .ok (.iconst 2, 1) := by decide +kernel
theorem dX8_widen_32 : decode cX8_widen 32 = .ok (.invokestatic 66, 3) := by decide +kernel
theorem dX8_widen_35 : decode cX8_widen 35 = .ok (.iaload, 1) := by decide +kernel
theorem dX8_widen_36 : decode cX8_widen 36 = .ok (.iconst 1, 1) := by decide +kernel
theorem dX8_widen_37 : decode cX8_widen 37 = .ok (.if_icmp .ne 8, 3) := by decide +kernel
theorem dX8_widen_40 : decode cX8_widen 40 = .ok (.bipush 40, 2) := by decide +kernel
theorem dX8_widen_42 : decode cX8_widen 42 = .ok (.goto 5, 3) := by decide +kernel
theorem dX8_widen_45 : decode cX8_widen 45 = .ok (.bipush (-9), 2) := by decide +kernel
theorem dX8_widen_47 : decode cX8_widen 47 = .ok (.iastore, 1) := by decide +kernel
theorem dX8_widen_48 : decode cX8_widen 48 = .ok (.aload_n 0, 1) := by decide +kernel
theorem dX8_widen_49 : decode cX8_widen 49 = .ok (.getfield 41, 3) := by decide +kernel
theorem dX8_widen_52 : decode cX8_widen 52 = .ok (.iload_n 3, 1) := by decide +kernel
theorem dX8_widen_53 : decode cX8_widen 53 = .ok (.iaload, 1) := by decide +kernel
theorem dX8_widen_54 : decode cX8_widen 54 = .ok (.bipush 40, 2) := by decide +kernel
theorem dX8_widen_56 : decode cX8_widen 56 = .ok (.if_icmp .ne 13, 3) := by decide +kernel
theorem dX8_widen_59 : decode cX8_widen 59 = .ok (.aload_n 0, 1) := by decide +kernel
theorem dX8_widen_60 : decode cX8_widen 60 = .ok (.getfield 44, 3) := by decide +kernel
theorem dX8_widen_63 : decode cX8_widen 63 = .ok (.iload_n 2, 1) := by decide +kernel
theorem dX8_widen_64 : decode cX8_widen 64 = .ok (.iload_n 3, 1) := by decide +kernel
theorem dX8_widen_65 : decode cX8_widen 65 = .ok (.iastore, 1) := by decide +kernel
theorem dX8_widen_66 : decode cX8_widen 66 = .ok (.iinc 2 1, 3) := by decide +kernel
theorem dX8_widen_69 : decode cX8_widen 69 = .ok (.iinc 3 1, 3) := by decide +kernel
theorem dX8_widen_72 : decode cX8_widen 72 = .ok (.goto (-68), 3) := by decide +kernel
theorem dX8_widen_75 : decode cX8_widen 75 = .ok (.iconst 0, 1) := by decide +kernel
theorem dX8_widen_76 : decode cX8_widen 76 = .ok (.istore_n 3, 1) := by decide +kernel
theorem dX8_widen_77 : decode cX8_widen 77 = .ok (.iload_n 3, 1) := by decide +kernel
theorem dX8_widen_78 : decode cX8_widen 78 = .ok (.aload_n 0, 1) := by decide +kernel
theorem dX8_widen_79 : decode cX8_widen 79 = .ok (.getfield 16, 3) := by decide +kernel
theorem dX8_widen_82 : decode cX8_widen 82 = .ok (.iconst 2, 1) := by decide +kernel
theorem dX8_widen_83 : decode cX8_widen 83 = .ok (.iaload, 1) := by decide +kernel
theorem dX8_widen_84 : decode cX8_widen 84 = .ok (.if_icmp .ge 88, 3) := by decide +kernel
theorem dX8_widen_87 : decode cX8_widen 87 = .ok (.aload_n 0, 1) := by decide +kernel
theorem dX8_widen_88 : decode cX8_widen 88 = .ok (.getfield 16, 3) := by decide +kernel
theorem dX8_widen_91 : decode cX8_widen 91 = .ok (.iload_n 3, 1) := by decide +kernel
theorem dX8_widen_92 : decode cX8_widen 92 = .ok (.iconst 1, 1) := by decide +kernel
theorem dX8_widen_93 : decode cX8_widen 93 = .ok (.invokestatic 78, 3) := by decide +kernel
theorem dX8_widen_96 : decode cX8_widen 96 = .ok (.iaload, 1) := by decide +kernel
theorem dX8_widen_97 : decode cX8_widen 97 = .ok (.istore 4, 2) := by decide +kernel
theorem dX8_widen_99 : decode cX8_widen 99 = .ok (.aload_n 0, 1) := by decide +kernel
theorem dX8_widen_100 : decode cX8_widen 100 = .ok (.getfield 16, 3) := by decide +kernel
theorem dX8_widen_103 : decode cX8_widen 103 = .ok (.iload_n 3, 1) := by decide +kernel
theorem dX8_widen_104 : decode cX8_widen 104 = .ok (.iconst 0, 1) := by decide +kernel
theorem dX8_widen_105 : decode cX8_widen 105 = .ok (.invokestatic 78, 3) := by decide +kernel
theorem dX8_widen_108 : decode cX8_widen 108 = .ok (.iaload, 1) := by decide +kernel
theorem dX8_widen_109 : decode cX8_widen 109 = .ok (.ifCond .ge 57, 3) := by decide +kernel
theorem dX8_widen_112 : decode cX8_widen 112 = .ok (.aload_n 0, 1) := by decide +kernel
theorem dX8_widen_113 : decode cX8_widen 113 = .ok (.getfield 16, 3) := by decide +kernel
theorem dX8_widen_116 : decode cX8_widen 116 = .ok (.iload_n 3, 1) := by decide +kernel
theorem dX8_widen_117 : decode cX8_widen 117 = .ok (.iconst 2, 1) := by decide +kernel
theorem dX8_widen_118 : decode cX8_widen 118 = .ok (.invokestatic 78, 3) := by decide +kernel
theorem dX8_widen_121 : decode cX8_widen 121 = .ok (.iaload, 1) := by decide +kernel
theorem dX8_widen_122 : decode cX8_widen 122 = .ok (.iconst 1, 1) := by decide +kernel
theorem dX8_widen_123 : decode cX8_widen 123 = .ok (.if_icmp .ne 43, 3) := by decide +kernel
theorem dX8_widen_126 : decode cX8_widen 126 = .ok (.aload_n 0, 1) := by decide +kernel
theorem dX8_widen_127 : decode cX8_widen 127 = .ok (.getfield 38, 3) := by decide +kernel
theorem dX8_widen_130 : decode cX8_widen 130 = .ok (.iload_n 3, 1) := by decide +kernel
theorem dX8_widen_131 : decode cX8_widen 131 = .ok (.baload, 1) := by decide +kernel
theorem dX8_widen_132 : decode cX8_widen 132 = .ok (.ifCond .ne 34, 3) := by decide +kernel
theorem dX8_widen_135 : decode cX8_widen 135 = .ok (.aload_n 0, 1) := by decide +kernel
theorem dX8_widen_136 : decode cX8_widen 136 = .ok (.getfield 41, 3) := by decide +kernel
theorem dX8_widen_139 : decode cX8_widen 139 = .ok (.iload 4, 2) := by decide +kernel
theorem dX8_widen_141 : decode cX8_widen 141 = .ok (.iaload, 1) := by decide +kernel
theorem dX8_widen_142 : decode cX8_widen 142 = .ok (.bipush (-9), 2) := by decide +kernel
theorem dX8_widen_144 : decode cX8_widen 144 = .ok (.if_icmp .ne 22, 3) := by decide +kernel
theorem dX8_widen_147 : decode cX8_widen 147 = .ok (.aload_n 0, 1) := by decide +kernel
theorem dX8_widen_148 : decode cX8_widen 148 = .ok (.getfield 41, 3) := by decide +kernel
theorem dX8_widen_151 : decode cX8_widen 151 = .ok (.iload 4, 2) := by decide +kernel
theorem dX8_widen_153 : decode cX8_widen 153 = .ok (.iload_n 3, 1) := by decide +kernel
theorem dX8_widen_154 : decode cX8_widen 154 = .ok (.iastore, 1) := by decide +kernel
theorem dX8_widen_155 : decode cX8_widen 155 = .ok (.aload_n 0, 1) := by decide +kernel
theorem dX8_widen_156 : decode cX8_widen 156 = .ok (.getfield 44, 3) := by decide +kernel
theorem dX8_widen_159 : decode cX8_widen 159 = .ok (.iload_n 2, 1) := by decide +kernel
theorem dX8_widen_160 : decode cX8_widen 160 = .ok (.iload 4, 2) := by decide +kernel
theorem dX8_widen_162 : decode cX8_widen 162 = .ok (.iastore, 1) := by decide +kernel
theorem dX8_widen_163 : decode cX8_widen 163 = .ok (.iinc 2 1, 3) := by decide +kernel
theorem dX8_widen_166 : decode cX8_widen 166 = .ok (.iinc 3 1, 3) := by decide +kernel
theorem dX8_widen_169 : decode cX8_widen 169 = .ok (.goto (-92), 3) := by decide +kernel
theorem dX8_widen_172 : decode cX8_widen 172 = .ok (.iconst 0, 1) := by decide +kernel
theorem dX8_widen_173 : decode cX8_widen 173 = .ok (.istore_n 3, 1) := by decide +kernel
theorem dX8_widen_174 : decode cX8_widen 174 = .ok (.iload_n 3, 1) := by decide +kernel
theorem dX8_widen_175 : decode cX8_widen 175 = .ok (.iload_n 2, 1) := by decide +kernel
theorem dX8_widen_176 : decode cX8_widen 176 = .ok (.if_icmp .ge 210, 3) := by decide +kernel
theorem dX8_widen_179 : decode cX8_widen 179 = .ok (.aload_n 0, 1) := by decide +kernel
theorem dX8_widen_180 : decode cX8_widen 180 = .ok (.getfield 41, 3) := by decide +kernel
theorem dX8_widen_183 : decode cX8_widen 183 = .ok (.iload_n 1, 1) := by decide +kernel
theorem dX8_widen_184 : decode cX8_widen 184 = .ok (.iaload, 1) := by decide +kernel
theorem dX8_widen_185 : decode cX8_widen 185 = .ok (.bipush (-9), 2) := by decide +kernel
theorem dX8_widen_187 : decode cX8_widen 187 = .ok (.if_icmp .ne 199, 3) := by decide +kernel
theorem dX8_widen_190 : decode cX8_widen 190 = .ok (.aload_n 0, 1) := by decide +kernel
theorem dX8_widen_191 : decode cX8_widen 191 = .ok (.getfield 44, 3) := by decide +kernel
theorem dX8_widen_194 : decode cX8_widen 194 = .ok (.iload_n 3, 1) := by decide +kernel
theorem dX8_widen_195 : decode cX8_widen 195 = .ok (.iaload, 1) := by decide +kernel
theorem dX8_widen_196 : decode cX8_widen 196 = .ok (.istore 4, 2) := by decide +kernel
theorem dX8_widen_198 : decode cX8_widen 198 = .ok (.iconst 0, 1) := by decide +kernel
theorem dX8_widen_199 : decode cX8_widen 199 = .ok (.istore 5, 2) := by decide +kernel
theorem dX8_widen_201 : decode cX8_widen 201 = .ok (.iload 5, 2) := by decide +kernel
theorem dX8_widen_203 : decode cX8_widen 203 = .ok (.aload_n 0, 1) := by decide +kernel
theorem dX8_widen_204 : decode cX8_widen 204 = .ok (.getfield 16, 3) := by decide +kernel
theorem dX8_widen_207 : decode cX8_widen 207 = .ok (.iconst 2, 1) := by decide +kernel
theorem dX8_widen_208 : decode cX8_widen 208 = .ok (.iaload, 1) := by decide +kernel
theorem dX8_widen_209 : decode cX8_widen 209 = .ok (.if_icmp .ge 171, 3) := by decide +kernel
theorem dX8_widen_212 : decode cX8_widen 212 = .ok (.aload_n 0, 1) := by decide +kernel
theorem dX8_widen_213 : decode cX8_widen 213 = .ok (.getfield 16, 3) := by decide +kernel
theorem dX8_widen_216 : decode cX8_widen 216 = .ok (.iload 5, 2) := by decide +kernel
theorem dX8_widen_218 : decode cX8_widen 218 = .ok (.iconst 0, 1) := by decide +kernel
theorem dX8_widen_219 : decode cX8_widen 219 = .ok (.invokestatic 78, 3) := by decide +kernel
theorem dX8_widen_222 : decode cX8_widen 222 = .ok (.iaload, 1) := by decide +kernel
theorem dX8_widen_223 : decode cX8_widen 223 = .ok (.istore 6, 2) := by decide +kernel
theorem dX8_widen_225 : decode cX8_widen 225 = .ok (.aload_n 0, 1) := by decide +kernel
theorem dX8_widen_226 : decode cX8_widen 226 = .ok (.getfield 16, 3) := by decide +kernel
theorem dX8_widen_229 : decode cX8_widen 229 = .ok (.iload 5, 2) := by decide +kernel
theorem dX8_widen_231 : decode cX8_widen 231 = .ok (.iconst 1, 1) := by decide +kernel
theorem dX8_widen_232 : decode cX8_widen 232 = .ok (.invokestatic 78, 3) := by decide +kernel
theorem dX8_widen_235 : decode cX8_widen 235 = .ok (.iaload, 1) := by decide +kernel
theorem dX8_widen_236 : decode cX8_widen 236 = .ok (.istore 7, 2) := by decide +kernel
theorem dX8_widen_238 : decode cX8_widen 238 = .ok (.aload_n 0, 1) := by decide +kernel
theorem dX8_widen_239 : decode cX8_widen 239 = .ok (.getfield 16, 3) := by decide +kernel
theorem dX8_widen_242 : decode cX8_widen 242 = .ok (.iload 5, 2) := by decide +kernel
theorem dX8_widen_244 : decode cX8_widen 244 = .ok (.iconst 2, 1) := by decide +kernel
theorem dX8_widen_245 : decode cX8_widen 245 = .ok (.invokestatic 78, 3) := by decide +kernel
theorem dX8_widen_248 : decode cX8_widen 248 = .ok (.iaload, 1) := by decide +kernel
theorem dX8_widen_249 : decode cX8_widen 249 = .ok (.iconst 1, 1) := by decide +kernel
theorem dX8_widen_250 : decode cX8_widen 250 = .ok (.if_icmp .ne 52, 3) := by decide +kernel
theorem dX8_widen_253 : decode cX8_widen 253 = .ok (.iload 6, 2) := by decide +kernel
theorem dX8_widen_255 : decode cX8_widen 255 = .ok (.iload 4, 2) := by decide +kernel
theorem dX8_widen_257 : decode cX8_widen 257 = .ok (.if_icmp .ne 45, 3) := by decide +kernel
theorem dX8_widen_260 : decode cX8_widen 260 = .ok (.aload_n 0, 1) := by decide +kernel
theorem dX8_widen_261 : decode cX8_widen 261 = .ok (.getfield 38, 3) := by decide +kernel
theorem dX8_widen_264 : decode cX8_widen 264 = .ok (.iload 5, 2) := by decide +kernel
theorem dX8_widen_266 : decode cX8_widen 266 = .ok (.baload, 1) := by decide +kernel
theorem dX8_widen_267 : decode cX8_widen 267 = .ok (.ifCond .ne 35, 3) := by decide +kernel
theorem dX8_widen_270 : decode cX8_widen 270 = .ok (.aload_n 0, 1) := by decide +kernel
theorem dX8_widen_271 : decode cX8_widen 271 = .ok (.getfield 41, 3) := by decide +kernel
theorem dX8_widen_274 : decode cX8_widen 274 = .ok (.iload 7, 2) := by decide +kernel
theorem dX8_widen_276 : decode cX8_widen 276 = .ok (.iaload, 1) := by decide +kernel
theorem dX8_widen_277 : decode cX8_widen 277 = .ok (.bipush (-9), 2) := by decide +kernel
theorem dX8_widen_279 : decode cX8_widen 279 = .ok (.if_icmp .ne 23, 3) := by decide +kernel
theorem dX8_widen_282 : decode cX8_widen 282 = .ok (.aload_n 0, 1) := by decide +kernel
theorem dX8_widen_283 : decode cX8_widen 283 = .ok (.getfield 41, 3) := by decide +kernel
theorem dX8_widen_286 : decode cX8_widen 286 = .ok (.iload 7, 2) := by decide +kernel
theorem dX8_widen_288 : decode cX8_widen 288 = .ok (.iload 5, 2) := by decide +kernel
theorem dX8_widen_290 : decode cX8_widen 290 = .ok (.iastore, 1) := by decide +kernel
theorem dX8_widen_291 : decode cX8_widen 291 = .ok (.aload_n 0, 1) := by decide +kernel
theorem dX8_widen_292 : decode cX8_widen 292 = .ok (.getfield 44, 3) := by decide +kernel
theorem dX8_widen_295 : decode cX8_widen 295 = .ok (.iload_n 2, 1) := by decide +kernel
theorem dX8_widen_296 : decode cX8_widen 296 = .ok (.iload 7, 2) := by decide +kernel
theorem dX8_widen_298 : decode cX8_widen 298 = .ok (.iastore, 1) := by decide +kernel
theorem dX8_widen_299 : decode cX8_widen 299 = .ok (.iinc 2 1, 3) := by decide +kernel
theorem dX8_widen_302 : decode cX8_widen 302 = .ok (.aload_n 0, 1) := by decide +kernel
theorem dX8_widen_303 : decode cX8_widen 303 = .ok (.getfield 16, 3) := by decide +kernel
theorem dX8_widen_306 : decode cX8_widen 306 = .ok (.iload 5, 2) := by decide +kernel
theorem dX8_widen_308 : decode cX8_widen 308 = .ok (.iconst 2, 1) := by decide +kernel
theorem dX8_widen_309 : decode cX8_widen 309 = .ok (.invokestatic 78, 3) := by decide +kernel
theorem dX8_widen_312 : decode cX8_widen 312 = .ok (.iaload, 1) := by decide +kernel
theorem dX8_widen_313 : decode cX8_widen 313 = .ok (.iconst 1, 1) := by decide +kernel
theorem dX8_widen_314 : decode cX8_widen 314 = .ok (.if_icmp .ne 60, 3) := by decide +kernel
theorem dX8_widen_317 : decode cX8_widen 317 = .ok (.iload 6, 2) := by decide +kernel
theorem dX8_widen_319 : decode cX8_widen 319 = .ok (.ifCond .lt 55, 3) := by decide +kernel
theorem dX8_widen_322 : decode cX8_widen 322 = .ok (.iload 7, 2) := by decide +kernel
theorem dX8_widen_324 : decode cX8_widen 324 = .ok (.iload 4, 2) := by decide +kernel
theorem dX8_widen_326 : decode cX8_widen 326 = .ok (.if_icmp .ne 48, 3) := by decide +kernel
theorem dX8_widen_329 : decode cX8_widen 329 = .ok (.aload_n 0, 1) := by decide +kernel
theorem dX8_widen_330 : decode cX8_widen 330 = .ok (.getfield 38, 3) := by decide +kernel
theorem dX8_widen_333 : decode cX8_widen 333 = .ok (.iload 5, 2) := by decide +kernel
theorem dX8_widen_335 : decode cX8_widen 335 = .ok (.baload, 1) := by decide +kernel
theorem dX8_widen_336 : decode cX8_widen 336 = .ok (.ifCond .eq 38, 3) := by decide +kernel
theorem dX8_widen_339 : decode cX8_widen 339 = .ok (.aload_n 0, 1) := by decide +kernel
theorem dX8_widen_340 : decode cX8_widen 340 = .ok (.getfield 41, 3) := by decide +kernel
theorem dX8_widen_343 : decode cX8_widen 343 = .ok (.iload 6, 2) := by decide +kernel
theorem dX8_widen_345 : decode cX8_widen 345 = .ok (.iaload, 1) := by decide +kernel
theorem dX8_widen_346 : decode cX8_widen 346 = .ok (.bipush (-9), 2) := by decide +kernel
theorem dX8_widen_348 : decode cX8_widen 348 = .ok (.if_icmp .ne 26, 3) := by decide +kernel
theorem dX8_widen_351 : decode cX8_widen 351 = .ok (.aload_n 0, 1) := by decide +kernel
theorem dX8_widen_352 : decode cX8_widen 352 = .ok (.getfield 41, 3) := by decide +kernel
theorem dX8_widen_355 : decode cX8_widen 355 = .ok (.iload 6, 2) := by decide +kernel
theorem dX8_widen_357 : decode cX8_widen 357 = .ok (.bipush 100, 2) := by decide +kernel
theorem dX8_widen_359 : decode cX8_widen 359 = .ok (.iload 5, 2) := by decide +kernel
theorem dX8_widen_361 : decode cX8_widen 361 = .ok (.iadd, 1) := by decide +kernel
theorem dX8_widen_362 : decode cX8_widen 362 = .ok (.iastore, 1) := by decide +kernel
theorem dX8_widen_363 : decode cX8_widen 363 = .ok (.aload_n 0, 1) := by decide +kernel
theorem dX8_widen_364 : decode cX8_widen 364 = .ok (.getfield 44, 3) := by decide +kernel
theorem dX8_widen_367 : decode cX8_widen 367 = .ok (.iload_n 2, 1) := by decide +kernel
theorem dX8_widen_368 : decode cX8_widen 368 = .ok (.iload 6, 2) := by decide +kernel
theorem dX8_widen_370 : decode cX8_widen 370 = .ok (.iastore, 1) := by decide +kernel
theorem dX8_widen_371 : decode cX8_widen 371 = .ok (.iinc 2 1, 3) := by decide +kernel
theorem dX8_widen_374 : decode cX8_widen 374 = .ok (.iinc 5 1, 3) := by decide +kernel
theorem dX8_widen_377 : decode cX8_widen 377 = .ok (.goto (-176), 3) := by decide +kernel
theorem dX8_widen_380 : decode cX8_widen 380 = .ok (.iinc 3 1, 3) := by decide +kernel
theorem dX8_widen_383 : decode cX8_widen 383 = .ok (.goto (-209), 3) := by decide +kernel
theorem dX8_widen_386 : decode cX8_widen 386 = .ok (.aload_n 0, 1) := by decide +kernel
theorem dX8_widen_387 : decode cX8_widen 387 = .ok (.getfield 41, 3) := by decide +kernel
theorem dX8_widen_390 : decode cX8_widen 390 = .ok (.iload_n 1, 1) := by decide +kernel
theorem dX8_widen_391 : decode cX8_widen 391 = .ok (.iaload, 1) := by decide +kernel
theorem dX8_widen_392 : decode cX8_widen 392 = .ok (.bipush (-9), 2) := by decide +kernel
theorem dX8_widen_394 : decode cX8_widen 394 = .ok (.if_icmp .ne 5, 3) := by decide +kernel
theorem dX8_widen_397 : decode cX8_widen 397 = .ok (.iconst 0, 1) := by decide +kernel
theorem dX8_widen_398 : decode cX8_widen 398 = .ok (.ireturn, 1) := by decide +kernel
theorem dX8_widen_399 : decode cX8_widen 399 = .ok (.iload_n 1, 1) := by decide +kernel
theorem dX8_widen_400 : decode cX8_widen 400 = .ok (.istore_n 3, 1) := by decide +kernel
theorem dX8_widen_401 : decode cX8_widen 401 = .ok (.iload_n 3, 1) := by decide +kernel
theorem dX8_widen_402 : decode cX8_widen 402 = .ok (.ifCond .lt 84, 3) := by decide +kernel
theorem dX8_widen_405 : decode cX8_widen 405 = .ok (.aload_n 0, 1) := by decide +kernel
theorem dX8_widen_406 : decode cX8_widen 406 = .ok (.getfield 41, 3) := by decide +kernel
theorem dX8_widen_409 : decode cX8_widen 409 = .ok (.iload_n 3, 1) := by decide +kernel
theorem dX8_widen_410 : decode cX8_widen 410 = .ok (.iaload, 1) := by decide +kernel
theorem dX8_widen_411 : decode cX8_widen 411 = .ok (.bipush 40, 2) := by decide +kernel
theorem dX8_widen_413 : decode cX8_widen 413 = .ok (.if_icmp .eq 73, 3) := by decide +kernel
theorem dX8_widen_416 : decode cX8_widen 416 = .ok (.aload_n 0, 1) := by decide +kernel
theorem dX8_widen_417 : decode cX8_widen 417 = .ok (.getfield 41, 3) := by decide +kernel
theorem dX8_widen_420 : decode cX8_widen 420 = .ok (.iload_n 3, 1) := by decide +kernel
theorem dX8_widen_421 : decode cX8_widen 421 = .ok (.iaload, 1) := by decide +kernel
theorem dX8_widen_422 : decode cX8_widen 422 = .ok (.bipush 100, 2) := by decide +kernel
theorem dX8_widen_424 : decode cX8_widen 424 = .ok (.irem, 1) := by decide +kernel
theorem dX8_widen_425 : decode cX8_widen 425 = .ok (.istore 4, 2) := by decide +kernel
theorem dX8_widen_427 : decode cX8_widen 427 = .ok (.aload_n 0, 1) := by decide +kernel
theorem dX8_widen_428 : decode cX8_widen 428 = .ok (.getfield 41, 3) := by decide +kernel
theorem dX8_widen_431 : decode cX8_widen 431 = .ok (.iload_n 3, 1) := by decide +kernel
theorem dX8_widen_432 : decode cX8_widen 432 = .ok (.iaload, 1) := by decide +kernel
theorem dX8_widen_433 : decode cX8_widen 433 = .ok (.bipush 100, 2) := by decide +kernel
theorem dX8_widen_435 : decode cX8_widen 435 = .ok (.if_icmp .lt 7, 3) := by decide +kernel
theorem dX8_widen_438 : decode cX8_widen 438 = .ok (.iconst 1, 1) := by decide +kernel
theorem dX8_widen_439 : decode cX8_widen 439 = .ok (.goto 4, 3) := by decide +kernel
theorem dX8_widen_442 : decode cX8_widen 442 = .ok (.iconst 0, 1) := by decide +kernel
theorem dX8_widen_443 : decode cX8_widen 443 = .ok (.istore 5, 2) := by decide +kernel
theorem dX8_widen_445 : decode cX8_widen 445 = .ok (.aload_n 0, 1) := by decide +kernel
theorem dX8_widen_446 : decode cX8_widen 446 = .ok (.getfield 38, 3) := by decide +kernel
theorem dX8_widen_449 : decode cX8_widen 449 = .ok (.iload 4, 2) := by decide +kernel
theorem dX8_widen_451 : decode cX8_widen 451 = .ok (.iload 5, 2) := by decide +kernel
theorem dX8_widen_453 : decode cX8_widen 453 = .ok (.ifCond .ne 7, 3) := by decide +kernel
theorem dX8_widen_456 : decode cX8_widen 456 = .ok (.iconst 1, 1) := by decide +kernel
theorem dX8_widen_457 : decode cX8_widen 457 = .ok (.goto 4, 3) := by decide +kernel
theorem dX8_widen_460 : decode cX8_widen 460 = .ok (.iconst 0, 1) := by decide +kernel
theorem dX8_widen_461 : decode cX8_widen 461 = .ok (.bastore, 1) := by decide +kernel
theorem dX8_widen_462 : decode cX8_widen 462 = .ok (.aload_n 0, 1) := by decide +kernel
theorem dX8_widen_463 : decode cX8_widen 463 = .ok (.getfield 16, 3) := by decide +kernel
theorem dX8_widen_466 : decode cX8_widen 466 = .ok (.iload 4, 2) := by decide +kernel
theorem dX8_widen_468 : decode cX8_widen 468 = .ok (.iload 5, 2) := by decide +kernel
theorem dX8_widen_470 : decode cX8_widen 470 = .ok (.ifCond .eq 7, 3) := by decide +kernel
theorem dX8_widen_473 : decode cX8_widen 473 = .ok (.iconst 1, 1) := by decide +kernel
theorem dX8_widen_474 : decode cX8_widen 474 = .ok (.goto 4, 3) := by decide +kernel
theorem dX8_widen_477 : decode cX8_widen 477 = .ok (.iconst 0, 1) := by decide +kernel
theorem dX8_widen_478 : decode cX8_widen 478 = .ok (.invokestatic 78, 3) := by decide +kernel
theorem dX8_widen_481 : decode cX8_widen 481 = .ok (.iaload, 1) := by decide +kernel
theorem dX8_widen_482 : decode cX8_widen 482 = .ok (.istore_n 3, 1) := by decide +kernel
theorem dX8_widen_483 : decode cX8_widen 483 = .ok (.goto (-82), 3) := by decide +kernel
theorem dX8_widen_486 : decode cX8_widen 486 = .ok (.iconst 1, 1) := by decide +kernel
theorem dX8_widen_487 : decode cX8_widen 487 = .ok (.ireturn, 1) := by decide +kernel
theorem dX8_cuts_0 : decode cX8_cuts 0 = .ok (.aload_n 0, 1) := by decide +kernel
theorem dX8_cuts_1 : decode cX8_cuts 1 = .ok (.aload_n 0, 1) := by decide +kernel
theorem dX8_cuts_2 : decode cX8_cuts 2 = .ok (.getfield 16, 3) := by decide +kernel
theorem dX8_cuts_5 : decode cX8_cuts 5 = .ok (.iload_n 1, 1) := by decide +kernel
theorem dX8_cuts_6 : decode cX8_cuts 6 = .ok (.invokestatic 74, 3) := by decide +kernel
theorem dX8_cuts_9 : decode cX8_cuts 9 = .ok (.ifCond .eq 7, 3) := by decide +kernel
theorem dX8_cuts_12 : decode cX8_cuts 12 = .ok (.iconst 0, 1) := by decide +kernel
theorem dX8_cuts_13 : decode cX8_cuts 13 = .ok (.goto 4, 3) := by decide +kernel
theorem dX8_cuts_16 : decode cX8_cuts 16 = .ok (.iconst 1, 1) := by decide +kernel
theorem dX8_cuts_17 : decode cX8_cuts 17 = .ok (.invokevirtual 111, 3) := by decide +kernel
theorem dX8_cuts_20 : decode cX8_cuts 20 = .ok (.ifCond .eq 5, 3) := by decide +kernel
theorem dX8_cuts_23 : decode cX8_cuts 23 = .ok (.iconst 0, 1) := by decide +kernel
theorem dX8_cuts_24 : decode cX8_cuts 24 = .ok (.ireturn, 1) := by decide +kernel
theorem dX8_cuts_25 : decode cX8_cuts 25 = .ok (.aload_n 0, 1) := by decide +kernel
theorem dX8_cuts_26 : decode cX8_cuts 26 = .ok (.getfield 16, 3) := by decide +kernel
theorem dX8_cuts_29 : decode cX8_cuts 29 = .ok (.iload_n 1, 1) := by decide +kernel
theorem dX8_cuts_30 : decode cX8_cuts 30 = .ok (.iconst 2, 1) := by decide +kernel
theorem dX8_cuts_31 : decode cX8_cuts 31 = .ok (.invokestatic 66, 3) := by decide +kernel
theorem dX8_cuts_34 : decode cX8_cuts 34 = .ok (.iaload, 1) := by decide +kernel
theorem dX8_cuts_35 : decode cX8_cuts 35 = .ok (.iconst 1, 1) := by decide +kernel
theorem dX8_cuts_36 : decode cX8_cuts 36 = .ok (.if_icmp .ne 6, 3) := by decide +kernel
theorem dX8_cuts_39 : decode cX8_cuts 39 = .ok (.bipush (-9), 2) := by decide +kernel
theorem dX8_cuts_41 : decode cX8_cuts 41 = .ok (.ireturn, 1) := by decide +kernel
theorem dX8_cuts_42 : decode cX8_cuts 42 = .ok (.iconst 0, 1) := by decide +kernel
theorem dX8_cuts_43 : decode cX8_cuts 43 = .ok (.istore_n 2, 1) := by decide +kernel
theorem dX8_cuts_44 : decode cX8_cuts 44 = .ok (.iload_n 2, 1) := by decide +kernel
theorem dX8_cuts_45 : decode cX8_cuts 45 = .ok (.bipush 40, 2) := by decide +kernel
theorem dX8_cuts_47 : decode cX8_cuts 47 = .ok (.if_icmp .ge 16, 3) := by decide +kernel
theorem dX8_cuts_50 : decode cX8_cuts 50 = .ok (.aload_n 0, 1) := by decide +kernel
theorem dX8_cuts_51 : decode cX8_cuts 51 = .ok (.getfield 38, 3) := by decide +kernel
theorem dX8_cuts_54 : decode cX8_cuts 54 = .ok (.iload_n 2, 1) := by decide +kernel
theorem dX8_cuts_55 : decode cX8_cuts 55 = .ok (.iconst 0, 1) := by decide +kernel
theorem dX8_cuts_56 : decode cX8_cuts 56 = .ok (.bastore, 1) := by decide +kernel
theorem dX8_cuts_57 : decode cX8_cuts 57 = .ok (.iinc 2 1, 3) := by decide +kernel
theorem dX8_cuts_60 : decode cX8_cuts 60 = .ok (.goto (-16), 3) := by decide +kernel
theorem dX8_cuts_63 : decode cX8_cuts 63 = .ok (.iconst 0, 1) := by decide +kernel
theorem dX8_cuts_64 : decode cX8_cuts 64 = .ok (.istore_n 2, 1) := by decide +kernel
theorem dX8_cuts_65 : decode cX8_cuts 65 = .ok (.aload_n 0, 1) := by decide +kernel
theorem dX8_cuts_66 : decode cX8_cuts 66 = .ok (.iload_n 1, 1) := by decide +kernel
theorem dX8_cuts_67 : decode cX8_cuts 67 = .ok (.invokevirtual 233, 3) := by decide +kernel
theorem dX8_cuts_70 : decode cX8_cuts 70 = .ok (.ifCond .eq 9, 3) := by decide +kernel
theorem dX8_cuts_73 : decode cX8_cuts 73 = .ok (.iinc 2 1, 3) := by decide +kernel
theorem dX8_cuts_76 : decode cX8_cuts 76 = .ok (.goto (-11), 3) := by decide +kernel
theorem dX8_cuts_79 : decode cX8_cuts 79 = .ok (.iload_n 2, 1) := by decide +kernel
theorem dX8_cuts_80 : decode cX8_cuts 80 = .ok (.ireturn, 1) := by decide +kernel
theorem dX8_heaviest_0 : decode cX8_heaviest 0 = .ok (.aload_n 0, 1) := by decide +kernel
theorem dX8_heaviest_1 : decode cX8_heaviest 1 = .ok (.iconst 0, 1) := by decide +kernel
theorem dX8_heaviest_2 : decode cX8_heaviest 2 = .ok (.putfield 47, 3) := by decide +kernel
theorem dX8_heaviest_5 : decode cX8_heaviest 5 = .ok (.bipush (-9), 2) := by decide +kernel
theorem dX8_heaviest_7 : decode cX8_heaviest 7 = .ok (.istore_n 1, 1) := by decide +kernel
theorem dX8_heaviest_8 : decode cX8_heaviest 8 = .ok (.iconst (-1), 1) := by decide +kernel
theorem dX8_heaviest_9 : decode cX8_heaviest 9 = .ok (.istore_n 2, 1) := by decide +kernel
theorem dX8_heaviest_10 : decode cX8_heaviest 10 = .ok (.iconst 0, 1) := by decide +kernel
theorem dX8_heaviest_11 : decode cX8_heaviest 11 = .ok (.istore_n 3, 1) := by decide +kernel
theorem dX8_heaviest_12 : decode cX8_heaviest 12 = .ok (.iload_n 3, 1) := by decide +kernel
theorem dX8_heaviest_13 : decode cX8_heaviest 13 = .ok (.aload_n 0, 1) := by decide +kernel
theorem dX8_heaviest_14 : decode cX8_heaviest 14 = .ok (.getfield 16, 3) := by decide +kernel
theorem dX8_heaviest_17 : decode cX8_heaviest 17 = .ok (.iconst 2, 1) := by decide +kernel
theorem dX8_heaviest_18 : decode cX8_heaviest 18 = .ok (.iaload, 1) := by decide +kernel
theorem dX8_heaviest_19 : decode cX8_heaviest 19 = .ok (.if_icmp .ge 41, 3) := by decide +kernel
theorem dX8_heaviest_22 : decode cX8_heaviest 22 = .ok (.aload_n 0, 1) := by decide +kernel
theorem dX8_heaviest_23 : decode cX8_heaviest 23 = .ok (.iload_n 3, 1) := by decide +kernel
theorem dX8_heaviest_24 : decode cX8_heaviest 24 = .ok (.invokevirtual 230, 3) := by decide +kernel
theorem dX8_heaviest_27 : decode cX8_heaviest 27 = .ok (.istore 4, 2) := by decide +kernel
theorem dX8_heaviest_29 : decode cX8_heaviest 29 = .ok (.iload 4, 2) := by decide +kernel
theorem dX8_heaviest_31 : decode cX8_heaviest 31 = .ok (.iload_n 2, 1) := by decide +kernel
theorem dX8_heaviest_32 : decode cX8_heaviest 32 = .ok (.if_icmp .le 7, 3) := by decide +kernel
theorem dX8_heaviest_35 : decode cX8_heaviest 35 = .ok (.iload_n 3, 1) := by decide +kernel
theorem dX8_heaviest_36 : decode cX8_heaviest 36 = .ok (.goto 4, 3) := by decide +kernel
theorem dX8_heaviest_39 : decode cX8_heaviest 39 = .ok (.iload_n 1, 1) := by decide +kernel
theorem dX8_heaviest_40 : decode cX8_heaviest 40 = .ok (.istore_n 1, 1) := by decide +kernel
theorem dX8_heaviest_41 : decode cX8_heaviest 41 = .ok (.iload 4, 2) := by decide +kernel
theorem dX8_heaviest_43 : decode cX8_heaviest 43 = .ok (.iload_n 2, 1) := by decide +kernel
theorem dX8_heaviest_44 : decode cX8_heaviest 44 = .ok (.if_icmp .le 8, 3) := by decide +kernel
theorem dX8_heaviest_47 : decode cX8_heaviest 47 = .ok (.iload 4, 2) := by decide +kernel
theorem dX8_heaviest_49 : decode cX8_heaviest 49 = .ok (.goto 4, 3) := by decide +kernel
theorem dX8_heaviest_52 : decode cX8_heaviest 52 = .ok (.iload_n 2, 1) := by decide +kernel
theorem dX8_heaviest_53 : decode cX8_heaviest 53 = .ok (.istore_n 2, 1) := by decide +kernel
theorem dX8_heaviest_54 : decode cX8_heaviest 54 = .ok (.iinc 3 1, 3) := by decide +kernel
theorem dX8_heaviest_57 : decode cX8_heaviest 57 = .ok (.goto (-45), 3) := by decide +kernel
theorem dX8_heaviest_60 : decode cX8_heaviest 60 = .ok (.iload_n 1, 1) := by decide +kernel
theorem dX8_heaviest_61 : decode cX8_heaviest 61 = .ok (.bipush (-9), 2) := by decide +kernel
theorem dX8_heaviest_63 : decode cX8_heaviest 63 = .ok (.if_icmp .ne 8, 3) := by decide +kernel
theorem dX8_heaviest_66 : decode cX8_heaviest 66 = .ok (.bipush (-9), 2) := by decide +kernel
theorem dX8_heaviest_68 : decode cX8_heaviest 68 = .ok (.goto 8, 3) := by decide +kernel
theorem dX8_heaviest_71 : decode cX8_heaviest 71 = .ok (.aload_n 0, 1) := by decide +kernel
theorem dX8_heaviest_72 : decode cX8_heaviest 72 = .ok (.iload_n 1, 1) := by decide +kernel
theorem dX8_heaviest_73 : decode cX8_heaviest 73 = .ok (.invokevirtual 217, 3) := by decide +kernel
theorem dX8_heaviest_76 : decode cX8_heaviest 76 = .ok (.ireturn, 1) := by decide +kernel
theorem dX8_isOnRing_0 : decode cX8_isOnRing 0 = .ok (.iconst 1, 1) := by decide +kernel
theorem dX8_isOnRing_1 : decode cX8_isOnRing 1 = .ok (.istore_n 2, 1) := by decide +kernel
theorem dX8_isOnRing_2 : decode cX8_isOnRing 2 = .ok (.iconst 0, 1) := by decide +kernel
theorem dX8_isOnRing_3 : decode cX8_isOnRing 3 = .ok (.istore_n 3, 1) := by decide +kernel
theorem dX8_isOnRing_4 : decode cX8_isOnRing 4 = .ok (.iconst 0, 1) := by decide +kernel
theorem dX8_isOnRing_5 : decode cX8_isOnRing 5 = .ok (.istore 4, 2) := by decide +kernel
theorem dX8_isOnRing_7 : decode cX8_isOnRing 7 = .ok (.iload 4, 2) := by decide +kernel
theorem dX8_isOnRing_9 : decode cX8_isOnRing 9 = .ok (.bipush 24, 2) := by decide +kernel
theorem dX8_isOnRing_11 : decode cX8_isOnRing 11 = .ok (.if_icmp .ge 18, 3) := by decide +kernel
theorem dX8_isOnRing_14 : decode cX8_isOnRing 14 = .ok (.aload_n 0, 1) := by decide +kernel
theorem dX8_isOnRing_15 : decode cX8_isOnRing 15 = .ok (.getfield 41, 3) := by decide +kernel
theorem dX8_isOnRing_18 : decode cX8_isOnRing 18 = .ok (.iload 4, 2) := by decide +kernel
theorem dX8_isOnRing_20 : decode cX8_isOnRing 20 = .ok (.bipush (-9), 2) := by decide +kernel
theorem dX8_isOnRing_22 : decode cX8_isOnRing 22 = .ok (.iastore, 1) := by decide +kernel
theorem dX8_isOnRing_23 : decode cX8_isOnRing 23 = .ok (.iinc 4 1, 3) := by decide +kernel
theorem dX8_isOnRing_26 : decode cX8_isOnRing 26 = .ok (.goto (-19), 3) := by decide +kernel
theorem dX8_isOnRing_29 : decode cX8_isOnRing 29 = .ok (.aload_n 0, 1) := by decide +kernel
theorem dX8_isOnRing_30 : decode cX8_isOnRing 30 = .ok (.getfield 44, 3) := by decide +kernel
theorem dX8_isOnRing_33 : decode cX8_isOnRing 33 = .ok (.iconst 0, 1) := by decide +kernel
theorem dX8_isOnRing_34 : decode cX8_isOnRing 34 = .ok (.iload_n 1, 1) := by decide +kernel
theorem dX8_isOnRing_35 : decode cX8_isOnRing 35 = .ok (.iastore, 1) := by decide +kernel
theorem dX8_isOnRing_36 : decode cX8_isOnRing 36 = .ok (.iconst 0, 1) := by decide +kernel
theorem dX8_isOnRing_37 : decode cX8_isOnRing 37 = .ok (.istore 4, 2) := by decide +kernel
theorem dX8_isOnRing_39 : decode cX8_isOnRing 39 = .ok (.iload 4, 2) := by decide +kernel
theorem dX8_isOnRing_41 : decode cX8_isOnRing 41 = .ok (.iload_n 2, 1) := by decide +kernel
theorem dX8_isOnRing_42 : decode cX8_isOnRing 42 = .ok (.if_icmp .ge 148, 3) := by decide +kernel
theorem dX8_isOnRing_45 : decode cX8_isOnRing 45 = .ok (.iconst 0, 1) := by decide +kernel
theorem dX8_isOnRing_46 : decode cX8_isOnRing 46 = .ok (.istore 5, 2) := by decide +kernel
theorem dX8_isOnRing_48 : decode cX8_isOnRing 48 = .ok (.iload 5, 2) := by decide +kernel
theorem dX8_isOnRing_50 : decode cX8_isOnRing 50 = .ok (.aload_n 0, 1) := by decide +kernel
theorem dX8_isOnRing_51 : decode cX8_isOnRing 51 = .ok (.getfield 16, 3) := by decide +kernel
theorem dX8_isOnRing_54 : decode cX8_isOnRing 54 = .ok (.iconst 2, 1) := by decide +kernel
theorem dX8_isOnRing_55 : decode cX8_isOnRing 55 = .ok (.iaload, 1) := by decide +kernel
theorem dX8_isOnRing_56 : decode cX8_isOnRing 56 = .ok (.if_icmp .ge 128, 3) := by decide +kernel
theorem dX8_isOnRing_59 : decode cX8_isOnRing 59 = .ok (.aload_n 0, 1) := by decide +kernel
theorem dX8_isOnRing_60 : decode cX8_isOnRing 60 = .ok (.getfield 16, 3) := by decide +kernel
theorem dX8_isOnRing_63 : decode cX8_isOnRing 63 = .ok (.iload 5, 2) := by decide +kernel
theorem dX8_isOnRing_65 : decode cX8_isOnRing 65 = .ok (.iconst 1, 1) := by decide +kernel
theorem dX8_isOnRing_66 : decode cX8_isOnRing 66 = .ok (.invokestatic 78, 3) := by decide +kernel
theorem dX8_isOnRing_69 : decode cX8_isOnRing 69 = .ok (.iaload, 1) := by decide +kernel
theorem dX8_isOnRing_70 : decode cX8_isOnRing 70 = .ok (.istore 6, 2) := by decide +kernel
theorem dX8_isOnRing_72 : decode cX8_isOnRing 72 = .ok (.aload_n 0, 1) := by decide +kernel
theorem dX8_isOnRing_73 : decode cX8_isOnRing 73 = .ok (.getfield 16, 3) := by decide +kernel
theorem dX8_isOnRing_76 : decode cX8_isOnRing 76 = .ok (.iload 5, 2) := by decide +kernel
theorem dX8_isOnRing_78 : decode cX8_isOnRing 78 = .ok (.iconst 0, 1) := by decide +kernel
theorem dX8_isOnRing_79 : decode cX8_isOnRing 79 = .ok (.invokestatic 78, 3) := by decide +kernel
theorem dX8_isOnRing_82 : decode cX8_isOnRing 82 = .ok (.iaload, 1) := by decide +kernel
theorem dX8_isOnRing_83 : decode cX8_isOnRing 83 = .ok (.aload_n 0, 1) := by decide +kernel
theorem dX8_isOnRing_84 : decode cX8_isOnRing 84 = .ok (.getfield 44, 3) := by decide +kernel
theorem dX8_isOnRing_87 : decode cX8_isOnRing 87 = .ok (.iload 4, 2) := by decide +kernel
theorem dX8_isOnRing_89 : decode cX8_isOnRing 89 = .ok (.iaload, 1) := by decide +kernel
theorem dX8_isOnRing_90 : decode cX8_isOnRing 90 = .ok (.if_icmp .ne 22, 3) := by decide +kernel
theorem dX8_isOnRing_93 : decode cX8_isOnRing 93 = .ok (.aload_n 0, 1) := by decide +kernel
theorem dX8_isOnRing_94 : decode cX8_isOnRing 94 = .ok (.getfield 16, 3) := by decide +kernel
theorem dX8_isOnRing_97 : decode cX8_isOnRing 97 = .ok (.iload 5, 2) := by decide +kernel
theorem dX8_isOnRing_99 : decode cX8_isOnRing 99 = .ok (.iconst 2, 1) := by decide +kernel
theorem dX8_isOnRing_100 : decode cX8_isOnRing 100 = .ok (.invokestatic 78, 3) := by decide +kernel
theorem dX8_isOnRing_103 : decode cX8_isOnRing 103 = .ok (.iaload, 1) := by decide +kernel
theorem dX8_isOnRing_104 : decode cX8_isOnRing 104 = .ok (.iconst 1, 1) := by decide +kernel
theorem dX8_isOnRing_105 : decode cX8_isOnRing 105 = .ok (.if_icmp .ne 7, 3) := by decide +kernel
theorem dX8_isOnRing_108 : decode cX8_isOnRing 108 = .ok (.iconst 1, 1) := by decide +kernel
theorem dX8_isOnRing_109 : decode cX8_isOnRing 109 = .ok (.goto 4, 3) := by decide +kernel
theorem dX8_isOnRing_112 : decode cX8_isOnRing 112 = .ok (.iconst 0, 1) := by decide +kernel
theorem dX8_isOnRing_113 : decode cX8_isOnRing 113 = .ok (.istore 7, 2) := by decide +kernel
theorem dX8_isOnRing_115 : decode cX8_isOnRing 115 = .ok (.iload_n 3, 1) := by decide +kernel
theorem dX8_isOnRing_116 : decode cX8_isOnRing 116 = .ok (.ifCond .ne 14, 3) := by decide +kernel
theorem dX8_isOnRing_119 : decode cX8_isOnRing 119 = .ok (.iload 7, 2) := by decide +kernel
theorem dX8_isOnRing_121 : decode cX8_isOnRing 121 = .ok (.ifCond .eq 13, 3) := by decide +kernel
theorem dX8_isOnRing_124 : decode cX8_isOnRing 124 = .ok (.iload 6, 2) := by decide +kernel
theorem dX8_isOnRing_126 : decode cX8_isOnRing 126 = .ok (.iload_n 1, 1) := by decide +kernel
theorem dX8_isOnRing_127 : decode cX8_isOnRing 127 = .ok (.if_icmp .ne 7, 3) := by decide +kernel
theorem dX8_isOnRing_130 : decode cX8_isOnRing 130 = .ok (.iconst 1, 1) := by decide +kernel
theorem dX8_isOnRing_131 : decode cX8_isOnRing 131 = .ok (.goto 4, 3) := by decide +kernel
theorem dX8_isOnRing_134 : decode cX8_isOnRing 134 = .ok (.iconst 0, 1) := by decide +kernel
theorem dX8_isOnRing_135 : decode cX8_isOnRing 135 = .ok (.istore_n 3, 1) := by decide +kernel
theorem dX8_isOnRing_136 : decode cX8_isOnRing 136 = .ok (.iload 7, 2) := by decide +kernel
theorem dX8_isOnRing_138 : decode cX8_isOnRing 138 = .ok (.ifCond .eq 40, 3) := by decide +kernel
theorem dX8_isOnRing_141 : decode cX8_isOnRing 141 = .ok (.iload 6, 2) := by decide +kernel
theorem dX8_isOnRing_143 : decode cX8_isOnRing 143 = .ok (.iload_n 1, 1) := by decide +kernel
theorem dX8_isOnRing_144 : decode cX8_isOnRing 144 = .ok (.if_icmp .eq 34, 3) := by decide +kernel
theorem dX8_isOnRing_147 : decode cX8_isOnRing 147 = .ok (.aload_n 0, 1) := by decide +kernel
theorem dX8_isOnRing_148 : decode cX8_isOnRing 148 = .ok (.getfield 41, 3) := by decide +kernel
theorem dX8_isOnRing_151 : decode cX8_isOnRing 151 = .ok (.iload 6, 2) := by decide +kernel
theorem dX8_isOnRing_153 : decode cX8_isOnRing 153 = .ok (.iaload, 1) := by decide +kernel
theorem dX8_isOnRing_154 : decode cX8_isOnRing 154 = .ok (.bipush (-9), 2) := by decide +kernel
theorem dX8_isOnRing_156 : decode cX8_isOnRing 156 = .ok (.if_icmp .ne 22, 3) := by decide +kernel
theorem dX8_isOnRing_159 : decode cX8_isOnRing 159 = .ok (.aload_n 0, 1) := by decide +kernel
theorem dX8_isOnRing_160 : decode cX8_isOnRing 160 = .ok (.getfield 41, 3) := by decide +kernel
theorem dX8_isOnRing_163 : decode cX8_isOnRing 163 = .ok (.iload 6, 2) := by decide +kernel
theorem dX8_isOnRing_165 : decode cX8_isOnRing 165 = .ok (.iconst 0, 1) := by decide +kernel
theorem dX8_isOnRing_166 : decode cX8_isOnRing 166 = .ok (.iastore, 1) := by decide +kernel
theorem dX8_isOnRing_167 : decode cX8_isOnRing 167 = .ok (.aload_n 0, 1) := by decide +kernel
theorem dX8_isOnRing_168 : decode cX8_isOnRing 168 = .ok (.getfield 44, 3) := by decide +kernel
theorem dX8_isOnRing_171 : decode cX8_isOnRing 171 = .ok (.iload_n 2, 1) := by decide +kernel
theorem dX8_isOnRing_172 : decode cX8_isOnRing 172 = .ok (.iload 6, 2) := by decide +kernel
theorem dX8_isOnRing_174 : decode cX8_isOnRing 174 = .ok (.iastore, 1) := by decide +kernel
theorem dX8_isOnRing_175 : decode cX8_isOnRing 175 = .ok (.iinc 2 1, 3) := by decide +kernel
theorem dX8_isOnRing_178 : decode cX8_isOnRing 178 = .ok (.iinc 5 1, 3) := by decide +kernel
theorem dX8_isOnRing_181 : decode cX8_isOnRing 181 = .ok (.goto (-133), 3) := by decide +kernel
theorem dX8_isOnRing_184 : decode cX8_isOnRing 184 = .ok (.iinc 4 1, 3) := by decide +kernel
theorem dX8_isOnRing_187 : decode cX8_isOnRing 187 = .ok (.goto (-148), 3) := by decide +kernel
theorem dX8_isOnRing_190 : decode cX8_isOnRing 190 = .ok (.iload_n 3, 1) := by decide +kernel
theorem dX8_isOnRing_191 : decode cX8_isOnRing 191 = .ok (.ireturn, 1) := by decide +kernel
theorem dX8_rings_0 : decode cX8_rings 0 = .ok (.aload_n 0, 1) := by decide +kernel
theorem dX8_rings_1 : decode cX8_rings 1 = .ok (.iconst 0, 1) := by decide +kernel
theorem dX8_rings_2 : decode cX8_rings 2 = .ok (.putfield 47, 3) := by decide +kernel
theorem dX8_rings_5 : decode cX8_rings 5 = .ok (.aload_n 0, 1) := by decide +kernel
theorem dX8_rings_6 : decode cX8_rings 6 = .ok (.aload_n 0, 1) := by decide +kernel
theorem dX8_rings_7 : decode cX8_rings 7 = .ok (.getfield 16, 3) := by decide +kernel
theorem dX8_rings_10 : decode cX8_rings 10 = .ok (.invokevirtual 81, 3) := by decide +kernel
theorem dX8_rings_13 : decode cX8_rings 13 = .ok (.iconst 0, 1) := by decide +kernel
theorem dX8_rings_14 : decode cX8_rings 14 = .ok (.istore_n 1, 1) := by decide +kernel
theorem dX8_rings_15 : decode cX8_rings 15 = .ok (.iconst 0, 1) := by decide +kernel
theorem dX8_rings_16 : decode cX8_rings 16 = .ok (.istore_n 2, 1) := by decide +kernel
theorem dX8_rings_17 : decode cX8_rings 17 = .ok (.iload_n 2, 1) := by decide +kernel
theorem dX8_rings_18 : decode cX8_rings 18 = .ok (.aload_n 0, 1) := by decide +kernel
theorem dX8_rings_19 : decode cX8_rings 19 = .ok (.getfield 16, 3) := by decide +kernel
theorem dX8_rings_22 : decode cX8_rings 22 = .ok (.iconst 0, 1) := by decide +kernel
theorem dX8_rings_23 : decode cX8_rings 23 = .ok (.iaload, 1) := by decide +kernel
theorem dX8_rings_24 : decode cX8_rings 24 = .ok (.if_icmp .ge 47, 3) := by decide +kernel
theorem dX8_rings_27 : decode cX8_rings 27 = .ok (.iload_n 1, 1) := by decide +kernel
theorem dX8_rings_28 : decode cX8_rings 28 = .ok (.aload_n 0, 1) := by decide +kernel
theorem dX8_rings_29 : decode cX8_rings 29 = .ok (.getfield 16, 3) := by decide +kernel
theorem dX8_rings_32 : decode cX8_rings 32 = .ok (.iload_n 2, 1) := by decide +kernel
theorem dX8_rings_33 : decode cX8_rings 33 = .ok (.invokestatic 74, 3) := by decide +kernel
theorem dX8_rings_36 : decode cX8_rings 36 = .ok (.ifCond .eq 26, 3) := by decide +kernel
theorem dX8_rings_39 : decode cX8_rings 39 = .ok (.aload_n 0, 1) := by decide +kernel
theorem dX8_rings_40 : decode cX8_rings 40 = .ok (.getfield 32, 3) := by decide +kernel
theorem dX8_rings_43 : decode cX8_rings 43 = .ok (.iload_n 2, 1) := by decide +kernel
theorem dX8_rings_44 : decode cX8_rings 44 = .ok (.iaload, 1) := by decide +kernel
theorem dX8_rings_45 : decode cX8_rings 45 = .ok (.bipush 99, 2) := by decide +kernel
theorem dX8_rings_47 : decode cX8_rings 47 = .ok (.if_icmp .ne 15, 3) := by decide +kernel
theorem dX8_rings_50 : decode cX8_rings 50 = .ok (.aload_n 0, 1) := by decide +kernel
theorem dX8_rings_51 : decode cX8_rings 51 = .ok (.iload_n 2, 1) := by decide +kernel
theorem dX8_rings_52 : decode cX8_rings 52 = .ok (.invokevirtual 236, 3) := by decide +kernel
theorem dX8_rings_55 : decode cX8_rings 55 = .ok (.ifCond .eq 7, 3) := by decide +kernel
theorem dX8_rings_58 : decode cX8_rings 58 = .ok (.iconst 1, 1) := by decide +kernel
theorem dX8_rings_59 : decode cX8_rings 59 = .ok (.goto 4, 3) := by decide +kernel
theorem dX8_rings_62 : decode cX8_rings 62 = .ok (.iconst 0, 1) := by decide +kernel
theorem dX8_rings_63 : decode cX8_rings 63 = .ok (.iadd, 1) := by decide +kernel
theorem dX8_rings_64 : decode cX8_rings 64 = .ok (.istore_n 1, 1) := by decide +kernel
theorem dX8_rings_65 : decode cX8_rings 65 = .ok (.iinc 2 1, 3) := by decide +kernel
theorem dX8_rings_68 : decode cX8_rings 68 = .ok (.goto (-51), 3) := by decide +kernel
theorem dX8_rings_71 : decode cX8_rings 71 = .ok (.iload_n 1, 1) := by decide +kernel
theorem dX8_rings_72 : decode cX8_rings 72 = .ok (.ireturn, 1) := by decide +kernel
theorem dX8_endTrial_0 : decode cX8_endTrial 0 = .ok (.iconst 0, 1) := by decide +kernel
theorem dX8_endTrial_1 : decode cX8_endTrial 1 = .ok (.istore_n 1, 1) := by decide +kernel
theorem dX8_endTrial_2 : decode cX8_endTrial 2 = .ok (.aload_n 0, 1) := by decide +kernel
theorem dX8_endTrial_3 : decode cX8_endTrial 3 = .ok (.getfield 19, 3) := by decide +kernel
theorem dX8_endTrial_6 : decode cX8_endTrial 6 = .ok (.iconst 3, 1) := by decide +kernel
theorem dX8_endTrial_7 : decode cX8_endTrial 7 = .ok (.iaload, 1) := by decide +kernel
theorem dX8_endTrial_8 : decode cX8_endTrial 8 = .ok (.iconst 1, 1) := by decide +kernel
theorem dX8_endTrial_9 : decode cX8_endTrial 9 = .ok (.if_icmp .ne 14, 3) := by decide +kernel
theorem dX8_endTrial_12 : decode cX8_endTrial 12 = .ok (.aload_n 0, 1) := by decide +kernel
theorem dX8_endTrial_13 : decode cX8_endTrial 13 = .ok (.getfield 19, 3) := by decide +kernel
theorem dX8_endTrial_16 : decode cX8_endTrial 16 = .ok (.invokestatic 172, 3) := by decide +kernel
theorem dX8_endTrial_19 : decode cX8_endTrial 19 = .ok (.istore_n 1, 1) := by decide +kernel
theorem dX8_endTrial_20 : decode cX8_endTrial 20 = .ok (.goto (-18), 3) := by decide +kernel
theorem dX8_endTrial_23 : decode cX8_endTrial 23 = .ok (.bipush (-9), 2) := by decide +kernel
theorem dX8_endTrial_25 : decode cX8_endTrial 25 = .ok (.iload_n 1, 1) := by decide +kernel
theorem dX8_endTrial_26 : decode cX8_endTrial 26 = .ok (.isub, 1) := by decide +kernel
theorem dX8_endTrial_27 : decode cX8_endTrial 27 = .ok (.ireturn, 1) := by decide +kernel
theorem dX8_takes_0 : decode cX8_takes 0 = .ok (.aload_n 0, 1) := by decide +kernel
theorem dX8_takes_1 : decode cX8_takes 1 = .ok (.iconst 0, 1) := by decide +kernel
theorem dX8_takes_2 : decode cX8_takes 2 = .ok (.putfield 47, 3) := by decide +kernel
theorem dX8_takes_5 : decode cX8_takes 5 = .ok (.aload_n 0, 1) := by decide +kernel
theorem dX8_takes_6 : decode cX8_takes 6 = .ok (.invokevirtual 227, 3) := by decide +kernel
theorem dX8_takes_9 : decode cX8_takes 9 = .ok (.aload_n 0, 1) := by decide +kernel
theorem dX8_takes_10 : decode cX8_takes 10 = .ok (.getfield 19, 3) := by decide +kernel
theorem dX8_takes_13 : decode cX8_takes 13 = .ok (.iconst 3, 1) := by decide +kernel
theorem dX8_takes_14 : decode cX8_takes 14 = .ok (.iaload, 1) := by decide +kernel
theorem dX8_takes_15 : decode cX8_takes 15 = .ok (.ifCond .ne 11, 3) := by decide +kernel
theorem dX8_takes_18 : decode cX8_takes 18 = .ok (.aload_n 0, 1) := by decide +kernel
theorem dX8_takes_19 : decode cX8_takes 19 = .ok (.getfield 19, 3) := by decide +kernel
theorem dX8_takes_22 : decode cX8_takes 22 = .ok (.invokestatic 169, 3) := by decide +kernel
theorem dX8_takes_25 : decode cX8_takes 25 = .ok (.pop, 1) := by decide +kernel
theorem dX8_takes_26 : decode cX8_takes 26 = .ok (.aload_n 0, 1) := by decide +kernel
theorem dX8_takes_27 : decode cX8_takes 27 = .ok (.invokevirtual 239, 3) := by decide +kernel
theorem dX8_takes_30 : decode cX8_takes 30 = .ok (.ireturn, 1) := by decide +kernel
theorem dX8_spares_0 : decode cX8_spares 0 = .ok (.aload_n 0, 1) := by decide +kernel
theorem dX8_spares_1 : decode cX8_spares 1 = .ok (.iconst 0, 1) := by decide +kernel
theorem dX8_spares_2 : decode cX8_spares 2 = .ok (.putfield 47, 3) := by decide +kernel
theorem dX8_spares_5 : decode cX8_spares 5 = .ok (.aload_n 0, 1) := by decide +kernel
theorem dX8_spares_6 : decode cX8_spares 6 = .ok (.getfield 16, 3) := by decide +kernel
theorem dX8_spares_9 : decode cX8_spares 9 = .ok (.iconst 3, 1) := by decide +kernel
theorem dX8_spares_10 : decode cX8_spares 10 = .ok (.iaload, 1) := by decide +kernel
theorem dX8_spares_11 : decode cX8_spares 11 = .ok (.ifCond .ne 5, 3) := by decide +kernel
theorem dX8_spares_14 : decode cX8_spares 14 = .ok (.iconst 0, 1) := by decide +kernel
theorem dX8_spares_15 : decode cX8_spares 15 = .ok (.ireturn, 1) := by decide +kernel
theorem dX8_spares_16 : decode cX8_spares 16 = .ok (.aload_n 0, 1) := by decide +kernel
theorem dX8_spares_17 : decode cX8_spares 17 = .ok (.invokevirtual 227, 3) := by decide +kernel
theorem dX8_spares_20 : decode cX8_spares 20 = .ok (.aload_n 0, 1) := by decide +kernel
theorem dX8_spares_21 : decode cX8_spares 21 = .ok (.invokevirtual 239, 3) := by decide +kernel
theorem dX8_spares_24 : decode cX8_spares 24 = .ok (.pop, 1) := by decide +kernel
theorem dX8_spares_25 : decode cX8_spares 25 = .ok (.aload_n 0, 1) := by decide +kernel
theorem dX8_spares_26 : decode cX8_spares 26 = .ok (.aload_n 0, 1) := by decide +kernel
theorem dX8_spares_27 : decode cX8_spares 27 = .ok (.getfield 16, 3) := by decide +kernel
theorem dX8_spares_30 : decode cX8_spares 30 = .ok (.invokevirtual 81, 3) := by decide +kernel
theorem dX8_spares_33 : decode cX8_spares 33 = .ok (.iconst 0, 1) := by decide +kernel
theorem dX8_spares_34 : decode cX8_spares 34 = .ok (.istore_n 1, 1) := by decide +kernel
theorem dX8_spares_35 : decode cX8_spares 35 = .ok (.iconst 0, 1) := by decide +kernel
theorem dX8_spares_36 : decode cX8_spares 36 = .ok (.istore_n 2, 1) := by decide +kernel
theorem dX8_spares_37 : decode cX8_spares 37 = .ok (.iload_n 2, 1) := by decide +kernel
theorem dX8_spares_38 : decode cX8_spares 38 = .ok (.aload_n 0, 1) := by decide +kernel
theorem dX8_spares_39 : decode cX8_spares 39 = .ok (.getfield 16, 3) := by decide +kernel
theorem dX8_spares_42 : decode cX8_spares 42 = .ok (.iconst 0, 1) := by decide +kernel
theorem dX8_spares_43 : decode cX8_spares 43 = .ok (.iaload, 1) := by decide +kernel
theorem dX8_spares_44 : decode cX8_spares 44 = .ok (.if_icmp .ge 50, 3) := by decide +kernel
theorem dX8_spares_47 : decode cX8_spares 47 = .ok (.iload_n 1, 1) := by decide +kernel
theorem dX8_spares_48 : decode cX8_spares 48 = .ok (.aload_n 0, 1) := by decide +kernel
theorem dX8_spares_49 : decode cX8_spares 49 = .ok (.getfield 16, 3) := by decide +kernel
theorem dX8_spares_52 : decode cX8_spares 52 = .ok (.iload_n 2, 1) := by decide +kernel
theorem dX8_spares_53 : decode cX8_spares 53 = .ok (.invokestatic 74, 3) := by decide +kernel
theorem dX8_spares_56 : decode cX8_spares 56 = .ok (.ifCond .eq 29, 3) := by decide +kernel
theorem dX8_spares_59 : decode cX8_spares 59 = .ok (.aload_n 0, 1) := by decide +kernel
theorem dX8_spares_60 : decode cX8_spares 60 = .ok (.getfield 32, 3) := by decide +kernel
theorem dX8_spares_63 : decode cX8_spares 63 = .ok (.iload_n 2, 1) := by decide +kernel
theorem dX8_spares_64 : decode cX8_spares 64 = .ok (.iaload, 1) := by decide +kernel
theorem dX8_spares_65 : decode cX8_spares 65 = .ok (.bipush 99, 2) := by decide +kernel
theorem dX8_spares_67 : decode cX8_spares 67 = .ok (.if_icmp .ne 18, 3) := by decide +kernel
theorem dX8_spares_70 : decode cX8_spares 70 = .ok (.aload_n 0, 1) := by decide +kernel
theorem dX8_spares_71 : decode cX8_spares 71 = .ok (.getfield 19, 3) := by decide +kernel
theorem dX8_spares_74 : decode cX8_spares 74 = .ok (.iload_n 2, 1) := by decide +kernel
theorem dX8_spares_75 : decode cX8_spares 75 = .ok (.invokestatic 74, 3) := by decide +kernel
theorem dX8_spares_78 : decode cX8_spares 78 = .ok (.ifCond .eq 7, 3) := by decide +kernel
theorem dX8_spares_81 : decode cX8_spares 81 = .ok (.iconst 1, 1) := by decide +kernel
theorem dX8_spares_82 : decode cX8_spares 82 = .ok (.goto 4, 3) := by decide +kernel
theorem dX8_spares_85 : decode cX8_spares 85 = .ok (.iconst 0, 1) := by decide +kernel
theorem dX8_spares_86 : decode cX8_spares 86 = .ok (.iadd, 1) := by decide +kernel
theorem dX8_spares_87 : decode cX8_spares 87 = .ok (.istore_n 1, 1) := by decide +kernel
theorem dX8_spares_88 : decode cX8_spares 88 = .ok (.iinc 2 1, 3) := by decide +kernel
theorem dX8_spares_91 : decode cX8_spares 91 = .ok (.goto (-54), 3) := by decide +kernel
theorem dX8_spares_94 : decode cX8_spares 94 = .ok (.iload_n 1, 1) := by decide +kernel
theorem dX8_spares_95 : decode cX8_spares 95 = .ok (.ireturn, 1) := by decide +kernel
theorem dX8_aboveOf_0 : decode cX8_aboveOf 0 = .ok (.iconst 0, 1) := by decide +kernel
theorem dX8_aboveOf_1 : decode cX8_aboveOf 1 = .ok (.istore_n 2, 1) := by decide +kernel
theorem dX8_aboveOf_2 : decode cX8_aboveOf 2 = .ok (.iload_n 2, 1) := by decide +kernel
theorem dX8_aboveOf_3 : decode cX8_aboveOf 3 = .ok (.aload_n 0, 1) := by decide +kernel
theorem dX8_aboveOf_4 : decode cX8_aboveOf 4 = .ok (.getfield 16, 3) := by decide +kernel
theorem dX8_aboveOf_7 : decode cX8_aboveOf 7 = .ok (.iconst 2, 1) := by decide +kernel
theorem dX8_aboveOf_8 : decode cX8_aboveOf 8 = .ok (.iaload, 1) := by decide +kernel
theorem dX8_aboveOf_9 : decode cX8_aboveOf 9 = .ok (.if_icmp .ge 75, 3) := by decide +kernel
theorem dX8_aboveOf_12 : decode cX8_aboveOf 12 = .ok (.aload_n 0, 1) := by decide +kernel
theorem dX8_aboveOf_13 : decode cX8_aboveOf 13 = .ok (.getfield 16, 3) := by decide +kernel
theorem dX8_aboveOf_16 : decode cX8_aboveOf 16 = .ok (.iload_n 2, 1) := by decide +kernel
theorem dX8_aboveOf_17 : decode cX8_aboveOf 17 = .ok (.iconst 0, 1) := by decide +kernel
theorem dX8_aboveOf_18 : decode cX8_aboveOf 18 = .ok (.invokestatic 78, 3) := by decide +kernel
theorem dX8_aboveOf_21 : decode cX8_aboveOf 21 = .ok (.iaload, 1) := by decide +kernel
theorem dX8_aboveOf_22 : decode cX8_aboveOf 22 = .ok (.istore_n 3, 1) := by decide +kernel
theorem dX8_aboveOf_23 : decode cX8_aboveOf 23 = .ok (.aload_n 0, 1) := by decide +kernel
theorem dX8_aboveOf_24 : decode cX8_aboveOf 24 = .ok (.getfield 16, 3) := by decide +kernel
theorem dX8_aboveOf_27 : decode cX8_aboveOf 27 = .ok (.iload_n 2, 1) := by decide +kernel
theorem dX8_aboveOf_28 : decode cX8_aboveOf 28 = .ok (.iconst 1, 1) := by decide +kernel
theorem dX8_aboveOf_29 : decode cX8_aboveOf 29 = .ok (.invokestatic 78, 3) := by decide +kernel
theorem dX8_aboveOf_32 : decode cX8_aboveOf 32 = .ok (.iaload, 1) := by decide +kernel
theorem dX8_aboveOf_33 : decode cX8_aboveOf 33 = .ok (.iload_n 1, 1) := by decide +kernel
theorem dX8_aboveOf_34 : decode cX8_aboveOf 34 = .ok (.if_icmp .ne 44, 3) := by decide +kernel
theorem dX8_aboveOf_37 : decode cX8_aboveOf 37 = .ok (.aload_n 0, 1) := by decide +kernel
theorem dX8_aboveOf_38 : decode cX8_aboveOf 38 = .ok (.getfield 16, 3) := by decide +kernel
theorem dX8_aboveOf_41 : decode cX8_aboveOf 41 = .ok (.iload_n 2, 1) := by decide +kernel
theorem dX8_aboveOf_42 : decode cX8_aboveOf 42 = .ok (.iconst 2, 1) := by decide +kernel
theorem dX8_aboveOf_43 : decode cX8_aboveOf 43 = .ok (.invokestatic 78, 3) := by decide +kernel
theorem dX8_aboveOf_46 : decode cX8_aboveOf 46 = .ok (.iaload, 1) := by decide +kernel
theorem dX8_aboveOf_47 : decode cX8_aboveOf 47 = .ok (.iconst 1, 1) := by decide +kernel
theorem dX8_aboveOf_48 : decode cX8_aboveOf 48 = .ok (.if_icmp .ne 30, 3) := by decide +kernel
theorem dX8_aboveOf_51 : decode cX8_aboveOf 51 = .ok (.iload_n 3, 1) := by decide +kernel
theorem dX8_aboveOf_52 : decode cX8_aboveOf 52 = .ok (.ifCond .ge 7, 3) := by decide +kernel
theorem dX8_aboveOf_55 : decode cX8_aboveOf 55 = .ok (.iconst 0, 1) := by decide +kernel
theorem dX8_aboveOf_56 : decode cX8_aboveOf 56 = .ok (.goto 9, 3) := by decide +kernel
theorem dX8_aboveOf_59 : decode cX8_aboveOf 59 = .ok (.aload_n 0, 1) := by decide +kernel
theorem dX8_aboveOf_60 : decode cX8_aboveOf 60 = .ok (.getfield 32, 3) := by decide +kernel
theorem dX8_aboveOf_63 : decode cX8_aboveOf 63 = .ok (.iload_n 3, 1) := by decide +kernel
theorem dX8_aboveOf_64 : decode cX8_aboveOf 64 = .ok (.iaload, 1) := by decide +kernel
theorem dX8_aboveOf_65 : decode cX8_aboveOf 65 = .ok (.aload_n 0, 1) := by decide +kernel
theorem dX8_aboveOf_66 : decode cX8_aboveOf 66 = .ok (.getfield 32, 3) := by decide +kernel
theorem dX8_aboveOf_69 : decode cX8_aboveOf 69 = .ok (.iload_n 1, 1) := by decide +kernel
theorem dX8_aboveOf_70 : decode cX8_aboveOf 70 = .ok (.iaload, 1) := by decide +kernel
theorem dX8_aboveOf_71 : decode cX8_aboveOf 71 = .ok (.iconst 1, 1) := by decide +kernel
theorem dX8_aboveOf_72 : decode cX8_aboveOf 72 = .ok (.isub, 1) := by decide +kernel
theorem dX8_aboveOf_73 : decode cX8_aboveOf 73 = .ok (.if_icmp .ne 5, 3) := by decide +kernel
theorem dX8_aboveOf_76 : decode cX8_aboveOf 76 = .ok (.iload_n 3, 1) := by decide +kernel
theorem dX8_aboveOf_77 : decode cX8_aboveOf 77 = .ok (.ireturn, 1) := by decide +kernel
theorem dX8_aboveOf_78 : decode cX8_aboveOf 78 = .ok (.iinc 2 1, 3) := by decide +kernel
theorem dX8_aboveOf_81 : decode cX8_aboveOf 81 = .ok (.goto (-79), 3) := by decide +kernel
theorem dX8_aboveOf_84 : decode cX8_aboveOf 84 = .ok (.bipush (-9), 2) := by decide +kernel
theorem dX8_aboveOf_86 : decode cX8_aboveOf 86 = .ok (.ireturn, 1) := by decide +kernel
theorem dX8_way_0 : decode cX8_way 0 = .ok (.aload_n 0, 1) := by decide +kernel
theorem dX8_way_1 : decode cX8_way 1 = .ok (.aload_n 0, 1) := by decide +kernel
theorem dX8_way_2 : decode cX8_way 2 = .ok (.getfield 16, 3) := by decide +kernel
theorem dX8_way_5 : decode cX8_way 5 = .ok (.iload_n 1, 1) := by decide +kernel
theorem dX8_way_6 : decode cX8_way 6 = .ok (.invokestatic 74, 3) := by decide +kernel
theorem dX8_way_9 : decode cX8_way 9 = .ok (.ifCond .ne 7, 3) := by decide +kernel
theorem dX8_way_12 : decode cX8_way 12 = .ok (.iconst 1, 1) := by decide +kernel
theorem dX8_way_13 : decode cX8_way 13 = .ok (.goto 12, 3) := by decide +kernel
theorem dX8_way_16 : decode cX8_way 16 = .ok (.iload_n 2, 1) := by decide +kernel
theorem dX8_way_17 : decode cX8_way 17 = .ok (.ifCond .ge 7, 3) := by decide +kernel
theorem dX8_way_20 : decode cX8_way 20 = .ok (.iconst 2, 1) := by decide +kernel
theorem dX8_way_21 : decode cX8_way 21 = .ok (.goto 4, 3) := by decide +kernel
theorem dX8_way_24 : decode cX8_way 24 = .ok (.iconst 0, 1) := by decide +kernel
theorem dX8_way_25 : decode cX8_way 25 = .ok (.invokevirtual 111, 3) := by decide +kernel
theorem dX8_way_28 : decode cX8_way 28 = .ok (.ifCond .eq 5, 3) := by decide +kernel
theorem dX8_way_31 : decode cX8_way 31 = .ok (.iconst 0, 1) := by decide +kernel
theorem dX8_way_32 : decode cX8_way 32 = .ok (.ireturn, 1) := by decide +kernel
theorem dX8_way_33 : decode cX8_way 33 = .ok (.aload_n 0, 1) := by decide +kernel
theorem dX8_way_34 : decode cX8_way 34 = .ok (.aload_n 0, 1) := by decide +kernel
theorem dX8_way_35 : decode cX8_way 35 = .ok (.getfield 16, 3) := by decide +kernel
theorem dX8_way_38 : decode cX8_way 38 = .ok (.invokevirtual 81, 3) := by decide +kernel
theorem dX8_way_41 : decode cX8_way 41 = .ok (.aload_n 0, 1) := by decide +kernel
theorem dX8_way_42 : decode cX8_way 42 = .ok (.getfield 32, 3) := by decide +kernel
theorem dX8_way_45 : decode cX8_way 45 = .ok (.iload_n 1, 1) := by decide +kernel
theorem dX8_way_46 : decode cX8_way 46 = .ok (.iaload, 1) := by decide +kernel
theorem dX8_way_47 : decode cX8_way 47 = .ok (.bipush 99, 2) := by decide +kernel
theorem dX8_way_49 : decode cX8_way 49 = .ok (.if_icmp .eq 13, 3) := by decide +kernel
theorem dX8_way_52 : decode cX8_way 52 = .ok (.iload_n 2, 1) := by decide +kernel
theorem dX8_way_53 : decode cX8_way 53 = .ok (.aload_n 0, 1) := by decide +kernel
theorem dX8_way_54 : decode cX8_way 54 = .ok (.getfield 32, 3) := by decide +kernel
theorem dX8_way_57 : decode cX8_way 57 = .ok (.iload_n 1, 1) := by decide +kernel
theorem dX8_way_58 : decode cX8_way 58 = .ok (.iaload, 1) := by decide +kernel
theorem dX8_way_59 : decode cX8_way 59 = .ok (.if_icmp .le 6, 3) := by decide +kernel
theorem dX8_way_62 : decode cX8_way 62 = .ok (.bipush (-9), 2) := by decide +kernel
theorem dX8_way_64 : decode cX8_way 64 = .ok (.ireturn, 1) := by decide +kernel
theorem dX8_way_65 : decode cX8_way 65 = .ok (.iload_n 1, 1) := by decide +kernel
theorem dX8_way_66 : decode cX8_way 66 = .ok (.istore_n 3, 1) := by decide +kernel
theorem dX8_way_67 : decode cX8_way 67 = .ok (.aload_n 0, 1) := by decide +kernel
theorem dX8_way_68 : decode cX8_way 68 = .ok (.getfield 32, 3) := by decide +kernel
theorem dX8_way_71 : decode cX8_way 71 = .ok (.iload_n 1, 1) := by decide +kernel
theorem dX8_way_72 : decode cX8_way 72 = .ok (.iaload, 1) := by decide +kernel
theorem dX8_way_73 : decode cX8_way 73 = .ok (.istore 4, 2) := by decide +kernel
theorem dX8_way_75 : decode cX8_way 75 = .ok (.iload 4, 2) := by decide +kernel
theorem dX8_way_77 : decode cX8_way 77 = .ok (.iload_n 2, 1) := by decide +kernel
theorem dX8_way_78 : decode cX8_way 78 = .ok (.if_icmp .le 15, 3) := by decide +kernel
theorem dX8_way_81 : decode cX8_way 81 = .ok (.aload_n 0, 1) := by decide +kernel
theorem dX8_way_82 : decode cX8_way 82 = .ok (.iload_n 3, 1) := by decide +kernel
theorem dX8_way_83 : decode cX8_way 83 = .ok (.invokevirtual 242, 3) := by decide +kernel
theorem dX8_way_86 : decode cX8_way 86 = .ok (.istore_n 3, 1) := by decide +kernel
theorem dX8_way_87 : decode cX8_way 87 = .ok (.iinc 4 (-1), 3) := by decide +kernel
theorem dX8_way_90 : decode cX8_way 90 = .ok (.goto (-15), 3) := by decide +kernel
theorem dX8_way_93 : decode cX8_way 93 = .ok (.iload_n 3, 1) := by decide +kernel
theorem dX8_way_94 : decode cX8_way 94 = .ok (.ireturn, 1) := by decide +kernel
theorem dX8_thingOf_0 : decode cX8_thingOf 0 = .ok (.iload_n 0, 1) := by decide +kernel
theorem dX8_thingOf_1 : decode cX8_thingOf 1 = .ok (.i2l, 1) := by decide +kernel
theorem dX8_thingOf_2 : decode cX8_thingOf 2 = .ok (.ldc2_w 245, 3) := by decide +kernel
theorem dX8_thingOf_5 : decode cX8_thingOf 5 = .ok (.ldc2_w 247, 3) := by decide +kernel
theorem dX8_thingOf_8 : decode cX8_thingOf 8 = .ok (.invokestatic 60, 3) := by decide +kernel
theorem dX8_thingOf_11 : decode cX8_thingOf 11 = .ok (.ifCond .eq 10, 3) := by decide +kernel
theorem dX8_thingOf_14 : decode cX8_thingOf 14 = .ok (.bipush 89, 2) := by decide +kernel
theorem dX8_thingOf_16 : decode cX8_thingOf 16 = .ok (.iload_n 0, 1) := by decide +kernel
theorem dX8_thingOf_17 : decode cX8_thingOf 17 = .ok (.isub, 1) := by decide +kernel
theorem dX8_thingOf_18 : decode cX8_thingOf 18 = .ok (.goto 4, 3) := by decide +kernel
theorem dX8_thingOf_21 : decode cX8_thingOf 21 = .ok (.iload_n 0, 1) := by decide +kernel
theorem dX8_thingOf_22 : decode cX8_thingOf 22 = .ok (.ireturn, 1) := by decide +kernel
theorem dX8_ties_0 : decode cX8_ties 0 = .ok (.aload_n 0, 1) := by decide +kernel
theorem dX8_ties_1 : decode cX8_ties 1 = .ok (.getfield 19, 3) := by decide +kernel
theorem dX8_ties_4 : decode cX8_ties 4 = .ok (.iload_n 1, 1) := by decide +kernel
theorem dX8_ties_5 : decode cX8_ties 5 = .ok (.invokestatic 144, 3) := by decide +kernel
theorem dX8_ties_8 : decode cX8_ties 8 = .ok (.ifCond .eq 31, 3) := by decide +kernel
theorem dX8_ties_11 : decode cX8_ties 11 = .ok (.aload_n 0, 1) := by decide +kernel
theorem dX8_ties_12 : decode cX8_ties 12 = .ok (.getfield 19, 3) := by decide +kernel
theorem dX8_ties_15 : decode cX8_ties 15 = .ok (.iload_n 2, 1) := by decide +kernel
theorem dX8_ties_16 : decode cX8_ties 16 = .ok (.invokestatic 74, 3) := by decide +kernel
theorem dX8_ties_19 : decode cX8_ties 19 = .ok (.ifCond .eq 20, 3) := by decide +kernel
theorem dX8_ties_22 : decode cX8_ties 22 = .ok (.iload_n 1, 1) := by decide +kernel
theorem dX8_ties_23 : decode cX8_ties 23 = .ok (.iload_n 2, 1) := by decide +kernel
theorem dX8_ties_24 : decode cX8_ties 24 = .ok (.if_icmp .eq 15, 3) := by decide +kernel
theorem dX8_ties_27 : decode cX8_ties 27 = .ok (.aload_n 0, 1) := by decide +kernel
theorem dX8_ties_28 : decode cX8_ties 28 = .ok (.getfield 19, 3) := by decide +kernel
theorem dX8_ties_31 : decode cX8_ties 31 = .ok (.iload_n 1, 1) := by decide +kernel
theorem dX8_ties_32 : decode cX8_ties 32 = .ok (.iload_n 2, 1) := by decide +kernel
theorem dX8_ties_33 : decode cX8_ties 33 = .ok (.invokestatic 147, 3) := by decide +kernel
theorem dX8_ties_36 : decode cX8_ties 36 = .ok (.ifCond .ne 5, 3) := by decide +kernel
theorem dX8_ties_39 : decode cX8_ties 39 = .ok (.iconst 0, 1) := by decide +kernel
theorem dX8_ties_40 : decode cX8_ties 40 = .ok (.ireturn, 1) := by decide +kernel
theorem dX8_ties_41 : decode cX8_ties 41 = .ok (.aload_n 0, 1) := by decide +kernel
theorem dX8_ties_42 : decode cX8_ties 42 = .ok (.getfield 19, 3) := by decide +kernel
theorem dX8_ties_45 : decode cX8_ties 45 = .ok (.iload_n 1, 1) := by decide +kernel
theorem dX8_ties_46 : decode cX8_ties 46 = .ok (.iload_n 2, 1) := by decide +kernel
theorem dX8_ties_47 : decode cX8_ties 47 = .ok (.iconst 1, 1) := by decide +kernel
theorem dX8_ties_48 : decode cX8_ties 48 = .ok (.invokestatic 154, 3) := by decide +kernel
theorem dX8_ties_51 : decode cX8_ties 51 = .ok (.iconst 1, 1) := by decide +kernel
theorem dX8_ties_52 : decode cX8_ties 52 = .ok (.ireturn, 1) := by decide +kernel
theorem dX8_stringOf_0 : decode cX8_stringOf 0 = .ok (.aload_n 0, 1) := by decide +kernel
theorem dX8_stringOf_1 : decode cX8_stringOf 1 = .ok (.getfield 19, 3) := by decide +kernel
theorem dX8_stringOf_4 : decode cX8_stringOf 4 = .ok (.iload_n 1, 1) := by decide +kernel
theorem dX8_stringOf_5 : decode cX8_stringOf 5 = .ok (.invokestatic 144, 3) := by decide +kernel
theorem dX8_stringOf_8 : decode cX8_stringOf 8 = .ok (.ifCond .eq 26, 3) := by decide +kernel
theorem dX8_stringOf_11 : decode cX8_stringOf 11 = .ok (.aload_n 0, 1) := by decide +kernel
theorem dX8_stringOf_12 : decode cX8_stringOf 12 = .ok (.getfield 19, 3) := by decide +kernel
theorem dX8_stringOf_15 : decode cX8_stringOf 15 = .ok (.iload_n 2, 1) := by decide +kernel
theorem dX8_stringOf_16 : decode cX8_stringOf 16 = .ok (.invokestatic 74, 3) := by decide +kernel
theorem dX8_stringOf_19 : decode cX8_stringOf 19 = .ok (.ifCond .eq 15, 3) := by decide +kernel
theorem dX8_stringOf_22 : decode cX8_stringOf 22 = .ok (.aload_n 0, 1) := by decide +kernel
theorem dX8_stringOf_23 : decode cX8_stringOf 23 = .ok (.getfield 19, 3) := by decide +kernel
theorem dX8_stringOf_26 : decode cX8_stringOf 26 = .ok (.iload_n 1, 1) := by decide +kernel
theorem dX8_stringOf_27 : decode cX8_stringOf 27 = .ok (.iload_n 2, 1) := by decide +kernel
theorem dX8_stringOf_28 : decode cX8_stringOf 28 = .ok (.invokestatic 99, 3) := by decide +kernel
theorem dX8_stringOf_31 : decode cX8_stringOf 31 = .ok (.goto 5, 3) := by decide +kernel
theorem dX8_stringOf_34 : decode cX8_stringOf 34 = .ok (.bipush (-9), 2) := by decide +kernel
theorem dX8_stringOf_36 : decode cX8_stringOf 36 = .ok (.ireturn, 1) := by decide +kernel
theorem dX8_cutsString_0 : decode cX8_cutsString 0 = .ok (.aload_n 0, 1) := by decide +kernel
theorem dX8_cutsString_1 : decode cX8_cutsString 1 = .ok (.iload_n 1, 1) := by decide +kernel
theorem dX8_cutsString_2 : decode cX8_cutsString 2 = .ok (.iload_n 2, 1) := by decide +kernel
theorem dX8_cutsString_3 : decode cX8_cutsString 3 = .ok (.invokevirtual 249, 3) := by decide +kernel
theorem dX8_cutsString_6 : decode cX8_cutsString 6 = .ok (.istore_n 3, 1) := by decide +kernel
theorem dX8_cutsString_7 : decode cX8_cutsString 7 = .ok (.iload_n 3, 1) := by decide +kernel
theorem dX8_cutsString_8 : decode cX8_cutsString 8 = .ok (.bipush (-9), 2) := by decide +kernel
theorem dX8_cutsString_10 : decode cX8_cutsString 10 = .ok (.if_icmp .ne 5, 3) := by decide +kernel
theorem dX8_cutsString_13 : decode cX8_cutsString 13 = .ok (.iconst 0, 1) := by decide +kernel
theorem dX8_cutsString_14 : decode cX8_cutsString 14 = .ok (.ireturn, 1) := by decide +kernel
theorem dX8_cutsString_15 : decode cX8_cutsString 15 = .ok (.aload_n 0, 1) := by decide +kernel
theorem dX8_cutsString_16 : decode cX8_cutsString 16 = .ok (.getfield 19, 3) := by decide +kernel
theorem dX8_cutsString_19 : decode cX8_cutsString 19 = .ok (.iload_n 3, 1) := by decide +kernel
theorem dX8_cutsString_20 : decode cX8_cutsString 20 = .ok (.invokestatic 89, 3) := by decide +kernel
theorem dX8_cutsString_23 : decode cX8_cutsString 23 = .ok (.iconst 1, 1) := by decide +kernel
theorem dX8_cutsString_24 : decode cX8_cutsString 24 = .ok (.ireturn, 1) := by decide +kernel
theorem dX8_pins_0 : decode cX8_pins 0 = .ok (.iload_n 1, 1) := by decide +kernel
theorem dX8_pins_1 : decode cX8_pins 1 = .ok (.iconst 1, 1) := by decide +kernel
theorem dX8_pins_2 : decode cX8_pins 2 = .ok (.if_icmp .gt 14, 3) := by decide +kernel
theorem dX8_pins_5 : decode cX8_pins 5 = .ok (.aload_n 0, 1) := by decide +kernel
theorem dX8_pins_6 : decode cX8_pins 6 = .ok (.getfield 19, 3) := by decide +kernel
theorem dX8_pins_9 : decode cX8_pins 9 = .ok (.iload_n 2, 1) := by decide +kernel
theorem dX8_pins_10 : decode cX8_pins 10 = .ok (.invokestatic 74, 3) := by decide +kernel
theorem dX8_pins_13 : decode cX8_pins 13 = .ok (.ifCond .ne 5, 3) := by decide +kernel
theorem dX8_pins_16 : decode cX8_pins 16 = .ok (.iconst 0, 1) := by decide +kernel
theorem dX8_pins_17 : decode cX8_pins 17 = .ok (.ireturn, 1) := by decide +kernel
theorem dX8_pins_18 : decode cX8_pins 18 = .ok (.aload_n 0, 1) := by decide +kernel
theorem dX8_pins_19 : decode cX8_pins 19 = .ok (.getfield 19, 3) := by decide +kernel
theorem dX8_pins_22 : decode cX8_pins 22 = .ok (.iload_n 2, 1) := by decide +kernel
theorem dX8_pins_23 : decode cX8_pins 23 = .ok (.iload_n 1, 1) := by decide +kernel
theorem dX8_pins_24 : decode cX8_pins 24 = .ok (.ifCond .ne 7, 3) := by decide +kernel
theorem dX8_pins_27 : decode cX8_pins 27 = .ok (.iconst 1, 1) := by decide +kernel
theorem dX8_pins_28 : decode cX8_pins 28 = .ok (.goto 4, 3) := by decide +kernel
theorem dX8_pins_31 : decode cX8_pins 31 = .ok (.iconst 0, 1) := by decide +kernel
theorem dX8_pins_32 : decode cX8_pins 32 = .ok (.invokestatic 165, 3) := by decide +kernel
theorem dX8_pins_35 : decode cX8_pins 35 = .ok (.iconst 1, 1) := by decide +kernel
theorem dX8_pins_36 : decode cX8_pins 36 = .ok (.ireturn, 1) := by decide +kernel
theorem dX8_makes_0 : decode cX8_makes 0 = .ok (.iload_n 1, 1) := by decide +kernel
theorem dX8_makes_1 : decode cX8_makes 1 = .ok (.ifCond .eq 14, 3) := by decide +kernel
theorem dX8_makes_4 : decode cX8_makes 4 = .ok (.aload_n 0, 1) := by decide +kernel
theorem dX8_makes_5 : decode cX8_makes 5 = .ok (.getfield 19, 3) := by decide +kernel
theorem dX8_makes_8 : decode cX8_makes 8 = .ok (.iconst 0, 1) := by decide +kernel
theorem dX8_makes_9 : decode cX8_makes 9 = .ok (.iaload, 1) := by decide +kernel
theorem dX8_makes_10 : decode cX8_makes 10 = .ok (.bipush 24, 2) := by decide +kernel
theorem dX8_makes_12 : decode cX8_makes 12 = .ok (.if_icmp .ne 5, 3) := by decide +kernel
theorem dX8_makes_15 : decode cX8_makes 15 = .ok (.iconst 0, 1) := by decide +kernel
theorem dX8_makes_16 : decode cX8_makes 16 = .ok (.ireturn, 1) := by decide +kernel
theorem dX8_makes_17 : decode cX8_makes 17 = .ok (.aload_n 0, 1) := by decide +kernel
theorem dX8_makes_18 : decode cX8_makes 18 = .ok (.getfield 19, 3) := by decide +kernel
theorem dX8_makes_21 : decode cX8_makes 21 = .ok (.iload_n 1, 1) := by decide +kernel
theorem dX8_makes_22 : decode cX8_makes 22 = .ok (.invokestatic 161, 3) := by decide +kernel
theorem dX8_makes_25 : decode cX8_makes 25 = .ok (.pop, 1) := by decide +kernel
theorem dX8_makes_26 : decode cX8_makes 26 = .ok (.iconst 1, 1) := by decide +kernel
theorem dX8_makes_27 : decode cX8_makes 27 = .ok (.ireturn, 1) := by decide +kernel
theorem dX8_begins_0 : decode cX8_begins 0 = .ok (.aload_n 0, 1) := by decide +kernel
theorem dX8_begins_1 : decode cX8_begins 1 = .ok (.getfield 19, 3) := by decide +kernel
theorem dX8_begins_4 : decode cX8_begins 4 = .ok (.iconst 3, 1) := by decide +kernel
theorem dX8_begins_5 : decode cX8_begins 5 = .ok (.iaload, 1) := by decide +kernel
theorem dX8_begins_6 : decode cX8_begins 6 = .ok (.iconst 1, 1) := by decide +kernel
theorem dX8_begins_7 : decode cX8_begins 7 = .ok (.if_icmp .ne 5, 3) := by decide +kernel
theorem dX8_begins_10 : decode cX8_begins 10 = .ok (.iconst 0, 1) := by decide +kernel
theorem dX8_begins_11 : decode cX8_begins 11 = .ok (.ireturn, 1) := by decide +kernel
theorem dX8_begins_12 : decode cX8_begins 12 = .ok (.aload_n 0, 1) := by decide +kernel
theorem dX8_begins_13 : decode cX8_begins 13 = .ok (.getfield 19, 3) := by decide +kernel
theorem dX8_begins_16 : decode cX8_begins 16 = .ok (.invokestatic 169, 3) := by decide +kernel
theorem dX8_begins_19 : decode cX8_begins 19 = .ok (.pop, 1) := by decide +kernel
theorem dX8_begins_20 : decode cX8_begins 20 = .ok (.iconst 1, 1) := by decide +kernel
theorem dX8_begins_21 : decode cX8_begins 21 = .ok (.ireturn, 1) := by decide +kernel
theorem dX8_steps_0 : decode cX8_steps 0 = .ok (.iload_n 1, 1) := by decide +kernel
theorem dX8_steps_1 : decode cX8_steps 1 = .ok (.ifCond .eq 12, 3) := by decide +kernel
theorem dX8_steps_4 : decode cX8_steps 4 = .ok (.aload_n 0, 1) := by decide +kernel
theorem dX8_steps_5 : decode cX8_steps 5 = .ok (.getfield 19, 3) := by decide +kernel
theorem dX8_steps_8 : decode cX8_steps 8 = .ok (.iconst 3, 1) := by decide +kernel
theorem dX8_steps_9 : decode cX8_steps 9 = .ok (.iaload, 1) := by decide +kernel
theorem dX8_steps_10 : decode cX8_steps 10 = .ok (.ifCond .ne 5, 3) := by decide +kernel
theorem dX8_steps_13 : decode cX8_steps 13 = .ok (.iconst 0, 1) := by decide +kernel
theorem dX8_steps_14 : decode cX8_steps 14 = .ok (.ireturn, 1) := by decide +kernel
theorem dX8_steps_15 : decode cX8_steps 15 = .ok (.iconst 0, 1) := by decide +kernel
theorem dX8_steps_16 : decode cX8_steps 16 = .ok (.istore_n 2, 1) := by decide +kernel
theorem dX8_steps_17 : decode cX8_steps 17 = .ok (.iload_n 2, 1) := by decide +kernel
theorem dX8_steps_18 : decode cX8_steps 18 = .ok (.iload_n 1, 1) := by decide +kernel
theorem dX8_steps_19 : decode cX8_steps 19 = .ok (.if_icmp .ge 27, 3) := by decide +kernel
theorem dX8_steps_22 : decode cX8_steps 22 = .ok (.aload_n 0, 1) := by decide +kernel
theorem dX8_steps_23 : decode cX8_steps 23 = .ok (.getfield 19, 3) := by decide +kernel
theorem dX8_steps_26 : decode cX8_steps 26 = .ok (.iconst 3, 1) := by decide +kernel
theorem dX8_steps_27 : decode cX8_steps 27 = .ok (.iaload, 1) := by decide +kernel
theorem dX8_steps_28 : decode cX8_steps 28 = .ok (.iconst 1, 1) := by decide +kernel
theorem dX8_steps_29 : decode cX8_steps 29 = .ok (.if_icmp .ne 17, 3) := by decide +kernel
theorem dX8_steps_32 : decode cX8_steps 32 = .ok (.aload_n 0, 1) := by decide +kernel
theorem dX8_steps_33 : decode cX8_steps 33 = .ok (.getfield 19, 3) := by decide +kernel
theorem dX8_steps_36 : decode cX8_steps 36 = .ok (.invokestatic 172, 3) := by decide +kernel
theorem dX8_steps_39 : decode cX8_steps 39 = .ok (.pop, 1) := by decide +kernel
theorem dX8_steps_40 : decode cX8_steps 40 = .ok (.iinc 2 1, 3) := by decide +kernel
theorem dX8_steps_43 : decode cX8_steps 43 = .ok (.goto (-26), 3) := by decide +kernel
theorem dX8_steps_46 : decode cX8_steps 46 = .ok (.iconst 1, 1) := by decide +kernel
theorem dX8_steps_47 : decode cX8_steps 47 = .ok (.ireturn, 1) := by decide +kernel
theorem dX8_isHeld_0 : decode cX8_isHeld 0 = .ok (.aload_n 0, 1) := by decide +kernel
theorem dX8_isHeld_1 : decode cX8_isHeld 1 = .ok (.aload_n 0, 1) := by decide +kernel
theorem dX8_isHeld_2 : decode cX8_isHeld 2 = .ok (.getfield 19, 3) := by decide +kernel
theorem dX8_isHeld_5 : decode cX8_isHeld 5 = .ok (.invokevirtual 81, 3) := by decide +kernel
theorem dX8_isHeld_8 : decode cX8_isHeld 8 = .ok (.aload_n 0, 1) := by decide +kernel
theorem dX8_isHeld_9 : decode cX8_isHeld 9 = .ok (.getfield 32, 3) := by decide +kernel
theorem dX8_isHeld_12 : decode cX8_isHeld 12 = .ok (.iload_n 1, 1) := by decide +kernel
theorem dX8_isHeld_13 : decode cX8_isHeld 13 = .ok (.iaload, 1) := by decide +kernel
theorem dX8_isHeld_14 : decode cX8_isHeld 14 = .ok (.bipush 99, 2) := by decide +kernel
theorem dX8_isHeld_16 : decode cX8_isHeld 16 = .ok (.if_icmp .ge 7, 3) := by decide +kernel
theorem dX8_isHeld_19 : decode cX8_isHeld 19 = .ok (.iconst 1, 1) := by decide +kernel
theorem dX8_isHeld_20 : decode cX8_isHeld 20 = .ok (.goto 4, 3) := by decide +kernel
theorem dX8_isHeld_23 : decode cX8_isHeld 23 = .ok (.iconst 0, 1) := by decide +kernel
theorem dX8_isHeld_24 : decode cX8_isHeld 24 = .ok (.ireturn, 1) := by decide +kernel
theorem dX8_does_0 : decode cX8_does 0 = .ok (.iload_n 1, 1) := by decide +kernel
theorem dX8_does_1 : decode cX8_does 1 = .ok (.sipush 10000, 3) := by decide +kernel
theorem dX8_does_4 : decode cX8_does 4 = .ok (.idiv, 1) := by decide +kernel
theorem dX8_does_5 : decode cX8_does 5 = .ok (.istore_n 2, 1) := by decide +kernel
theorem dX8_does_6 : decode cX8_does 6 = .ok (.iload_n 1, 1) := by decide +kernel
theorem dX8_does_7 : decode cX8_does 7 = .ok (.bipush 100, 2) := by decide +kernel
theorem dX8_does_9 : decode cX8_does 9 = .ok (.idiv, 1) := by decide +kernel
theorem dX8_does_10 : decode cX8_does 10 = .ok (.bipush 100, 2) := by decide +kernel
theorem dX8_does_12 : decode cX8_does 12 = .ok (.irem, 1) := by decide +kernel
theorem dX8_does_13 : decode cX8_does 13 = .ok (.istore_n 3, 1) := by decide +kernel
theorem dX8_does_14 : decode cX8_does 14 = .ok (.iload_n 1, 1) := by decide +kernel
theorem dX8_does_15 : decode cX8_does 15 = .ok (.bipush 100, 2) := by decide +kernel
theorem dX8_does_17 : decode cX8_does 17 = .ok (.irem, 1) := by decide +kernel
theorem dX8_does_18 : decode cX8_does 18 = .ok (.istore 4, 2) := by decide +kernel
theorem dX8_does_20 : decode cX8_does 20 = .ok (.iload_n 2, 1) := by decide +kernel
theorem dX8_does_21 : decode cX8_does 21 = .ok (.tableswitch 269 1 9 #[51, 79, 90, 101, 123, 144, 163, 205, 241], 51) := by decide +kernel
theorem dX8_does_72 : decode cX8_does 72 = .ok (.iload_n 1, 1) := by decide +kernel
theorem dX8_does_73 : decode cX8_does 73 = .ok (.bipush 10, 2) := by decide +kernel
theorem dX8_does_75 : decode cX8_does 75 = .ok (.idiv, 1) := by decide +kernel
theorem dX8_does_76 : decode cX8_does 76 = .ok (.sipush 1000, 3) := by decide +kernel
theorem dX8_does_79 : decode cX8_does 79 = .ok (.irem, 1) := by decide +kernel
theorem dX8_does_80 : decode cX8_does 80 = .ok (.ifCond .ne 18, 3) := by decide +kernel
theorem dX8_does_83 : decode cX8_does 83 = .ok (.aload_n 0, 1) := by decide +kernel
theorem dX8_does_84 : decode cX8_does 84 = .ok (.iload_n 1, 1) := by decide +kernel
theorem dX8_does_85 : decode cX8_does 85 = .ok (.bipush 10, 2) := by decide +kernel
theorem dX8_does_87 : decode cX8_does 87 = .ok (.irem, 1) := by decide +kernel
theorem dX8_does_88 : decode cX8_does 88 = .ok (.invokevirtual 252, 3) := by decide +kernel
theorem dX8_does_91 : decode cX8_does 91 = .ok (.ifCond .eq 7, 3) := by decide +kernel
theorem dX8_does_94 : decode cX8_does 94 = .ok (.iconst 1, 1) := by decide +kernel
theorem dX8_does_95 : decode cX8_does 95 = .ok (.goto 4, 3) := by decide +kernel
theorem dX8_does_98 : decode cX8_does 98 = .ok (.iconst 0, 1) := by decide +kernel
theorem dX8_does_99 : decode cX8_does 99 = .ok (.ireturn, 1) := by decide +kernel
theorem dX8_does_100 : decode cX8_does 100 = .ok (.aload_n 0, 1) := by decide +kernel
theorem dX8_does_101 : decode cX8_does 101 = .ok (.iload_n 3, 1) := by decide +kernel
theorem dX8_does_102 : decode cX8_does 102 = .ok (.invokestatic 255, 3) := by decide +kernel
theorem dX8_does_105 : decode cX8_does 105 = .ok (.iload 4, 2) := by decide +kernel
theorem dX8_does_107 : decode cX8_does 107 = .ok (.invokevirtual 258, 3) := by decide +kernel
theorem dX8_does_110 : decode cX8_does 110 = .ok (.ireturn, 1) := by decide +kernel
theorem dX8_does_111 : decode cX8_does 111 = .ok (.aload_n 0, 1) := by decide +kernel
theorem dX8_does_112 : decode cX8_does 112 = .ok (.iload_n 3, 1) := by decide +kernel
theorem dX8_does_113 : decode cX8_does 113 = .ok (.invokestatic 255, 3) := by decide +kernel
theorem dX8_does_116 : decode cX8_does 116 = .ok (.iload 4, 2) := by decide +kernel
theorem dX8_does_118 : decode cX8_does 118 = .ok (.invokevirtual 262, 3) := by decide +kernel
theorem dX8_does_121 : decode cX8_does 121 = .ok (.ireturn, 1) := by decide +kernel
theorem dX8_does_122 : decode cX8_does 122 = .ok (.iload_n 3, 1) := by decide +kernel
theorem dX8_does_123 : decode cX8_does 123 = .ok (.bipush 10, 2) := by decide +kernel
theorem dX8_does_125 : decode cX8_does 125 = .ok (.if_icmp .ge 17, 3) := by decide +kernel
theorem dX8_does_128 : decode cX8_does 128 = .ok (.aload_n 0, 1) := by decide +kernel
theorem dX8_does_129 : decode cX8_does 129 = .ok (.iload_n 3, 1) := by decide +kernel
theorem dX8_does_130 : decode cX8_does 130 = .ok (.iload 4, 2) := by decide +kernel
theorem dX8_does_132 : decode cX8_does 132 = .ok (.invokevirtual 265, 3) := by decide +kernel
theorem dX8_does_135 : decode cX8_does 135 = .ok (.ifCond .eq 7, 3) := by decide +kernel
theorem dX8_does_138 : decode cX8_does 138 = .ok (.iconst 1, 1) := by decide +kernel
theorem dX8_does_139 : decode cX8_does 139 = .ok (.goto 4, 3) := by decide +kernel
theorem dX8_does_142 : decode cX8_does 142 = .ok (.iconst 0, 1) := by decide +kernel
theorem dX8_does_143 : decode cX8_does 143 = .ok (.ireturn, 1) := by decide +kernel
theorem dX8_does_144 : decode cX8_does 144 = .ok (.iload_n 1, 1) := by decide +kernel
theorem dX8_does_145 : decode cX8_does 145 = .ok (.sipush 10000, 3) := by decide +kernel
theorem dX8_does_148 : decode cX8_does 148 = .ok (.irem, 1) := by decide +kernel
theorem dX8_does_149 : decode cX8_does 149 = .ok (.ifCond .ne 14, 3) := by decide +kernel
theorem dX8_does_152 : decode cX8_does 152 = .ok (.aload_n 0, 1) := by decide +kernel
theorem dX8_does_153 : decode cX8_does 153 = .ok (.invokevirtual 268, 3) := by decide +kernel
theorem dX8_does_156 : decode cX8_does 156 = .ok (.ifCond .eq 7, 3) := by decide +kernel
theorem dX8_does_159 : decode cX8_does 159 = .ok (.iconst 1, 1) := by decide +kernel
theorem dX8_does_160 : decode cX8_does 160 = .ok (.goto 4, 3) := by decide +kernel
theorem dX8_does_163 : decode cX8_does 163 = .ok (.iconst 0, 1) := by decide +kernel
theorem dX8_does_164 : decode cX8_does 164 = .ok (.ireturn, 1) := by decide +kernel
theorem dX8_does_165 : decode cX8_does 165 = .ok (.iload_n 3, 1) := by decide +kernel
theorem dX8_does_166 : decode cX8_does 166 = .ok (.ifCond .ne 16, 3) := by decide +kernel
theorem dX8_does_169 : decode cX8_does 169 = .ok (.aload_n 0, 1) := by decide +kernel
theorem dX8_does_170 : decode cX8_does 170 = .ok (.iload 4, 2) := by decide +kernel
theorem dX8_does_172 : decode cX8_does 172 = .ok (.invokevirtual 272, 3) := by decide +kernel
theorem dX8_does_175 : decode cX8_does 175 = .ok (.ifCond .eq 7, 3) := by decide +kernel
theorem dX8_does_178 : decode cX8_does 178 = .ok (.iconst 1, 1) := by decide +kernel
theorem dX8_does_179 : decode cX8_does 179 = .ok (.goto 4, 3) := by decide +kernel
theorem dX8_does_182 : decode cX8_does 182 = .ok (.iconst 0, 1) := by decide +kernel
theorem dX8_does_183 : decode cX8_does 183 = .ok (.ireturn, 1) := by decide +kernel
theorem dX8_does_184 : decode cX8_does 184 = .ok (.aload_n 0, 1) := by decide +kernel
theorem dX8_does_185 : decode cX8_does 185 = .ok (.getfield 19, 3) := by decide +kernel
theorem dX8_does_188 : decode cX8_does 188 = .ok (.iload_n 3, 1) := by decide +kernel
theorem dX8_does_189 : decode cX8_does 189 = .ok (.invokestatic 74, 3) := by decide +kernel
theorem dX8_does_192 : decode cX8_does 192 = .ok (.ifCond .eq 32, 3) := by decide +kernel
theorem dX8_does_195 : decode cX8_does 195 = .ok (.iload 4, 2) := by decide +kernel
theorem dX8_does_197 : decode cX8_does 197 = .ok (.iconst 2, 1) := by decide +kernel
theorem dX8_does_198 : decode cX8_does 198 = .ok (.if_icmp .ge 26, 3) := by decide +kernel
theorem dX8_does_201 : decode cX8_does 201 = .ok (.aload_n 0, 1) := by decide +kernel
theorem dX8_does_202 : decode cX8_does 202 = .ok (.iload_n 3, 1) := by decide +kernel
theorem dX8_does_203 : decode cX8_does 203 = .ok (.invokevirtual 275, 3) := by decide +kernel
theorem dX8_does_206 : decode cX8_does 206 = .ok (.iload 4, 2) := by decide +kernel
theorem dX8_does_208 : decode cX8_does 208 = .ok (.iconst 1, 1) := by decide +kernel
theorem dX8_does_209 : decode cX8_does 209 = .ok (.if_icmp .ne 7, 3) := by decide +kernel
theorem dX8_does_212 : decode cX8_does 212 = .ok (.iconst 1, 1) := by decide +kernel
theorem dX8_does_213 : decode cX8_does 213 = .ok (.goto 4, 3) := by decide +kernel
theorem dX8_does_216 : decode cX8_does 216 = .ok (.iconst 0, 1) := by decide +kernel
theorem dX8_does_217 : decode cX8_does 217 = .ok (.if_icmp .ne 7, 3) := by decide +kernel
theorem dX8_does_220 : decode cX8_does 220 = .ok (.iconst 1, 1) := by decide +kernel
theorem dX8_does_221 : decode cX8_does 221 = .ok (.goto 4, 3) := by decide +kernel
theorem dX8_does_224 : decode cX8_does 224 = .ok (.iconst 0, 1) := by decide +kernel
theorem dX8_does_225 : decode cX8_does 225 = .ok (.ireturn, 1) := by decide +kernel
theorem dX8_does_226 : decode cX8_does 226 = .ok (.aload_n 0, 1) := by decide +kernel
theorem dX8_does_227 : decode cX8_does 227 = .ok (.getfield 19, 3) := by decide +kernel
theorem dX8_does_230 : decode cX8_does 230 = .ok (.iload_n 3, 1) := by decide +kernel
theorem dX8_does_231 : decode cX8_does 231 = .ok (.invokestatic 74, 3) := by decide +kernel
theorem dX8_does_234 : decode cX8_does 234 = .ok (.ifCond .eq 26, 3) := by decide +kernel
theorem dX8_does_237 : decode cX8_does 237 = .ok (.aload_n 0, 1) := by decide +kernel
theorem dX8_does_238 : decode cX8_does 238 = .ok (.iload_n 3, 1) := by decide +kernel
theorem dX8_does_239 : decode cX8_does 239 = .ok (.invokevirtual 275, 3) := by decide +kernel
theorem dX8_does_242 : decode cX8_does 242 = .ok (.ifCond .eq 18, 3) := by decide +kernel
theorem dX8_does_245 : decode cX8_does 245 = .ok (.aload_n 0, 1) := by decide +kernel
theorem dX8_does_246 : decode cX8_does 246 = .ok (.getfield 32, 3) := by decide +kernel
theorem dX8_does_249 : decode cX8_does 249 = .ok (.iload_n 3, 1) := by decide +kernel
theorem dX8_does_250 : decode cX8_does 250 = .ok (.iaload, 1) := by decide +kernel
theorem dX8_does_251 : decode cX8_does 251 = .ok (.iload 4, 2) := by decide +kernel
theorem dX8_does_253 : decode cX8_does 253 = .ok (.if_icmp .gt 7, 3) := by decide +kernel
theorem dX8_does_256 : decode cX8_does 256 = .ok (.iconst 1, 1) := by decide +kernel
theorem dX8_does_257 : decode cX8_does 257 = .ok (.goto 4, 3) := by decide +kernel
theorem dX8_does_260 : decode cX8_does 260 = .ok (.iconst 0, 1) := by decide +kernel
theorem dX8_does_261 : decode cX8_does 261 = .ok (.ireturn, 1) := by decide +kernel
theorem dX8_does_262 : decode cX8_does 262 = .ok (.iload_n 3, 1) := by decide +kernel
theorem dX8_does_263 : decode cX8_does 263 = .ok (.bipush 10, 2) := by decide +kernel
theorem dX8_does_265 : decode cX8_does 265 = .ok (.if_icmp .ge 23, 3) := by decide +kernel
theorem dX8_does_268 : decode cX8_does 268 = .ok (.aload_n 0, 1) := by decide +kernel
theorem dX8_does_269 : decode cX8_does 269 = .ok (.aload_n 0, 1) := by decide +kernel
theorem dX8_does_270 : decode cX8_does 270 = .ok (.getfield 19, 3) := by decide +kernel
theorem dX8_does_273 : decode cX8_does 273 = .ok (.invokevirtual 205, 3) := by decide +kernel
theorem dX8_does_276 : decode cX8_does 276 = .ok (.iload_n 1, 1) := by decide +kernel
theorem dX8_does_277 : decode cX8_does 277 = .ok (.sipush 1000, 3) := by decide +kernel
theorem dX8_does_280 : decode cX8_does 280 = .ok (.irem, 1) := by decide +kernel
theorem dX8_does_281 : decode cX8_does 281 = .ok (.if_icmp .gt 7, 3) := by decide +kernel
theorem dX8_does_284 : decode cX8_does 284 = .ok (.iconst 1, 1) := by decide +kernel
theorem dX8_does_285 : decode cX8_does 285 = .ok (.goto 4, 3) := by decide +kernel
theorem dX8_does_288 : decode cX8_does 288 = .ok (.iconst 0, 1) := by decide +kernel
theorem dX8_does_289 : decode cX8_does 289 = .ok (.ireturn, 1) := by decide +kernel
theorem dX8_does_290 : decode cX8_does 290 = .ok (.iconst 0, 1) := by decide +kernel
theorem dX8_does_291 : decode cX8_does 291 = .ok (.ireturn, 1) := by decide +kernel
theorem dX8_runScript_0 : decode cX8_runScript 0 = .ok (.iload_n 1, 1) := by decide +kernel
theorem dX8_runScript_1 : decode cX8_runScript 1 = .ok (.i2l, 1) := by decide +kernel
theorem dX8_runScript_2 : decode cX8_runScript 2 = .ok (.lconst 1, 1) := by decide +kernel
theorem dX8_runScript_3 : decode cX8_runScript 3 = .ok (.ldc2_w 278, 3) := by decide +kernel
theorem dX8_runScript_6 : decode cX8_runScript 6 = .ok (.invokestatic 60, 3) := by decide +kernel
theorem dX8_runScript_9 : decode cX8_runScript 9 = .ok (.istore 4, 2) := by decide +kernel
theorem dX8_runScript_11 : decode cX8_runScript 11 = .ok (.aload_n 0, 1) := by decide +kernel
theorem dX8_runScript_12 : decode cX8_runScript 12 = .ok (.iload 4, 2) := by decide +kernel
theorem dX8_runScript_14 : decode cX8_runScript 14 = .ok (.ifCond .eq 32, 3) := by decide +kernel
theorem dX8_runScript_17 : decode cX8_runScript 17 = .ok (.lload_n 2, 1) := by decide +kernel
theorem dX8_runScript_18 : decode cX8_runScript 18 = .ok (.lconst 0, 1) := by decide +kernel
theorem dX8_runScript_19 : decode cX8_runScript 19 = .ok (.iload 4, 2) := by decide +kernel
theorem dX8_runScript_21 : decode cX8_runScript 21 = .ok (.ifCond .eq 9, 3) := by decide +kernel
theorem dX8_runScript_24 : decode cX8_runScript 24 = .ok (.iconst 5, 1) := by decide +kernel
theorem dX8_runScript_25 : decode cX8_runScript 25 = .ok (.iload_n 1, 1) := by decide +kernel
theorem dX8_runScript_26 : decode cX8_runScript 26 = .ok (.imul, 1) := by decide +kernel
theorem dX8_runScript_27 : decode cX8_runScript 27 = .ok (.goto 4, 3) := by decide +kernel
theorem dX8_runScript_30 : decode cX8_runScript 30 = .ok (.iconst 0, 1) := by decide +kernel
theorem dX8_runScript_31 : decode cX8_runScript 31 = .ok (.invokestatic 280, 3) := by decide +kernel
theorem dX8_runScript_34 : decode cX8_runScript 34 = .ok (.lconst 1, 1) := by decide +kernel
theorem dX8_runScript_35 : decode cX8_runScript 35 = .ok (.lsub, 1) := by decide +kernel
theorem dX8_runScript_36 : decode cX8_runScript 36 = .ok (.invokestatic 60, 3) := by decide +kernel
theorem dX8_runScript_39 : decode cX8_runScript 39 = .ok (.ifCond .eq 7, 3) := by decide +kernel
theorem dX8_runScript_42 : decode cX8_runScript 42 = .ok (.iconst 0, 1) := by decide +kernel
theorem dX8_runScript_43 : decode cX8_runScript 43 = .ok (.goto 4, 3) := by decide +kernel
theorem dX8_runScript_46 : decode cX8_runScript 46 = .ok (.iconst 1, 1) := by decide +kernel
theorem dX8_runScript_47 : decode cX8_runScript 47 = .ok (.invokevirtual 111, 3) := by decide +kernel
theorem dX8_runScript_50 : decode cX8_runScript 50 = .ok (.ifCond .eq 5, 3) := by decide +kernel
theorem dX8_runScript_53 : decode cX8_runScript 53 = .ok (.iconst 0, 1) := by decide +kernel
theorem dX8_runScript_54 : decode cX8_runScript 54 = .ok (.ireturn, 1) := by decide +kernel
theorem dX8_runScript_55 : decode cX8_runScript 55 = .ok (.aload_n 0, 1) := by decide +kernel
theorem dX8_runScript_56 : decode cX8_runScript 56 = .ok (.invokevirtual 227, 3) := by decide +kernel
theorem dX8_runScript_59 : decode cX8_runScript 59 = .ok (.iconst 0, 1) := by decide +kernel
theorem dX8_runScript_60 : decode cX8_runScript 60 = .ok (.istore 5, 2) := by decide +kernel
theorem dX8_runScript_62 : decode cX8_runScript 62 = .ok (.iload 5, 2) := by decide +kernel
theorem dX8_runScript_64 : decode cX8_runScript 64 = .ok (.iload_n 1, 1) := by decide +kernel
theorem dX8_runScript_65 : decode cX8_runScript 65 = .ok (.if_icmp .ge 37, 3) := by decide +kernel
theorem dX8_runScript_68 : decode cX8_runScript 68 = .ok (.aload_n 0, 1) := by decide +kernel
theorem dX8_runScript_69 : decode cX8_runScript 69 = .ok (.lload_n 2, 1) := by decide +kernel
theorem dX8_runScript_70 : decode cX8_runScript 70 = .ok (.iconst 5, 1) := by decide +kernel
theorem dX8_runScript_71 : decode cX8_runScript 71 = .ok (.iload_n 1, 1) := by decide +kernel
theorem dX8_runScript_72 : decode cX8_runScript 72 = .ok (.iconst 1, 1) := by decide +kernel
theorem dX8_runScript_73 : decode cX8_runScript 73 = .ok (.isub, 1) := by decide +kernel
theorem dX8_runScript_74 : decode cX8_runScript 74 = .ok (.iload 5, 2) := by decide +kernel
theorem dX8_runScript_76 : decode cX8_runScript 76 = .ok (.isub, 1) := by decide +kernel
theorem dX8_runScript_77 : decode cX8_runScript 77 = .ok (.imul, 1) := by decide +kernel
theorem dX8_runScript_78 : decode cX8_runScript 78 = .ok (.invokestatic 280, 3) := by decide +kernel
theorem dX8_runScript_81 : decode cX8_runScript 81 = .ok (.ldiv, 1) := by decide +kernel
theorem dX8_runScript_82 : decode cX8_runScript 82 = .ok (.ldc2_w 284, 3) := by decide +kernel
theorem dX8_runScript_85 : decode cX8_runScript 85 = .ok (.lrem, 1) := by decide +kernel
theorem dX8_runScript_86 : decode cX8_runScript 86 = .ok (.l2i, 1) := by decide +kernel
theorem dX8_runScript_87 : decode cX8_runScript 87 = .ok (.invokevirtual 286, 3) := by decide +kernel
theorem dX8_runScript_90 : decode cX8_runScript 90 = .ok (.ifCond .ne 6, 3) := by decide +kernel
theorem dX8_runScript_93 : decode cX8_runScript 93 = .ok (.iload 5, 2) := by decide +kernel
theorem dX8_runScript_95 : decode cX8_runScript 95 = .ok (.ireturn, 1) := by decide +kernel
theorem dX8_runScript_96 : decode cX8_runScript 96 = .ok (.iinc 5 1, 3) := by decide +kernel
theorem dX8_runScript_99 : decode cX8_runScript 99 = .ok (.goto (-37), 3) := by decide +kernel
theorem dX8_runScript_102 : decode cX8_runScript 102 = .ok (.bipush (-9), 2) := by decide +kernel
theorem dX8_runScript_104 : decode cX8_runScript 104 = .ok (.ireturn, 1) := by decide +kernel
theorem dX8_stir_0 : decode cX8_stir 0 = .ok (.iload_n 1, 1) := by decide +kernel
theorem dX8_stir_1 : decode cX8_stir 1 = .ok (.bipush 16, 2) := by decide +kernel
theorem dX8_stir_3 : decode cX8_stir 3 = .ok (.idiv, 1) := by decide +kernel
theorem dX8_stir_4 : decode cX8_stir 4 = .ok (.bipush 24, 2) := by decide +kernel
theorem dX8_stir_6 : decode cX8_stir 6 = .ok (.irem, 1) := by decide +kernel
theorem dX8_stir_7 : decode cX8_stir 7 = .ok (.istore_n 2, 1) := by decide +kernel
theorem dX8_stir_8 : decode cX8_stir 8 = .ok (.iload_n 1, 1) := by decide +kernel
theorem dX8_stir_9 : decode cX8_stir 9 = .ok (.sipush 512, 3) := by decide +kernel
theorem dX8_stir_12 : decode cX8_stir 12 = .ok (.idiv, 1) := by decide +kernel
theorem dX8_stir_13 : decode cX8_stir 13 = .ok (.bipush 28, 2) := by decide +kernel
theorem dX8_stir_15 : decode cX8_stir 15 = .ok (.irem, 1) := by decide +kernel
theorem dX8_stir_16 : decode cX8_stir 16 = .ok (.iconst 4, 1) := by decide +kernel
theorem dX8_stir_17 : decode cX8_stir 17 = .ok (.isub, 1) := by decide +kernel
theorem dX8_stir_18 : decode cX8_stir 18 = .ok (.istore_n 3, 1) := by decide +kernel
theorem dX8_stir_19 : decode cX8_stir 19 = .ok (.aload_n 0, 1) := by decide +kernel
theorem dX8_stir_20 : decode cX8_stir 20 = .ok (.iload_n 3, 1) := by decide +kernel
theorem dX8_stir_21 : decode cX8_stir 21 = .ok (.iload_n 2, 1) := by decide +kernel
theorem dX8_stir_22 : decode cX8_stir 22 = .ok (.invokevirtual 249, 3) := by decide +kernel
theorem dX8_stir_25 : decode cX8_stir 25 = .ok (.istore 4, 2) := by decide +kernel
theorem dX8_stir_27 : decode cX8_stir 27 = .ok (.iload_n 1, 1) := by decide +kernel
theorem dX8_stir_28 : decode cX8_stir 28 = .ok (.bipush 8, 2) := by decide +kernel
theorem dX8_stir_30 : decode cX8_stir 30 = .ok (.irem, 1) := by decide +kernel
theorem dX8_stir_31 : decode cX8_stir 31 = .ok (.tableswitch 137 0 5 #[37, 37, 47, 57, 79, 112], 37) := by decide +kernel
theorem dX8_stir_68 : decode cX8_stir 68 = .ok (.aload_n 0, 1) := by decide +kernel
theorem dX8_stir_69 : decode cX8_stir 69 = .ok (.iload_n 3, 1) := by decide +kernel
theorem dX8_stir_70 : decode cX8_stir 70 = .ok (.iload_n 2, 1) := by decide +kernel
theorem dX8_stir_71 : decode cX8_stir 71 = .ok (.invokevirtual 258, 3) := by decide +kernel
theorem dX8_stir_74 : decode cX8_stir 74 = .ok (.pop, 1) := by decide +kernel
theorem dX8_stir_75 : decode cX8_stir 75 = .ok (.goto 122, 3) := by decide +kernel
theorem dX8_stir_78 : decode cX8_stir 78 = .ok (.aload_n 0, 1) := by decide +kernel
theorem dX8_stir_79 : decode cX8_stir 79 = .ok (.iload_n 3, 1) := by decide +kernel
theorem dX8_stir_80 : decode cX8_stir 80 = .ok (.iload_n 2, 1) := by decide +kernel
theorem dX8_stir_81 : decode cX8_stir 81 = .ok (.invokevirtual 262, 3) := by decide +kernel
theorem dX8_stir_84 : decode cX8_stir 84 = .ok (.pop, 1) := by decide +kernel
theorem dX8_stir_85 : decode cX8_stir 85 = .ok (.goto 112, 3) := by decide +kernel
theorem dX8_stir_88 : decode cX8_stir 88 = .ok (.iload 4, 2) := by decide +kernel
theorem dX8_stir_90 : decode cX8_stir 90 = .ok (.bipush (-9), 2) := by decide +kernel
theorem dX8_stir_92 : decode cX8_stir 92 = .ok (.if_icmp .eq 105, 3) := by decide +kernel
theorem dX8_stir_95 : decode cX8_stir 95 = .ok (.aload_n 0, 1) := by decide +kernel
theorem dX8_stir_96 : decode cX8_stir 96 = .ok (.getfield 19, 3) := by decide +kernel
theorem dX8_stir_99 : decode cX8_stir 99 = .ok (.iload 4, 2) := by decide +kernel
theorem dX8_stir_101 : decode cX8_stir 101 = .ok (.iconst 2, 1) := by decide +kernel
theorem dX8_stir_102 : decode cX8_stir 102 = .ok (.invokestatic 78, 3) := by decide +kernel
theorem dX8_stir_105 : decode cX8_stir 105 = .ok (.iconst 0, 1) := by decide +kernel
theorem dX8_stir_106 : decode cX8_stir 106 = .ok (.iastore, 1) := by decide +kernel
theorem dX8_stir_107 : decode cX8_stir 107 = .ok (.goto 90, 3) := by decide +kernel
theorem dX8_stir_110 : decode cX8_stir 110 = .ok (.iload 4, 2) := by decide +kernel
theorem dX8_stir_112 : decode cX8_stir 112 = .ok (.bipush (-9), 2) := by decide +kernel
theorem dX8_stir_114 : decode cX8_stir 114 = .ok (.if_icmp .eq 83, 3) := by decide +kernel
theorem dX8_stir_117 : decode cX8_stir 117 = .ok (.aload_n 0, 1) := by decide +kernel
theorem dX8_stir_118 : decode cX8_stir 118 = .ok (.getfield 19, 3) := by decide +kernel
theorem dX8_stir_121 : decode cX8_stir 121 = .ok (.iload 4, 2) := by decide +kernel
theorem dX8_stir_123 : decode cX8_stir 123 = .ok (.iconst 2, 1) := by decide +kernel
theorem dX8_stir_124 : decode cX8_stir 124 = .ok (.invokestatic 78, 3) := by decide +kernel
theorem dX8_stir_127 : decode cX8_stir 127 = .ok (.iaload, 1) := by decide +kernel
theorem dX8_stir_128 : decode cX8_stir 128 = .ok (.ifCond .ne 69, 3) := by decide +kernel
theorem dX8_stir_131 : decode cX8_stir 131 = .ok (.aload_n 0, 1) := by decide +kernel
theorem dX8_stir_132 : decode cX8_stir 132 = .ok (.getfield 19, 3) := by decide +kernel
theorem dX8_stir_135 : decode cX8_stir 135 = .ok (.iload 4, 2) := by decide +kernel
theorem dX8_stir_137 : decode cX8_stir 137 = .ok (.invokestatic 158, 3) := by decide +kernel
theorem dX8_stir_140 : decode cX8_stir 140 = .ok (.goto 57, 3) := by decide +kernel
theorem dX8_stir_143 : decode cX8_stir 143 = .ok (.aload_n 0, 1) := by decide +kernel
theorem dX8_stir_144 : decode cX8_stir 144 = .ok (.iload_n 1, 1) := by decide +kernel
theorem dX8_stir_145 : decode cX8_stir 145 = .ok (.sipush 16384, 3) := by decide +kernel
theorem dX8_stir_148 : decode cX8_stir 148 = .ok (.idiv, 1) := by decide +kernel
theorem dX8_stir_149 : decode cX8_stir 149 = .ok (.iconst 2, 1) := by decide +kernel
theorem dX8_stir_150 : decode cX8_stir 150 = .ok (.irem, 1) := by decide +kernel
theorem dX8_stir_151 : decode cX8_stir 151 = .ok (.iconst 1, 1) := by decide +kernel
theorem dX8_stir_152 : decode cX8_stir 152 = .ok (.if_icmp .ne 7, 3) := by decide +kernel
theorem dX8_stir_155 : decode cX8_stir 155 = .ok (.iconst 0, 1) := by decide +kernel
theorem dX8_stir_156 : decode cX8_stir 156 = .ok (.goto 4, 3) := by decide +kernel
theorem dX8_stir_159 : decode cX8_stir 159 = .ok (.iconst 1, 1) := by decide +kernel
theorem dX8_stir_160 : decode cX8_stir 160 = .ok (.iload_n 2, 1) := by decide +kernel
theorem dX8_stir_161 : decode cX8_stir 161 = .ok (.invokevirtual 265, 3) := by decide +kernel
theorem dX8_stir_164 : decode cX8_stir 164 = .ok (.pop, 1) := by decide +kernel
theorem dX8_stir_165 : decode cX8_stir 165 = .ok (.goto 32, 3) := by decide +kernel
theorem dX8_stir_168 : decode cX8_stir 168 = .ok (.aload_n 0, 1) := by decide +kernel
theorem dX8_stir_169 : decode cX8_stir 169 = .ok (.getfield 19, 3) := by decide +kernel
theorem dX8_stir_172 : decode cX8_stir 172 = .ok (.iconst 3, 1) := by decide +kernel
theorem dX8_stir_173 : decode cX8_stir 173 = .ok (.iaload, 1) := by decide +kernel
theorem dX8_stir_174 : decode cX8_stir 174 = .ok (.iconst 1, 1) := by decide +kernel
theorem dX8_stir_175 : decode cX8_stir 175 = .ok (.if_icmp .ne 14, 3) := by decide +kernel
theorem dX8_stir_178 : decode cX8_stir 178 = .ok (.aload_n 0, 1) := by decide +kernel
theorem dX8_stir_179 : decode cX8_stir 179 = .ok (.getfield 19, 3) := by decide +kernel
theorem dX8_stir_182 : decode cX8_stir 182 = .ok (.invokestatic 172, 3) := by decide +kernel
theorem dX8_stir_185 : decode cX8_stir 185 = .ok (.pop, 1) := by decide +kernel
theorem dX8_stir_186 : decode cX8_stir 186 = .ok (.goto 11, 3) := by decide +kernel
theorem dX8_stir_189 : decode cX8_stir 189 = .ok (.aload_n 0, 1) := by decide +kernel
theorem dX8_stir_190 : decode cX8_stir 190 = .ok (.getfield 19, 3) := by decide +kernel
theorem dX8_stir_193 : decode cX8_stir 193 = .ok (.invokestatic 169, 3) := by decide +kernel
theorem dX8_stir_196 : decode cX8_stir 196 = .ok (.pop, 1) := by decide +kernel
theorem dX8_stir_197 : decode cX8_stir 197 = .ok (.return_, 1) := by decide +kernel
theorem dX8_simulate_0 : decode cX8_simulate 0 = .ok (.aload_n 0, 1) := by decide +kernel
theorem dX8_simulate_1 : decode cX8_simulate 1 = .ok (.iload_n 3, 1) := by decide +kernel
theorem dX8_simulate_2 : decode cX8_simulate 2 = .ok (.i2l, 1) := by decide +kernel
theorem dX8_simulate_3 : decode cX8_simulate 3 = .ok (.lconst 1, 1) := by decide +kernel
theorem dX8_simulate_4 : decode cX8_simulate 4 = .ok (.ldc2_w 289, 3) := by decide +kernel
theorem dX8_simulate_7 : decode cX8_simulate 7 = .ok (.invokestatic 60, 3) := by decide +kernel
theorem dX8_simulate_10 : decode cX8_simulate 10 = .ok (.ifCond .eq 7, 3) := by decide +kernel
theorem dX8_simulate_13 : decode cX8_simulate 13 = .ok (.iconst 0, 1) := by decide +kernel
theorem dX8_simulate_14 : decode cX8_simulate 14 = .ok (.goto 4, 3) := by decide +kernel
theorem dX8_simulate_17 : decode cX8_simulate 17 = .ok (.iconst 1, 1) := by decide +kernel
theorem dX8_simulate_18 : decode cX8_simulate 18 = .ok (.invokevirtual 111, 3) := by decide +kernel
theorem dX8_simulate_21 : decode cX8_simulate 21 = .ok (.ifCond .eq 5, 3) := by decide +kernel
theorem dX8_simulate_24 : decode cX8_simulate 24 = .ok (.iconst 0, 1) := by decide +kernel
theorem dX8_simulate_25 : decode cX8_simulate 25 = .ok (.ireturn, 1) := by decide +kernel
theorem dX8_simulate_26 : decode cX8_simulate 26 = .ok (.aload_n 0, 1) := by decide +kernel
theorem dX8_simulate_27 : decode cX8_simulate 27 = .ok (.invokevirtual 227, 3) := by decide +kernel
theorem dX8_simulate_30 : decode cX8_simulate 30 = .ok (.lload_n 1, 1) := by decide +kernel
theorem dX8_simulate_31 : decode cX8_simulate 31 = .ok (.lstore 4, 2) := by decide +kernel
theorem dX8_simulate_33 : decode cX8_simulate 33 = .ok (.iconst 0, 1) := by decide +kernel
theorem dX8_simulate_34 : decode cX8_simulate 34 = .ok (.istore 6, 2) := by decide +kernel
theorem dX8_simulate_36 : decode cX8_simulate 36 = .ok (.iload 6, 2) := by decide +kernel
theorem dX8_simulate_38 : decode cX8_simulate 38 = .ok (.iload_n 3, 1) := by decide +kernel
theorem dX8_simulate_39 : decode cX8_simulate 39 = .ok (.if_icmp .ge 31, 3) := by decide +kernel
theorem dX8_simulate_42 : decode cX8_simulate 42 = .ok (.lload 4, 2) := by decide +kernel
theorem dX8_simulate_44 : decode cX8_simulate 44 = .ok (.ldc2_w 291, 3) := by decide +kernel
theorem dX8_simulate_47 : decode cX8_simulate 47 = .ok (.lmul, 1) := by decide +kernel
theorem dX8_simulate_48 : decode cX8_simulate 48 = .ok (.ldc2_w 293, 3) := by decide +kernel
theorem dX8_simulate_51 : decode cX8_simulate 51 = .ok (.ladd, 1) := by decide +kernel
theorem dX8_simulate_52 : decode cX8_simulate 52 = .ok (.lstore 4, 2) := by decide +kernel
theorem dX8_simulate_54 : decode cX8_simulate 54 = .ok (.aload_n 0, 1) := by decide +kernel
theorem dX8_simulate_55 : decode cX8_simulate 55 = .ok (.lload 4, 2) := by decide +kernel
theorem dX8_simulate_57 : decode cX8_simulate 57 = .ok (.bipush 33, 2) := by decide +kernel
theorem dX8_simulate_59 : decode cX8_simulate 59 = .ok (.lushr, 1) := by decide +kernel
theorem dX8_simulate_60 : decode cX8_simulate 60 = .ok (.l2i, 1) := by decide +kernel
theorem dX8_simulate_61 : decode cX8_simulate 61 = .ok (.invokevirtual 295, 3) := by decide +kernel
theorem dX8_simulate_64 : decode cX8_simulate 64 = .ok (.iinc 6 1, 3) := by decide +kernel
theorem dX8_simulate_67 : decode cX8_simulate 67 = .ok (.goto (-31), 3) := by decide +kernel
theorem dX8_simulate_70 : decode cX8_simulate 70 = .ok (.sipush 1000, 3) := by decide +kernel
theorem dX8_simulate_73 : decode cX8_simulate 73 = .ok (.aload_n 0, 1) := by decide +kernel
theorem dX8_simulate_74 : decode cX8_simulate 74 = .ok (.getfield 19, 3) := by decide +kernel
theorem dX8_simulate_77 : decode cX8_simulate 77 = .ok (.iconst 1, 1) := by decide +kernel
theorem dX8_simulate_78 : decode cX8_simulate 78 = .ok (.iaload, 1) := by decide +kernel
theorem dX8_simulate_79 : decode cX8_simulate 79 = .ok (.aload_n 0, 1) := by decide +kernel
theorem dX8_simulate_80 : decode cX8_simulate 80 = .ok (.getfield 16, 3) := by decide +kernel
theorem dX8_simulate_83 : decode cX8_simulate 83 = .ok (.iconst 1, 1) := by decide +kernel
theorem dX8_simulate_84 : decode cX8_simulate 84 = .ok (.iaload, 1) := by decide +kernel
theorem dX8_simulate_85 : decode cX8_simulate 85 = .ok (.isub, 1) := by decide +kernel
theorem dX8_simulate_86 : decode cX8_simulate 86 = .ok (.imul, 1) := by decide +kernel
theorem dX8_simulate_87 : decode cX8_simulate 87 = .ok (.aload_n 0, 1) := by decide +kernel
theorem dX8_simulate_88 : decode cX8_simulate 88 = .ok (.aload_n 0, 1) := by decide +kernel
theorem dX8_simulate_89 : decode cX8_simulate 89 = .ok (.getfield 19, 3) := by decide +kernel
theorem dX8_simulate_92 : decode cX8_simulate 92 = .ok (.invokevirtual 205, 3) := by decide +kernel
theorem dX8_simulate_95 : decode cX8_simulate 95 = .ok (.iadd, 1) := by decide +kernel
theorem dX8_simulate_96 : decode cX8_simulate 96 = .ok (.ireturn, 1) := by decide +kernel
theorem dX8_save_0 : decode cX8_save 0 = .ok (.aload_n 0, 1) := by decide +kernel
theorem dX8_save_1 : decode cX8_save 1 = .ok (.iload_n 1, 1) := by decide +kernel
theorem dX8_save_2 : decode cX8_save 2 = .ok (.i2l, 1) := by decide +kernel
theorem dX8_save_3 : decode cX8_save 3 = .ok (.lconst 0, 1) := by decide +kernel
theorem dX8_save_4 : decode cX8_save 4 = .ok (.lconst 1, 1) := by decide +kernel
theorem dX8_save_5 : decode cX8_save 5 = .ok (.invokestatic 60, 3) := by decide +kernel
theorem dX8_save_8 : decode cX8_save 8 = .ok (.ifCond .eq 7, 3) := by decide +kernel
theorem dX8_save_11 : decode cX8_save 11 = .ok (.iconst 0, 1) := by decide +kernel
theorem dX8_save_12 : decode cX8_save 12 = .ok (.goto 4, 3) := by decide +kernel
theorem dX8_save_15 : decode cX8_save 15 = .ok (.iconst 1, 1) := by decide +kernel
theorem dX8_save_16 : decode cX8_save 16 = .ok (.invokevirtual 111, 3) := by decide +kernel
theorem dX8_save_19 : decode cX8_save 19 = .ok (.ifCond .eq 5, 3) := by decide +kernel
theorem dX8_save_22 : decode cX8_save 22 = .ok (.iconst 0, 1) := by decide +kernel
theorem dX8_save_23 : decode cX8_save 23 = .ok (.ireturn, 1) := by decide +kernel
theorem dX8_save_24 : decode cX8_save 24 = .ok (.aload_n 0, 1) := by decide +kernel
theorem dX8_save_25 : decode cX8_save 25 = .ok (.getfield 16, 3) := by decide +kernel
theorem dX8_save_28 : decode cX8_save 28 = .ok (.iconst 0, 1) := by decide +kernel
theorem dX8_save_29 : decode cX8_save 29 = .ok (.aload_n 0, 1) := by decide +kernel
theorem dX8_save_30 : decode cX8_save 30 = .ok (.getfield 25, 3) := by decide +kernel
theorem dX8_save_33 : decode cX8_save 33 = .ok (.sipush 247, 3) := by decide +kernel
theorem dX8_save_36 : decode cX8_save 36 = .ok (.iload_n 1, 1) := by decide +kernel
theorem dX8_save_37 : decode cX8_save 37 = .ok (.imul, 1) := by decide +kernel
theorem dX8_save_38 : decode cX8_save 38 = .ok (.sipush 247, 3) := by decide +kernel
theorem dX8_save_41 : decode cX8_save 41 = .ok (.invokestatic 56, 3) := by decide +kernel
theorem dX8_save_44 : decode cX8_save 44 = .ok (.aload_n 0, 1) := by decide +kernel
theorem dX8_save_45 : decode cX8_save 45 = .ok (.getfield 28, 3) := by decide +kernel
theorem dX8_save_48 : decode cX8_save 48 = .ok (.iload_n 1, 1) := by decide +kernel
theorem dX8_save_49 : decode cX8_save 49 = .ok (.iconst 1, 1) := by decide +kernel
theorem dX8_save_50 : decode cX8_save 50 = .ok (.bastore, 1) := by decide +kernel
theorem dX8_save_51 : decode cX8_save 51 = .ok (.aload_n 0, 1) := by decide +kernel
theorem dX8_save_52 : decode cX8_save 52 = .ok (.getfield 16, 3) := by decide +kernel
theorem dX8_save_55 : decode cX8_save 55 = .ok (.iconst 0, 1) := by decide +kernel
theorem dX8_save_56 : decode cX8_save 56 = .ok (.iaload, 1) := by decide +kernel
theorem dX8_save_57 : decode cX8_save 57 = .ok (.aload_n 0, 1) := by decide +kernel
theorem dX8_save_58 : decode cX8_save 58 = .ok (.getfield 16, 3) := by decide +kernel
theorem dX8_save_61 : decode cX8_save 61 = .ok (.iconst 1, 1) := by decide +kernel
theorem dX8_save_62 : decode cX8_save 62 = .ok (.iaload, 1) := by decide +kernel
theorem dX8_save_63 : decode cX8_save 63 = .ok (.isub, 1) := by decide +kernel
theorem dX8_save_64 : decode cX8_save 64 = .ok (.ireturn, 1) := by decide +kernel
theorem dX8_restore_0 : decode cX8_restore 0 = .ok (.aload_n 0, 1) := by decide +kernel
theorem dX8_restore_1 : decode cX8_restore 1 = .ok (.iload_n 1, 1) := by decide +kernel
theorem dX8_restore_2 : decode cX8_restore 2 = .ok (.i2l, 1) := by decide +kernel
theorem dX8_restore_3 : decode cX8_restore 3 = .ok (.lconst 0, 1) := by decide +kernel
theorem dX8_restore_4 : decode cX8_restore 4 = .ok (.lconst 1, 1) := by decide +kernel
theorem dX8_restore_5 : decode cX8_restore 5 = .ok (.invokestatic 60, 3) := by decide +kernel
theorem dX8_restore_8 : decode cX8_restore 8 = .ok (.ifCond .ne 7, 3) := by decide +kernel
theorem dX8_restore_11 : decode cX8_restore 11 = .ok (.iconst 1, 1) := by decide +kernel
theorem dX8_restore_12 : decode cX8_restore 12 = .ok (.goto 17, 3) := by decide +kernel
theorem dX8_restore_15 : decode cX8_restore 15 = .ok (.aload_n 0, 1) := by decide +kernel
theorem dX8_restore_16 : decode cX8_restore 16 = .ok (.getfield 28, 3) := by decide +kernel
theorem dX8_restore_19 : decode cX8_restore 19 = .ok (.iload_n 1, 1) := by decide +kernel
theorem dX8_restore_20 : decode cX8_restore 20 = .ok (.baload, 1) := by decide +kernel
theorem dX8_restore_21 : decode cX8_restore 21 = .ok (.ifCond .eq 7, 3) := by decide +kernel
theorem dX8_restore_24 : decode cX8_restore 24 = .ok (.iconst 0, 1) := by decide +kernel
theorem dX8_restore_25 : decode cX8_restore 25 = .ok (.goto 4, 3) := by decide +kernel
theorem dX8_restore_28 : decode cX8_restore 28 = .ok (.iconst 2, 1) := by decide +kernel
theorem dX8_restore_29 : decode cX8_restore 29 = .ok (.invokevirtual 111, 3) := by decide +kernel
theorem dX8_restore_32 : decode cX8_restore 32 = .ok (.ifCond .eq 5, 3) := by decide +kernel
theorem dX8_restore_35 : decode cX8_restore 35 = .ok (.iconst 0, 1) := by decide +kernel
theorem dX8_restore_36 : decode cX8_restore 36 = .ok (.ireturn, 1) := by decide +kernel
theorem dX8_restore_37 : decode cX8_restore 37 = .ok (.aload_n 0, 1) := by decide +kernel
theorem dX8_restore_38 : decode cX8_restore 38 = .ok (.getfield 25, 3) := by decide +kernel
theorem dX8_restore_41 : decode cX8_restore 41 = .ok (.sipush 247, 3) := by decide +kernel
theorem dX8_restore_44 : decode cX8_restore 44 = .ok (.iload_n 1, 1) := by decide +kernel
theorem dX8_restore_45 : decode cX8_restore 45 = .ok (.imul, 1) := by decide +kernel
theorem dX8_restore_46 : decode cX8_restore 46 = .ok (.aload_n 0, 1) := by decide +kernel
theorem dX8_restore_47 : decode cX8_restore 47 = .ok (.getfield 16, 3) := by decide +kernel
theorem dX8_restore_50 : decode cX8_restore 50 = .ok (.iconst 0, 1) := by decide +kernel
theorem dX8_restore_51 : decode cX8_restore 51 = .ok (.sipush 247, 3) := by decide +kernel
theorem dX8_restore_54 : decode cX8_restore 54 = .ok (.invokestatic 56, 3) := by decide +kernel
theorem dX8_restore_57 : decode cX8_restore 57 = .ok (.aload_n 0, 1) := by decide +kernel
theorem dX8_restore_58 : decode cX8_restore 58 = .ok (.iconst 0, 1) := by decide +kernel
theorem dX8_restore_59 : decode cX8_restore 59 = .ok (.putfield 53, 3) := by decide +kernel
theorem dX8_restore_62 : decode cX8_restore 62 = .ok (.aload_n 0, 1) := by decide +kernel
theorem dX8_restore_63 : decode cX8_restore 63 = .ok (.getfield 16, 3) := by decide +kernel
theorem dX8_restore_66 : decode cX8_restore 66 = .ok (.iconst 0, 1) := by decide +kernel
theorem dX8_restore_67 : decode cX8_restore 67 = .ok (.iaload, 1) := by decide +kernel
theorem dX8_restore_68 : decode cX8_restore 68 = .ok (.aload_n 0, 1) := by decide +kernel
theorem dX8_restore_69 : decode cX8_restore 69 = .ok (.getfield 16, 3) := by decide +kernel
theorem dX8_restore_72 : decode cX8_restore 72 = .ok (.iconst 1, 1) := by decide +kernel
theorem dX8_restore_73 : decode cX8_restore 73 = .ok (.iaload, 1) := by decide +kernel
theorem dX8_restore_74 : decode cX8_restore 74 = .ok (.isub, 1) := by decide +kernel
theorem dX8_restore_75 : decode cX8_restore 75 = .ok (.ireturn, 1) := by decide +kernel
