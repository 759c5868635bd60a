theorem dX0_init_0 : decode cX0_init 0 = .ok (.aload_n 0, 1) := by decide +kernel
theorem dX0_init_1 : decode cX0_init 1 = .ok (.invokespecial 3, 3) := by decide +kernel
theorem dX0_init_4 : decode cX0_init 4 = .ok (.aload_n 0, 1) := by decide +kernel
theorem dX0_init_5 : decode cX0_init 5 = .ok (.iconst 5, 1) := by decide +kernel
theorem dX0_init_6 : decode cX0_init 6 = .ok (.newarray .int, 2) := by decide +kernel
theorem dX0_init_8 : decode cX0_init 8 = .ok (.putfield 11, 3) := by decide +kernel
theorem dX0_init_11 : decode cX0_init 11 = .ok (.aload_n 0, 1) := by decide +kernel
theorem dX0_init_12 : decode cX0_init 12 = .ok (.bipush 6, 2) := by decide +kernel
theorem dX0_init_14 : decode cX0_init 14 = .ok (.newarray .int, 2) := by decide +kernel
theorem dX0_init_16 : decode cX0_init 16 = .ok (.putfield 15, 3) := by decide +kernel
theorem dX0_init_19 : decode cX0_init 19 = .ok (.aload_n 0, 1) := by decide +kernel
theorem dX0_init_20 : decode cX0_init 20 = .ok (.bipush 6, 2) := by decide +kernel
theorem dX0_init_22 : decode cX0_init 22 = .ok (.newarray .long, 2) := by decide +kernel
theorem dX0_init_24 : decode cX0_init 24 = .ok (.putfield 18, 3) := by decide +kernel
theorem dX0_init_27 : decode cX0_init 27 = .ok (.aload_n 0, 1) := by decide +kernel
theorem dX0_init_28 : decode cX0_init 28 = .ok (.iconst 1, 1) := by decide +kernel
theorem dX0_init_29 : decode cX0_init 29 = .ok (.invokevirtual 22, 3) := by decide +kernel
theorem dX0_init_32 : decode cX0_init 32 = .ok (.return_, 1) := by decide +kernel
theorem dX0_makeAnew_0 : decode cX0_makeAnew 0 = .ok (.aload_n 0, 1) := by decide +kernel
theorem dX0_makeAnew_1 : decode cX0_makeAnew 1 = .ok (.iload_n 1, 1) := by decide +kernel
theorem dX0_makeAnew_2 : decode cX0_makeAnew 2 = .ok (.putfield 26, 3) := by decide +kernel
theorem dX0_makeAnew_5 : decode cX0_makeAnew 5 = .ok (.aload_n 0, 1) := by decide +kernel
theorem dX0_makeAnew_6 : decode cX0_makeAnew 6 = .ok (.getfield 11, 3) := by decide +kernel
theorem dX0_makeAnew_9 : decode cX0_makeAnew 9 = .ok (.iconst 1, 1) := by decide +kernel
theorem dX0_makeAnew_10 : decode cX0_makeAnew 10 = .ok (.invokestatic 30, 3) := by decide +kernel
theorem dX0_makeAnew_13 : decode cX0_makeAnew 13 = .ok (.aload_n 0, 1) := by decide +kernel
theorem dX0_makeAnew_14 : decode cX0_makeAnew 14 = .ok (.getfield 15, 3) := by decide +kernel
theorem dX0_makeAnew_17 : decode cX0_makeAnew 17 = .ok (.iconst 1, 1) := by decide +kernel
theorem dX0_makeAnew_18 : decode cX0_makeAnew 18 = .ok (.invokestatic 30, 3) := by decide +kernel
theorem dX0_makeAnew_21 : decode cX0_makeAnew 21 = .ok (.return_, 1) := by decide +kernel
theorem dX0_fillMinors_0 : decode cX0_fillMinors 0 = .ok (.aload_n 0, 1) := by decide +kernel
theorem dX0_fillMinors_1 : decode cX0_fillMinors 1 = .ok (.getfield 18, 3) := by decide +kernel
theorem dX0_fillMinors_4 : decode cX0_fillMinors 4 = .ok (.iconst 0, 1) := by decide +kernel
theorem dX0_fillMinors_5 : decode cX0_fillMinors 5 = .ok (.lconst 1, 1) := by decide +kernel
theorem dX0_fillMinors_6 : decode cX0_fillMinors 6 = .ok (.lastore, 1) := by decide +kernel
theorem dX0_fillMinors_7 : decode cX0_fillMinors 7 = .ok (.iconst 0, 1) := by decide +kernel
theorem dX0_fillMinors_8 : decode cX0_fillMinors 8 = .ok (.istore_n 2, 1) := by decide +kernel
theorem dX0_fillMinors_9 : decode cX0_fillMinors 9 = .ok (.iload_n 2, 1) := by decide +kernel
theorem dX0_fillMinors_10 : decode cX0_fillMinors 10 = .ok (.aload_n 0, 1) := by decide +kernel
theorem dX0_fillMinors_11 : decode cX0_fillMinors 11 = .ok (.getfield 26, 3) := by decide +kernel
theorem dX0_fillMinors_14 : decode cX0_fillMinors 14 = .ok (.if_icmp .ge 88, 3) := by decide +kernel
theorem dX0_fillMinors_17 : decode cX0_fillMinors 17 = .ok (.aload_n 0, 1) := by decide +kernel
theorem dX0_fillMinors_18 : decode cX0_fillMinors 18 = .ok (.getfield 15, 3) := by decide +kernel
theorem dX0_fillMinors_21 : decode cX0_fillMinors 21 = .ok (.iload_n 2, 1) := by decide +kernel
theorem dX0_fillMinors_22 : decode cX0_fillMinors 22 = .ok (.iaload, 1) := by decide +kernel
theorem dX0_fillMinors_23 : decode cX0_fillMinors 23 = .ok (.aload_n 0, 1) := by decide +kernel
theorem dX0_fillMinors_24 : decode cX0_fillMinors 24 = .ok (.getfield 15, 3) := by decide +kernel
theorem dX0_fillMinors_27 : decode cX0_fillMinors 27 = .ok (.iload_n 2, 1) := by decide +kernel
theorem dX0_fillMinors_28 : decode cX0_fillMinors 28 = .ok (.iconst 1, 1) := by decide +kernel
theorem dX0_fillMinors_29 : decode cX0_fillMinors 29 = .ok (.iadd, 1) := by decide +kernel
theorem dX0_fillMinors_30 : decode cX0_fillMinors 30 = .ok (.iaload, 1) := by decide +kernel
theorem dX0_fillMinors_31 : decode cX0_fillMinors 31 = .ok (.iadd, 1) := by decide +kernel
theorem dX0_fillMinors_32 : decode cX0_fillMinors 32 = .ok (.iload_n 1, 1) := by decide +kernel
theorem dX0_fillMinors_33 : decode cX0_fillMinors 33 = .ok (.aload_n 0, 1) := by decide +kernel
theorem dX0_fillMinors_34 : decode cX0_fillMinors 34 = .ok (.getfield 11, 3) := by decide +kernel
theorem dX0_fillMinors_37 : decode cX0_fillMinors 37 = .ok (.iload_n 2, 1) := by decide +kernel
theorem dX0_fillMinors_38 : decode cX0_fillMinors 38 = .ok (.iaload, 1) := by decide +kernel
theorem dX0_fillMinors_39 : decode cX0_fillMinors 39 = .ok (.imul, 1) := by decide +kernel
theorem dX0_fillMinors_40 : decode cX0_fillMinors 40 = .ok (.isub, 1) := by decide +kernel
theorem dX0_fillMinors_41 : decode cX0_fillMinors 41 = .ok (.i2l, 1) := by decide +kernel
theorem dX0_fillMinors_42 : decode cX0_fillMinors 42 = .ok (.lstore_n 3, 1) := by decide +kernel
theorem dX0_fillMinors_43 : decode cX0_fillMinors 43 = .ok (.lload_n 3, 1) := by decide +kernel
theorem dX0_fillMinors_44 : decode cX0_fillMinors 44 = .ok (.aload_n 0, 1) := by decide +kernel
theorem dX0_fillMinors_45 : decode cX0_fillMinors 45 = .ok (.getfield 18, 3) := by decide +kernel
theorem dX0_fillMinors_48 : decode cX0_fillMinors 48 = .ok (.iload_n 2, 1) := by decide +kernel
theorem dX0_fillMinors_49 : decode cX0_fillMinors 49 = .ok (.laload, 1) := by decide +kernel
theorem dX0_fillMinors_50 : decode cX0_fillMinors 50 = .ok (.lmul, 1) := by decide +kernel
theorem dX0_fillMinors_51 : decode cX0_fillMinors 51 = .ok (.lstore 5, 2) := by decide +kernel
theorem dX0_fillMinors_53 : decode cX0_fillMinors 53 = .ok (.iload_n 2, 1) := by decide +kernel
theorem dX0_fillMinors_54 : decode cX0_fillMinors 54 = .ok (.ifCond .le 32, 3) := by decide +kernel
theorem dX0_fillMinors_57 : decode cX0_fillMinors 57 = .ok (.lload 5, 2) := by decide +kernel
theorem dX0_fillMinors_59 : decode cX0_fillMinors 59 = .ok (.aload_n 0, 1) := by decide +kernel
theorem dX0_fillMinors_60 : decode cX0_fillMinors 60 = .ok (.getfield 15, 3) := by decide +kernel
theorem dX0_fillMinors_63 : decode cX0_fillMinors 63 = .ok (.iload_n 2, 1) := by decide +kernel
theorem dX0_fillMinors_64 : decode cX0_fillMinors 64 = .ok (.iaload, 1) := by decide +kernel
theorem dX0_fillMinors_65 : decode cX0_fillMinors 65 = .ok (.i2l, 1) := by decide +kernel
theorem dX0_fillMinors_66 : decode cX0_fillMinors 66 = .ok (.aload_n 0, 1) := by decide +kernel
theorem dX0_fillMinors_67 : decode cX0_fillMinors 67 = .ok (.getfield 15, 3) := by decide +kernel
theorem dX0_fillMinors_70 : decode cX0_fillMinors 70 = .ok (.iload_n 2, 1) := by decide +kernel
theorem dX0_fillMinors_71 : decode cX0_fillMinors 71 = .ok (.iaload, 1) := by decide +kernel
theorem dX0_fillMinors_72 : decode cX0_fillMinors 72 = .ok (.i2l, 1) := by decide +kernel
theorem dX0_fillMinors_73 : decode cX0_fillMinors 73 = .ok (.lmul, 1) := by decide +kernel
theorem dX0_fillMinors_74 : decode cX0_fillMinors 74 = .ok (.aload_n 0, 1) := by decide +kernel
theorem dX0_fillMinors_75 : decode cX0_fillMinors 75 = .ok (.getfield 18, 3) := by decide +kernel
theorem dX0_fillMinors_78 : decode cX0_fillMinors 78 = .ok (.iload_n 2, 1) := by decide +kernel
theorem dX0_fillMinors_79 : decode cX0_fillMinors 79 = .ok (.iconst 1, 1) := by decide +kernel
theorem dX0_fillMinors_80 : decode cX0_fillMinors 80 = .ok (.isub, 1) := by decide +kernel
theorem dX0_fillMinors_81 : decode cX0_fillMinors 81 = .ok (.laload, 1) := by decide +kernel
theorem dX0_fillMinors_82 : decode cX0_fillMinors 82 = .ok (.lmul, 1) := by decide +kernel
theorem dX0_fillMinors_83 : decode cX0_fillMinors 83 = .ok (.lsub, 1) := by decide +kernel
theorem dX0_fillMinors_84 : decode cX0_fillMinors 84 = .ok (.lstore 5, 2) := by decide +kernel
theorem dX0_fillMinors_86 : decode cX0_fillMinors 86 = .ok (.aload_n 0, 1) := by decide +kernel
theorem dX0_fillMinors_87 : decode cX0_fillMinors 87 = .ok (.getfield 18, 3) := by decide +kernel
theorem dX0_fillMinors_90 : decode cX0_fillMinors 90 = .ok (.iload_n 2, 1) := by decide +kernel
theorem dX0_fillMinors_91 : decode cX0_fillMinors 91 = .ok (.iconst 1, 1) := by decide +kernel
theorem dX0_fillMinors_92 : decode cX0_fillMinors 92 = .ok (.iadd, 1) := by decide +kernel
theorem dX0_fillMinors_93 : decode cX0_fillMinors 93 = .ok (.lload 5, 2) := by decide +kernel
theorem dX0_fillMinors_95 : decode cX0_fillMinors 95 = .ok (.lastore, 1) := by decide +kernel
theorem dX0_fillMinors_96 : decode cX0_fillMinors 96 = .ok (.iinc 2 1, 3) := by decide +kernel
theorem dX0_fillMinors_99 : decode cX0_fillMinors 99 = .ok (.goto (-90), 3) := by decide +kernel
theorem dX0_fillMinors_102 : decode cX0_fillMinors 102 = .ok (.return_, 1) := by decide +kernel
theorem dX0_tonesBelow_0 : decode cX0_tonesBelow 0 = .ok (.aload_n 0, 1) := by decide +kernel
theorem dX0_tonesBelow_1 : decode cX0_tonesBelow 1 = .ok (.iload_n 1, 1) := by decide +kernel
theorem dX0_tonesBelow_2 : decode cX0_tonesBelow 2 = .ok (.invokevirtual 36, 3) := by decide +kernel
theorem dX0_tonesBelow_5 : decode cX0_tonesBelow 5 = .ok (.iconst 0, 1) := by decide +kernel
theorem dX0_tonesBelow_6 : decode cX0_tonesBelow 6 = .ok (.istore_n 2, 1) := by decide +kernel
theorem dX0_tonesBelow_7 : decode cX0_tonesBelow 7 = .ok (.iconst 0, 1) := by decide +kernel
theorem dX0_tonesBelow_8 : decode cX0_tonesBelow 8 = .ok (.istore_n 3, 1) := by decide +kernel
theorem dX0_tonesBelow_9 : decode cX0_tonesBelow 9 = .ok (.iconst 1, 1) := by decide +kernel
theorem dX0_tonesBelow_10 : decode cX0_tonesBelow 10 = .ok (.istore 4, 2) := by decide +kernel
theorem dX0_tonesBelow_12 : decode cX0_tonesBelow 12 = .ok (.iload 4, 2) := by decide +kernel
theorem dX0_tonesBelow_14 : decode cX0_tonesBelow 14 = .ok (.aload_n 0, 1) := by decide +kernel
theorem dX0_tonesBelow_15 : decode cX0_tonesBelow 15 = .ok (.getfield 26, 3) := by decide +kernel
theorem dX0_tonesBelow_18 : decode cX0_tonesBelow 18 = .ok (.if_icmp .gt 55, 3) := by decide +kernel
theorem dX0_tonesBelow_21 : decode cX0_tonesBelow 21 = .ok (.aload_n 0, 1) := by decide +kernel
theorem dX0_tonesBelow_22 : decode cX0_tonesBelow 22 = .ok (.getfield 18, 3) := by decide +kernel
theorem dX0_tonesBelow_25 : decode cX0_tonesBelow 25 = .ok (.iload 4, 2) := by decide +kernel
theorem dX0_tonesBelow_27 : decode cX0_tonesBelow 27 = .ok (.laload, 1) := by decide +kernel
theorem dX0_tonesBelow_28 : decode cX0_tonesBelow 28 = .ok (.lconst 0, 1) := by decide +kernel
theorem dX0_tonesBelow_29 : decode cX0_tonesBelow 29 = .ok (.lcmp, 1) := by decide +kernel
theorem dX0_tonesBelow_30 : decode cX0_tonesBelow 30 = .ok (.ifCond .eq 37, 3) := by decide +kernel
theorem dX0_tonesBelow_33 : decode cX0_tonesBelow 33 = .ok (.aload_n 0, 1) := by decide +kernel
theorem dX0_tonesBelow_34 : decode cX0_tonesBelow 34 = .ok (.getfield 18, 3) := by decide +kernel
theorem dX0_tonesBelow_37 : decode cX0_tonesBelow 37 = .ok (.iload 4, 2) := by decide +kernel
theorem dX0_tonesBelow_39 : decode cX0_tonesBelow 39 = .ok (.laload, 1) := by decide +kernel
theorem dX0_tonesBelow_40 : decode cX0_tonesBelow 40 = .ok (.lconst 0, 1) := by decide +kernel
theorem dX0_tonesBelow_41 : decode cX0_tonesBelow 41 = .ok (.lcmp, 1) := by decide +kernel
theorem dX0_tonesBelow_42 : decode cX0_tonesBelow 42 = .ok (.ifCond .ge 7, 3) := by decide +kernel
theorem dX0_tonesBelow_45 : decode cX0_tonesBelow 45 = .ok (.iconst 1, 1) := by decide +kernel
theorem dX0_tonesBelow_46 : decode cX0_tonesBelow 46 = .ok (.goto 4, 3) := by decide +kernel
theorem dX0_tonesBelow_49 : decode cX0_tonesBelow 49 = .ok (.iconst 0, 1) := by decide +kernel
theorem dX0_tonesBelow_50 : decode cX0_tonesBelow 50 = .ok (.iload_n 3, 1) := by decide +kernel
theorem dX0_tonesBelow_51 : decode cX0_tonesBelow 51 = .ok (.if_icmp .eq 16, 3) := by decide +kernel
theorem dX0_tonesBelow_54 : decode cX0_tonesBelow 54 = .ok (.iinc 2 1, 3) := by decide +kernel
theorem dX0_tonesBelow_57 : decode cX0_tonesBelow 57 = .ok (.iload_n 3, 1) := by decide +kernel
theorem dX0_tonesBelow_58 : decode cX0_tonesBelow 58 = .ok (.ifCond .ne 7, 3) := by decide +kernel
theorem dX0_tonesBelow_61 : decode cX0_tonesBelow 61 = .ok (.iconst 1, 1) := by decide +kernel
theorem dX0_tonesBelow_62 : decode cX0_tonesBelow 62 = .ok (.goto 4, 3) := by decide +kernel
theorem dX0_tonesBelow_65 : decode cX0_tonesBelow 65 = .ok (.iconst 0, 1) := by decide +kernel
theorem dX0_tonesBelow_66 : decode cX0_tonesBelow 66 = .ok (.istore_n 3, 1) := by decide +kernel
theorem dX0_tonesBelow_67 : decode cX0_tonesBelow 67 = .ok (.iinc 4 1, 3) := by decide +kernel
theorem dX0_tonesBelow_70 : decode cX0_tonesBelow 70 = .ok (.goto (-58), 3) := by decide +kernel
theorem dX0_tonesBelow_73 : decode cX0_tonesBelow 73 = .ok (.iload_n 2, 1) := by decide +kernel
theorem dX0_tonesBelow_74 : decode cX0_tonesBelow 74 = .ok (.ireturn, 1) := by decide +kernel
theorem dX0_hasTone_0 : decode cX0_hasTone 0 = .ok (.aload_n 0, 1) := by decide +kernel
theorem dX0_hasTone_1 : decode cX0_hasTone 1 = .ok (.iload_n 1, 1) := by decide +kernel
theorem dX0_hasTone_2 : decode cX0_hasTone 2 = .ok (.invokevirtual 36, 3) := by decide +kernel
theorem dX0_hasTone_5 : decode cX0_hasTone 5 = .ok (.aload_n 0, 1) := by decide +kernel
theorem dX0_hasTone_6 : decode cX0_hasTone 6 = .ok (.getfield 18, 3) := by decide +kernel
theorem dX0_hasTone_9 : decode cX0_hasTone 9 = .ok (.aload_n 0, 1) := by decide +kernel
theorem dX0_hasTone_10 : decode cX0_hasTone 10 = .ok (.getfield 26, 3) := by decide +kernel
theorem dX0_hasTone_13 : decode cX0_hasTone 13 = .ok (.laload, 1) := by decide +kernel
theorem dX0_hasTone_14 : decode cX0_hasTone 14 = .ok (.lconst 0, 1) := by decide +kernel
theorem dX0_hasTone_15 : decode cX0_hasTone 15 = .ok (.lcmp, 1) := by decide +kernel
theorem dX0_hasTone_16 : decode cX0_hasTone 16 = .ok (.ifCond .ne 7, 3) := by decide +kernel
theorem dX0_hasTone_19 : decode cX0_hasTone 19 = .ok (.iconst 1, 1) := by decide +kernel
theorem dX0_hasTone_20 : decode cX0_hasTone 20 = .ok (.goto 4, 3) := by decide +kernel
theorem dX0_hasTone_23 : decode cX0_hasTone 23 = .ok (.iconst 0, 1) := by decide +kernel
theorem dX0_hasTone_24 : decode cX0_hasTone 24 = .ok (.ireturn, 1) := by decide +kernel
theorem dX0_wholeTone_0 : decode cX0_wholeTone 0 = .ok (.iconst 0, 1) := by decide +kernel
theorem dX0_wholeTone_1 : decode cX0_wholeTone 1 = .ok (.istore_n 2, 1) := by decide +kernel
theorem dX0_wholeTone_2 : decode cX0_wholeTone 2 = .ok (.iconst 1, 1) := by decide +kernel
theorem dX0_wholeTone_3 : decode cX0_wholeTone 3 = .ok (.istore_n 3, 1) := by decide +kernel
theorem dX0_wholeTone_4 : decode cX0_wholeTone 4 = .ok (.iload_n 3, 1) := by decide +kernel
theorem dX0_wholeTone_5 : decode cX0_wholeTone 5 = .ok (.sipush 400, 3) := by decide +kernel
theorem dX0_wholeTone_8 : decode cX0_wholeTone 8 = .ok (.if_icmp .gt 20, 3) := by decide +kernel
theorem dX0_wholeTone_11 : decode cX0_wholeTone 11 = .ok (.aload_n 0, 1) := by decide +kernel
theorem dX0_wholeTone_12 : decode cX0_wholeTone 12 = .ok (.iload_n 3, 1) := by decide +kernel
theorem dX0_wholeTone_13 : decode cX0_wholeTone 13 = .ok (.invokevirtual 39, 3) := by decide +kernel
theorem dX0_wholeTone_16 : decode cX0_wholeTone 16 = .ok (.iload_n 1, 1) := by decide +kernel
theorem dX0_wholeTone_17 : decode cX0_wholeTone 17 = .ok (.if_icmp .gt 11, 3) := by decide +kernel
theorem dX0_wholeTone_20 : decode cX0_wholeTone 20 = .ok (.iload_n 3, 1) := by decide +kernel
theorem dX0_wholeTone_21 : decode cX0_wholeTone 21 = .ok (.istore_n 2, 1) := by decide +kernel
theorem dX0_wholeTone_22 : decode cX0_wholeTone 22 = .ok (.iinc 3 1, 3) := by decide +kernel
theorem dX0_wholeTone_25 : decode cX0_wholeTone 25 = .ok (.goto (-21), 3) := by decide +kernel
theorem dX0_wholeTone_28 : decode cX0_wholeTone 28 = .ok (.iload_n 2, 1) := by decide +kernel
theorem dX0_wholeTone_29 : decode cX0_wholeTone 29 = .ok (.ireturn, 1) := by decide +kernel
theorem dX1_init_0 : decode cX1_init 0 = .ok (.aload_n 0, 1) := by decide +kernel
theorem dX1_init_1 : decode cX1_init 1 = .ok (.invokespecial 3, 3) := by decide +kernel
theorem dX1_init_4 : decode cX1_init 4 = .ok (.aload_n 0, 1) := by decide +kernel
theorem dX1_init_5 : decode cX1_init 5 = .ok (.bipush 10, 2) := by decide +kernel
theorem dX1_init_7 : decode cX1_init 7 = .ok (.newarray .int, 2) := by decide +kernel
theorem dX1_init_9 : decode cX1_init 9 = .ok (.putfield 11, 3) := by decide +kernel
theorem dX1_init_12 : decode cX1_init 12 = .ok (.aload_n 0, 1) := by decide +kernel
theorem dX1_init_13 : decode cX1_init 13 = .ok (.bipush 10, 2) := by decide +kernel
theorem dX1_init_15 : decode cX1_init 15 = .ok (.newarray .int, 2) := by decide +kernel
theorem dX1_init_17 : decode cX1_init 17 = .ok (.putfield 15, 3) := by decide +kernel
theorem dX1_init_20 : decode cX1_init 20 = .ok (.aload_n 0, 1) := by decide +kernel
theorem dX1_init_21 : decode cX1_init 21 = .ok (.bipush 10, 2) := by decide +kernel
theorem dX1_init_23 : decode cX1_init 23 = .ok (.newarray .int, 2) := by decide +kernel
theorem dX1_init_25 : decode cX1_init 25 = .ok (.putfield 18, 3) := by decide +kernel
theorem dX1_init_28 : decode cX1_init 28 = .ok (.aload_n 0, 1) := by decide +kernel
theorem dX1_init_29 : decode cX1_init 29 = .ok (.bipush 10, 2) := by decide +kernel
theorem dX1_init_31 : decode cX1_init 31 = .ok (.newarray .int, 2) := by decide +kernel
theorem dX1_init_33 : decode cX1_init 33 = .ok (.putfield 21, 3) := by decide +kernel
theorem dX1_init_36 : decode cX1_init 36 = .ok (.aload_n 0, 1) := by decide +kernel
theorem dX1_init_37 : decode cX1_init 37 = .ok (.bipush 79, 2) := by decide +kernel
theorem dX1_init_39 : decode cX1_init 39 = .ok (.newarray .long, 2) := by decide +kernel
theorem dX1_init_41 : decode cX1_init 41 = .ok (.putfield 24, 3) := by decide +kernel
theorem dX1_init_44 : decode cX1_init 44 = .ok (.aload_n 0, 1) := by decide +kernel
theorem dX1_init_45 : decode cX1_init 45 = .ok (.bipush 79, 2) := by decide +kernel
theorem dX1_init_47 : decode cX1_init 47 = .ok (.newarray .long, 2) := by decide +kernel
theorem dX1_init_49 : decode cX1_init 49 = .ok (.putfield 28, 3) := by decide +kernel
theorem dX1_init_52 : decode cX1_init 52 = .ok (.return_, 1) := by decide +kernel
theorem dX1_putNew_0 : decode cX1_putNew 0 = .ok (.aload_n 0, 1) := by decide +kernel
theorem dX1_putNew_1 : decode cX1_putNew 1 = .ok (.invokevirtual 31, 3) := by decide +kernel
theorem dX1_putNew_4 : decode cX1_putNew 4 = .ok (.aload_n 0, 1) := by decide +kernel
theorem dX1_putNew_5 : decode cX1_putNew 5 = .ok (.getfield 11, 3) := by decide +kernel
theorem dX1_putNew_8 : decode cX1_putNew 8 = .ok (.aload_n 0, 1) := by decide +kernel
theorem dX1_putNew_9 : decode cX1_putNew 9 = .ok (.getfield 34, 3) := by decide +kernel
theorem dX1_putNew_12 : decode cX1_putNew 12 = .ok (.iload_n 1, 1) := by decide +kernel
theorem dX1_putNew_13 : decode cX1_putNew 13 = .ok (.iastore, 1) := by decide +kernel
theorem dX1_putNew_14 : decode cX1_putNew 14 = .ok (.aload_n 0, 1) := by decide +kernel
theorem dX1_putNew_15 : decode cX1_putNew 15 = .ok (.getfield 15, 3) := by decide +kernel
theorem dX1_putNew_18 : decode cX1_putNew 18 = .ok (.aload_n 0, 1) := by decide +kernel
theorem dX1_putNew_19 : decode cX1_putNew 19 = .ok (.getfield 34, 3) := by decide +kernel
theorem dX1_putNew_22 : decode cX1_putNew 22 = .ok (.iload_n 2, 1) := by decide +kernel
theorem dX1_putNew_23 : decode cX1_putNew 23 = .ok (.iastore, 1) := by decide +kernel
theorem dX1_putNew_24 : decode cX1_putNew 24 = .ok (.aload_n 0, 1) := by decide +kernel
theorem dX1_putNew_25 : decode cX1_putNew 25 = .ok (.getfield 18, 3) := by decide +kernel
theorem dX1_putNew_28 : decode cX1_putNew 28 = .ok (.aload_n 0, 1) := by decide +kernel
theorem dX1_putNew_29 : decode cX1_putNew 29 = .ok (.getfield 34, 3) := by decide +kernel
theorem dX1_putNew_32 : decode cX1_putNew 32 = .ok (.iload_n 3, 1) := by decide +kernel
theorem dX1_putNew_33 : decode cX1_putNew 33 = .ok (.iastore, 1) := by decide +kernel
theorem dX1_putNew_34 : decode cX1_putNew 34 = .ok (.aload_n 0, 1) := by decide +kernel
theorem dX1_putNew_35 : decode cX1_putNew 35 = .ok (.dup, 1) := by decide +kernel
theorem dX1_putNew_36 : decode cX1_putNew 36 = .ok (.getfield 34, 3) := by decide +kernel
theorem dX1_putNew_39 : decode cX1_putNew 39 = .ok (.iconst 1, 1) := by decide +kernel
theorem dX1_putNew_40 : decode cX1_putNew 40 = .ok (.iadd, 1) := by decide +kernel
theorem dX1_putNew_41 : decode cX1_putNew 41 = .ok (.putfield 34, 3) := by decide +kernel
theorem dX1_putNew_44 : decode cX1_putNew 44 = .ok (.aload_n 0, 1) := by decide +kernel
theorem dX1_putNew_45 : decode cX1_putNew 45 = .ok (.getfield 34, 3) := by decide +kernel
theorem dX1_putNew_48 : decode cX1_putNew 48 = .ok (.iconst 1, 1) := by decide +kernel
theorem dX1_putNew_49 : decode cX1_putNew 49 = .ok (.isub, 1) := by decide +kernel
theorem dX1_putNew_50 : decode cX1_putNew 50 = .ok (.ireturn, 1) := by decide +kernel
theorem dX1_addOfBuilt_0 : decode cX1_addOfBuilt 0 = .ok (.iconst 0, 1) := by decide +kernel
theorem dX1_addOfBuilt_1 : decode cX1_addOfBuilt 1 = .ok (.istore_n 1, 1) := by decide +kernel
theorem dX1_addOfBuilt_2 : decode cX1_addOfBuilt 2 = .ok (.iconst 0, 1) := by decide +kernel
theorem dX1_addOfBuilt_3 : decode cX1_addOfBuilt 3 = .ok (.istore_n 2, 1) := by decide +kernel
theorem dX1_addOfBuilt_4 : decode cX1_addOfBuilt 4 = .ok (.iload_n 2, 1) := by decide +kernel
theorem dX1_addOfBuilt_5 : decode cX1_addOfBuilt 5 = .ok (.aload_n 0, 1) := by decide +kernel
theorem dX1_addOfBuilt_6 : decode cX1_addOfBuilt 6 = .ok (.getfield 34, 3) := by decide +kernel
theorem dX1_addOfBuilt_9 : decode cX1_addOfBuilt 9 = .ok (.if_icmp .ge 25, 3) := by decide +kernel
theorem dX1_addOfBuilt_12 : decode cX1_addOfBuilt 12 = .ok (.iload_n 1, 1) := by decide +kernel
theorem dX1_addOfBuilt_13 : decode cX1_addOfBuilt 13 = .ok (.aload_n 0, 1) := by decide +kernel
theorem dX1_addOfBuilt_14 : decode cX1_addOfBuilt 14 = .ok (.getfield 21, 3) := by decide +kernel
theorem dX1_addOfBuilt_17 : decode cX1_addOfBuilt 17 = .ok (.iload_n 2, 1) := by decide +kernel
theorem dX1_addOfBuilt_18 : decode cX1_addOfBuilt 18 = .ok (.iaload, 1) := by decide +kernel
theorem dX1_addOfBuilt_19 : decode cX1_addOfBuilt 19 = .ok (.aload_n 0, 1) := by decide +kernel
theorem dX1_addOfBuilt_20 : decode cX1_addOfBuilt 20 = .ok (.getfield 11, 3) := by decide +kernel
theorem dX1_addOfBuilt_23 : decode cX1_addOfBuilt 23 = .ok (.iload_n 2, 1) := by decide +kernel
theorem dX1_addOfBuilt_24 : decode cX1_addOfBuilt 24 = .ok (.iaload, 1) := by decide +kernel
theorem dX1_addOfBuilt_25 : decode cX1_addOfBuilt 25 = .ok (.imul, 1) := by decide +kernel
theorem dX1_addOfBuilt_26 : decode cX1_addOfBuilt 26 = .ok (.iadd, 1) := by decide +kernel
theorem dX1_addOfBuilt_27 : decode cX1_addOfBuilt 27 = .ok (.istore_n 1, 1) := by decide +kernel
theorem dX1_addOfBuilt_28 : decode cX1_addOfBuilt 28 = .ok (.iinc 2 1, 3) := by decide +kernel
theorem dX1_addOfBuilt_31 : decode cX1_addOfBuilt 31 = .ok (.goto (-27), 3) := by decide +kernel
theorem dX1_addOfBuilt_34 : decode cX1_addOfBuilt 34 = .ok (.iload_n 1, 1) := by decide +kernel
theorem dX1_addOfBuilt_35 : decode cX1_addOfBuilt 35 = .ok (.ireturn, 1) := by decide +kernel
theorem dX1_forgetChoice_0 : decode cX1_forgetChoice 0 = .ok (.aload_n 0, 1) := by decide +kernel
theorem dX1_forgetChoice_1 : decode cX1_forgetChoice 1 = .ok (.iconst 0, 1) := by decide +kernel
theorem dX1_forgetChoice_2 : decode cX1_forgetChoice 2 = .ok (.putfield 38, 3) := by decide +kernel
theorem dX1_forgetChoice_5 : decode cX1_forgetChoice 5 = .ok (.return_, 1) := by decide +kernel
theorem dX1_chosenPrice_0 : decode cX1_chosenPrice 0 = .ok (.aload_n 0, 1) := by decide +kernel
theorem dX1_chosenPrice_1 : decode cX1_chosenPrice 1 = .ok (.getfield 42, 3) := by decide +kernel
theorem dX1_chosenPrice_4 : decode cX1_chosenPrice 4 = .ok (.bipush (-9), 2) := by decide +kernel
theorem dX1_chosenPrice_6 : decode cX1_chosenPrice 6 = .ok (.if_icmp .ne 8, 3) := by decide +kernel
theorem dX1_chosenPrice_9 : decode cX1_chosenPrice 9 = .ok (.bipush (-9), 2) := by decide +kernel
theorem dX1_chosenPrice_11 : decode cX1_chosenPrice 11 = .ok (.goto 15, 3) := by decide +kernel
theorem dX1_chosenPrice_14 : decode cX1_chosenPrice 14 = .ok (.aload_n 0, 1) := by decide +kernel
theorem dX1_chosenPrice_15 : decode cX1_chosenPrice 15 = .ok (.aload_n 0, 1) := by decide +kernel
theorem dX1_chosenPrice_16 : decode cX1_chosenPrice 16 = .ok (.getfield 15, 3) := by decide +kernel
theorem dX1_chosenPrice_19 : decode cX1_chosenPrice 19 = .ok (.aload_n 0, 1) := by decide +kernel
theorem dX1_chosenPrice_20 : decode cX1_chosenPrice 20 = .ok (.getfield 42, 3) := by decide +kernel
theorem dX1_chosenPrice_23 : decode cX1_chosenPrice 23 = .ok (.invokevirtual 45, 3) := by decide +kernel
theorem dX1_chosenPrice_26 : decode cX1_chosenPrice 26 = .ok (.ireturn, 1) := by decide +kernel
theorem dX1_chosenAt_0 : decode cX1_chosenAt 0 = .ok (.aload_n 0, 1) := by decide +kernel
theorem dX1_chosenAt_1 : decode cX1_chosenAt 1 = .ok (.getfield 42, 3) := by decide +kernel
theorem dX1_chosenAt_4 : decode cX1_chosenAt 4 = .ok (.bipush (-9), 2) := by decide +kernel
theorem dX1_chosenAt_6 : decode cX1_chosenAt 6 = .ok (.if_icmp .eq 7, 3) := by decide +kernel
theorem dX1_chosenAt_9 : decode cX1_chosenAt 9 = .ok (.iload_n 1, 1) := by decide +kernel
theorem dX1_chosenAt_10 : decode cX1_chosenAt 10 = .ok (.ifCond .ge 6, 3) := by decide +kernel
theorem dX1_chosenAt_13 : decode cX1_chosenAt 13 = .ok (.bipush (-9), 2) := by decide +kernel
theorem dX1_chosenAt_15 : decode cX1_chosenAt 15 = .ok (.ireturn, 1) := by decide +kernel
theorem dX1_chosenAt_16 : decode cX1_chosenAt 16 = .ok (.iconst 0, 1) := by decide +kernel
theorem dX1_chosenAt_17 : decode cX1_chosenAt 17 = .ok (.istore_n 2, 1) := by decide +kernel
theorem dX1_chosenAt_18 : decode cX1_chosenAt 18 = .ok (.iconst 0, 1) := by decide +kernel
theorem dX1_chosenAt_19 : decode cX1_chosenAt 19 = .ok (.istore_n 3, 1) := by decide +kernel
theorem dX1_chosenAt_20 : decode cX1_chosenAt 20 = .ok (.iload_n 3, 1) := by decide +kernel
theorem dX1_chosenAt_21 : decode cX1_chosenAt 21 = .ok (.aload_n 0, 1) := by decide +kernel
theorem dX1_chosenAt_22 : decode cX1_chosenAt 22 = .ok (.getfield 34, 3) := by decide +kernel
theorem dX1_chosenAt_25 : decode cX1_chosenAt 25 = .ok (.if_icmp .ge 31, 3) := by decide +kernel
theorem dX1_chosenAt_28 : decode cX1_chosenAt 28 = .ok (.aload_n 0, 1) := by decide +kernel
theorem dX1_chosenAt_29 : decode cX1_chosenAt 29 = .ok (.iload_n 3, 1) := by decide +kernel
theorem dX1_chosenAt_30 : decode cX1_chosenAt 30 = .ok (.aload_n 0, 1) := by decide +kernel
theorem dX1_chosenAt_31 : decode cX1_chosenAt 31 = .ok (.getfield 42, 3) := by decide +kernel
theorem dX1_chosenAt_34 : decode cX1_chosenAt 34 = .ok (.invokevirtual 49, 3) := by decide +kernel
theorem dX1_chosenAt_37 : decode cX1_chosenAt 37 = .ok (.ifCond .eq 13, 3) := by decide +kernel
theorem dX1_chosenAt_40 : decode cX1_chosenAt 40 = .ok (.iload_n 2, 1) := by decide +kernel
theorem dX1_chosenAt_41 : decode cX1_chosenAt 41 = .ok (.iload_n 1, 1) := by decide +kernel
theorem dX1_chosenAt_42 : decode cX1_chosenAt 42 = .ok (.if_icmp .ne 5, 3) := by decide +kernel
theorem dX1_chosenAt_45 : decode cX1_chosenAt 45 = .ok (.iload_n 3, 1) := by decide +kernel
theorem dX1_chosenAt_46 : decode cX1_chosenAt 46 = .ok (.ireturn, 1) := by decide +kernel
theorem dX1_chosenAt_47 : decode cX1_chosenAt 47 = .ok (.iinc 2 1, 3) := by decide +kernel
theorem dX1_chosenAt_50 : decode cX1_chosenAt 50 = .ok (.iinc 3 1, 3) := by decide +kernel
theorem dX1_chosenAt_53 : decode cX1_chosenAt 53 = .ok (.goto (-33), 3) := by decide +kernel
theorem dX1_chosenAt_56 : decode cX1_chosenAt 56 = .ok (.bipush (-9), 2) := by decide +kernel
theorem dX1_chosenAt_58 : decode cX1_chosenAt 58 = .ok (.ireturn, 1) := by decide +kernel
theorem dX1_isIn_0 : decode cX1_isIn 0 = .ok (.iload_n 2, 1) := by decide +kernel
theorem dX1_isIn_1 : decode cX1_isIn 1 = .ok (.aload_n 0, 1) := by decide +kernel
theorem dX1_isIn_2 : decode cX1_isIn 2 = .ok (.getfield 34, 3) := by decide +kernel
theorem dX1_isIn_5 : decode cX1_isIn 5 = .ok (.iconst 1, 1) := by decide +kernel
theorem dX1_isIn_6 : decode cX1_isIn 6 = .ok (.isub, 1) := by decide +kernel
theorem dX1_isIn_7 : decode cX1_isIn 7 = .ok (.iload_n 1, 1) := by decide +kernel
theorem dX1_isIn_8 : decode cX1_isIn 8 = .ok (.isub, 1) := by decide +kernel
theorem dX1_isIn_9 : decode cX1_isIn 9 = .ok (.ishr, 1) := by decide +kernel
theorem dX1_isIn_10 : decode cX1_isIn 10 = .ok (.iconst 1, 1) := by decide +kernel
theorem dX1_isIn_11 : decode cX1_isIn 11 = .ok (.iand, 1) := by decide +kernel
theorem dX1_isIn_12 : decode cX1_isIn 12 = .ok (.iconst 1, 1) := by decide +kernel
theorem dX1_isIn_13 : decode cX1_isIn 13 = .ok (.if_icmp .ne 7, 3) := by decide +kernel
theorem dX1_isIn_16 : decode cX1_isIn 16 = .ok (.iconst 1, 1) := by decide +kernel
theorem dX1_isIn_17 : decode cX1_isIn 17 = .ok (.goto 4, 3) := by decide +kernel
theorem dX1_isIn_20 : decode cX1_isIn 20 = .ok (.iconst 0, 1) := by decide +kernel
theorem dX1_isIn_21 : decode cX1_isIn 21 = .ok (.ireturn, 1) := by decide +kernel
theorem dX1_total_0 : decode cX1_total 0 = .ok (.iconst 0, 1) := by decide +kernel
theorem dX1_total_1 : decode cX1_total 1 = .ok (.istore_n 3, 1) := by decide +kernel
theorem dX1_total_2 : decode cX1_total 2 = .ok (.iconst 0, 1) := by decide +kernel
theorem dX1_total_3 : decode cX1_total 3 = .ok (.istore 4, 2) := by decide +kernel
theorem dX1_total_5 : decode cX1_total 5 = .ok (.iload 4, 2) := by decide +kernel
theorem dX1_total_7 : decode cX1_total 7 = .ok (.aload_n 0, 1) := by decide +kernel
theorem dX1_total_8 : decode cX1_total 8 = .ok (.getfield 34, 3) := by decide +kernel
theorem dX1_total_11 : decode cX1_total 11 = .ok (.if_icmp .ge 26, 3) := by decide +kernel
theorem dX1_total_14 : decode cX1_total 14 = .ok (.aload_n 0, 1) := by decide +kernel
theorem dX1_total_15 : decode cX1_total 15 = .ok (.iload 4, 2) := by decide +kernel
theorem dX1_total_17 : decode cX1_total 17 = .ok (.iload_n 2, 1) := by decide +kernel
theorem dX1_total_18 : decode cX1_total 18 = .ok (.invokevirtual 49, 3) := by decide +kernel
theorem dX1_total_21 : decode cX1_total 21 = .ok (.ifCond .eq 10, 3) := by decide +kernel
theorem dX1_total_24 : decode cX1_total 24 = .ok (.iload_n 3, 1) := by decide +kernel
theorem dX1_total_25 : decode cX1_total 25 = .ok (.aload_n 1, 1) := by decide +kernel
theorem dX1_total_26 : decode cX1_total 26 = .ok (.iload 4, 2) := by decide +kernel
theorem dX1_total_28 : decode cX1_total 28 = .ok (.iaload, 1) := by decide +kernel
theorem dX1_total_29 : decode cX1_total 29 = .ok (.iadd, 1) := by decide +kernel
theorem dX1_total_30 : decode cX1_total 30 = .ok (.istore_n 3, 1) := by decide +kernel
theorem dX1_total_31 : decode cX1_total 31 = .ok (.iinc 4 1, 3) := by decide +kernel
theorem dX1_total_34 : decode cX1_total 34 = .ok (.goto (-29), 3) := by decide +kernel
theorem dX1_total_37 : decode cX1_total 37 = .ok (.iload_n 3, 1) := by decide +kernel
theorem dX1_total_38 : decode cX1_total 38 = .ok (.ireturn, 1) := by decide +kernel
theorem dX1_choose_0 : decode cX1_choose 0 = .ok (.aload_n 0, 1) := by decide +kernel
theorem dX1_choose_1 : decode cX1_choose 1 = .ok (.getfield 38, 3) := by decide +kernel
theorem dX1_choose_4 : decode cX1_choose 4 = .ok (.ifCond .eq 4, 3) := by decide +kernel
theorem dX1_choose_7 : decode cX1_choose 7 = .ok (.return_, 1) := by decide +kernel
theorem dX1_choose_8 : decode cX1_choose 8 = .ok (.aload_n 0, 1) := by decide +kernel
theorem dX1_choose_9 : decode cX1_choose 9 = .ok (.getfield 24, 3) := by decide +kernel
theorem dX1_choose_12 : decode cX1_choose 12 = .ok (.lconst 0, 1) := by decide +kernel
theorem dX1_choose_13 : decode cX1_choose 13 = .ok (.invokestatic 53, 3) := by decide +kernel
theorem dX1_choose_16 : decode cX1_choose 16 = .ok (.aload_n 0, 1) := by decide +kernel
theorem dX1_choose_17 : decode cX1_choose 17 = .ok (.getfield 28, 3) := by decide +kernel
theorem dX1_choose_20 : decode cX1_choose 20 = .ok (.lconst 0, 1) := by decide +kernel
theorem dX1_choose_21 : decode cX1_choose 21 = .ok (.invokestatic 53, 3) := by decide +kernel
theorem dX1_choose_24 : decode cX1_choose 24 = .ok (.aload_n 0, 1) := by decide +kernel
theorem dX1_choose_25 : decode cX1_choose 25 = .ok (.bipush (-9), 2) := by decide +kernel
theorem dX1_choose_27 : decode cX1_choose 27 = .ok (.putfield 42, 3) := by decide +kernel
theorem dX1_choose_30 : decode cX1_choose 30 = .ok (.iconst 1, 1) := by decide +kernel
theorem dX1_choose_31 : decode cX1_choose 31 = .ok (.aload_n 0, 1) := by decide +kernel
theorem dX1_choose_32 : decode cX1_choose 32 = .ok (.getfield 34, 3) := by decide +kernel
theorem dX1_choose_35 : decode cX1_choose 35 = .ok (.ishl, 1) := by decide +kernel
theorem dX1_choose_36 : decode cX1_choose 36 = .ok (.iconst 1, 1) := by decide +kernel
theorem dX1_choose_37 : decode cX1_choose 37 = .ok (.isub, 1) := by decide +kernel
theorem dX1_choose_38 : decode cX1_choose 38 = .ok (.istore_n 3, 1) := by decide +kernel
theorem dX1_choose_39 : decode cX1_choose 39 = .ok (.iload_n 3, 1) := by decide +kernel
theorem dX1_choose_40 : decode cX1_choose 40 = .ok (.ifCond .lt 55, 3) := by decide +kernel
theorem dX1_choose_43 : decode cX1_choose 43 = .ok (.aload_n 0, 1) := by decide +kernel
theorem dX1_choose_44 : decode cX1_choose 44 = .ok (.aload_n 0, 1) := by decide +kernel
theorem dX1_choose_45 : decode cX1_choose 45 = .ok (.getfield 18, 3) := by decide +kernel
theorem dX1_choose_48 : decode cX1_choose 48 = .ok (.iload_n 3, 1) := by decide +kernel
theorem dX1_choose_49 : decode cX1_choose 49 = .ok (.invokevirtual 45, 3) := by decide +kernel
theorem dX1_choose_52 : decode cX1_choose 52 = .ok (.aload_n 2, 1) := by decide +kernel
theorem dX1_choose_53 : decode cX1_choose 53 = .ok (.iconst 2, 1) := by decide +kernel
theorem dX1_choose_54 : decode cX1_choose 54 = .ok (.iaload, 1) := by decide +kernel
theorem dX1_choose_55 : decode cX1_choose 55 = .ok (.if_icmp .gt 34, 3) := by decide +kernel
theorem dX1_choose_58 : decode cX1_choose 58 = .ok (.aload_n 0, 1) := by decide +kernel
theorem dX1_choose_59 : decode cX1_choose 59 = .ok (.iload_n 3, 1) := by decide +kernel
theorem dX1_choose_60 : decode cX1_choose 60 = .ok (.invokevirtual 59, 3) := by decide +kernel
theorem dX1_choose_63 : decode cX1_choose 63 = .ok (.ifCond .eq 26, 3) := by decide +kernel
theorem dX1_choose_66 : decode cX1_choose 66 = .ok (.aload_n 0, 1) := by decide +kernel
theorem dX1_choose_67 : decode cX1_choose 67 = .ok (.aload_n 0, 1) := by decide +kernel
theorem dX1_choose_68 : decode cX1_choose 68 = .ok (.aload_n 0, 1) := by decide +kernel
theorem dX1_choose_69 : decode cX1_choose 69 = .ok (.getfield 11, 3) := by decide +kernel
theorem dX1_choose_72 : decode cX1_choose 72 = .ok (.iload_n 3, 1) := by decide +kernel
theorem dX1_choose_73 : decode cX1_choose 73 = .ok (.invokevirtual 45, 3) := by decide +kernel
theorem dX1_choose_76 : decode cX1_choose 76 = .ok (.aload_n 1, 1) := by decide +kernel
theorem dX1_choose_77 : decode cX1_choose 77 = .ok (.aload_n 2, 1) := by decide +kernel
theorem dX1_choose_78 : decode cX1_choose 78 = .ok (.invokevirtual 63, 3) := by decide +kernel
theorem dX1_choose_81 : decode cX1_choose 81 = .ok (.ifCond .eq 8, 3) := by decide +kernel
theorem dX1_choose_84 : decode cX1_choose 84 = .ok (.aload_n 0, 1) := by decide +kernel
theorem dX1_choose_85 : decode cX1_choose 85 = .ok (.iload_n 3, 1) := by decide +kernel
theorem dX1_choose_86 : decode cX1_choose 86 = .ok (.putfield 42, 3) := by decide +kernel
theorem dX1_choose_89 : decode cX1_choose 89 = .ok (.iinc 3 (-1), 3) := by decide +kernel
theorem dX1_choose_92 : decode cX1_choose 92 = .ok (.goto (-53), 3) := by decide +kernel
theorem dX1_choose_95 : decode cX1_choose 95 = .ok (.aload_n 0, 1) := by decide +kernel
theorem dX1_choose_96 : decode cX1_choose 96 = .ok (.iconst 1, 1) := by decide +kernel
theorem dX1_choose_97 : decode cX1_choose 97 = .ok (.putfield 38, 3) := by decide +kernel
theorem dX1_choose_100 : decode cX1_choose 100 = .ok (.return_, 1) := by decide +kernel
theorem dX1_isBetter_0 : decode cX1_isBetter 0 = .ok (.aload_n 0, 1) := by decide +kernel
theorem dX1_isBetter_1 : decode cX1_isBetter 1 = .ok (.getfield 42, 3) := by decide +kernel
theorem dX1_isBetter_4 : decode cX1_isBetter 4 = .ok (.bipush (-9), 2) := by decide +kernel
theorem dX1_isBetter_6 : decode cX1_isBetter 6 = .ok (.if_icmp .ne 5, 3) := by decide +kernel
theorem dX1_isBetter_9 : decode cX1_isBetter 9 = .ok (.iconst 1, 1) := by decide +kernel
theorem dX1_isBetter_10 : decode cX1_isBetter 10 = .ok (.ireturn, 1) := by decide +kernel
theorem dX1_isBetter_11 : decode cX1_isBetter 11 = .ok (.aload_n 0, 1) := by decide +kernel
theorem dX1_isBetter_12 : decode cX1_isBetter 12 = .ok (.aload_n 0, 1) := by decide +kernel
theorem dX1_isBetter_13 : decode cX1_isBetter 13 = .ok (.getfield 15, 3) := by decide +kernel
theorem dX1_isBetter_16 : decode cX1_isBetter 16 = .ok (.iload_n 1, 1) := by decide +kernel
theorem dX1_isBetter_17 : decode cX1_isBetter 17 = .ok (.invokevirtual 45, 3) := by decide +kernel
theorem dX1_isBetter_20 : decode cX1_isBetter 20 = .ok (.aload_n 0, 1) := by decide +kernel
theorem dX1_isBetter_21 : decode cX1_isBetter 21 = .ok (.aload_n 0, 1) := by decide +kernel
theorem dX1_isBetter_22 : decode cX1_isBetter 22 = .ok (.getfield 15, 3) := by decide +kernel
theorem dX1_isBetter_25 : decode cX1_isBetter 25 = .ok (.aload_n 0, 1) := by decide +kernel
theorem dX1_isBetter_26 : decode cX1_isBetter 26 = .ok (.getfield 42, 3) := by decide +kernel
theorem dX1_isBetter_29 : decode cX1_isBetter 29 = .ok (.invokevirtual 45, 3) := by decide +kernel
theorem dX1_isBetter_32 : decode cX1_isBetter 32 = .ok (.isub, 1) := by decide +kernel
theorem dX1_isBetter_33 : decode cX1_isBetter 33 = .ok (.istore_n 2, 1) := by decide +kernel
theorem dX1_isBetter_34 : decode cX1_isBetter 34 = .ok (.iload_n 2, 1) := by decide +kernel
theorem dX1_isBetter_35 : decode cX1_isBetter 35 = .ok (.ifCond .lt 21, 3) := by decide +kernel
theorem dX1_isBetter_38 : decode cX1_isBetter 38 = .ok (.iload_n 2, 1) := by decide +kernel
theorem dX1_isBetter_39 : decode cX1_isBetter 39 = .ok (.ifCond .ne 21, 3) := by decide +kernel
theorem dX1_isBetter_42 : decode cX1_isBetter 42 = .ok (.iload_n 1, 1) := by decide +kernel
theorem dX1_isBetter_43 : decode cX1_isBetter 43 = .ok (.invokestatic 67, 3) := by decide +kernel
theorem dX1_isBetter_46 : decode cX1_isBetter 46 = .ok (.aload_n 0, 1) := by decide +kernel
theorem dX1_isBetter_47 : decode cX1_isBetter 47 = .ok (.getfield 42, 3) := by decide +kernel
theorem dX1_isBetter_50 : decode cX1_isBetter 50 = .ok (.invokestatic 67, 3) := by decide +kernel
theorem dX1_isBetter_53 : decode cX1_isBetter 53 = .ok (.if_icmp .ge 7, 3) := by decide +kernel
theorem dX1_isBetter_56 : decode cX1_isBetter 56 = .ok (.iconst 1, 1) := by decide +kernel
theorem dX1_isBetter_57 : decode cX1_isBetter 57 = .ok (.goto 4, 3) := by decide +kernel
theorem dX1_isBetter_60 : decode cX1_isBetter 60 = .ok (.iconst 0, 1) := by decide +kernel
theorem dX1_isBetter_61 : decode cX1_isBetter 61 = .ok (.ireturn, 1) := by decide +kernel
theorem dX1_settlesWith_0 : decode cX1_settlesWith 0 = .ok (.iload_n 1, 1) := by decide +kernel
theorem dX1_settlesWith_1 : decode cX1_settlesWith 1 = .ok (.bipush 64, 2) := by decide +kernel
theorem dX1_settlesWith_3 : decode cX1_settlesWith 3 = .ok (.idiv, 1) := by decide +kernel
theorem dX1_settlesWith_4 : decode cX1_settlesWith 4 = .ok (.istore 4, 2) := by decide +kernel
theorem dX1_settlesWith_6 : decode cX1_settlesWith 6 = .ok (.lconst 1, 1) := by decide +kernel
theorem dX1_settlesWith_7 : decode cX1_settlesWith 7 = .ok (.iload_n 1, 1) := by decide +kernel
theorem dX1_settlesWith_8 : decode cX1_settlesWith 8 = .ok (.bipush 64, 2) := by decide +kernel
theorem dX1_settlesWith_10 : decode cX1_settlesWith 10 = .ok (.irem, 1) := by decide +kernel
theorem dX1_settlesWith_11 : decode cX1_settlesWith 11 = .ok (.lshl, 1) := by decide +kernel
theorem dX1_settlesWith_12 : decode cX1_settlesWith 12 = .ok (.lstore 5, 2) := by decide +kernel
theorem dX1_settlesWith_14 : decode cX1_settlesWith 14 = .ok (.aload_n 0, 1) := by decide +kernel
theorem dX1_settlesWith_15 : decode cX1_settlesWith 15 = .ok (.getfield 24, 3) := by decide +kernel
theorem dX1_settlesWith_18 : decode cX1_settlesWith 18 = .ok (.iload 4, 2) := by decide +kernel
theorem dX1_settlesWith_20 : decode cX1_settlesWith 20 = .ok (.laload, 1) := by decide +kernel
theorem dX1_settlesWith_21 : decode cX1_settlesWith 21 = .ok (.lload 5, 2) := by decide +kernel
theorem dX1_settlesWith_23 : decode cX1_settlesWith 23 = .ok (.land, 1) := by decide +kernel
theorem dX1_settlesWith_24 : decode cX1_settlesWith 24 = .ok (.lconst 0, 1) := by decide +kernel
theorem dX1_settlesWith_25 : decode cX1_settlesWith 25 = .ok (.lcmp, 1) := by decide +kernel
theorem dX1_settlesWith_26 : decode cX1_settlesWith 26 = .ok (.ifCond .ne 44, 3) := by decide +kernel
theorem dX1_settlesWith_29 : decode cX1_settlesWith 29 = .ok (.aload_n 0, 1) := by decide +kernel
theorem dX1_settlesWith_30 : decode cX1_settlesWith 30 = .ok (.getfield 24, 3) := by decide +kernel
theorem dX1_settlesWith_33 : decode cX1_settlesWith 33 = .ok (.iload 4, 2) := by decide +kernel
theorem dX1_settlesWith_35 : decode cX1_settlesWith 35 = .ok (.dup2, 1) := by decide +kernel
theorem dX1_settlesWith_36 : decode cX1_settlesWith 36 = .ok (.laload, 1) := by decide +kernel
theorem dX1_settlesWith_37 : decode cX1_settlesWith 37 = .ok (.lload 5, 2) := by decide +kernel
theorem dX1_settlesWith_39 : decode cX1_settlesWith 39 = .ok (.lor, 1) := by decide +kernel
theorem dX1_settlesWith_40 : decode cX1_settlesWith 40 = .ok (.lastore, 1) := by decide +kernel
theorem dX1_settlesWith_41 : decode cX1_settlesWith 41 = .ok (.aload_n 2, 1) := by decide +kernel
theorem dX1_settlesWith_42 : decode cX1_settlesWith 42 = .ok (.aload_n 3, 1) := by decide +kernel
theorem dX1_settlesWith_43 : decode cX1_settlesWith 43 = .ok (.iconst 1, 1) := by decide +kernel
theorem dX1_settlesWith_44 : decode cX1_settlesWith 44 = .ok (.iaload, 1) := by decide +kernel
theorem dX1_settlesWith_45 : decode cX1_settlesWith 45 = .ok (.aload_n 3, 1) := by decide +kernel
theorem dX1_settlesWith_46 : decode cX1_settlesWith 46 = .ok (.iconst 0, 1) := by decide +kernel
theorem dX1_settlesWith_47 : decode cX1_settlesWith 47 = .ok (.iaload, 1) := by decide +kernel
theorem dX1_settlesWith_48 : decode cX1_settlesWith 48 = .ok (.iload_n 1, 1) := by decide +kernel
theorem dX1_settlesWith_49 : decode cX1_settlesWith 49 = .ok (.iadd, 1) := by decide +kernel
theorem dX1_settlesWith_50 : decode cX1_settlesWith 50 = .ok (.invokevirtual 73, 3) := by decide +kernel
theorem dX1_settlesWith_53 : decode cX1_settlesWith 53 = .ok (.bipush (-9), 2) := by decide +kernel
theorem dX1_settlesWith_55 : decode cX1_settlesWith 55 = .ok (.if_icmp .eq 15, 3) := by decide +kernel
theorem dX1_settlesWith_58 : decode cX1_settlesWith 58 = .ok (.aload_n 0, 1) := by decide +kernel
theorem dX1_settlesWith_59 : decode cX1_settlesWith 59 = .ok (.getfield 28, 3) := by decide +kernel
theorem dX1_settlesWith_62 : decode cX1_settlesWith 62 = .ok (.iload 4, 2) := by decide +kernel
theorem dX1_settlesWith_64 : decode cX1_settlesWith 64 = .ok (.dup2, 1) := by decide +kernel
theorem dX1_settlesWith_65 : decode cX1_settlesWith 65 = .ok (.laload, 1) := by decide +kernel
theorem dX1_settlesWith_66 : decode cX1_settlesWith 66 = .ok (.lload 5, 2) := by decide +kernel
theorem dX1_settlesWith_68 : decode cX1_settlesWith 68 = .ok (.lor, 1) := by decide +kernel
theorem dX1_settlesWith_69 : decode cX1_settlesWith 69 = .ok (.lastore, 1) := by decide +kernel
theorem dX1_settlesWith_70 : decode cX1_settlesWith 70 = .ok (.aload_n 0, 1) := by decide +kernel
theorem dX1_settlesWith_71 : decode cX1_settlesWith 71 = .ok (.getfield 28, 3) := by decide +kernel
theorem dX1_settlesWith_74 : decode cX1_settlesWith 74 = .ok (.iload 4, 2) := by decide +kernel
theorem dX1_settlesWith_76 : decode cX1_settlesWith 76 = .ok (.laload, 1) := by decide +kernel
theorem dX1_settlesWith_77 : decode cX1_settlesWith 77 = .ok (.lload 5, 2) := by decide +kernel
theorem dX1_settlesWith_79 : decode cX1_settlesWith 79 = .ok (.land, 1) := by decide +kernel
theorem dX1_settlesWith_80 : decode cX1_settlesWith 80 = .ok (.lconst 0, 1) := by decide +kernel
theorem dX1_settlesWith_81 : decode cX1_settlesWith 81 = .ok (.lcmp, 1) := by decide +kernel
theorem dX1_settlesWith_82 : decode cX1_settlesWith 82 = .ok (.ifCond .eq 7, 3) := by decide +kernel
theorem dX1_settlesWith_85 : decode cX1_settlesWith 85 = .ok (.iconst 1, 1) := by decide +kernel
theorem dX1_settlesWith_86 : decode cX1_settlesWith 86 = .ok (.goto 4, 3) := by decide +kernel
theorem dX1_settlesWith_89 : decode cX1_settlesWith 89 = .ok (.iconst 0, 1) := by decide +kernel
theorem dX1_settlesWith_90 : decode cX1_settlesWith 90 = .ok (.ireturn, 1) := by decide +kernel
theorem dX2_init_0 : decode cX2_init 0 = .ok (.aload_n 0, 1) := by decide +kernel
theorem dX2_init_1 : decode cX2_init 1 = .ok (.invokespecial 3, 3) := by decide +kernel
theorem dX2_init_4 : decode cX2_init 4 = .ok (.aload_n 0, 1) := by decide +kernel
theorem dX2_init_5 : decode cX2_init 5 = .ok (.bipush 6, 2) := by decide +kernel
theorem dX2_init_7 : decode cX2_init 7 = .ok (.newarray .int, 2) := by decide +kernel
theorem dX2_init_9 : decode cX2_init 9 = .ok (.dup, 1) := by decide +kernel
theorem dX2_init_10 : decode cX2_init 10 = .ok (.iconst 0, 1) := by decide +kernel
theorem dX2_init_11 : decode cX2_init 11 = .ok (.iconst 4, 1) := by decide +kernel
theorem dX2_init_12 : decode cX2_init 12 = .ok (.iastore, 1) := by decide +kernel
theorem dX2_init_13 : decode cX2_init 13 = .ok (.dup, 1) := by decide +kernel
theorem dX2_init_14 : decode cX2_init 14 = .ok (.iconst 1, 1) := by decide +kernel
theorem dX2_init_15 : decode cX2_init 15 = .ok (.bipush 20, 2) := by decide +kernel
theorem dX2_init_17 : decode cX2_init 17 = .ok (.iastore, 1) := by decide +kernel
theorem dX2_init_18 : decode cX2_init 18 = .ok (.dup, 1) := by decide +kernel
theorem dX2_init_19 : decode cX2_init 19 = .ok (.iconst 2, 1) := by decide +kernel
theorem dX2_init_20 : decode cX2_init 20 = .ok (.bipush 10, 2) := by decide +kernel
theorem dX2_init_22 : decode cX2_init 22 = .ok (.iastore, 1) := by decide +kernel
theorem dX2_init_23 : decode cX2_init 23 = .ok (.dup, 1) := by decide +kernel
theorem dX2_init_24 : decode cX2_init 24 = .ok (.iconst 3, 1) := by decide +kernel
theorem dX2_init_25 : decode cX2_init 25 = .ok (.bipush 10, 2) := by decide +kernel
theorem dX2_init_27 : decode cX2_init 27 = .ok (.iastore, 1) := by decide +kernel
theorem dX2_init_28 : decode cX2_init 28 = .ok (.dup, 1) := by decide +kernel
theorem dX2_init_29 : decode cX2_init 29 = .ok (.iconst 4, 1) := by decide +kernel
theorem dX2_init_30 : decode cX2_init 30 = .ok (.sipush 999, 3) := by decide +kernel
theorem dX2_init_33 : decode cX2_init 33 = .ok (.iastore, 1) := by decide +kernel
theorem dX2_init_34 : decode cX2_init 34 = .ok (.dup, 1) := by decide +kernel
theorem dX2_init_35 : decode cX2_init 35 = .ok (.iconst 5, 1) := by decide +kernel
theorem dX2_init_36 : decode cX2_init 36 = .ok (.iconst 1, 1) := by decide +kernel
theorem dX2_init_37 : decode cX2_init 37 = .ok (.iastore, 1) := by decide +kernel
theorem dX2_init_38 : decode cX2_init 38 = .ok (.putfield 9, 3) := by decide +kernel
theorem dX2_init_41 : decode cX2_init 41 = .ok (.aload_n 0, 1) := by decide +kernel
theorem dX2_init_42 : decode cX2_init 42 = .ok (.bipush 60, 2) := by decide +kernel
theorem dX2_init_44 : decode cX2_init 44 = .ok (.newarray .int, 2) := by decide +kernel
theorem dX2_init_46 : decode cX2_init 46 = .ok (.putfield 15, 3) := by decide +kernel
theorem dX2_init_49 : decode cX2_init 49 = .ok (.aload_n 0, 1) := by decide +kernel
theorem dX2_init_50 : decode cX2_init 50 = .ok (.bipush 8, 2) := by decide +kernel
theorem dX2_init_52 : decode cX2_init 52 = .ok (.newarray .int, 2) := by decide +kernel
theorem dX2_init_54 : decode cX2_init 54 = .ok (.putfield 18, 3) := by decide +kernel
theorem dX2_init_57 : decode cX2_init 57 = .ok (.aload_n 0, 1) := by decide +kernel
theorem dX2_init_58 : decode cX2_init 58 = .ok (.bipush 60, 2) := by decide +kernel
theorem dX2_init_60 : decode cX2_init 60 = .ok (.newarray .int, 2) := by decide +kernel
theorem dX2_init_62 : decode cX2_init 62 = .ok (.putfield 21, 3) := by decide +kernel
theorem dX2_init_65 : decode cX2_init 65 = .ok (.return_, 1) := by decide +kernel
theorem dX2_clear_0 : decode cX2_clear 0 = .ok (.aload_n 0, 1) := by decide +kernel
theorem dX2_clear_1 : decode cX2_clear 1 = .ok (.getfield 18, 3) := by decide +kernel
theorem dX2_clear_4 : decode cX2_clear 4 = .ok (.iconst 0, 1) := by decide +kernel
theorem dX2_clear_5 : decode cX2_clear 5 = .ok (.invokestatic 24, 3) := by decide +kernel
theorem dX2_clear_8 : decode cX2_clear 8 = .ok (.aload_n 0, 1) := by decide +kernel
theorem dX2_clear_9 : decode cX2_clear 9 = .ok (.iconst 0, 1) := by decide +kernel
theorem dX2_clear_10 : decode cX2_clear 10 = .ok (.putfield 30, 3) := by decide +kernel
theorem dX2_clear_13 : decode cX2_clear 13 = .ok (.aload_n 0, 1) := by decide +kernel
theorem dX2_clear_14 : decode cX2_clear 14 = .ok (.iconst 0, 1) := by decide +kernel
theorem dX2_clear_15 : decode cX2_clear 15 = .ok (.putfield 34, 3) := by decide +kernel
theorem dX2_clear_18 : decode cX2_clear 18 = .ok (.aload_n 0, 1) := by decide +kernel
theorem dX2_clear_19 : decode cX2_clear 19 = .ok (.iconst 0, 1) := by decide +kernel
theorem dX2_clear_20 : decode cX2_clear 20 = .ok (.putfield 37, 3) := by decide +kernel
theorem dX2_clear_23 : decode cX2_clear 23 = .ok (.aload_n 0, 1) := by decide +kernel
theorem dX2_clear_24 : decode cX2_clear 24 = .ok (.iload_n 1, 1) := by decide +kernel
theorem dX2_clear_25 : decode cX2_clear 25 = .ok (.putfield 40, 3) := by decide +kernel
theorem dX2_clear_28 : decode cX2_clear 28 = .ok (.aload_n 0, 1) := by decide +kernel
theorem dX2_clear_29 : decode cX2_clear 29 = .ok (.iconst 0, 1) := by decide +kernel
theorem dX2_clear_30 : decode cX2_clear 30 = .ok (.putfield 43, 3) := by decide +kernel
theorem dX2_clear_33 : decode cX2_clear 33 = .ok (.aload_n 0, 1) := by decide +kernel
theorem dX2_clear_34 : decode cX2_clear 34 = .ok (.iconst 0, 1) := by decide +kernel
theorem dX2_clear_35 : decode cX2_clear 35 = .ok (.putfield 46, 3) := by decide +kernel
theorem dX2_clear_38 : decode cX2_clear 38 = .ok (.aload_n 0, 1) := by decide +kernel
theorem dX2_clear_39 : decode cX2_clear 39 = .ok (.sipush 1000, 3) := by decide +kernel
theorem dX2_clear_42 : decode cX2_clear 42 = .ok (.putfield 49, 3) := by decide +kernel
theorem dX2_clear_45 : decode cX2_clear 45 = .ok (.return_, 1) := by decide +kernel
theorem dX2_walkDay_0 : decode cX2_walkDay 0 = .ok (.aload_n 0, 1) := by decide +kernel
theorem dX2_walkDay_1 : decode cX2_walkDay 1 = .ok (.iload 5, 2) := by decide +kernel
theorem dX2_walkDay_3 : decode cX2_walkDay 3 = .ok (.invokevirtual 52, 3) := by decide +kernel
theorem dX2_walkDay_6 : decode cX2_walkDay 6 = .ok (.iconst 0, 1) := by decide +kernel
theorem dX2_walkDay_7 : decode cX2_walkDay 7 = .ok (.istore 7, 2) := by decide +kernel
theorem dX2_walkDay_9 : decode cX2_walkDay 9 = .ok (.iload 7, 2) := by decide +kernel
theorem dX2_walkDay_11 : decode cX2_walkDay 11 = .ok (.iload_n 1, 1) := by decide +kernel
theorem dX2_walkDay_12 : decode cX2_walkDay 12 = .ok (.if_icmp .ge 111, 3) := by decide +kernel
theorem dX2_walkDay_15 : decode cX2_walkDay 15 = .ok (.aload_n 0, 1) := by decide +kernel
theorem dX2_walkDay_16 : decode cX2_walkDay 16 = .ok (.getfield 43, 3) := by decide +kernel
theorem dX2_walkDay_19 : decode cX2_walkDay 19 = .ok (.iload_n 3, 1) := by decide +kernel
theorem dX2_walkDay_20 : decode cX2_walkDay 20 = .ok (.if_icmp .gt 103, 3) := by decide +kernel
theorem dX2_walkDay_23 : decode cX2_walkDay 23 = .ok (.aload_n 0, 1) := by decide +kernel
theorem dX2_walkDay_24 : decode cX2_walkDay 24 = .ok (.dup, 1) := by decide +kernel
theorem dX2_walkDay_25 : decode cX2_walkDay 25 = .ok (.getfield 37, 3) := by decide +kernel
theorem dX2_walkDay_28 : decode cX2_walkDay 28 = .ok (.aload_n 0, 1) := by decide +kernel
theorem dX2_walkDay_29 : decode cX2_walkDay 29 = .ok (.getfield 15, 3) := by decide +kernel
theorem dX2_walkDay_32 : decode cX2_walkDay 32 = .ok (.iload 7, 2) := by decide +kernel
theorem dX2_walkDay_34 : decode cX2_walkDay 34 = .ok (.iaload, 1) := by decide +kernel
theorem dX2_walkDay_35 : decode cX2_walkDay 35 = .ok (.iadd, 1) := by decide +kernel
theorem dX2_walkDay_36 : decode cX2_walkDay 36 = .ok (.putfield 37, 3) := by decide +kernel
theorem dX2_walkDay_39 : decode cX2_walkDay 39 = .ok (.aload_n 0, 1) := by decide +kernel
theorem dX2_walkDay_40 : decode cX2_walkDay 40 = .ok (.invokevirtual 56, 3) := by decide +kernel
theorem dX2_walkDay_43 : decode cX2_walkDay 43 = .ok (.aload_n 0, 1) := by decide +kernel
theorem dX2_walkDay_44 : decode cX2_walkDay 44 = .ok (.iload 7, 2) := by decide +kernel
theorem dX2_walkDay_46 : decode cX2_walkDay 46 = .ok (.iload_n 2, 1) := by decide +kernel
theorem dX2_walkDay_47 : decode cX2_walkDay 47 = .ok (.invokevirtual 59, 3) := by decide +kernel
theorem dX2_walkDay_50 : decode cX2_walkDay 50 = .ok (.aload_n 0, 1) := by decide +kernel
theorem dX2_walkDay_51 : decode cX2_walkDay 51 = .ok (.getfield 21, 3) := by decide +kernel
theorem dX2_walkDay_54 : decode cX2_walkDay 54 = .ok (.iload 7, 2) := by decide +kernel
theorem dX2_walkDay_56 : decode cX2_walkDay 56 = .ok (.aload_n 0, 1) := by decide +kernel
theorem dX2_walkDay_57 : decode cX2_walkDay 57 = .ok (.getfield 34, 3) := by decide +kernel
theorem dX2_walkDay_60 : decode cX2_walkDay 60 = .ok (.iastore, 1) := by decide +kernel
theorem dX2_walkDay_61 : decode cX2_walkDay 61 = .ok (.aload_n 0, 1) := by decide +kernel
theorem dX2_walkDay_62 : decode cX2_walkDay 62 = .ok (.aload_n 0, 1) := by decide +kernel
theorem dX2_walkDay_63 : decode cX2_walkDay 63 = .ok (.getfield 46, 3) := by decide +kernel
theorem dX2_walkDay_66 : decode cX2_walkDay 66 = .ok (.aload_n 0, 1) := by decide +kernel
theorem dX2_walkDay_67 : decode cX2_walkDay 67 = .ok (.getfield 34, 3) := by decide +kernel
theorem dX2_walkDay_70 : decode cX2_walkDay 70 = .ok (.invokestatic 63, 3) := by decide +kernel
theorem dX2_walkDay_73 : decode cX2_walkDay 73 = .ok (.putfield 46, 3) := by decide +kernel
theorem dX2_walkDay_76 : decode cX2_walkDay 76 = .ok (.aload_n 0, 1) := by decide +kernel
theorem dX2_walkDay_77 : decode cX2_walkDay 77 = .ok (.aload_n 0, 1) := by decide +kernel
theorem dX2_walkDay_78 : decode cX2_walkDay 78 = .ok (.getfield 40, 3) := by decide +kernel
theorem dX2_walkDay_81 : decode cX2_walkDay 81 = .ok (.aload 4, 2) := by decide +kernel
theorem dX2_walkDay_83 : decode cX2_walkDay 83 = .ok (.aload_n 0, 1) := by decide +kernel
theorem dX2_walkDay_84 : decode cX2_walkDay 84 = .ok (.getfield 34, 3) := by decide +kernel
theorem dX2_walkDay_87 : decode cX2_walkDay 87 = .ok (.aload_n 0, 1) := by decide +kernel
theorem dX2_walkDay_88 : decode cX2_walkDay 88 = .ok (.getfield 40, 3) := by decide +kernel
theorem dX2_walkDay_91 : decode cX2_walkDay 91 = .ok (.iload 6, 2) := by decide +kernel
theorem dX2_walkDay_93 : decode cX2_walkDay 93 = .ok (.invokevirtual 69, 3) := by decide +kernel
theorem dX2_walkDay_96 : decode cX2_walkDay 96 = .ok (.invokestatic 75, 3) := by decide +kernel
theorem dX2_walkDay_99 : decode cX2_walkDay 99 = .ok (.putfield 40, 3) := by decide +kernel
theorem dX2_walkDay_102 : decode cX2_walkDay 102 = .ok (.aload_n 0, 1) := by decide +kernel
theorem dX2_walkDay_103 : decode cX2_walkDay 103 = .ok (.aload_n 0, 1) := by decide +kernel
theorem dX2_walkDay_104 : decode cX2_walkDay 104 = .ok (.getfield 43, 3) := by decide +kernel
theorem dX2_walkDay_107 : decode cX2_walkDay 107 = .ok (.aload_n 0, 1) := by decide +kernel
theorem dX2_walkDay_108 : decode cX2_walkDay 108 = .ok (.getfield 40, 3) := by decide +kernel
theorem dX2_walkDay_111 : decode cX2_walkDay 111 = .ok (.invokestatic 63, 3) := by decide +kernel
theorem dX2_walkDay_114 : decode cX2_walkDay 114 = .ok (.putfield 43, 3) := by decide +kernel
theorem dX2_walkDay_117 : decode cX2_walkDay 117 = .ok (.iinc 7 1, 3) := by decide +kernel
theorem dX2_walkDay_120 : decode cX2_walkDay 120 = .ok (.goto (-111), 3) := by decide +kernel
theorem dX2_walkDay_123 : decode cX2_walkDay 123 = .ok (.return_, 1) := by decide +kernel
theorem dX2_goOn_0 : decode cX2_goOn 0 = .ok (.aload_n 0, 1) := by decide +kernel
theorem dX2_goOn_1 : decode cX2_goOn 1 = .ok (.getfield 9, 3) := by decide +kernel
theorem dX2_goOn_4 : decode cX2_goOn 4 = .ok (.iconst 0, 1) := by decide +kernel
theorem dX2_goOn_5 : decode cX2_goOn 5 = .ok (.iaload, 1) := by decide +kernel
theorem dX2_goOn_6 : decode cX2_goOn 6 = .ok (.iconst 1, 1) := by decide +kernel
theorem dX2_goOn_7 : decode cX2_goOn 7 = .ok (.isub, 1) := by decide +kernel
theorem dX2_goOn_8 : decode cX2_goOn 8 = .ok (.istore_n 1, 1) := by decide +kernel
theorem dX2_goOn_9 : decode cX2_goOn 9 = .ok (.aload_n 0, 1) := by decide +kernel
theorem dX2_goOn_10 : decode cX2_goOn 10 = .ok (.getfield 18, 3) := by decide +kernel
theorem dX2_goOn_13 : decode cX2_goOn 13 = .ok (.iload_n 1, 1) := by decide +kernel
theorem dX2_goOn_14 : decode cX2_goOn 14 = .ok (.iaload, 1) := by decide +kernel
theorem dX2_goOn_15 : decode cX2_goOn 15 = .ok (.aload_n 0, 1) := by decide +kernel
theorem dX2_goOn_16 : decode cX2_goOn 16 = .ok (.getfield 9, 3) := by decide +kernel
theorem dX2_goOn_19 : decode cX2_goOn 19 = .ok (.iconst 2, 1) := by decide +kernel
theorem dX2_goOn_20 : decode cX2_goOn 20 = .ok (.iaload, 1) := by decide +kernel
theorem dX2_goOn_21 : decode cX2_goOn 21 = .ok (.invokestatic 78, 3) := by decide +kernel
theorem dX2_goOn_24 : decode cX2_goOn 24 = .ok (.istore_n 2, 1) := by decide +kernel
theorem dX2_goOn_25 : decode cX2_goOn 25 = .ok (.aload_n 0, 1) := by decide +kernel
theorem dX2_goOn_26 : decode cX2_goOn 26 = .ok (.getfield 18, 3) := by decide +kernel
theorem dX2_goOn_29 : decode cX2_goOn 29 = .ok (.iload_n 1, 1) := by decide +kernel
theorem dX2_goOn_30 : decode cX2_goOn 30 = .ok (.dup2, 1) := by decide +kernel
theorem dX2_goOn_31 : decode cX2_goOn 31 = .ok (.iaload, 1) := by decide +kernel
theorem dX2_goOn_32 : decode cX2_goOn 32 = .ok (.iload_n 2, 1) := by decide +kernel
theorem dX2_goOn_33 : decode cX2_goOn 33 = .ok (.isub, 1) := by decide +kernel
theorem dX2_goOn_34 : decode cX2_goOn 34 = .ok (.iastore, 1) := by decide +kernel
theorem dX2_goOn_35 : decode cX2_goOn 35 = .ok (.aload_n 0, 1) := by decide +kernel
theorem dX2_goOn_36 : decode cX2_goOn 36 = .ok (.dup, 1) := by decide +kernel
theorem dX2_goOn_37 : decode cX2_goOn 37 = .ok (.getfield 34, 3) := by decide +kernel
theorem dX2_goOn_40 : decode cX2_goOn 40 = .ok (.iload_n 2, 1) := by decide +kernel
theorem dX2_goOn_41 : decode cX2_goOn 41 = .ok (.isub, 1) := by decide +kernel
theorem dX2_goOn_42 : decode cX2_goOn 42 = .ok (.putfield 34, 3) := by decide +kernel
theorem dX2_goOn_45 : decode cX2_goOn 45 = .ok (.aload_n 0, 1) := by decide +kernel
theorem dX2_goOn_46 : decode cX2_goOn 46 = .ok (.dup, 1) := by decide +kernel
theorem dX2_goOn_47 : decode cX2_goOn 47 = .ok (.getfield 30, 3) := by decide +kernel
theorem dX2_goOn_50 : decode cX2_goOn 50 = .ok (.iload_n 2, 1) := by decide +kernel
theorem dX2_goOn_51 : decode cX2_goOn 51 = .ok (.iadd, 1) := by decide +kernel
theorem dX2_goOn_52 : decode cX2_goOn 52 = .ok (.putfield 30, 3) := by decide +kernel
theorem dX2_goOn_55 : decode cX2_goOn 55 = .ok (.iload_n 1, 1) := by decide +kernel
theorem dX2_goOn_56 : decode cX2_goOn 56 = .ok (.iconst 1, 1) := by decide +kernel
theorem dX2_goOn_57 : decode cX2_goOn 57 = .ok (.isub, 1) := by decide +kernel
theorem dX2_goOn_58 : decode cX2_goOn 58 = .ok (.istore_n 3, 1) := by decide +kernel
theorem dX2_goOn_59 : decode cX2_goOn 59 = .ok (.iload_n 3, 1) := by decide +kernel
theorem dX2_goOn_60 : decode cX2_goOn 60 = .ok (.ifCond .lt 72, 3) := by decide +kernel
theorem dX2_goOn_63 : decode cX2_goOn 63 = .ok (.aload_n 0, 1) := by decide +kernel
theorem dX2_goOn_64 : decode cX2_goOn 64 = .ok (.getfield 9, 3) := by decide +kernel
theorem dX2_goOn_67 : decode cX2_goOn 67 = .ok (.iconst 1, 1) := by decide +kernel
theorem dX2_goOn_68 : decode cX2_goOn 68 = .ok (.iaload, 1) := by decide +kernel
theorem dX2_goOn_69 : decode cX2_goOn 69 = .ok (.aload_n 0, 1) := by decide +kernel
theorem dX2_goOn_70 : decode cX2_goOn 70 = .ok (.getfield 18, 3) := by decide +kernel
theorem dX2_goOn_73 : decode cX2_goOn 73 = .ok (.iload_n 3, 1) := by decide +kernel
theorem dX2_goOn_74 : decode cX2_goOn 74 = .ok (.iconst 1, 1) := by decide +kernel
theorem dX2_goOn_75 : decode cX2_goOn 75 = .ok (.iadd, 1) := by decide +kernel
theorem dX2_goOn_76 : decode cX2_goOn 76 = .ok (.iaload, 1) := by decide +kernel
theorem dX2_goOn_77 : decode cX2_goOn 77 = .ok (.isub, 1) := by decide +kernel
theorem dX2_goOn_78 : decode cX2_goOn 78 = .ok (.istore 4, 2) := by decide +kernel
theorem dX2_goOn_80 : decode cX2_goOn 80 = .ok (.aload_n 0, 1) := by decide +kernel
theorem dX2_goOn_81 : decode cX2_goOn 81 = .ok (.getfield 18, 3) := by decide +kernel
theorem dX2_goOn_84 : decode cX2_goOn 84 = .ok (.iload_n 3, 1) := by decide +kernel
theorem dX2_goOn_85 : decode cX2_goOn 85 = .ok (.iaload, 1) := by decide +kernel
theorem dX2_goOn_86 : decode cX2_goOn 86 = .ok (.aload_n 0, 1) := by decide +kernel
theorem dX2_goOn_87 : decode cX2_goOn 87 = .ok (.getfield 9, 3) := by decide +kernel
theorem dX2_goOn_90 : decode cX2_goOn 90 = .ok (.iconst 2, 1) := by decide +kernel
theorem dX2_goOn_91 : decode cX2_goOn 91 = .ok (.iaload, 1) := by decide +kernel
theorem dX2_goOn_92 : decode cX2_goOn 92 = .ok (.invokestatic 78, 3) := by decide +kernel
theorem dX2_goOn_95 : decode cX2_goOn 95 = .ok (.iload 4, 2) := by decide +kernel
theorem dX2_goOn_97 : decode cX2_goOn 97 = .ok (.invokestatic 78, 3) := by decide +kernel
theorem dX2_goOn_100 : decode cX2_goOn 100 = .ok (.istore 5, 2) := by decide +kernel
theorem dX2_goOn_102 : decode cX2_goOn 102 = .ok (.aload_n 0, 1) := by decide +kernel
theorem dX2_goOn_103 : decode cX2_goOn 103 = .ok (.getfield 18, 3) := by decide +kernel
theorem dX2_goOn_106 : decode cX2_goOn 106 = .ok (.iload_n 3, 1) := by decide +kernel
theorem dX2_goOn_107 : decode cX2_goOn 107 = .ok (.dup2, 1) := by decide +kernel
theorem dX2_goOn_108 : decode cX2_goOn 108 = .ok (.iaload, 1) := by decide +kernel
theorem dX2_goOn_109 : decode cX2_goOn 109 = .ok (.iload 5, 2) := by decide +kernel
theorem dX2_goOn_111 : decode cX2_goOn 111 = .ok (.isub, 1) := by decide +kernel
theorem dX2_goOn_112 : decode cX2_goOn 112 = .ok (.iastore, 1) := by decide +kernel
theorem dX2_goOn_113 : decode cX2_goOn 113 = .ok (.aload_n 0, 1) := by decide +kernel
theorem dX2_goOn_114 : decode cX2_goOn 114 = .ok (.getfield 18, 3) := by decide +kernel
theorem dX2_goOn_117 : decode cX2_goOn 117 = .ok (.iload_n 3, 1) := by decide +kernel
theorem dX2_goOn_118 : decode cX2_goOn 118 = .ok (.iconst 1, 1) := by decide +kernel
theorem dX2_goOn_119 : decode cX2_goOn 119 = .ok (.iadd, 1) := by decide +kernel
theorem dX2_goOn_120 : decode cX2_goOn 120 = .ok (.dup2, 1) := by decide +kernel
theorem dX2_goOn_121 : decode cX2_goOn 121 = .ok (.iaload, 1) := by decide +kernel
theorem dX2_goOn_122 : decode cX2_goOn 122 = .ok (.iload 5, 2) := by decide +kernel
theorem dX2_goOn_124 : decode cX2_goOn 124 = .ok (.iadd, 1) := by decide +kernel
theorem dX2_goOn_125 : decode cX2_goOn 125 = .ok (.iastore, 1) := by decide +kernel
theorem dX2_goOn_126 : decode cX2_goOn 126 = .ok (.iinc 3 (-1), 3) := by decide +kernel
theorem dX2_goOn_129 : decode cX2_goOn 129 = .ok (.goto (-70), 3) := by decide +kernel
theorem dX2_goOn_132 : decode cX2_goOn 132 = .ok (.return_, 1) := by decide +kernel
theorem dX2_letIn_0 : decode cX2_letIn 0 = .ok (.aload_n 0, 1) := by decide +kernel
theorem dX2_letIn_1 : decode cX2_letIn 1 = .ok (.iload_n 1, 1) := by decide +kernel
theorem dX2_letIn_2 : decode cX2_letIn 2 = .ok (.invokevirtual 81, 3) := by decide +kernel
theorem dX2_letIn_5 : decode cX2_letIn 5 = .ok (.istore_n 3, 1) := by decide +kernel
theorem dX2_letIn_6 : decode cX2_letIn 6 = .ok (.iload_n 3, 1) := by decide +kernel
theorem dX2_letIn_7 : decode cX2_letIn 7 = .ok (.iload_n 2, 1) := by decide +kernel
theorem dX2_letIn_8 : decode cX2_letIn 8 = .ok (.if_icmp .lt 16, 3) := by decide +kernel
theorem dX2_letIn_11 : decode cX2_letIn 11 = .ok (.aload_n 0, 1) := by decide +kernel
theorem dX2_letIn_12 : decode cX2_letIn 12 = .ok (.aload_n 0, 1) := by decide +kernel
theorem dX2_letIn_13 : decode cX2_letIn 13 = .ok (.getfield 49, 3) := by decide +kernel
theorem dX2_letIn_16 : decode cX2_letIn 16 = .ok (.iload_n 3, 1) := by decide +kernel
theorem dX2_letIn_17 : decode cX2_letIn 17 = .ok (.invokestatic 78, 3) := by decide +kernel
theorem dX2_letIn_20 : decode cX2_letIn 20 = .ok (.putfield 49, 3) := by decide +kernel
theorem dX2_letIn_23 : decode cX2_letIn 23 = .ok (.return_, 1) := by decide +kernel
theorem dX2_letIn_24 : decode cX2_letIn 24 = .ok (.aload_n 0, 1) := by decide +kernel
theorem dX2_letIn_25 : decode cX2_letIn 25 = .ok (.getfield 9, 3) := by decide +kernel
theorem dX2_letIn_28 : decode cX2_letIn 28 = .ok (.iconst 1, 1) := by decide +kernel
theorem dX2_letIn_29 : decode cX2_letIn 29 = .ok (.iaload, 1) := by decide +kernel
theorem dX2_letIn_30 : decode cX2_letIn 30 = .ok (.aload_n 0, 1) := by decide +kernel
theorem dX2_letIn_31 : decode cX2_letIn 31 = .ok (.getfield 18, 3) := by decide +kernel
theorem dX2_letIn_34 : decode cX2_letIn 34 = .ok (.iconst 0, 1) := by decide +kernel
theorem dX2_letIn_35 : decode cX2_letIn 35 = .ok (.iaload, 1) := by decide +kernel
theorem dX2_letIn_36 : decode cX2_letIn 36 = .ok (.isub, 1) := by decide +kernel
theorem dX2_letIn_37 : decode cX2_letIn 37 = .ok (.istore 4, 2) := by decide +kernel
theorem dX2_letIn_39 : decode cX2_letIn 39 = .ok (.aload_n 0, 1) := by decide +kernel
theorem dX2_letIn_40 : decode cX2_letIn 40 = .ok (.getfield 37, 3) := by decide +kernel
theorem dX2_letIn_43 : decode cX2_letIn 43 = .ok (.aload_n 0, 1) := by decide +kernel
theorem dX2_letIn_44 : decode cX2_letIn 44 = .ok (.getfield 9, 3) := by decide +kernel
theorem dX2_letIn_47 : decode cX2_letIn 47 = .ok (.iconst 3, 1) := by decide +kernel
theorem dX2_letIn_48 : decode cX2_letIn 48 = .ok (.iaload, 1) := by decide +kernel
theorem dX2_letIn_49 : decode cX2_letIn 49 = .ok (.invokestatic 78, 3) := by decide +kernel
theorem dX2_letIn_52 : decode cX2_letIn 52 = .ok (.iload 4, 2) := by decide +kernel
theorem dX2_letIn_54 : decode cX2_letIn 54 = .ok (.invokestatic 78, 3) := by decide +kernel
theorem dX2_letIn_57 : decode cX2_letIn 57 = .ok (.istore 5, 2) := by decide +kernel
theorem dX2_letIn_59 : decode cX2_letIn 59 = .ok (.aload_n 0, 1) := by decide +kernel
theorem dX2_letIn_60 : decode cX2_letIn 60 = .ok (.dup, 1) := by decide +kernel
theorem dX2_letIn_61 : decode cX2_letIn 61 = .ok (.getfield 37, 3) := by decide +kernel
theorem dX2_letIn_64 : decode cX2_letIn 64 = .ok (.iload 5, 2) := by decide +kernel
theorem dX2_letIn_66 : decode cX2_letIn 66 = .ok (.isub, 1) := by decide +kernel
theorem dX2_letIn_67 : decode cX2_letIn 67 = .ok (.putfield 37, 3) := by decide +kernel
theorem dX2_letIn_70 : decode cX2_letIn 70 = .ok (.aload_n 0, 1) := by decide +kernel
theorem dX2_letIn_71 : decode cX2_letIn 71 = .ok (.getfield 18, 3) := by decide +kernel
theorem dX2_letIn_74 : decode cX2_letIn 74 = .ok (.iconst 0, 1) := by decide +kernel
theorem dX2_letIn_75 : decode cX2_letIn 75 = .ok (.dup2, 1) := by decide +kernel
theorem dX2_letIn_76 : decode cX2_letIn 76 = .ok (.iaload, 1) := by decide +kernel
theorem dX2_letIn_77 : decode cX2_letIn 77 = .ok (.iload 5, 2) := by decide +kernel
theorem dX2_letIn_79 : decode cX2_letIn 79 = .ok (.iadd, 1) := by decide +kernel
theorem dX2_letIn_80 : decode cX2_letIn 80 = .ok (.iastore, 1) := by decide +kernel
theorem dX2_letIn_81 : decode cX2_letIn 81 = .ok (.aload_n 0, 1) := by decide +kernel
theorem dX2_letIn_82 : decode cX2_letIn 82 = .ok (.dup, 1) := by decide +kernel
theorem dX2_letIn_83 : decode cX2_letIn 83 = .ok (.getfield 34, 3) := by decide +kernel
theorem dX2_letIn_86 : decode cX2_letIn 86 = .ok (.iload 5, 2) := by decide +kernel
theorem dX2_letIn_88 : decode cX2_letIn 88 = .ok (.iadd, 1) := by decide +kernel
theorem dX2_letIn_89 : decode cX2_letIn 89 = .ok (.putfield 34, 3) := by decide +kernel
theorem dX2_letIn_92 : decode cX2_letIn 92 = .ok (.return_, 1) := by decide +kernel
theorem dX2_knownAtGate_0 : decode cX2_knownAtGate 0 = .ok (.aload_n 0, 1) := by decide +kernel
theorem dX2_knownAtGate_1 : decode cX2_knownAtGate 1 = .ok (.getfield 9, 3) := by decide +kernel
theorem dX2_knownAtGate_4 : decode cX2_knownAtGate 4 = .ok (.iconst 5, 1) := by decide +kernel
theorem dX2_knownAtGate_5 : decode cX2_knownAtGate 5 = .ok (.iaload, 1) := by decide +kernel
theorem dX2_knownAtGate_6 : decode cX2_knownAtGate 6 = .ok (.ifCond .ne 8, 3) := by decide +kernel
theorem dX2_knownAtGate_9 : decode cX2_knownAtGate 9 = .ok (.aload_n 0, 1) := by decide +kernel
theorem dX2_knownAtGate_10 : decode cX2_knownAtGate 10 = .ok (.getfield 34, 3) := by decide +kernel
theorem dX2_knownAtGate_13 : decode cX2_knownAtGate 13 = .ok (.ireturn, 1) := by decide +kernel
theorem dX2_knownAtGate_14 : decode cX2_knownAtGate 14 = .ok (.iload_n 1, 1) := by decide +kernel
theorem dX2_knownAtGate_15 : decode cX2_knownAtGate 15 = .ok (.aload_n 0, 1) := by decide +kernel
theorem dX2_knownAtGate_16 : decode cX2_knownAtGate 16 = .ok (.getfield 9, 3) := by decide +kernel
theorem dX2_knownAtGate_19 : decode cX2_knownAtGate 19 = .ok (.iconst 5, 1) := by decide +kernel
theorem dX2_knownAtGate_20 : decode cX2_knownAtGate 20 = .ok (.iaload, 1) := by decide +kernel
theorem dX2_knownAtGate_21 : decode cX2_knownAtGate 21 = .ok (.isub, 1) := by decide +kernel
theorem dX2_knownAtGate_22 : decode cX2_knownAtGate 22 = .ok (.istore_n 2, 1) := by decide +kernel
theorem dX2_knownAtGate_23 : decode cX2_knownAtGate 23 = .ok (.iload_n 2, 1) := by decide +kernel
theorem dX2_knownAtGate_24 : decode cX2_knownAtGate 24 = .ok (.ifCond .ge 7, 3) := by decide +kernel
theorem dX2_knownAtGate_27 : decode cX2_knownAtGate 27 = .ok (.iconst 0, 1) := by decide +kernel
theorem dX2_knownAtGate_28 : decode cX2_knownAtGate 28 = .ok (.goto 9, 3) := by decide +kernel
theorem dX2_knownAtGate_31 : decode cX2_knownAtGate 31 = .ok (.aload_n 0, 1) := by decide +kernel
theorem dX2_knownAtGate_32 : decode cX2_knownAtGate 32 = .ok (.getfield 21, 3) := by decide +kernel
theorem dX2_knownAtGate_35 : decode cX2_knownAtGate 35 = .ok (.iload_n 2, 1) := by decide +kernel
theorem dX2_knownAtGate_36 : decode cX2_knownAtGate 36 = .ok (.iaload, 1) := by decide +kernel
theorem dX2_knownAtGate_37 : decode cX2_knownAtGate 37 = .ok (.ireturn, 1) := by decide +kernel
theorem dX2_markOfMostOver_0 : decode cX2_markOfMostOver 0 = .ok (.bipush (-9), 2) := by decide +kernel
theorem dX2_markOfMostOver_2 : decode cX2_markOfMostOver 2 = .ok (.istore 5, 2) := by decide +kernel
theorem dX2_markOfMostOver_4 : decode cX2_markOfMostOver 4 = .ok (.iconst (-1), 1) := by decide +kernel
theorem dX2_markOfMostOver_5 : decode cX2_markOfMostOver 5 = .ok (.istore 6, 2) := by decide +kernel
theorem dX2_markOfMostOver_7 : decode cX2_markOfMostOver 7 = .ok (.iconst 0, 1) := by decide +kernel
theorem dX2_markOfMostOver_8 : decode cX2_markOfMostOver 8 = .ok (.istore 7, 2) := by decide +kernel
theorem dX2_markOfMostOver_10 : decode cX2_markOfMostOver 10 = .ok (.iconst 0, 1) := by decide +kernel
theorem dX2_markOfMostOver_11 : decode cX2_markOfMostOver 11 = .ok (.istore 8, 2) := by decide +kernel
theorem dX2_markOfMostOver_13 : decode cX2_markOfMostOver 13 = .ok (.iload 8, 2) := by decide +kernel
theorem dX2_markOfMostOver_15 : decode cX2_markOfMostOver 15 = .ok (.sipush 200, 3) := by decide +kernel
theorem dX2_markOfMostOver_18 : decode cX2_markOfMostOver 18 = .ok (.if_icmp .gt 70, 3) := by decide +kernel
theorem dX2_markOfMostOver_21 : decode cX2_markOfMostOver 21 = .ok (.iload 7, 2) := by decide +kernel
theorem dX2_markOfMostOver_23 : decode cX2_markOfMostOver 23 = .ok (.sipush 200, 3) := by decide +kernel
theorem dX2_markOfMostOver_26 : decode cX2_markOfMostOver 26 = .ok (.if_icmp .gt 62, 3) := by decide +kernel
theorem dX2_markOfMostOver_29 : decode cX2_markOfMostOver 29 = .ok (.aload_n 0, 1) := by decide +kernel
theorem dX2_markOfMostOver_30 : decode cX2_markOfMostOver 30 = .ok (.iload_n 1, 1) := by decide +kernel
theorem dX2_markOfMostOver_31 : decode cX2_markOfMostOver 31 = .ok (.iload 7, 2) := by decide +kernel
theorem dX2_markOfMostOver_33 : decode cX2_markOfMostOver 33 = .ok (.aload_n 3, 1) := by decide +kernel
theorem dX2_markOfMostOver_34 : decode cX2_markOfMostOver 34 = .ok (.iconst 3, 1) := by decide +kernel
theorem dX2_markOfMostOver_35 : decode cX2_markOfMostOver 35 = .ok (.iaload, 1) := by decide +kernel
theorem dX2_markOfMostOver_36 : decode cX2_markOfMostOver 36 = .ok (.aload_n 2, 1) := by decide +kernel
theorem dX2_markOfMostOver_37 : decode cX2_markOfMostOver 37 = .ok (.aload_n 3, 1) := by decide +kernel
theorem dX2_markOfMostOver_38 : decode cX2_markOfMostOver 38 = .ok (.iconst 1, 1) := by decide +kernel
theorem dX2_markOfMostOver_39 : decode cX2_markOfMostOver 39 = .ok (.iaload, 1) := by decide +kernel
theorem dX2_markOfMostOver_40 : decode cX2_markOfMostOver 40 = .ok (.iload 4, 2) := by decide +kernel
theorem dX2_markOfMostOver_42 : decode cX2_markOfMostOver 42 = .ok (.invokevirtual 85, 3) := by decide +kernel
theorem dX2_markOfMostOver_45 : decode cX2_markOfMostOver 45 = .ok (.aload_n 0, 1) := by decide +kernel
theorem dX2_markOfMostOver_46 : decode cX2_markOfMostOver 46 = .ok (.getfield 43, 3) := by decide +kernel
theorem dX2_markOfMostOver_49 : decode cX2_markOfMostOver 49 = .ok (.aload_n 3, 1) := by decide +kernel
theorem dX2_markOfMostOver_50 : decode cX2_markOfMostOver 50 = .ok (.iconst 3, 1) := by decide +kernel
theorem dX2_markOfMostOver_51 : decode cX2_markOfMostOver 51 = .ok (.iaload, 1) := by decide +kernel
theorem dX2_markOfMostOver_52 : decode cX2_markOfMostOver 52 = .ok (.if_icmp .gt 22, 3) := by decide +kernel
theorem dX2_markOfMostOver_55 : decode cX2_markOfMostOver 55 = .ok (.aload_n 0, 1) := by decide +kernel
theorem dX2_markOfMostOver_56 : decode cX2_markOfMostOver 56 = .ok (.getfield 30, 3) := by decide +kernel
theorem dX2_markOfMostOver_59 : decode cX2_markOfMostOver 59 = .ok (.iload 6, 2) := by decide +kernel
theorem dX2_markOfMostOver_61 : decode cX2_markOfMostOver 61 = .ok (.if_icmp .le 13, 3) := by decide +kernel
theorem dX2_markOfMostOver_64 : decode cX2_markOfMostOver 64 = .ok (.iload 7, 2) := by decide +kernel
theorem dX2_markOfMostOver_66 : decode cX2_markOfMostOver 66 = .ok (.istore 5, 2) := by decide +kernel
theorem dX2_markOfMostOver_68 : decode cX2_markOfMostOver 68 = .ok (.aload_n 0, 1) := by decide +kernel
theorem dX2_markOfMostOver_69 : decode cX2_markOfMostOver 69 = .ok (.getfield 30, 3) := by decide +kernel
theorem dX2_markOfMostOver_72 : decode cX2_markOfMostOver 72 = .ok (.istore 6, 2) := by decide +kernel
theorem dX2_markOfMostOver_74 : decode cX2_markOfMostOver 74 = .ok (.aload_n 0, 1) := by decide +kernel
theorem dX2_markOfMostOver_75 : decode cX2_markOfMostOver 75 = .ok (.getfield 49, 3) := by decide +kernel
theorem dX2_markOfMostOver_78 : decode cX2_markOfMostOver 78 = .ok (.iconst 1, 1) := by decide +kernel
theorem dX2_markOfMostOver_79 : decode cX2_markOfMostOver 79 = .ok (.iadd, 1) := by decide +kernel
theorem dX2_markOfMostOver_80 : decode cX2_markOfMostOver 80 = .ok (.istore 7, 2) := by decide +kernel
theorem dX2_markOfMostOver_82 : decode cX2_markOfMostOver 82 = .ok (.iinc 8 1, 3) := by decide +kernel
theorem dX2_markOfMostOver_85 : decode cX2_markOfMostOver 85 = .ok (.goto (-72), 3) := by decide +kernel
theorem dX2_markOfMostOver_88 : decode cX2_markOfMostOver 88 = .ok (.iload 5, 2) := by decide +kernel
theorem dX2_markOfMostOver_90 : decode cX2_markOfMostOver 90 = .ok (.ireturn, 1) := by decide +kernel
theorem dX3_init_0 : decode cX3_init 0 = .ok (.aload_n 0, 1) := by decide +kernel
theorem dX3_init_1 : decode cX3_init 1 = .ok (.invokespecial 5, 3) := by decide +kernel
theorem dX3_init_4 : decode cX3_init 4 = .ok (.aload_n 0, 1) := by decide +kernel
theorem dX3_init_5 : decode cX3_init 5 = .ok (.bipush 20, 2) := by decide +kernel
theorem dX3_init_7 : decode cX3_init 7 = .ok (.newarray .int, 2) := by decide +kernel
theorem dX3_init_9 : decode cX3_init 9 = .ok (.putfield 11, 3) := by decide +kernel
theorem dX3_init_12 : decode cX3_init 12 = .ok (.aload_n 0, 1) := by decide +kernel
theorem dX3_init_13 : decode cX3_init 13 = .ok (.bipush 20, 2) := by decide +kernel
theorem dX3_init_15 : decode cX3_init 15 = .ok (.newarray .int, 2) := by decide +kernel
theorem dX3_init_17 : decode cX3_init 17 = .ok (.putfield 15, 3) := by decide +kernel
theorem dX3_init_20 : decode cX3_init 20 = .ok (.aload_n 0, 1) := by decide +kernel
theorem dX3_init_21 : decode cX3_init 21 = .ok (.bipush 20, 2) := by decide +kernel
theorem dX3_init_23 : decode cX3_init 23 = .ok (.newarray .int, 2) := by decide +kernel
theorem dX3_init_25 : decode cX3_init 25 = .ok (.putfield 18, 3) := by decide +kernel
theorem dX3_init_28 : decode cX3_init 28 = .ok (.aload_n 0, 1) := by decide +kernel
theorem dX3_init_29 : decode cX3_init 29 = .ok (.bipush 50, 2) := by decide +kernel
theorem dX3_init_31 : decode cX3_init 31 = .ok (.newarray .long, 2) := by decide +kernel
theorem dX3_init_33 : decode cX3_init 33 = .ok (.putfield 21, 3) := by decide +kernel
theorem dX3_init_36 : decode cX3_init 36 = .ok (.aload_n 0, 1) := by decide +kernel
theorem dX3_init_37 : decode cX3_init 37 = .ok (.bipush 98, 2) := by decide +kernel
theorem dX3_init_39 : decode cX3_init 39 = .ok (.newarray .int, 2) := by decide +kernel
theorem dX3_init_41 : decode cX3_init 41 = .ok (.putfield 25, 3) := by decide +kernel
theorem dX3_init_44 : decode cX3_init 44 = .ok (.aload_n 0, 1) := by decide +kernel
theorem dX3_init_45 : decode cX3_init 45 = .ok (.bipush 98, 2) := by decide +kernel
theorem dX3_init_47 : decode cX3_init 47 = .ok (.newarray .int, 2) := by decide +kernel
theorem dX3_init_49 : decode cX3_init 49 = .ok (.putfield 28, 3) := by decide +kernel
theorem dX3_init_52 : decode cX3_init 52 = .ok (.aload_n 0, 1) := by decide +kernel
theorem dX3_init_53 : decode cX3_init 53 = .ok (.invokevirtual 31, 3) := by decide +kernel
theorem dX3_init_56 : decode cX3_init 56 = .ok (.return_, 1) := by decide +kernel
theorem dX3_lawNet_0 : decode cX3_lawNet 0 = .ok (.iload_n 0, 1) := by decide +kernel
theorem dX3_lawNet_1 : decode cX3_lawNet 1 = .ok (.iload_n 1, 1) := by decide +kernel
theorem dX3_lawNet_2 : decode cX3_lawNet 2 = .ok (.imul, 1) := by decide +kernel
theorem dX3_lawNet_3 : decode cX3_lawNet 3 = .ok (.bipush 100, 2) := by decide +kernel
theorem dX3_lawNet_5 : decode cX3_lawNet 5 = .ok (.idiv, 1) := by decide +kernel
theorem dX3_lawNet_6 : decode cX3_lawNet 6 = .ok (.iload_n 2, 1) := by decide +kernel
theorem dX3_lawNet_7 : decode cX3_lawNet 7 = .ok (.isub, 1) := by decide +kernel
theorem dX3_lawNet_8 : decode cX3_lawNet 8 = .ok (.ireturn, 1) := by decide +kernel
