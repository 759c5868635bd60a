theorem dX3_swayByNet_0 : decode cX3_swayByNet 0 = .ok (.iload_n 0, 1) := by decide +kernel
theorem dX3_swayByNet_1 : decode cX3_swayByNet 1 = .ok (.istore_n 3, 1) := by decide +kernel
theorem dX3_swayByNet_2 : decode cX3_swayByNet 2 = .ok (.iconst 0, 1) := by decide +kernel
theorem dX3_swayByNet_3 : decode cX3_swayByNet 3 = .ok (.istore 4, 2) := by decide +kernel
theorem dX3_swayByNet_5 : decode cX3_swayByNet 5 = .ok (.iload 4, 2) := by decide +kernel
theorem dX3_swayByNet_7 : decode cX3_swayByNet 7 = .ok (.iload_n 2, 1) := by decide +kernel
theorem dX3_swayByNet_8 : decode cX3_swayByNet 8 = .ok (.if_icmp .ge 15, 3) := by decide +kernel
theorem dX3_swayByNet_11 : decode cX3_swayByNet 11 = .ok (.iload_n 3, 1) := by decide +kernel
theorem dX3_swayByNet_12 : decode cX3_swayByNet 12 = .ok (.iload_n 1, 1) := by decide +kernel
theorem dX3_swayByNet_13 : decode cX3_swayByNet 13 = .ok (.invokestatic 34, 3) := by decide +kernel
theorem dX3_swayByNet_16 : decode cX3_swayByNet 16 = .ok (.istore_n 3, 1) := by decide +kernel
theorem dX3_swayByNet_17 : decode cX3_swayByNet 17 = .ok (.iinc 4 1, 3) := by decide +kernel
theorem dX3_swayByNet_20 : decode cX3_swayByNet 20 = .ok (.goto (-15), 3) := by decide +kernel
theorem dX3_swayByNet_23 : decode cX3_swayByNet 23 = .ok (.iload_n 3, 1) := by decide +kernel
theorem dX3_swayByNet_24 : decode cX3_swayByNet 24 = .ok (.ireturn, 1) := by decide +kernel
theorem dX3_putNew_0 : decode cX3_putNew 0 = .ok (.bipush 48, 2) := by decide +kernel
theorem dX3_putNew_2 : decode cX3_putNew 2 = .ok (.istore 6, 2) := by decide +kernel
theorem dX3_putNew_4 : decode cX3_putNew 4 = .ok (.bipush (-51), 2) := by decide +kernel
theorem dX3_putNew_6 : decode cX3_putNew 6 = .ok (.istore 7, 2) := by decide +kernel
theorem dX3_putNew_8 : decode cX3_putNew 8 = .ok (.bipush 47, 2) := by decide +kernel
theorem dX3_putNew_10 : decode cX3_putNew 10 = .ok (.istore 8, 2) := by decide +kernel
theorem dX3_putNew_12 : decode cX3_putNew 12 = .ok (.iload 8, 2) := by decide +kernel
theorem dX3_putNew_14 : decode cX3_putNew 14 = .ok (.bipush (-50), 2) := by decide +kernel
theorem dX3_putNew_16 : decode cX3_putNew 16 = .ok (.if_icmp .lt 45, 3) := by decide +kernel
theorem dX3_putNew_19 : decode cX3_putNew 19 = .ok (.iload_n 2, 1) := by decide +kernel
theorem dX3_putNew_20 : decode cX3_putNew 20 = .ok (.iload 8, 2) := by decide +kernel
theorem dX3_putNew_22 : decode cX3_putNew 22 = .ok (.iload_n 3, 1) := by decide +kernel
theorem dX3_putNew_23 : decode cX3_putNew 23 = .ok (.invokestatic 38, 3) := by decide +kernel
theorem dX3_putNew_26 : decode cX3_putNew 26 = .ok (.istore 9, 2) := by decide +kernel
theorem dX3_putNew_28 : decode cX3_putNew 28 = .ok (.iload 9, 2) := by decide +kernel
theorem dX3_putNew_30 : decode cX3_putNew 30 = .ok (.iload 4, 2) := by decide +kernel
theorem dX3_putNew_32 : decode cX3_putNew 32 = .ok (.if_icmp .lt 7, 3) := by decide +kernel
theorem dX3_putNew_35 : decode cX3_putNew 35 = .ok (.iload 8, 2) := by decide +kernel
theorem dX3_putNew_37 : decode cX3_putNew 37 = .ok (.istore 6, 2) := by decide +kernel
theorem dX3_putNew_39 : decode cX3_putNew 39 = .ok (.iload 9, 2) := by decide +kernel
theorem dX3_putNew_41 : decode cX3_putNew 41 = .ok (.iload 5, 2) := by decide +kernel
theorem dX3_putNew_43 : decode cX3_putNew 43 = .ok (.if_icmp .gt 12, 3) := by decide +kernel
theorem dX3_putNew_46 : decode cX3_putNew 46 = .ok (.iload 7, 2) := by decide +kernel
theorem dX3_putNew_48 : decode cX3_putNew 48 = .ok (.iload 8, 2) := by decide +kernel
theorem dX3_putNew_50 : decode cX3_putNew 50 = .ok (.invokestatic 42, 3) := by decide +kernel
theorem dX3_putNew_53 : decode cX3_putNew 53 = .ok (.istore 7, 2) := by decide +kernel
theorem dX3_putNew_55 : decode cX3_putNew 55 = .ok (.iinc 8 (-1), 3) := by decide +kernel
theorem dX3_putNew_58 : decode cX3_putNew 58 = .ok (.goto (-46), 3) := by decide +kernel
theorem dX3_putNew_61 : decode cX3_putNew 61 = .ok (.aload_n 0, 1) := by decide +kernel
theorem dX3_putNew_62 : decode cX3_putNew 62 = .ok (.getfield 11, 3) := by decide +kernel
theorem dX3_putNew_65 : decode cX3_putNew 65 = .ok (.aload_n 0, 1) := by decide +kernel
theorem dX3_putNew_66 : decode cX3_putNew 66 = .ok (.getfield 47, 3) := by decide +kernel
theorem dX3_putNew_69 : decode cX3_putNew 69 = .ok (.iload_n 1, 1) := by decide +kernel
theorem dX3_putNew_70 : decode cX3_putNew 70 = .ok (.iastore, 1) := by decide +kernel
theorem dX3_putNew_71 : decode cX3_putNew 71 = .ok (.aload_n 0, 1) := by decide +kernel
theorem dX3_putNew_72 : decode cX3_putNew 72 = .ok (.getfield 15, 3) := by decide +kernel
theorem dX3_putNew_75 : decode cX3_putNew 75 = .ok (.aload_n 0, 1) := by decide +kernel
theorem dX3_putNew_76 : decode cX3_putNew 76 = .ok (.getfield 47, 3) := by decide +kernel
theorem dX3_putNew_79 : decode cX3_putNew 79 = .ok (.iload 6, 2) := by decide +kernel
theorem dX3_putNew_81 : decode cX3_putNew 81 = .ok (.iastore, 1) := by decide +kernel
theorem dX3_putNew_82 : decode cX3_putNew 82 = .ok (.aload_n 0, 1) := by decide +kernel
theorem dX3_putNew_83 : decode cX3_putNew 83 = .ok (.getfield 18, 3) := by decide +kernel
theorem dX3_putNew_86 : decode cX3_putNew 86 = .ok (.aload_n 0, 1) := by decide +kernel
theorem dX3_putNew_87 : decode cX3_putNew 87 = .ok (.getfield 47, 3) := by decide +kernel
theorem dX3_putNew_90 : decode cX3_putNew 90 = .ok (.iload 7, 2) := by decide +kernel
theorem dX3_putNew_92 : decode cX3_putNew 92 = .ok (.iastore, 1) := by decide +kernel
theorem dX3_putNew_93 : decode cX3_putNew 93 = .ok (.aload_n 0, 1) := by decide +kernel
theorem dX3_putNew_94 : decode cX3_putNew 94 = .ok (.dup, 1) := by decide +kernel
theorem dX3_putNew_95 : decode cX3_putNew 95 = .ok (.getfield 47, 3) := by decide +kernel
theorem dX3_putNew_98 : decode cX3_putNew 98 = .ok (.iconst 1, 1) := by decide +kernel
theorem dX3_putNew_99 : decode cX3_putNew 99 = .ok (.iadd, 1) := by decide +kernel
theorem dX3_putNew_100 : decode cX3_putNew 100 = .ok (.putfield 47, 3) := by decide +kernel
theorem dX3_putNew_103 : decode cX3_putNew 103 = .ok (.aload_n 0, 1) := by decide +kernel
theorem dX3_putNew_104 : decode cX3_putNew 104 = .ok (.invokevirtual 31, 3) := by decide +kernel
theorem dX3_putNew_107 : decode cX3_putNew 107 = .ok (.aload_n 0, 1) := by decide +kernel
theorem dX3_putNew_108 : decode cX3_putNew 108 = .ok (.getfield 47, 3) := by decide +kernel
theorem dX3_putNew_111 : decode cX3_putNew 111 = .ok (.iconst 1, 1) := by decide +kernel
theorem dX3_putNew_112 : decode cX3_putNew 112 = .ok (.isub, 1) := by decide +kernel
theorem dX3_putNew_113 : decode cX3_putNew 113 = .ok (.ireturn, 1) := by decide +kernel
theorem dX3_drop_0 : decode cX3_drop 0 = .ok (.aload_n 0, 1) := by decide +kernel
theorem dX3_drop_1 : decode cX3_drop 1 = .ok (.dup, 1) := by decide +kernel
theorem dX3_drop_2 : decode cX3_drop 2 = .ok (.getfield 47, 3) := by decide +kernel
theorem dX3_drop_5 : decode cX3_drop 5 = .ok (.iconst 1, 1) := by decide +kernel
theorem dX3_drop_6 : decode cX3_drop 6 = .ok (.isub, 1) := by decide +kernel
theorem dX3_drop_7 : decode cX3_drop 7 = .ok (.putfield 47, 3) := by decide +kernel
theorem dX3_drop_10 : decode cX3_drop 10 = .ok (.iload_n 1, 1) := by decide +kernel
theorem dX3_drop_11 : decode cX3_drop 11 = .ok (.istore_n 2, 1) := by decide +kernel
theorem dX3_drop_12 : decode cX3_drop 12 = .ok (.iload_n 2, 1) := by decide +kernel
theorem dX3_drop_13 : decode cX3_drop 13 = .ok (.aload_n 0, 1) := by decide +kernel
theorem dX3_drop_14 : decode cX3_drop 14 = .ok (.getfield 47, 3) := by decide +kernel
theorem dX3_drop_17 : decode cX3_drop 17 = .ok (.if_icmp .ge 51, 3) := by decide +kernel
theorem dX3_drop_20 : decode cX3_drop 20 = .ok (.aload_n 0, 1) := by decide +kernel
theorem dX3_drop_21 : decode cX3_drop 21 = .ok (.getfield 11, 3) := by decide +kernel
theorem dX3_drop_24 : decode cX3_drop 24 = .ok (.iload_n 2, 1) := by decide +kernel
theorem dX3_drop_25 : decode cX3_drop 25 = .ok (.aload_n 0, 1) := by decide +kernel
theorem dX3_drop_26 : decode cX3_drop 26 = .ok (.getfield 11, 3) := by decide +kernel
theorem dX3_drop_29 : decode cX3_drop 29 = .ok (.iload_n 2, 1) := by decide +kernel
theorem dX3_drop_30 : decode cX3_drop 30 = .ok (.iconst 1, 1) := by decide +kernel
theorem dX3_drop_31 : decode cX3_drop 31 = .ok (.iadd, 1) := by decide +kernel
theorem dX3_drop_32 : decode cX3_drop 32 = .ok (.iaload, 1) := by decide +kernel
theorem dX3_drop_33 : decode cX3_drop 33 = .ok (.iastore, 1) := by decide +kernel
theorem dX3_drop_34 : decode cX3_drop 34 = .ok (.aload_n 0, 1) := by decide +kernel
theorem dX3_drop_35 : decode cX3_drop 35 = .ok (.getfield 15, 3) := by decide +kernel
theorem dX3_drop_38 : decode cX3_drop 38 = .ok (.iload_n 2, 1) := by decide +kernel
theorem dX3_drop_39 : decode cX3_drop 39 = .ok (.aload_n 0, 1) := by decide +kernel
theorem dX3_drop_40 : decode cX3_drop 40 = .ok (.getfield 15, 3) := by decide +kernel
theorem dX3_drop_43 : decode cX3_drop 43 = .ok (.iload_n 2, 1) := by decide +kernel
theorem dX3_drop_44 : decode cX3_drop 44 = .ok (.iconst 1, 1) := by decide +kernel
theorem dX3_drop_45 : decode cX3_drop 45 = .ok (.iadd, 1) := by decide +kernel
theorem dX3_drop_46 : decode cX3_drop 46 = .ok (.iaload, 1) := by decide +kernel
theorem dX3_drop_47 : decode cX3_drop 47 = .ok (.iastore, 1) := by decide +kernel
theorem dX3_drop_48 : decode cX3_drop 48 = .ok (.aload_n 0, 1) := by decide +kernel
theorem dX3_drop_49 : decode cX3_drop 49 = .ok (.getfield 18, 3) := by decide +kernel
theorem dX3_drop_52 : decode cX3_drop 52 = .ok (.iload_n 2, 1) := by decide +kernel
theorem dX3_drop_53 : decode cX3_drop 53 = .ok (.aload_n 0, 1) := by decide +kernel
theorem dX3_drop_54 : decode cX3_drop 54 = .ok (.getfield 18, 3) := by decide +kernel
theorem dX3_drop_57 : decode cX3_drop 57 = .ok (.iload_n 2, 1) := by decide +kernel
theorem dX3_drop_58 : decode cX3_drop 58 = .ok (.iconst 1, 1) := by decide +kernel
theorem dX3_drop_59 : decode cX3_drop 59 = .ok (.iadd, 1) := by decide +kernel
theorem dX3_drop_60 : decode cX3_drop 60 = .ok (.iaload, 1) := by decide +kernel
theorem dX3_drop_61 : decode cX3_drop 61 = .ok (.iastore, 1) := by decide +kernel
theorem dX3_drop_62 : decode cX3_drop 62 = .ok (.iinc 2 1, 3) := by decide +kernel
theorem dX3_drop_65 : decode cX3_drop 65 = .ok (.goto (-53), 3) := by decide +kernel
theorem dX3_drop_68 : decode cX3_drop 68 = .ok (.aload_n 0, 1) := by decide +kernel
theorem dX3_drop_69 : decode cX3_drop 69 = .ok (.invokevirtual 31, 3) := by decide +kernel
theorem dX3_drop_72 : decode cX3_drop 72 = .ok (.aload_n 0, 1) := by decide +kernel
theorem dX3_drop_73 : decode cX3_drop 73 = .ok (.getfield 47, 3) := by decide +kernel
theorem dX3_drop_76 : decode cX3_drop 76 = .ok (.ireturn, 1) := by decide +kernel
theorem dX3_findFitting_0 : decode cX3_findFitting 0 = .ok (.aload_n 0, 1) := by decide +kernel
theorem dX3_findFitting_1 : decode cX3_findFitting 1 = .ok (.iconst 0, 1) := by decide +kernel
theorem dX3_findFitting_2 : decode cX3_findFitting 2 = .ok (.putfield 51, 3) := by decide +kernel
theorem dX3_findFitting_5 : decode cX3_findFitting 5 = .ok (.iconst 0, 1) := by decide +kernel
theorem dX3_findFitting_6 : decode cX3_findFitting 6 = .ok (.istore_n 1, 1) := by decide +kernel
theorem dX3_findFitting_7 : decode cX3_findFitting 7 = .ok (.iload_n 1, 1) := by decide +kernel
theorem dX3_findFitting_8 : decode cX3_findFitting 8 = .ok (.bipush 49, 2) := by decide +kernel
theorem dX3_findFitting_10 : decode cX3_findFitting 10 = .ok (.if_icmp .gt 63, 3) := by decide +kernel
theorem dX3_findFitting_13 : decode cX3_findFitting 13 = .ok (.aload_n 0, 1) := by decide +kernel
theorem dX3_findFitting_14 : decode cX3_findFitting 14 = .ok (.getfield 21, 3) := by decide +kernel
theorem dX3_findFitting_17 : decode cX3_findFitting 17 = .ok (.iload_n 1, 1) := by decide +kernel
theorem dX3_findFitting_18 : decode cX3_findFitting 18 = .ok (.lconst 0, 1) := by decide +kernel
theorem dX3_findFitting_19 : decode cX3_findFitting 19 = .ok (.lastore, 1) := by decide +kernel
theorem dX3_findFitting_20 : decode cX3_findFitting 20 = .ok (.iconst 1, 1) := by decide +kernel
theorem dX3_findFitting_21 : decode cX3_findFitting 21 = .ok (.istore_n 2, 1) := by decide +kernel
theorem dX3_findFitting_22 : decode cX3_findFitting 22 = .ok (.iload_n 2, 1) := by decide +kernel
theorem dX3_findFitting_23 : decode cX3_findFitting 23 = .ok (.bipush 50, 2) := by decide +kernel
theorem dX3_findFitting_25 : decode cX3_findFitting 25 = .ok (.if_icmp .gt 42, 3) := by decide +kernel
theorem dX3_findFitting_28 : decode cX3_findFitting 28 = .ok (.aload_n 0, 1) := by decide +kernel
theorem dX3_findFitting_29 : decode cX3_findFitting 29 = .ok (.iload_n 1, 1) := by decide +kernel
theorem dX3_findFitting_30 : decode cX3_findFitting 30 = .ok (.iload_n 2, 1) := by decide +kernel
theorem dX3_findFitting_31 : decode cX3_findFitting 31 = .ok (.invokevirtual 54, 3) := by decide +kernel
theorem dX3_findFitting_34 : decode cX3_findFitting 34 = .ok (.bipush (-9), 2) := by decide +kernel
theorem dX3_findFitting_36 : decode cX3_findFitting 36 = .ok (.if_icmp .ne 25, 3) := by decide +kernel
theorem dX3_findFitting_39 : decode cX3_findFitting 39 = .ok (.aload_n 0, 1) := by decide +kernel
theorem dX3_findFitting_40 : decode cX3_findFitting 40 = .ok (.getfield 21, 3) := by decide +kernel
theorem dX3_findFitting_43 : decode cX3_findFitting 43 = .ok (.iload_n 1, 1) := by decide +kernel
theorem dX3_findFitting_44 : decode cX3_findFitting 44 = .ok (.dup2, 1) := by decide +kernel
theorem dX3_findFitting_45 : decode cX3_findFitting 45 = .ok (.laload, 1) := by decide +kernel
theorem dX3_findFitting_46 : decode cX3_findFitting 46 = .ok (.lconst 1, 1) := by decide +kernel
theorem dX3_findFitting_47 : decode cX3_findFitting 47 = .ok (.iload_n 2, 1) := by decide +kernel
theorem dX3_findFitting_48 : decode cX3_findFitting 48 = .ok (.lshl, 1) := by decide +kernel
theorem dX3_findFitting_49 : decode cX3_findFitting 49 = .ok (.lor, 1) := by decide +kernel
theorem dX3_findFitting_50 : decode cX3_findFitting 50 = .ok (.lastore, 1) := by decide +kernel
theorem dX3_findFitting_51 : decode cX3_findFitting 51 = .ok (.aload_n 0, 1) := by decide +kernel
theorem dX3_findFitting_52 : decode cX3_findFitting 52 = .ok (.dup, 1) := by decide +kernel
theorem dX3_findFitting_53 : decode cX3_findFitting 53 = .ok (.getfield 51, 3) := by decide +kernel
theorem dX3_findFitting_56 : decode cX3_findFitting 56 = .ok (.iconst 1, 1) := by decide +kernel
theorem dX3_findFitting_57 : decode cX3_findFitting 57 = .ok (.iadd, 1) := by decide +kernel
theorem dX3_findFitting_58 : decode cX3_findFitting 58 = .ok (.putfield 51, 3) := by decide +kernel
theorem dX3_findFitting_61 : decode cX3_findFitting 61 = .ok (.iinc 2 1, 3) := by decide +kernel
theorem dX3_findFitting_64 : decode cX3_findFitting 64 = .ok (.goto (-42), 3) := by decide +kernel
theorem dX3_findFitting_67 : decode cX3_findFitting 67 = .ok (.iinc 1 1, 3) := by decide +kernel
theorem dX3_findFitting_70 : decode cX3_findFitting 70 = .ok (.goto (-63), 3) := by decide +kernel
theorem dX3_findFitting_73 : decode cX3_findFitting 73 = .ok (.return_, 1) := by decide +kernel
theorem dX3_isFitting_0 : decode cX3_isFitting 0 = .ok (.aload_n 0, 1) := by decide +kernel
theorem dX3_isFitting_1 : decode cX3_isFitting 1 = .ok (.getfield 21, 3) := by decide +kernel
theorem dX3_isFitting_4 : decode cX3_isFitting 4 = .ok (.iload_n 1, 1) := by decide +kernel
theorem dX3_isFitting_5 : decode cX3_isFitting 5 = .ok (.laload, 1) := by decide +kernel
theorem dX3_isFitting_6 : decode cX3_isFitting 6 = .ok (.iload_n 2, 1) := by decide +kernel
theorem dX3_isFitting_7 : decode cX3_isFitting 7 = .ok (.lshr, 1) := by decide +kernel
theorem dX3_isFitting_8 : decode cX3_isFitting 8 = .ok (.lconst 1, 1) := by decide +kernel
theorem dX3_isFitting_9 : decode cX3_isFitting 9 = .ok (.land, 1) := by decide +kernel
theorem dX3_isFitting_10 : decode cX3_isFitting 10 = .ok (.lconst 1, 1) := by decide +kernel
theorem dX3_isFitting_11 : decode cX3_isFitting 11 = .ok (.lcmp, 1) := by decide +kernel
theorem dX3_isFitting_12 : decode cX3_isFitting 12 = .ok (.ifCond .ne 7, 3) := by decide +kernel
theorem dX3_isFitting_15 : decode cX3_isFitting 15 = .ok (.iconst 1, 1) := by decide +kernel
theorem dX3_isFitting_16 : decode cX3_isFitting 16 = .ok (.goto 4, 3) := by decide +kernel
theorem dX3_isFitting_19 : decode cX3_isFitting 19 = .ok (.iconst 0, 1) := by decide +kernel
theorem dX3_isFitting_20 : decode cX3_isFitting 20 = .ok (.ireturn, 1) := by decide +kernel
theorem dX3_codeAt_0 : decode cX3_codeAt 0 = .ok (.iconst 0, 1) := by decide +kernel
theorem dX3_codeAt_1 : decode cX3_codeAt 1 = .ok (.istore_n 2, 1) := by decide +kernel
theorem dX3_codeAt_2 : decode cX3_codeAt 2 = .ok (.iconst 0, 1) := by decide +kernel
theorem dX3_codeAt_3 : decode cX3_codeAt 3 = .ok (.istore_n 3, 1) := by decide +kernel
theorem dX3_codeAt_4 : decode cX3_codeAt 4 = .ok (.iload_n 3, 1) := by decide +kernel
theorem dX3_codeAt_5 : decode cX3_codeAt 5 = .ok (.bipush 49, 2) := by decide +kernel
theorem dX3_codeAt_7 : decode cX3_codeAt 7 = .ok (.if_icmp .gt 51, 3) := by decide +kernel
theorem dX3_codeAt_10 : decode cX3_codeAt 10 = .ok (.iconst 1, 1) := by decide +kernel
theorem dX3_codeAt_11 : decode cX3_codeAt 11 = .ok (.istore 4, 2) := by decide +kernel
theorem dX3_codeAt_13 : decode cX3_codeAt 13 = .ok (.iload 4, 2) := by decide +kernel
theorem dX3_codeAt_15 : decode cX3_codeAt 15 = .ok (.bipush 50, 2) := by decide +kernel
theorem dX3_codeAt_17 : decode cX3_codeAt 17 = .ok (.if_icmp .gt 35, 3) := by decide +kernel
theorem dX3_codeAt_20 : decode cX3_codeAt 20 = .ok (.aload_n 0, 1) := by decide +kernel
theorem dX3_codeAt_21 : decode cX3_codeAt 21 = .ok (.iload_n 3, 1) := by decide +kernel
theorem dX3_codeAt_22 : decode cX3_codeAt 22 = .ok (.iload 4, 2) := by decide +kernel
theorem dX3_codeAt_24 : decode cX3_codeAt 24 = .ok (.invokevirtual 57, 3) := by decide +kernel
theorem dX3_codeAt_27 : decode cX3_codeAt 27 = .ok (.ifCond .eq 19, 3) := by decide +kernel
theorem dX3_codeAt_30 : decode cX3_codeAt 30 = .ok (.iload_n 2, 1) := by decide +kernel
theorem dX3_codeAt_31 : decode cX3_codeAt 31 = .ok (.iload_n 1, 1) := by decide +kernel
theorem dX3_codeAt_32 : decode cX3_codeAt 32 = .ok (.if_icmp .ne 11, 3) := by decide +kernel
theorem dX3_codeAt_35 : decode cX3_codeAt 35 = .ok (.bipush 100, 2) := by decide +kernel
theorem dX3_codeAt_37 : decode cX3_codeAt 37 = .ok (.iload_n 3, 1) := by decide +kernel
theorem dX3_codeAt_38 : decode cX3_codeAt 38 = .ok (.imul, 1) := by decide +kernel
theorem dX3_codeAt_39 : decode cX3_codeAt 39 = .ok (.iload 4, 2) := by decide +kernel
theorem dX3_codeAt_41 : decode cX3_codeAt 41 = .ok (.iadd, 1) := by decide +kernel
theorem dX3_codeAt_42 : decode cX3_codeAt 42 = .ok (.ireturn, 1) := by decide +kernel
theorem dX3_codeAt_43 : decode cX3_codeAt 43 = .ok (.iinc 2 1, 3) := by decide +kernel
theorem dX3_codeAt_46 : decode cX3_codeAt 46 = .ok (.iinc 4 1, 3) := by decide +kernel
theorem dX3_codeAt_49 : decode cX3_codeAt 49 = .ok (.goto (-36), 3) := by decide +kernel
theorem dX3_codeAt_52 : decode cX3_codeAt 52 = .ok (.iinc 3 1, 3) := by decide +kernel
theorem dX3_codeAt_55 : decode cX3_codeAt 55 = .ok (.goto (-51), 3) := by decide +kernel
theorem dX3_codeAt_58 : decode cX3_codeAt 58 = .ok (.bipush (-9), 2) := by decide +kernel
theorem dX3_codeAt_60 : decode cX3_codeAt 60 = .ok (.ireturn, 1) := by decide +kernel
theorem dX3_firstBroken_0 : decode cX3_firstBroken 0 = .ok (.iconst 0, 1) := by decide +kernel
theorem dX3_firstBroken_1 : decode cX3_firstBroken 1 = .ok (.istore_n 3, 1) := by decide +kernel
theorem dX3_firstBroken_2 : decode cX3_firstBroken 2 = .ok (.iload_n 3, 1) := by decide +kernel
theorem dX3_firstBroken_3 : decode cX3_firstBroken 3 = .ok (.aload_n 0, 1) := by decide +kernel
theorem dX3_firstBroken_4 : decode cX3_firstBroken 4 = .ok (.getfield 47, 3) := by decide +kernel
theorem dX3_firstBroken_7 : decode cX3_firstBroken 7 = .ok (.if_icmp .ge 46, 3) := by decide +kernel
theorem dX3_firstBroken_10 : decode cX3_firstBroken 10 = .ok (.aload_n 0, 1) := by decide +kernel
theorem dX3_firstBroken_11 : decode cX3_firstBroken 11 = .ok (.getfield 11, 3) := by decide +kernel
theorem dX3_firstBroken_14 : decode cX3_firstBroken 14 = .ok (.iload_n 3, 1) := by decide +kernel
theorem dX3_firstBroken_15 : decode cX3_firstBroken 15 = .ok (.iaload, 1) := by decide +kernel
theorem dX3_firstBroken_16 : decode cX3_firstBroken 16 = .ok (.iload_n 1, 1) := by decide +kernel
theorem dX3_firstBroken_17 : decode cX3_firstBroken 17 = .ok (.iload_n 2, 1) := by decide +kernel
theorem dX3_firstBroken_18 : decode cX3_firstBroken 18 = .ok (.invokestatic 61, 3) := by decide +kernel
theorem dX3_firstBroken_21 : decode cX3_firstBroken 21 = .ok (.istore 4, 2) := by decide +kernel
theorem dX3_firstBroken_23 : decode cX3_firstBroken 23 = .ok (.iload 4, 2) := by decide +kernel
theorem dX3_firstBroken_25 : decode cX3_firstBroken 25 = .ok (.aload_n 0, 1) := by decide +kernel
theorem dX3_firstBroken_26 : decode cX3_firstBroken 26 = .ok (.getfield 15, 3) := by decide +kernel
theorem dX3_firstBroken_29 : decode cX3_firstBroken 29 = .ok (.iload_n 3, 1) := by decide +kernel
theorem dX3_firstBroken_30 : decode cX3_firstBroken 30 = .ok (.iaload, 1) := by decide +kernel
theorem dX3_firstBroken_31 : decode cX3_firstBroken 31 = .ok (.if_icmp .lt 14, 3) := by decide +kernel
theorem dX3_firstBroken_34 : decode cX3_firstBroken 34 = .ok (.iload 4, 2) := by decide +kernel
theorem dX3_firstBroken_36 : decode cX3_firstBroken 36 = .ok (.aload_n 0, 1) := by decide +kernel
theorem dX3_firstBroken_37 : decode cX3_firstBroken 37 = .ok (.getfield 18, 3) := by decide +kernel
theorem dX3_firstBroken_40 : decode cX3_firstBroken 40 = .ok (.iload_n 3, 1) := by decide +kernel
theorem dX3_firstBroken_41 : decode cX3_firstBroken 41 = .ok (.iaload, 1) := by decide +kernel
theorem dX3_firstBroken_42 : decode cX3_firstBroken 42 = .ok (.if_icmp .le 5, 3) := by decide +kernel
theorem dX3_firstBroken_45 : decode cX3_firstBroken 45 = .ok (.iload_n 3, 1) := by decide +kernel
theorem dX3_firstBroken_46 : decode cX3_firstBroken 46 = .ok (.ireturn, 1) := by decide +kernel
theorem dX3_firstBroken_47 : decode cX3_firstBroken 47 = .ok (.iinc 3 1, 3) := by decide +kernel
theorem dX3_firstBroken_50 : decode cX3_firstBroken 50 = .ok (.goto (-48), 3) := by decide +kernel
theorem dX3_firstBroken_53 : decode cX3_firstBroken 53 = .ok (.bipush (-9), 2) := by decide +kernel
theorem dX3_firstBroken_55 : decode cX3_firstBroken 55 = .ok (.ireturn, 1) := by decide +kernel
theorem dX3_farthest_0 : decode cX3_farthest 0 = .ok (.bipush (-9), 2) := by decide +kernel
theorem dX3_farthest_2 : decode cX3_farthest 2 = .ok (.istore_n 3, 1) := by decide +kernel
theorem dX3_farthest_3 : decode cX3_farthest 3 = .ok (.iconst 0, 1) := by decide +kernel
theorem dX3_farthest_4 : decode cX3_farthest 4 = .ok (.istore 4, 2) := by decide +kernel
theorem dX3_farthest_6 : decode cX3_farthest 6 = .ok (.iload 4, 2) := by decide +kernel
theorem dX3_farthest_8 : decode cX3_farthest 8 = .ok (.bipush 49, 2) := by decide +kernel
theorem dX3_farthest_10 : decode cX3_farthest 10 = .ok (.if_icmp .gt 77, 3) := by decide +kernel
theorem dX3_farthest_13 : decode cX3_farthest 13 = .ok (.iconst 1, 1) := by decide +kernel
theorem dX3_farthest_14 : decode cX3_farthest 14 = .ok (.istore 5, 2) := by decide +kernel
theorem dX3_farthest_16 : decode cX3_farthest 16 = .ok (.iload 5, 2) := by decide +kernel
theorem dX3_farthest_18 : decode cX3_farthest 18 = .ok (.bipush 50, 2) := by decide +kernel
theorem dX3_farthest_20 : decode cX3_farthest 20 = .ok (.if_icmp .gt 61, 3) := by decide +kernel
theorem dX3_farthest_23 : decode cX3_farthest 23 = .ok (.iload_n 1, 1) := by decide +kernel
theorem dX3_farthest_24 : decode cX3_farthest 24 = .ok (.ifCond .eq 8, 3) := by decide +kernel
theorem dX3_farthest_27 : decode cX3_farthest 27 = .ok (.iload 4, 2) := by decide +kernel
theorem dX3_farthest_29 : decode cX3_farthest 29 = .ok (.goto 5, 3) := by decide +kernel
theorem dX3_farthest_32 : decode cX3_farthest 32 = .ok (.iload 5, 2) := by decide +kernel
theorem dX3_farthest_34 : decode cX3_farthest 34 = .ok (.istore 6, 2) := by decide +kernel
theorem dX3_farthest_36 : decode cX3_farthest 36 = .ok (.aload_n 0, 1) := by decide +kernel
theorem dX3_farthest_37 : decode cX3_farthest 37 = .ok (.iload 4, 2) := by decide +kernel
theorem dX3_farthest_39 : decode cX3_farthest 39 = .ok (.iload 5, 2) := by decide +kernel
theorem dX3_farthest_41 : decode cX3_farthest 41 = .ok (.invokevirtual 57, 3) := by decide +kernel
theorem dX3_farthest_44 : decode cX3_farthest 44 = .ok (.ifCond .eq 31, 3) := by decide +kernel
theorem dX3_farthest_47 : decode cX3_farthest 47 = .ok (.iload_n 3, 1) := by decide +kernel
theorem dX3_farthest_48 : decode cX3_farthest 48 = .ok (.bipush (-9), 2) := by decide +kernel
theorem dX3_farthest_50 : decode cX3_farthest 50 = .ok (.if_icmp .eq 22, 3) := by decide +kernel
theorem dX3_farthest_53 : decode cX3_farthest 53 = .ok (.iload_n 2, 1) := by decide +kernel
theorem dX3_farthest_54 : decode cX3_farthest 54 = .ok (.ifCond .eq 12, 3) := by decide +kernel
theorem dX3_farthest_57 : decode cX3_farthest 57 = .ok (.iload 6, 2) := by decide +kernel
theorem dX3_farthest_59 : decode cX3_farthest 59 = .ok (.iload_n 3, 1) := by decide +kernel
theorem dX3_farthest_60 : decode cX3_farthest 60 = .ok (.if_icmp .le 15, 3) := by decide +kernel
theorem dX3_farthest_63 : decode cX3_farthest 63 = .ok (.goto 9, 3) := by decide +kernel
theorem dX3_farthest_66 : decode cX3_farthest 66 = .ok (.iload 6, 2) := by decide +kernel
theorem dX3_farthest_68 : decode cX3_farthest 68 = .ok (.iload_n 3, 1) := by decide +kernel
theorem dX3_farthest_69 : decode cX3_farthest 69 = .ok (.if_icmp .ge 6, 3) := by decide +kernel
theorem dX3_farthest_72 : decode cX3_farthest 72 = .ok (.iload 6, 2) := by decide +kernel
theorem dX3_farthest_74 : decode cX3_farthest 74 = .ok (.istore_n 3, 1) := by decide +kernel
theorem dX3_farthest_75 : decode cX3_farthest 75 = .ok (.iinc 5 1, 3) := by decide +kernel
theorem dX3_farthest_78 : decode cX3_farthest 78 = .ok (.goto (-62), 3) := by decide +kernel
theorem dX3_farthest_81 : decode cX3_farthest 81 = .ok (.iinc 4 1, 3) := by decide +kernel
theorem dX3_farthest_84 : decode cX3_farthest 84 = .ok (.goto (-78), 3) := by decide +kernel
theorem dX3_farthest_87 : decode cX3_farthest 87 = .ok (.iload_n 3, 1) := by decide +kernel
theorem dX3_farthest_88 : decode cX3_farthest 88 = .ok (.ireturn, 1) := by decide +kernel
theorem dX3_sureness_0 : decode cX3_sureness 0 = .ok (.iconst 0, 1) := by decide +kernel
theorem dX3_sureness_1 : decode cX3_sureness 1 = .ok (.istore_n 2, 1) := by decide +kernel
theorem dX3_sureness_2 : decode cX3_sureness 2 = .ok (.iconst 0, 1) := by decide +kernel
theorem dX3_sureness_3 : decode cX3_sureness 3 = .ok (.istore_n 3, 1) := by decide +kernel
theorem dX3_sureness_4 : decode cX3_sureness 4 = .ok (.iload_n 3, 1) := by decide +kernel
theorem dX3_sureness_5 : decode cX3_sureness 5 = .ok (.bipush 49, 2) := by decide +kernel
theorem dX3_sureness_7 : decode cX3_sureness 7 = .ok (.if_icmp .gt 48, 3) := by decide +kernel
theorem dX3_sureness_10 : decode cX3_sureness 10 = .ok (.iconst 1, 1) := by decide +kernel
theorem dX3_sureness_11 : decode cX3_sureness 11 = .ok (.istore 4, 2) := by decide +kernel
theorem dX3_sureness_13 : decode cX3_sureness 13 = .ok (.iload 4, 2) := by decide +kernel
theorem dX3_sureness_15 : decode cX3_sureness 15 = .ok (.bipush 50, 2) := by decide +kernel
theorem dX3_sureness_17 : decode cX3_sureness 17 = .ok (.if_icmp .gt 32, 3) := by decide +kernel
theorem dX3_sureness_20 : decode cX3_sureness 20 = .ok (.aload_n 0, 1) := by decide +kernel
theorem dX3_sureness_21 : decode cX3_sureness 21 = .ok (.iload_n 3, 1) := by decide +kernel
theorem dX3_sureness_22 : decode cX3_sureness 22 = .ok (.iload 4, 2) := by decide +kernel
theorem dX3_sureness_24 : decode cX3_sureness 24 = .ok (.invokevirtual 57, 3) := by decide +kernel
theorem dX3_sureness_27 : decode cX3_sureness 27 = .ok (.ifCond .eq 16, 3) := by decide +kernel
theorem dX3_sureness_30 : decode cX3_sureness 30 = .ok (.iload_n 1, 1) := by decide +kernel
theorem dX3_sureness_31 : decode cX3_sureness 31 = .ok (.iload_n 3, 1) := by decide +kernel
theorem dX3_sureness_32 : decode cX3_sureness 32 = .ok (.iload 4, 2) := by decide +kernel
theorem dX3_sureness_34 : decode cX3_sureness 34 = .ok (.invokestatic 61, 3) := by decide +kernel
theorem dX3_sureness_37 : decode cX3_sureness 37 = .ok (.ifCond .ge 6, 3) := by decide +kernel
theorem dX3_sureness_40 : decode cX3_sureness 40 = .ok (.iinc 2 1, 3) := by decide +kernel
theorem dX3_sureness_43 : decode cX3_sureness 43 = .ok (.iinc 4 1, 3) := by decide +kernel
theorem dX3_sureness_46 : decode cX3_sureness 46 = .ok (.goto (-33), 3) := by decide +kernel
theorem dX3_sureness_49 : decode cX3_sureness 49 = .ok (.iinc 3 1, 3) := by decide +kernel
theorem dX3_sureness_52 : decode cX3_sureness 52 = .ok (.goto (-48), 3) := by decide +kernel
theorem dX3_sureness_55 : decode cX3_sureness 55 = .ok (.iload_n 2, 1) := by decide +kernel
theorem dX3_sureness_56 : decode cX3_sureness 56 = .ok (.ifCond .ne 5, 3) := by decide +kernel
theorem dX3_sureness_59 : decode cX3_sureness 59 = .ok (.iconst 0, 1) := by decide +kernel
theorem dX3_sureness_60 : decode cX3_sureness 60 = .ok (.ireturn, 1) := by decide +kernel
theorem dX3_sureness_61 : decode cX3_sureness 61 = .ok (.iload_n 2, 1) := by decide +kernel
theorem dX3_sureness_62 : decode cX3_sureness 62 = .ok (.aload_n 0, 1) := by decide +kernel
theorem dX3_sureness_63 : decode cX3_sureness 63 = .ok (.getfield 51, 3) := by decide +kernel
theorem dX3_sureness_66 : decode cX3_sureness 66 = .ok (.if_icmp .ne 7, 3) := by decide +kernel
theorem dX3_sureness_69 : decode cX3_sureness 69 = .ok (.iconst 2, 1) := by decide +kernel
theorem dX3_sureness_70 : decode cX3_sureness 70 = .ok (.goto 4, 3) := by decide +kernel
theorem dX3_sureness_73 : decode cX3_sureness 73 = .ok (.iconst 1, 1) := by decide +kernel
theorem dX3_sureness_74 : decode cX3_sureness 74 = .ok (.ireturn, 1) := by decide +kernel
theorem dX3_mostSafe_0 : decode cX3_mostSafe 0 = .ok (.sipush 999, 3) := by decide +kernel
theorem dX3_mostSafe_3 : decode cX3_mostSafe 3 = .ok (.istore_n 1, 1) := by decide +kernel
theorem dX3_mostSafe_4 : decode cX3_mostSafe 4 = .ok (.iconst 1, 1) := by decide +kernel
theorem dX3_mostSafe_5 : decode cX3_mostSafe 5 = .ok (.istore_n 2, 1) := by decide +kernel
theorem dX3_mostSafe_6 : decode cX3_mostSafe 6 = .ok (.iload_n 2, 1) := by decide +kernel
theorem dX3_mostSafe_7 : decode cX3_mostSafe 7 = .ok (.bipush 49, 2) := by decide +kernel
theorem dX3_mostSafe_9 : decode cX3_mostSafe 9 = .ok (.if_icmp .gt 45, 3) := by decide +kernel
theorem dX3_mostSafe_12 : decode cX3_mostSafe 12 = .ok (.iconst 1, 1) := by decide +kernel
theorem dX3_mostSafe_13 : decode cX3_mostSafe 13 = .ok (.istore_n 3, 1) := by decide +kernel
theorem dX3_mostSafe_14 : decode cX3_mostSafe 14 = .ok (.iload_n 3, 1) := by decide +kernel
theorem dX3_mostSafe_15 : decode cX3_mostSafe 15 = .ok (.bipush 50, 2) := by decide +kernel
theorem dX3_mostSafe_17 : decode cX3_mostSafe 17 = .ok (.if_icmp .gt 31, 3) := by decide +kernel
theorem dX3_mostSafe_20 : decode cX3_mostSafe 20 = .ok (.aload_n 0, 1) := by decide +kernel
theorem dX3_mostSafe_21 : decode cX3_mostSafe 21 = .ok (.iload_n 2, 1) := by decide +kernel
theorem dX3_mostSafe_22 : decode cX3_mostSafe 22 = .ok (.iload_n 3, 1) := by decide +kernel
theorem dX3_mostSafe_23 : decode cX3_mostSafe 23 = .ok (.invokevirtual 57, 3) := by decide +kernel
theorem dX3_mostSafe_26 : decode cX3_mostSafe 26 = .ok (.ifCond .eq 16, 3) := by decide +kernel
theorem dX3_mostSafe_29 : decode cX3_mostSafe 29 = .ok (.iload_n 1, 1) := by decide +kernel
theorem dX3_mostSafe_30 : decode cX3_mostSafe 30 = .ok (.bipush 100, 2) := by decide +kernel
theorem dX3_mostSafe_32 : decode cX3_mostSafe 32 = .ok (.iload_n 3, 1) := by decide +kernel
theorem dX3_mostSafe_33 : decode cX3_mostSafe 33 = .ok (.imul, 1) := by decide +kernel
theorem dX3_mostSafe_34 : decode cX3_mostSafe 34 = .ok (.iconst 1, 1) := by decide +kernel
theorem dX3_mostSafe_35 : decode cX3_mostSafe 35 = .ok (.isub, 1) := by decide +kernel
theorem dX3_mostSafe_36 : decode cX3_mostSafe 36 = .ok (.iload_n 2, 1) := by decide +kernel
theorem dX3_mostSafe_37 : decode cX3_mostSafe 37 = .ok (.idiv, 1) := by decide +kernel
theorem dX3_mostSafe_38 : decode cX3_mostSafe 38 = .ok (.invokestatic 64, 3) := by decide +kernel
theorem dX3_mostSafe_41 : decode cX3_mostSafe 41 = .ok (.istore_n 1, 1) := by decide +kernel
theorem dX3_mostSafe_42 : decode cX3_mostSafe 42 = .ok (.iinc 3 1, 3) := by decide +kernel
theorem dX3_mostSafe_45 : decode cX3_mostSafe 45 = .ok (.goto (-31), 3) := by decide +kernel
theorem dX3_mostSafe_48 : decode cX3_mostSafe 48 = .ok (.iinc 2 1, 3) := by decide +kernel
theorem dX3_mostSafe_51 : decode cX3_mostSafe 51 = .ok (.goto (-45), 3) := by decide +kernel
theorem dX3_mostSafe_54 : decode cX3_mostSafe 54 = .ok (.iload_n 1, 1) := by decide +kernel
theorem dX3_mostSafe_55 : decode cX3_mostSafe 55 = .ok (.ireturn, 1) := by decide +kernel
theorem dX3_bestParting_0 : decode cX3_bestParting 0 = .ok (.aload_n 0, 1) := by decide +kernel
theorem dX3_bestParting_1 : decode cX3_bestParting 1 = .ok (.iload_n 1, 1) := by decide +kernel
theorem dX3_bestParting_2 : decode cX3_bestParting 2 = .ok (.iload_n 2, 1) := by decide +kernel
theorem dX3_bestParting_3 : decode cX3_bestParting 3 = .ok (.invokevirtual 67, 3) := by decide +kernel
theorem dX3_bestParting_6 : decode cX3_bestParting 6 = .ok (.bipush (-9), 2) := by decide +kernel
theorem dX3_bestParting_8 : decode cX3_bestParting 8 = .ok (.istore_n 3, 1) := by decide +kernel
theorem dX3_bestParting_9 : decode cX3_bestParting 9 = .ok (.aload_n 0, 1) := by decide +kernel
theorem dX3_bestParting_10 : decode cX3_bestParting 10 = .ok (.getfield 51, 3) := by decide +kernel
theorem dX3_bestParting_13 : decode cX3_bestParting 13 = .ok (.iconst 1, 1) := by decide +kernel
theorem dX3_bestParting_14 : decode cX3_bestParting 14 = .ok (.iadd, 1) := by decide +kernel
theorem dX3_bestParting_15 : decode cX3_bestParting 15 = .ok (.istore 4, 2) := by decide +kernel
theorem dX3_bestParting_17 : decode cX3_bestParting 17 = .ok (.iconst 0, 1) := by decide +kernel
theorem dX3_bestParting_18 : decode cX3_bestParting 18 = .ok (.istore 5, 2) := by decide +kernel
theorem dX3_bestParting_20 : decode cX3_bestParting 20 = .ok (.iload 5, 2) := by decide +kernel
theorem dX3_bestParting_22 : decode cX3_bestParting 22 = .ok (.bipush 99, 2) := by decide +kernel
theorem dX3_bestParting_24 : decode cX3_bestParting 24 = .ok (.if_icmp .gt 33, 3) := by decide +kernel
theorem dX3_bestParting_27 : decode cX3_bestParting 27 = .ok (.aload_n 0, 1) := by decide +kernel
theorem dX3_bestParting_28 : decode cX3_bestParting 28 = .ok (.iload 5, 2) := by decide +kernel
theorem dX3_bestParting_30 : decode cX3_bestParting 30 = .ok (.iload 4, 2) := by decide +kernel
theorem dX3_bestParting_32 : decode cX3_bestParting 32 = .ok (.invokevirtual 71, 3) := by decide +kernel
theorem dX3_bestParting_35 : decode cX3_bestParting 35 = .ok (.istore 6, 2) := by decide +kernel
theorem dX3_bestParting_37 : decode cX3_bestParting 37 = .ok (.iload 6, 2) := by decide +kernel
theorem dX3_bestParting_39 : decode cX3_bestParting 39 = .ok (.iload 4, 2) := by decide +kernel
theorem dX3_bestParting_41 : decode cX3_bestParting 41 = .ok (.if_icmp .ge 10, 3) := by decide +kernel
theorem dX3_bestParting_44 : decode cX3_bestParting 44 = .ok (.iload 6, 2) := by decide +kernel
theorem dX3_bestParting_46 : decode cX3_bestParting 46 = .ok (.istore 4, 2) := by decide +kernel
theorem dX3_bestParting_48 : decode cX3_bestParting 48 = .ok (.iload 5, 2) := by decide +kernel
theorem dX3_bestParting_50 : decode cX3_bestParting 50 = .ok (.istore_n 3, 1) := by decide +kernel
theorem dX3_bestParting_51 : decode cX3_bestParting 51 = .ok (.iinc 5 1, 3) := by decide +kernel
theorem dX3_bestParting_54 : decode cX3_bestParting 54 = .ok (.goto (-34), 3) := by decide +kernel
theorem dX3_bestParting_57 : decode cX3_bestParting 57 = .ok (.iload_n 3, 1) := by decide +kernel
theorem dX3_bestParting_58 : decode cX3_bestParting 58 = .ok (.ireturn, 1) := by decide +kernel
theorem dX3_groupNets_0 : decode cX3_groupNets 0 = .ok (.iconst 0, 1) := by decide +kernel
theorem dX3_groupNets_1 : decode cX3_groupNets 1 = .ok (.istore_n 3, 1) := by decide +kernel
theorem dX3_groupNets_2 : decode cX3_groupNets 2 = .ok (.iload_n 1, 1) := by decide +kernel
theorem dX3_groupNets_3 : decode cX3_groupNets 3 = .ok (.bipush (-50), 2) := by decide +kernel
theorem dX3_groupNets_5 : decode cX3_groupNets 5 = .ok (.iload_n 2, 1) := by decide +kernel
theorem dX3_groupNets_6 : decode cX3_groupNets 6 = .ok (.invokestatic 38, 3) := by decide +kernel
theorem dX3_groupNets_9 : decode cX3_groupNets 9 = .ok (.istore 4, 2) := by decide +kernel
theorem dX3_groupNets_11 : decode cX3_groupNets 11 = .ok (.iconst 0, 1) := by decide +kernel
theorem dX3_groupNets_12 : decode cX3_groupNets 12 = .ok (.istore 5, 2) := by decide +kernel
theorem dX3_groupNets_14 : decode cX3_groupNets 14 = .ok (.iload 5, 2) := by decide +kernel
theorem dX3_groupNets_16 : decode cX3_groupNets 16 = .ok (.aload_n 0, 1) := by decide +kernel
theorem dX3_groupNets_17 : decode cX3_groupNets 17 = .ok (.getfield 25, 3) := by decide +kernel
theorem dX3_groupNets_20 : decode cX3_groupNets 20 = .ok (.arraylength, 1) := by decide +kernel
theorem dX3_groupNets_21 : decode cX3_groupNets 21 = .ok (.if_icmp .ge 43, 3) := by decide +kernel
theorem dX3_groupNets_24 : decode cX3_groupNets 24 = .ok (.iload_n 1, 1) := by decide +kernel
theorem dX3_groupNets_25 : decode cX3_groupNets 25 = .ok (.bipush (-50), 2) := by decide +kernel
theorem dX3_groupNets_27 : decode cX3_groupNets 27 = .ok (.iload 5, 2) := by decide +kernel
theorem dX3_groupNets_29 : decode cX3_groupNets 29 = .ok (.iadd, 1) := by decide +kernel
theorem dX3_groupNets_30 : decode cX3_groupNets 30 = .ok (.iload_n 2, 1) := by decide +kernel
theorem dX3_groupNets_31 : decode cX3_groupNets 31 = .ok (.invokestatic 38, 3) := by decide +kernel
theorem dX3_groupNets_34 : decode cX3_groupNets 34 = .ok (.istore 6, 2) := by decide +kernel
theorem dX3_groupNets_36 : decode cX3_groupNets 36 = .ok (.iload 6, 2) := by decide +kernel
theorem dX3_groupNets_38 : decode cX3_groupNets 38 = .ok (.iload 4, 2) := by decide +kernel
theorem dX3_groupNets_40 : decode cX3_groupNets 40 = .ok (.if_icmp .eq 6, 3) := by decide +kernel
theorem dX3_groupNets_43 : decode cX3_groupNets 43 = .ok (.iinc 3 1, 3) := by decide +kernel
theorem dX3_groupNets_46 : decode cX3_groupNets 46 = .ok (.aload_n 0, 1) := by decide +kernel
theorem dX3_groupNets_47 : decode cX3_groupNets 47 = .ok (.getfield 25, 3) := by decide +kernel
theorem dX3_groupNets_50 : decode cX3_groupNets 50 = .ok (.iload 5, 2) := by decide +kernel
theorem dX3_groupNets_52 : decode cX3_groupNets 52 = .ok (.iload_n 3, 1) := by decide +kernel
theorem dX3_groupNets_53 : decode cX3_groupNets 53 = .ok (.iastore, 1) := by decide +kernel
theorem dX3_groupNets_54 : decode cX3_groupNets 54 = .ok (.iload 6, 2) := by decide +kernel
theorem dX3_groupNets_56 : decode cX3_groupNets 56 = .ok (.istore 4, 2) := by decide +kernel
theorem dX3_groupNets_58 : decode cX3_groupNets 58 = .ok (.iinc 5 1, 3) := by decide +kernel
theorem dX3_groupNets_61 : decode cX3_groupNets 61 = .ok (.goto (-47), 3) := by decide +kernel
theorem dX3_groupNets_64 : decode cX3_groupNets 64 = .ok (.return_, 1) := by decide +kernel
theorem dX3_mostAlike_0 : decode cX3_mostAlike 0 = .ok (.aload_n 0, 1) := by decide +kernel
theorem dX3_mostAlike_1 : decode cX3_mostAlike 1 = .ok (.getfield 28, 3) := by decide +kernel
theorem dX3_mostAlike_4 : decode cX3_mostAlike 4 = .ok (.iconst 0, 1) := by decide +kernel
theorem dX3_mostAlike_5 : decode cX3_mostAlike 5 = .ok (.invokestatic 74, 3) := by decide +kernel
theorem dX3_mostAlike_8 : decode cX3_mostAlike 8 = .ok (.iconst 0, 1) := by decide +kernel
theorem dX3_mostAlike_9 : decode cX3_mostAlike 9 = .ok (.istore_n 3, 1) := by decide +kernel
theorem dX3_mostAlike_10 : decode cX3_mostAlike 10 = .ok (.iconst 0, 1) := by decide +kernel
theorem dX3_mostAlike_11 : decode cX3_mostAlike 11 = .ok (.istore 4, 2) := by decide +kernel
theorem dX3_mostAlike_13 : decode cX3_mostAlike 13 = .ok (.iload 4, 2) := by decide +kernel
theorem dX3_mostAlike_15 : decode cX3_mostAlike 15 = .ok (.bipush 49, 2) := by decide +kernel
theorem dX3_mostAlike_17 : decode cX3_mostAlike 17 = .ok (.if_icmp .gt 82, 3) := by decide +kernel
theorem dX3_mostAlike_20 : decode cX3_mostAlike 20 = .ok (.iload_n 3, 1) := by decide +kernel
theorem dX3_mostAlike_21 : decode cX3_mostAlike 21 = .ok (.iload_n 2, 1) := by decide +kernel
theorem dX3_mostAlike_22 : decode cX3_mostAlike 22 = .ok (.if_icmp .ge 77, 3) := by decide +kernel
theorem dX3_mostAlike_25 : decode cX3_mostAlike 25 = .ok (.iconst 1, 1) := by decide +kernel
theorem dX3_mostAlike_26 : decode cX3_mostAlike 26 = .ok (.istore 5, 2) := by decide +kernel
theorem dX3_mostAlike_28 : decode cX3_mostAlike 28 = .ok (.iload 5, 2) := by decide +kernel
theorem dX3_mostAlike_30 : decode cX3_mostAlike 30 = .ok (.bipush 50, 2) := by decide +kernel
theorem dX3_mostAlike_32 : decode cX3_mostAlike 32 = .ok (.if_icmp .gt 61, 3) := by decide +kernel
theorem dX3_mostAlike_35 : decode cX3_mostAlike 35 = .ok (.aload_n 0, 1) := by decide +kernel
theorem dX3_mostAlike_36 : decode cX3_mostAlike 36 = .ok (.iload 4, 2) := by decide +kernel
theorem dX3_mostAlike_38 : decode cX3_mostAlike 38 = .ok (.iload 5, 2) := by decide +kernel
theorem dX3_mostAlike_40 : decode cX3_mostAlike 40 = .ok (.invokevirtual 57, 3) := by decide +kernel
theorem dX3_mostAlike_43 : decode cX3_mostAlike 43 = .ok (.ifCond .eq 44, 3) := by decide +kernel
theorem dX3_mostAlike_46 : decode cX3_mostAlike 46 = .ok (.aload_n 0, 1) := by decide +kernel
theorem dX3_mostAlike_47 : decode cX3_mostAlike 47 = .ok (.getfield 25, 3) := by decide +kernel
theorem dX3_mostAlike_50 : decode cX3_mostAlike 50 = .ok (.iload_n 1, 1) := by decide +kernel
theorem dX3_mostAlike_51 : decode cX3_mostAlike 51 = .ok (.iload 4, 2) := by decide +kernel
theorem dX3_mostAlike_53 : decode cX3_mostAlike 53 = .ok (.iload 5, 2) := by decide +kernel
theorem dX3_mostAlike_55 : decode cX3_mostAlike 55 = .ok (.invokestatic 61, 3) := by decide +kernel
theorem dX3_mostAlike_58 : decode cX3_mostAlike 58 = .ok (.bipush (-50), 2) := by decide +kernel
theorem dX3_mostAlike_60 : decode cX3_mostAlike 60 = .ok (.isub, 1) := by decide +kernel
theorem dX3_mostAlike_61 : decode cX3_mostAlike 61 = .ok (.iaload, 1) := by decide +kernel
theorem dX3_mostAlike_62 : decode cX3_mostAlike 62 = .ok (.istore 6, 2) := by decide +kernel
theorem dX3_mostAlike_64 : decode cX3_mostAlike 64 = .ok (.aload_n 0, 1) := by decide +kernel
theorem dX3_mostAlike_65 : decode cX3_mostAlike 65 = .ok (.getfield 28, 3) := by decide +kernel
theorem dX3_mostAlike_68 : decode cX3_mostAlike 68 = .ok (.iload 6, 2) := by decide +kernel
theorem dX3_mostAlike_70 : decode cX3_mostAlike 70 = .ok (.dup2, 1) := by decide +kernel
theorem dX3_mostAlike_71 : decode cX3_mostAlike 71 = .ok (.iaload, 1) := by decide +kernel
theorem dX3_mostAlike_72 : decode cX3_mostAlike 72 = .ok (.iconst 1, 1) := by decide +kernel
theorem dX3_mostAlike_73 : decode cX3_mostAlike 73 = .ok (.iadd, 1) := by decide +kernel
theorem dX3_mostAlike_74 : decode cX3_mostAlike 74 = .ok (.iastore, 1) := by decide +kernel
theorem dX3_mostAlike_75 : decode cX3_mostAlike 75 = .ok (.iload_n 3, 1) := by decide +kernel
theorem dX3_mostAlike_76 : decode cX3_mostAlike 76 = .ok (.aload_n 0, 1) := by decide +kernel
theorem dX3_mostAlike_77 : decode cX3_mostAlike 77 = .ok (.getfield 28, 3) := by decide +kernel
theorem dX3_mostAlike_80 : decode cX3_mostAlike 80 = .ok (.iload 6, 2) := by decide +kernel
theorem dX3_mostAlike_82 : decode cX3_mostAlike 82 = .ok (.iaload, 1) := by decide +kernel
theorem dX3_mostAlike_83 : decode cX3_mostAlike 83 = .ok (.invokestatic 42, 3) := by decide +kernel
theorem dX3_mostAlike_86 : decode cX3_mostAlike 86 = .ok (.istore_n 3, 1) := by decide +kernel
theorem dX3_mostAlike_87 : decode cX3_mostAlike 87 = .ok (.iinc 5 1, 3) := by decide +kernel
theorem dX3_mostAlike_90 : decode cX3_mostAlike 90 = .ok (.goto (-62), 3) := by decide +kernel
theorem dX3_mostAlike_93 : decode cX3_mostAlike 93 = .ok (.iinc 4 1, 3) := by decide +kernel
theorem dX3_mostAlike_96 : decode cX3_mostAlike 96 = .ok (.goto (-83), 3) := by decide +kernel
theorem dX3_mostAlike_99 : decode cX3_mostAlike 99 = .ok (.iload_n 3, 1) := by decide +kernel
theorem dX3_mostAlike_100 : decode cX3_mostAlike 100 = .ok (.ireturn, 1) := by decide +kernel
theorem dX4_init_0 : decode cX4_init 0 = .ok (.aload_n 0, 1) := by decide +kernel
theorem dX4_init_1 : decode cX4_init 1 = .ok (.invokespecial 3, 3) := by decide +kernel
theorem dX4_init_4 : decode cX4_init 4 = .ok (.aload_n 0, 1) := by decide +kernel
theorem dX4_init_5 : decode cX4_init 5 = .ok (.iconst 4, 1) := by decide +kernel
theorem dX4_init_6 : decode cX4_init 6 = .ok (.newarray .int, 2) := by decide +kernel
theorem dX4_init_8 : decode cX4_init 8 = .ok (.putfield 11, 3) := by decide +kernel
theorem dX4_init_11 : decode cX4_init 11 = .ok (.aload_n 0, 1) := by decide +kernel
theorem dX4_init_12 : decode cX4_init 12 = .ok (.iconst 4, 1) := by decide +kernel
theorem dX4_init_13 : decode cX4_init 13 = .ok (.newarray .int, 2) := by decide +kernel
theorem dX4_init_15 : decode cX4_init 15 = .ok (.putfield 15, 3) := by decide +kernel
theorem dX4_init_18 : decode cX4_init 18 = .ok (.aload_n 0, 1) := by decide +kernel
theorem dX4_init_19 : decode cX4_init 19 = .ok (.iconst 4, 1) := by decide +kernel
theorem dX4_init_20 : decode cX4_init 20 = .ok (.newarray .int, 2) := by decide +kernel
theorem dX4_init_22 : decode cX4_init 22 = .ok (.dup, 1) := by decide +kernel
theorem dX4_init_23 : decode cX4_init 23 = .ok (.iconst 0, 1) := by decide +kernel
theorem dX4_init_24 : decode cX4_init 24 = .ok (.sipush 9999, 3) := by decide +kernel
theorem dX4_init_27 : decode cX4_init 27 = .ok (.iastore, 1) := by decide +kernel
theorem dX4_init_28 : decode cX4_init 28 = .ok (.dup, 1) := by decide +kernel
theorem dX4_init_29 : decode cX4_init 29 = .ok (.iconst 1, 1) := by decide +kernel
theorem dX4_init_30 : decode cX4_init 30 = .ok (.sipush 9999, 3) := by decide +kernel
theorem dX4_init_33 : decode cX4_init 33 = .ok (.iastore, 1) := by decide +kernel
theorem dX4_init_34 : decode cX4_init 34 = .ok (.dup, 1) := by decide +kernel
theorem dX4_init_35 : decode cX4_init 35 = .ok (.iconst 2, 1) := by decide +kernel
theorem dX4_init_36 : decode cX4_init 36 = .ok (.sipush 9999, 3) := by decide +kernel
theorem dX4_init_39 : decode cX4_init 39 = .ok (.iastore, 1) := by decide +kernel
theorem dX4_init_40 : decode cX4_init 40 = .ok (.dup, 1) := by decide +kernel
theorem dX4_init_41 : decode cX4_init 41 = .ok (.iconst 3, 1) := by decide +kernel
theorem dX4_init_42 : decode cX4_init 42 = .ok (.sipush 9999, 3) := by decide +kernel
theorem dX4_init_45 : decode cX4_init 45 = .ok (.iastore, 1) := by decide +kernel
theorem dX4_init_46 : decode cX4_init 46 = .ok (.putfield 18, 3) := by decide +kernel
theorem dX4_init_49 : decode cX4_init 49 = .ok (.aload_n 0, 1) := by decide +kernel
theorem dX4_init_50 : decode cX4_init 50 = .ok (.iconst 4, 1) := by decide +kernel
theorem dX4_init_51 : decode cX4_init 51 = .ok (.newarray .int, 2) := by decide +kernel
theorem dX4_init_53 : decode cX4_init 53 = .ok (.putfield 21, 3) := by decide +kernel
theorem dX4_init_56 : decode cX4_init 56 = .ok (.return_, 1) := by decide +kernel
theorem dX4_isInStep_0 : decode cX4_isInStep 0 = .ok (.iload_n 2, 1) := by decide +kernel
theorem dX4_isInStep_1 : decode cX4_isInStep 1 = .ok (.aload_n 0, 1) := by decide +kernel
theorem dX4_isInStep_2 : decode cX4_isInStep 2 = .ok (.getfield 15, 3) := by decide +kernel
theorem dX4_isInStep_5 : decode cX4_isInStep 5 = .ok (.iload_n 1, 1) := by decide +kernel
theorem dX4_isInStep_6 : decode cX4_isInStep 6 = .ok (.iaload, 1) := by decide +kernel
theorem dX4_isInStep_7 : decode cX4_isInStep 7 = .ok (.if_icmp .lt 17, 3) := by decide +kernel
theorem dX4_isInStep_10 : decode cX4_isInStep 10 = .ok (.iload_n 2, 1) := by decide +kernel
theorem dX4_isInStep_11 : decode cX4_isInStep 11 = .ok (.aload_n 0, 1) := by decide +kernel
theorem dX4_isInStep_12 : decode cX4_isInStep 12 = .ok (.getfield 18, 3) := by decide +kernel
theorem dX4_isInStep_15 : decode cX4_isInStep 15 = .ok (.iload_n 1, 1) := by decide +kernel
theorem dX4_isInStep_16 : decode cX4_isInStep 16 = .ok (.iaload, 1) := by decide +kernel
theorem dX4_isInStep_17 : decode cX4_isInStep 17 = .ok (.if_icmp .gt 7, 3) := by decide +kernel
theorem dX4_isInStep_20 : decode cX4_isInStep 20 = .ok (.iconst 1, 1) := by decide +kernel
theorem dX4_isInStep_21 : decode cX4_isInStep 21 = .ok (.goto 4, 3) := by decide +kernel
theorem dX4_isInStep_24 : decode cX4_isInStep 24 = .ok (.iconst 0, 1) := by decide +kernel
theorem dX4_isInStep_25 : decode cX4_isInStep 25 = .ok (.ireturn, 1) := by decide +kernel
theorem dX4_countInStep_0 : decode cX4_countInStep 0 = .ok (.iconst 0, 1) := by decide +kernel
theorem dX4_countInStep_1 : decode cX4_countInStep 1 = .ok (.istore_n 2, 1) := by decide +kernel
theorem dX4_countInStep_2 : decode cX4_countInStep 2 = .ok (.iconst 0, 1) := by decide +kernel
theorem dX4_countInStep_3 : decode cX4_countInStep 3 = .ok (.istore_n 3, 1) := by decide +kernel
theorem dX4_countInStep_4 : decode cX4_countInStep 4 = .ok (.iload_n 3, 1) := by decide +kernel
theorem dX4_countInStep_5 : decode cX4_countInStep 5 = .ok (.iconst 4, 1) := by decide +kernel
theorem dX4_countInStep_6 : decode cX4_countInStep 6 = .ok (.if_icmp .ge 27, 3) := by decide +kernel
theorem dX4_countInStep_9 : decode cX4_countInStep 9 = .ok (.aload_n 0, 1) := by decide +kernel
theorem dX4_countInStep_10 : decode cX4_countInStep 10 = .ok (.iload_n 3, 1) := by decide +kernel
theorem dX4_countInStep_11 : decode cX4_countInStep 11 = .ok (.iload_n 1, 1) := by decide +kernel
theorem dX4_countInStep_12 : decode cX4_countInStep 12 = .ok (.invokevirtual 24, 3) := by decide +kernel
theorem dX4_countInStep_15 : decode cX4_countInStep 15 = .ok (.ifCond .eq 12, 3) := by decide +kernel
theorem dX4_countInStep_18 : decode cX4_countInStep 18 = .ok (.iload_n 2, 1) := by decide +kernel
theorem dX4_countInStep_19 : decode cX4_countInStep 19 = .ok (.aload_n 0, 1) := by decide +kernel
theorem dX4_countInStep_20 : decode cX4_countInStep 20 = .ok (.getfield 21, 3) := by decide +kernel
theorem dX4_countInStep_23 : decode cX4_countInStep 23 = .ok (.iload_n 3, 1) := by decide +kernel
theorem dX4_countInStep_24 : decode cX4_countInStep 24 = .ok (.iaload, 1) := by decide +kernel
theorem dX4_countInStep_25 : decode cX4_countInStep 25 = .ok (.iadd, 1) := by decide +kernel
theorem dX4_countInStep_26 : decode cX4_countInStep 26 = .ok (.istore_n 2, 1) := by decide +kernel
theorem dX4_countInStep_27 : decode cX4_countInStep 27 = .ok (.iinc 3 1, 3) := by decide +kernel
theorem dX4_countInStep_30 : decode cX4_countInStep 30 = .ok (.goto (-26), 3) := by decide +kernel
theorem dX4_countInStep_33 : decode cX4_countInStep 33 = .ok (.iload_n 2, 1) := by decide +kernel
theorem dX4_countInStep_34 : decode cX4_countInStep 34 = .ok (.ireturn, 1) := by decide +kernel
theorem dX4_pushAt_0 : decode cX4_pushAt 0 = .ok (.iconst 0, 1) := by decide +kernel
theorem dX4_pushAt_1 : decode cX4_pushAt 1 = .ok (.istore_n 2, 1) := by decide +kernel
theorem dX4_pushAt_2 : decode cX4_pushAt 2 = .ok (.iconst 0, 1) := by decide +kernel
theorem dX4_pushAt_3 : decode cX4_pushAt 3 = .ok (.istore_n 3, 1) := by decide +kernel
theorem dX4_pushAt_4 : decode cX4_pushAt 4 = .ok (.iload_n 3, 1) := by decide +kernel
theorem dX4_pushAt_5 : decode cX4_pushAt 5 = .ok (.iconst 4, 1) := by decide +kernel
theorem dX4_pushAt_6 : decode cX4_pushAt 6 = .ok (.if_icmp .ge 34, 3) := by decide +kernel
theorem dX4_pushAt_9 : decode cX4_pushAt 9 = .ok (.aload_n 0, 1) := by decide +kernel
theorem dX4_pushAt_10 : decode cX4_pushAt 10 = .ok (.iload_n 3, 1) := by decide +kernel
theorem dX4_pushAt_11 : decode cX4_pushAt 11 = .ok (.iload_n 1, 1) := by decide +kernel
theorem dX4_pushAt_12 : decode cX4_pushAt 12 = .ok (.invokevirtual 24, 3) := by decide +kernel
theorem dX4_pushAt_15 : decode cX4_pushAt 15 = .ok (.ifCond .eq 19, 3) := by decide +kernel
theorem dX4_pushAt_18 : decode cX4_pushAt 18 = .ok (.iload_n 2, 1) := by decide +kernel
theorem dX4_pushAt_19 : decode cX4_pushAt 19 = .ok (.aload_n 0, 1) := by decide +kernel
theorem dX4_pushAt_20 : decode cX4_pushAt 20 = .ok (.getfield 21, 3) := by decide +kernel
theorem dX4_pushAt_23 : decode cX4_pushAt 23 = .ok (.iload_n 3, 1) := by decide +kernel
theorem dX4_pushAt_24 : decode cX4_pushAt 24 = .ok (.iaload, 1) := by decide +kernel
theorem dX4_pushAt_25 : decode cX4_pushAt 25 = .ok (.aload_n 0, 1) := by decide +kernel
theorem dX4_pushAt_26 : decode cX4_pushAt 26 = .ok (.getfield 11, 3) := by decide +kernel
theorem dX4_pushAt_29 : decode cX4_pushAt 29 = .ok (.iload_n 3, 1) := by decide +kernel
theorem dX4_pushAt_30 : decode cX4_pushAt 30 = .ok (.iaload, 1) := by decide +kernel
theorem dX4_pushAt_31 : decode cX4_pushAt 31 = .ok (.imul, 1) := by decide +kernel
theorem dX4_pushAt_32 : decode cX4_pushAt 32 = .ok (.iadd, 1) := by decide +kernel
theorem dX4_pushAt_33 : decode cX4_pushAt 33 = .ok (.istore_n 2, 1) := by decide +kernel
theorem dX4_pushAt_34 : decode cX4_pushAt 34 = .ok (.iinc 3 1, 3) := by decide +kernel
theorem dX4_pushAt_37 : decode cX4_pushAt 37 = .ok (.goto (-33), 3) := by decide +kernel
theorem dX4_pushAt_40 : decode cX4_pushAt 40 = .ok (.iload_n 2, 1) := by decide +kernel
theorem dX4_pushAt_41 : decode cX4_pushAt 41 = .ok (.ireturn, 1) := by decide +kernel
theorem dX4_netAt_0 : decode cX4_netAt 0 = .ok (.aload_n 0, 1) := by decide +kernel
theorem dX4_netAt_1 : decode cX4_netAt 1 = .ok (.iload_n 1, 1) := by decide +kernel
theorem dX4_netAt_2 : decode cX4_netAt 2 = .ok (.invokevirtual 28, 3) := by decide +kernel
theorem dX4_netAt_5 : decode cX4_netAt 5 = .ok (.bipush 100, 2) := by decide +kernel
theorem dX4_netAt_7 : decode cX4_netAt 7 = .ok (.idiv, 1) := by decide +kernel
theorem dX4_netAt_8 : decode cX4_netAt 8 = .ok (.iload_n 2, 1) := by decide +kernel
theorem dX4_netAt_9 : decode cX4_netAt 9 = .ok (.isub, 1) := by decide +kernel
theorem dX4_netAt_10 : decode cX4_netAt 10 = .ok (.ireturn, 1) := by decide +kernel
theorem dX4_netOfFirstSort_0 : decode cX4_netOfFirstSort 0 = .ok (.aload_n 0, 1) := by decide +kernel
theorem dX4_netOfFirstSort_1 : decode cX4_netOfFirstSort 1 = .ok (.iconst 0, 1) := by decide +kernel
theorem dX4_netOfFirstSort_2 : decode cX4_netOfFirstSort 2 = .ok (.iload_n 2, 1) := by decide +kernel
theorem dX4_netOfFirstSort_3 : decode cX4_netOfFirstSort 3 = .ok (.invokevirtual 24, 3) := by decide +kernel
theorem dX4_netOfFirstSort_6 : decode cX4_netOfFirstSort 6 = .ok (.ifCond .eq 17, 3) := by decide +kernel
theorem dX4_netOfFirstSort_9 : decode cX4_netOfFirstSort 9 = .ok (.iload_n 1, 1) := by decide +kernel
theorem dX4_netOfFirstSort_10 : decode cX4_netOfFirstSort 10 = .ok (.aload_n 0, 1) := by decide +kernel
theorem dX4_netOfFirstSort_11 : decode cX4_netOfFirstSort 11 = .ok (.getfield 11, 3) := by decide +kernel
theorem dX4_netOfFirstSort_14 : decode cX4_netOfFirstSort 14 = .ok (.iconst 0, 1) := by decide +kernel
theorem dX4_netOfFirstSort_15 : decode cX4_netOfFirstSort 15 = .ok (.iaload, 1) := by decide +kernel
theorem dX4_netOfFirstSort_16 : decode cX4_netOfFirstSort 16 = .ok (.imul, 1) := by decide +kernel
theorem dX4_netOfFirstSort_17 : decode cX4_netOfFirstSort 17 = .ok (.bipush 100, 2) := by decide +kernel
theorem dX4_netOfFirstSort_19 : decode cX4_netOfFirstSort 19 = .ok (.idiv, 1) := by decide +kernel
theorem dX4_netOfFirstSort_20 : decode cX4_netOfFirstSort 20 = .ok (.goto 4, 3) := by decide +kernel
theorem dX4_netOfFirstSort_23 : decode cX4_netOfFirstSort 23 = .ok (.iconst 0, 1) := by decide +kernel
theorem dX4_netOfFirstSort_24 : decode cX4_netOfFirstSort 24 = .ok (.iload_n 3, 1) := by decide +kernel
theorem dX4_netOfFirstSort_25 : decode cX4_netOfFirstSort 25 = .ok (.isub, 1) := by decide +kernel
theorem dX4_netOfFirstSort_26 : decode cX4_netOfFirstSort 26 = .ok (.ireturn, 1) := by decide +kernel
theorem dX4_beatFrom_0 : decode cX4_beatFrom 0 = .ok (.iload_n 1, 1) := by decide +kernel
theorem dX4_beatFrom_1 : decode cX4_beatFrom 1 = .ok (.aload_n 0, 1) := by decide +kernel
theorem dX4_beatFrom_2 : decode cX4_beatFrom 2 = .ok (.iload_n 1, 1) := by decide +kernel
theorem dX4_beatFrom_3 : decode cX4_beatFrom 3 = .ok (.invokevirtual 28, 3) := by decide +kernel
theorem dX4_beatFrom_6 : decode cX4_beatFrom 6 = .ok (.bipush 100, 2) := by decide +kernel
theorem dX4_beatFrom_8 : decode cX4_beatFrom 8 = .ok (.idiv, 1) := by decide +kernel
theorem dX4_beatFrom_9 : decode cX4_beatFrom 9 = .ok (.iload_n 2, 1) := by decide +kernel
theorem dX4_beatFrom_10 : decode cX4_beatFrom 10 = .ok (.isub, 1) := by decide +kernel
theorem dX4_beatFrom_11 : decode cX4_beatFrom 11 = .ok (.invokestatic 32, 3) := by decide +kernel
theorem dX4_beatFrom_14 : decode cX4_beatFrom 14 = .ok (.ireturn, 1) := by decide +kernel
theorem dX4_swayBehind_0 : decode cX4_swayBehind 0 = .ok (.iload_n 1, 1) := by decide +kernel
theorem dX4_swayBehind_1 : decode cX4_swayBehind 1 = .ok (.istore 4, 2) := by decide +kernel
theorem dX4_swayBehind_3 : decode cX4_swayBehind 3 = .ok (.iconst 0, 1) := by decide +kernel
theorem dX4_swayBehind_4 : decode cX4_swayBehind 4 = .ok (.istore 5, 2) := by decide +kernel
theorem dX4_swayBehind_6 : decode cX4_swayBehind 6 = .ok (.iload 5, 2) := by decide +kernel
theorem dX4_swayBehind_8 : decode cX4_swayBehind 8 = .ok (.iload_n 2, 1) := by decide +kernel
theorem dX4_swayBehind_9 : decode cX4_swayBehind 9 = .ok (.if_icmp .ge 32, 3) := by decide +kernel
theorem dX4_swayBehind_12 : decode cX4_swayBehind 12 = .ok (.iload 4, 2) := by decide +kernel
theorem dX4_swayBehind_14 : decode cX4_swayBehind 14 = .ok (.istore 6, 2) := by decide +kernel
theorem dX4_swayBehind_16 : decode cX4_swayBehind 16 = .ok (.aload_n 0, 1) := by decide +kernel
theorem dX4_swayBehind_17 : decode cX4_swayBehind 17 = .ok (.iload 6, 2) := by decide +kernel
theorem dX4_swayBehind_19 : decode cX4_swayBehind 19 = .ok (.iload_n 3, 1) := by decide +kernel
theorem dX4_swayBehind_20 : decode cX4_swayBehind 20 = .ok (.invokevirtual 36, 3) := by decide +kernel
theorem dX4_swayBehind_23 : decode cX4_swayBehind 23 = .ok (.istore 4, 2) := by decide +kernel
theorem dX4_swayBehind_25 : decode cX4_swayBehind 25 = .ok (.iload 4, 2) := by decide +kernel
theorem dX4_swayBehind_27 : decode cX4_swayBehind 27 = .ok (.iload 6, 2) := by decide +kernel
theorem dX4_swayBehind_29 : decode cX4_swayBehind 29 = .ok (.if_icmp .ne 6, 3) := by decide +kernel
theorem dX4_swayBehind_32 : decode cX4_swayBehind 32 = .ok (.iload 4, 2) := by decide +kernel
theorem dX4_swayBehind_34 : decode cX4_swayBehind 34 = .ok (.ireturn, 1) := by decide +kernel
theorem dX4_swayBehind_35 : decode cX4_swayBehind 35 = .ok (.iinc 5 1, 3) := by decide +kernel
theorem dX4_swayBehind_38 : decode cX4_swayBehind 38 = .ok (.goto (-32), 3) := by decide +kernel
theorem dX4_swayBehind_41 : decode cX4_swayBehind 41 = .ok (.iload 4, 2) := by decide +kernel
theorem dX4_swayBehind_43 : decode cX4_swayBehind 43 = .ok (.ireturn, 1) := by decide +kernel
theorem dX4_beatsTillStill_0 : decode cX4_beatsTillStill 0 = .ok (.iload_n 1, 1) := by decide +kernel
theorem dX4_beatsTillStill_1 : decode cX4_beatsTillStill 1 = .ok (.istore_n 3, 1) := by decide +kernel
theorem dX4_beatsTillStill_2 : decode cX4_beatsTillStill 2 = .ok (.iconst 1, 1) := by decide +kernel
theorem dX4_beatsTillStill_3 : decode cX4_beatsTillStill 3 = .ok (.istore 4, 2) := by decide +kernel
theorem dX4_beatsTillStill_5 : decode cX4_beatsTillStill 5 = .ok (.aload_n 0, 1) := by decide +kernel
theorem dX4_beatsTillStill_6 : decode cX4_beatsTillStill 6 = .ok (.iload_n 1, 1) := by decide +kernel
theorem dX4_beatsTillStill_7 : decode cX4_beatsTillStill 7 = .ok (.putfield 39, 3) := by decide +kernel
theorem dX4_beatsTillStill_10 : decode cX4_beatsTillStill 10 = .ok (.iconst 0, 1) := by decide +kernel
theorem dX4_beatsTillStill_11 : decode cX4_beatsTillStill 11 = .ok (.istore 5, 2) := by decide +kernel
theorem dX4_beatsTillStill_13 : decode cX4_beatsTillStill 13 = .ok (.iload 5, 2) := by decide +kernel
theorem dX4_beatsTillStill_15 : decode cX4_beatsTillStill 15 = .ok (.sipush 30000, 3) := by decide +kernel
theorem dX4_beatsTillStill_18 : decode cX4_beatsTillStill 18 = .ok (.if_icmp .ge 52, 3) := by decide +kernel
theorem dX4_beatsTillStill_21 : decode cX4_beatsTillStill 21 = .ok (.iload_n 3, 1) := by decide +kernel
theorem dX4_beatsTillStill_22 : decode cX4_beatsTillStill 22 = .ok (.ifCond .ne 6, 3) := by decide +kernel
theorem dX4_beatsTillStill_25 : decode cX4_beatsTillStill 25 = .ok (.iload 5, 2) := by decide +kernel
theorem dX4_beatsTillStill_27 : decode cX4_beatsTillStill 27 = .ok (.ireturn, 1) := by decide +kernel
theorem dX4_beatsTillStill_28 : decode cX4_beatsTillStill 28 = .ok (.iload 5, 2) := by decide +kernel
theorem dX4_beatsTillStill_30 : decode cX4_beatsTillStill 30 = .ok (.iload 4, 2) := by decide +kernel
theorem dX4_beatsTillStill_32 : decode cX4_beatsTillStill 32 = .ok (.if_icmp .ne 14, 3) := by decide +kernel
theorem dX4_beatsTillStill_35 : decode cX4_beatsTillStill 35 = .ok (.aload_n 0, 1) := by decide +kernel
theorem dX4_beatsTillStill_36 : decode cX4_beatsTillStill 36 = .ok (.iload_n 3, 1) := by decide +kernel
theorem dX4_beatsTillStill_37 : decode cX4_beatsTillStill 37 = .ok (.putfield 39, 3) := by decide +kernel
theorem dX4_beatsTillStill_40 : decode cX4_beatsTillStill 40 = .ok (.iload 4, 2) := by decide +kernel
theorem dX4_beatsTillStill_42 : decode cX4_beatsTillStill 42 = .ok (.iconst 2, 1) := by decide +kernel
theorem dX4_beatsTillStill_43 : decode cX4_beatsTillStill 43 = .ok (.imul, 1) := by decide +kernel
theorem dX4_beatsTillStill_44 : decode cX4_beatsTillStill 44 = .ok (.istore 4, 2) := by decide +kernel
theorem dX4_beatsTillStill_46 : decode cX4_beatsTillStill 46 = .ok (.aload_n 0, 1) := by decide +kernel
theorem dX4_beatsTillStill_47 : decode cX4_beatsTillStill 47 = .ok (.iload_n 3, 1) := by decide +kernel
theorem dX4_beatsTillStill_48 : decode cX4_beatsTillStill 48 = .ok (.iload_n 2, 1) := by decide +kernel
theorem dX4_beatsTillStill_49 : decode cX4_beatsTillStill 49 = .ok (.invokevirtual 36, 3) := by decide +kernel
theorem dX4_beatsTillStill_52 : decode cX4_beatsTillStill 52 = .ok (.istore_n 3, 1) := by decide +kernel
theorem dX4_beatsTillStill_53 : decode cX4_beatsTillStill 53 = .ok (.iload_n 3, 1) := by decide +kernel
theorem dX4_beatsTillStill_54 : decode cX4_beatsTillStill 54 = .ok (.aload_n 0, 1) := by decide +kernel
theorem dX4_beatsTillStill_55 : decode cX4_beatsTillStill 55 = .ok (.getfield 39, 3) := by decide +kernel
theorem dX4_beatsTillStill_58 : decode cX4_beatsTillStill 58 = .ok (.if_icmp .ne 6, 3) := by decide +kernel
theorem dX4_beatsTillStill_61 : decode cX4_beatsTillStill 61 = .ok (.bipush (-9), 2) := by decide +kernel
theorem dX4_beatsTillStill_63 : decode cX4_beatsTillStill 63 = .ok (.ireturn, 1) := by decide +kernel
theorem dX4_beatsTillStill_64 : decode cX4_beatsTillStill 64 = .ok (.iinc 5 1, 3) := by decide +kernel
theorem dX4_beatsTillStill_67 : decode cX4_beatsTillStill 67 = .ok (.goto (-54), 3) := by decide +kernel
theorem dX4_beatsTillStill_70 : decode cX4_beatsTillStill 70 = .ok (.bipush (-9), 2) := by decide +kernel
theorem dX4_beatsTillStill_72 : decode cX4_beatsTillStill 72 = .ok (.ireturn, 1) := by decide +kernel
theorem dX4_ringFigure_0 : decode cX4_ringFigure 0 = .ok (.aload_n 0, 1) := by decide +kernel
theorem dX4_ringFigure_1 : decode cX4_ringFigure 1 = .ok (.iload_n 1, 1) := by decide +kernel
theorem dX4_ringFigure_2 : decode cX4_ringFigure 2 = .ok (.iload_n 3, 1) := by decide +kernel
theorem dX4_ringFigure_3 : decode cX4_ringFigure 3 = .ok (.invokevirtual 43, 3) := by decide +kernel
theorem dX4_ringFigure_6 : decode cX4_ringFigure 6 = .ok (.bipush (-9), 2) := by decide +kernel
theorem dX4_ringFigure_8 : decode cX4_ringFigure 8 = .ok (.if_icmp .eq 6, 3) := by decide +kernel
theorem dX4_ringFigure_11 : decode cX4_ringFigure 11 = .ok (.bipush (-9), 2) := by decide +kernel
theorem dX4_ringFigure_13 : decode cX4_ringFigure 13 = .ok (.ireturn, 1) := by decide +kernel
theorem dX4_ringFigure_14 : decode cX4_ringFigure 14 = .ok (.iload_n 2, 1) := by decide +kernel
theorem dX4_ringFigure_15 : decode cX4_ringFigure 15 = .ok (.tableswitch 57 0 2 #[25, 36, 47], 25) := by decide +kernel
theorem dX4_ringFigure_40 : decode cX4_ringFigure 40 = .ok (.aload_n 0, 1) := by decide +kernel
theorem dX4_ringFigure_41 : decode cX4_ringFigure 41 = .ok (.aload_n 0, 1) := by decide +kernel
theorem dX4_ringFigure_42 : decode cX4_ringFigure 42 = .ok (.getfield 39, 3) := by decide +kernel
theorem dX4_ringFigure_45 : decode cX4_ringFigure 45 = .ok (.iconst 0, 1) := by decide +kernel
theorem dX4_ringFigure_46 : decode cX4_ringFigure 46 = .ok (.iload_n 3, 1) := by decide +kernel
theorem dX4_ringFigure_47 : decode cX4_ringFigure 47 = .ok (.invokevirtual 46, 3) := by decide +kernel
theorem dX4_ringFigure_50 : decode cX4_ringFigure 50 = .ok (.ireturn, 1) := by decide +kernel
theorem dX4_ringFigure_51 : decode cX4_ringFigure 51 = .ok (.aload_n 0, 1) := by decide +kernel
theorem dX4_ringFigure_52 : decode cX4_ringFigure 52 = .ok (.aload_n 0, 1) := by decide +kernel
theorem dX4_ringFigure_53 : decode cX4_ringFigure 53 = .ok (.getfield 39, 3) := by decide +kernel
theorem dX4_ringFigure_56 : decode cX4_ringFigure 56 = .ok (.iconst 1, 1) := by decide +kernel
theorem dX4_ringFigure_57 : decode cX4_ringFigure 57 = .ok (.iload_n 3, 1) := by decide +kernel
theorem dX4_ringFigure_58 : decode cX4_ringFigure 58 = .ok (.invokevirtual 46, 3) := by decide +kernel
theorem dX4_ringFigure_61 : decode cX4_ringFigure 61 = .ok (.ireturn, 1) := by decide +kernel
theorem dX4_ringFigure_62 : decode cX4_ringFigure 62 = .ok (.aload_n 0, 1) := by decide +kernel
theorem dX4_ringFigure_63 : decode cX4_ringFigure 63 = .ok (.aload_n 0, 1) := by decide +kernel
theorem dX4_ringFigure_64 : decode cX4_ringFigure 64 = .ok (.getfield 39, 3) := by decide +kernel
theorem dX4_ringFigure_67 : decode cX4_ringFigure 67 = .ok (.iload_n 3, 1) := by decide +kernel
theorem dX4_ringFigure_68 : decode cX4_ringFigure 68 = .ok (.invokevirtual 50, 3) := by decide +kernel
theorem dX4_ringFigure_71 : decode cX4_ringFigure 71 = .ok (.ireturn, 1) := by decide +kernel
theorem dX4_ringFigure_72 : decode cX4_ringFigure 72 = .ok (.aload_n 0, 1) := by decide +kernel
theorem dX4_ringFigure_73 : decode cX4_ringFigure 73 = .ok (.iload_n 1, 1) := by decide +kernel
theorem dX4_ringFigure_74 : decode cX4_ringFigure 74 = .ok (.aload_n 0, 1) := by decide +kernel
theorem dX4_ringFigure_75 : decode cX4_ringFigure 75 = .ok (.aload_n 0, 1) := by decide +kernel
theorem dX4_ringFigure_76 : decode cX4_ringFigure 76 = .ok (.getfield 39, 3) := by decide +kernel
theorem dX4_ringFigure_79 : decode cX4_ringFigure 79 = .ok (.iload_n 3, 1) := by decide +kernel
theorem dX4_ringFigure_80 : decode cX4_ringFigure 80 = .ok (.invokevirtual 50, 3) := by decide +kernel
theorem dX4_ringFigure_83 : decode cX4_ringFigure 83 = .ok (.iload_n 3, 1) := by decide +kernel
theorem dX4_ringFigure_84 : decode cX4_ringFigure 84 = .ok (.invokevirtual 53, 3) := by decide +kernel
theorem dX4_ringFigure_87 : decode cX4_ringFigure 87 = .ok (.ireturn, 1) := by decide +kernel
theorem dX4_ringEnd_0 : decode cX4_ringEnd 0 = .ok (.iload_n 1, 1) := by decide +kernel
theorem dX4_ringEnd_1 : decode cX4_ringEnd 1 = .ok (.istore 4, 2) := by decide +kernel
theorem dX4_ringEnd_3 : decode cX4_ringEnd 3 = .ok (.aload_n 0, 1) := by decide +kernel
theorem dX4_ringEnd_4 : decode cX4_ringEnd 4 = .ok (.iload_n 1, 1) := by decide +kernel
theorem dX4_ringEnd_5 : decode cX4_ringEnd 5 = .ok (.iload_n 3, 1) := by decide +kernel
theorem dX4_ringEnd_6 : decode cX4_ringEnd 6 = .ok (.invokevirtual 36, 3) := by decide +kernel
theorem dX4_ringEnd_9 : decode cX4_ringEnd 9 = .ok (.istore 5, 2) := by decide +kernel
theorem dX4_ringEnd_11 : decode cX4_ringEnd 11 = .ok (.iconst 0, 1) := by decide +kernel
theorem dX4_ringEnd_12 : decode cX4_ringEnd 12 = .ok (.istore 6, 2) := by decide +kernel
theorem dX4_ringEnd_14 : decode cX4_ringEnd 14 = .ok (.iload 6, 2) := by decide +kernel
theorem dX4_ringEnd_16 : decode cX4_ringEnd 16 = .ok (.sipush 10000, 3) := by decide +kernel
theorem dX4_ringEnd_19 : decode cX4_ringEnd 19 = .ok (.if_icmp .ge 47, 3) := by decide +kernel
theorem dX4_ringEnd_22 : decode cX4_ringEnd 22 = .ok (.iload 5, 2) := by decide +kernel
theorem dX4_ringEnd_24 : decode cX4_ringEnd 24 = .ok (.iload_n 1, 1) := by decide +kernel
theorem dX4_ringEnd_25 : decode cX4_ringEnd 25 = .ok (.if_icmp .eq 41, 3) := by decide +kernel
theorem dX4_ringEnd_28 : decode cX4_ringEnd 28 = .ok (.iload_n 2, 1) := by decide +kernel
theorem dX4_ringEnd_29 : decode cX4_ringEnd 29 = .ok (.ifCond .eq 13, 3) := by decide +kernel
theorem dX4_ringEnd_32 : decode cX4_ringEnd 32 = .ok (.iload 4, 2) := by decide +kernel
theorem dX4_ringEnd_34 : decode cX4_ringEnd 34 = .ok (.iload 5, 2) := by decide +kernel
theorem dX4_ringEnd_36 : decode cX4_ringEnd 36 = .ok (.invokestatic 57, 3) := by decide +kernel
theorem dX4_ringEnd_39 : decode cX4_ringEnd 39 = .ok (.goto 10, 3) := by decide +kernel
theorem dX4_ringEnd_42 : decode cX4_ringEnd 42 = .ok (.iload 4, 2) := by decide +kernel
theorem dX4_ringEnd_44 : decode cX4_ringEnd 44 = .ok (.iload 5, 2) := by decide +kernel
theorem dX4_ringEnd_46 : decode cX4_ringEnd 46 = .ok (.invokestatic 62, 3) := by decide +kernel
theorem dX4_ringEnd_49 : decode cX4_ringEnd 49 = .ok (.istore 4, 2) := by decide +kernel
theorem dX4_ringEnd_51 : decode cX4_ringEnd 51 = .ok (.aload_n 0, 1) := by decide +kernel
theorem dX4_ringEnd_52 : decode cX4_ringEnd 52 = .ok (.iload 5, 2) := by decide +kernel
theorem dX4_ringEnd_54 : decode cX4_ringEnd 54 = .ok (.iload_n 3, 1) := by decide +kernel
theorem dX4_ringEnd_55 : decode cX4_ringEnd 55 = .ok (.invokevirtual 36, 3) := by decide +kernel
theorem dX4_ringEnd_58 : decode cX4_ringEnd 58 = .ok (.istore 5, 2) := by decide +kernel
theorem dX4_ringEnd_60 : decode cX4_ringEnd 60 = .ok (.iinc 6 1, 3) := by decide +kernel
theorem dX4_ringEnd_63 : decode cX4_ringEnd 63 = .ok (.goto (-49), 3) := by decide +kernel
theorem dX4_ringEnd_66 : decode cX4_ringEnd 66 = .ok (.iload 4, 2) := by decide +kernel
theorem dX4_ringEnd_68 : decode cX4_ringEnd 68 = .ok (.ireturn, 1) := by decide +kernel
theorem dX4_ringSize_0 : decode cX4_ringSize 0 = .ok (.iconst 1, 1) := by decide +kernel
theorem dX4_ringSize_1 : decode cX4_ringSize 1 = .ok (.istore_n 3, 1) := by decide +kernel
theorem dX4_ringSize_2 : decode cX4_ringSize 2 = .ok (.aload_n 0, 1) := by decide +kernel
theorem dX4_ringSize_3 : decode cX4_ringSize 3 = .ok (.iload_n 1, 1) := by decide +kernel
theorem dX4_ringSize_4 : decode cX4_ringSize 4 = .ok (.iload_n 2, 1) := by decide +kernel
theorem dX4_ringSize_5 : decode cX4_ringSize 5 = .ok (.invokevirtual 36, 3) := by decide +kernel
theorem dX4_ringSize_8 : decode cX4_ringSize 8 = .ok (.istore 4, 2) := by decide +kernel
theorem dX4_ringSize_10 : decode cX4_ringSize 10 = .ok (.iconst 0, 1) := by decide +kernel
theorem dX4_ringSize_11 : decode cX4_ringSize 11 = .ok (.istore 5, 2) := by decide +kernel
theorem dX4_ringSize_13 : decode cX4_ringSize 13 = .ok (.iload 5, 2) := by decide +kernel
theorem dX4_ringSize_15 : decode cX4_ringSize 15 = .ok (.sipush 10000, 3) := by decide +kernel
theorem dX4_ringSize_18 : decode cX4_ringSize 18 = .ok (.if_icmp .ge 27, 3) := by decide +kernel
theorem dX4_ringSize_21 : decode cX4_ringSize 21 = .ok (.iload 4, 2) := by decide +kernel
theorem dX4_ringSize_23 : decode cX4_ringSize 23 = .ok (.iload_n 1, 1) := by decide +kernel
theorem dX4_ringSize_24 : decode cX4_ringSize 24 = .ok (.if_icmp .eq 21, 3) := by decide +kernel
theorem dX4_ringSize_27 : decode cX4_ringSize 27 = .ok (.iinc 3 1, 3) := by decide +kernel
theorem dX4_ringSize_30 : decode cX4_ringSize 30 = .ok (.aload_n 0, 1) := by decide +kernel
theorem dX4_ringSize_31 : decode cX4_ringSize 31 = .ok (.iload 4, 2) := by decide +kernel
theorem dX4_ringSize_33 : decode cX4_ringSize 33 = .ok (.iload_n 2, 1) := by decide +kernel
theorem dX4_ringSize_34 : decode cX4_ringSize 34 = .ok (.invokevirtual 36, 3) := by decide +kernel
theorem dX4_ringSize_37 : decode cX4_ringSize 37 = .ok (.istore 4, 2) := by decide +kernel
theorem dX4_ringSize_39 : decode cX4_ringSize 39 = .ok (.iinc 5 1, 3) := by decide +kernel
theorem dX4_ringSize_42 : decode cX4_ringSize 42 = .ok (.goto (-29), 3) := by decide +kernel
theorem dX4_ringSize_45 : decode cX4_ringSize 45 = .ok (.iload_n 3, 1) := by decide +kernel
theorem dX4_ringSize_46 : decode cX4_ringSize 46 = .ok (.ireturn, 1) := by decide +kernel
theorem dX4_beatsAheadOfRing_0 : decode cX4_beatsAheadOfRing 0 = .ok (.iload_n 1, 1) := by decide +kernel
theorem dX4_beatsAheadOfRing_1 : decode cX4_beatsAheadOfRing 1 = .ok (.istore 4, 2) := by decide +kernel
theorem dX4_beatsAheadOfRing_3 : decode cX4_beatsAheadOfRing 3 = .ok (.aload_n 0, 1) := by decide +kernel
theorem dX4_beatsAheadOfRing_4 : decode cX4_beatsAheadOfRing 4 = .ok (.iload_n 1, 1) := by decide +kernel
theorem dX4_beatsAheadOfRing_5 : decode cX4_beatsAheadOfRing 5 = .ok (.iload_n 2, 1) := by decide +kernel
theorem dX4_beatsAheadOfRing_6 : decode cX4_beatsAheadOfRing 6 = .ok (.iload_n 3, 1) := by decide +kernel
theorem dX4_beatsAheadOfRing_7 : decode cX4_beatsAheadOfRing 7 = .ok (.invokevirtual 65, 3) := by decide +kernel
theorem dX4_beatsAheadOfRing_10 : decode cX4_beatsAheadOfRing 10 = .ok (.istore 5, 2) := by decide +kernel
theorem dX4_beatsAheadOfRing_12 : decode cX4_beatsAheadOfRing 12 = .ok (.iconst 0, 1) := by decide +kernel
theorem dX4_beatsAheadOfRing_13 : decode cX4_beatsAheadOfRing 13 = .ok (.istore 6, 2) := by decide +kernel
theorem dX4_beatsAheadOfRing_15 : decode cX4_beatsAheadOfRing 15 = .ok (.iconst 0, 1) := by decide +kernel
theorem dX4_beatsAheadOfRing_16 : decode cX4_beatsAheadOfRing 16 = .ok (.istore 7, 2) := by decide +kernel
theorem dX4_beatsAheadOfRing_18 : decode cX4_beatsAheadOfRing 18 = .ok (.iload 7, 2) := by decide +kernel
theorem dX4_beatsAheadOfRing_20 : decode cX4_beatsAheadOfRing 20 = .ok (.sipush 10000, 3) := by decide +kernel
theorem dX4_beatsAheadOfRing_23 : decode cX4_beatsAheadOfRing 23 = .ok (.if_icmp .ge 37, 3) := by decide +kernel
theorem dX4_beatsAheadOfRing_26 : decode cX4_beatsAheadOfRing 26 = .ok (.iload 4, 2) := by decide +kernel
theorem dX4_beatsAheadOfRing_28 : decode cX4_beatsAheadOfRing 28 = .ok (.iload 5, 2) := by decide +kernel
theorem dX4_beatsAheadOfRing_30 : decode cX4_beatsAheadOfRing 30 = .ok (.if_icmp .eq 30, 3) := by decide +kernel
theorem dX4_beatsAheadOfRing_33 : decode cX4_beatsAheadOfRing 33 = .ok (.aload_n 0, 1) := by decide +kernel
theorem dX4_beatsAheadOfRing_34 : decode cX4_beatsAheadOfRing 34 = .ok (.iload 4, 2) := by decide +kernel
theorem dX4_beatsAheadOfRing_36 : decode cX4_beatsAheadOfRing 36 = .ok (.iload_n 3, 1) := by decide +kernel
theorem dX4_beatsAheadOfRing_37 : decode cX4_beatsAheadOfRing 37 = .ok (.invokevirtual 36, 3) := by decide +kernel
theorem dX4_beatsAheadOfRing_40 : decode cX4_beatsAheadOfRing 40 = .ok (.istore 4, 2) := by decide +kernel
theorem dX4_beatsAheadOfRing_42 : decode cX4_beatsAheadOfRing 42 = .ok (.aload_n 0, 1) := by decide +kernel
theorem dX4_beatsAheadOfRing_43 : decode cX4_beatsAheadOfRing 43 = .ok (.iload 5, 2) := by decide +kernel
theorem dX4_beatsAheadOfRing_45 : decode cX4_beatsAheadOfRing 45 = .ok (.iload_n 3, 1) := by decide +kernel
theorem dX4_beatsAheadOfRing_46 : decode cX4_beatsAheadOfRing 46 = .ok (.invokevirtual 36, 3) := by decide +kernel
theorem dX4_beatsAheadOfRing_49 : decode cX4_beatsAheadOfRing 49 = .ok (.istore 5, 2) := by decide +kernel
theorem dX4_beatsAheadOfRing_51 : decode cX4_beatsAheadOfRing 51 = .ok (.iinc 6 1, 3) := by decide +kernel
theorem dX4_beatsAheadOfRing_54 : decode cX4_beatsAheadOfRing 54 = .ok (.iinc 7 1, 3) := by decide +kernel
theorem dX4_beatsAheadOfRing_57 : decode cX4_beatsAheadOfRing 57 = .ok (.goto (-39), 3) := by decide +kernel
theorem dX4_beatsAheadOfRing_60 : decode cX4_beatsAheadOfRing 60 = .ok (.iload 6, 2) := by decide +kernel
theorem dX4_beatsAheadOfRing_62 : decode cX4_beatsAheadOfRing 62 = .ok (.ireturn, 1) := by decide +kernel
theorem dX4_fewestTooMany_0 : decode cX4_fewestTooMany 0 = .ok (.aload_n 0, 1) := by decide +kernel
theorem dX4_fewestTooMany_1 : decode cX4_fewestTooMany 1 = .ok (.getfield 21, 3) := by decide +kernel
theorem dX4_fewestTooMany_4 : decode cX4_fewestTooMany 4 = .ok (.iload_n 1, 1) := by decide +kernel
theorem dX4_fewestTooMany_5 : decode cX4_fewestTooMany 5 = .ok (.iaload, 1) := by decide +kernel
theorem dX4_fewestTooMany_6 : decode cX4_fewestTooMany 6 = .ok (.istore 4, 2) := by decide +kernel
theorem dX4_fewestTooMany_8 : decode cX4_fewestTooMany 8 = .ok (.bipush (-9), 2) := by decide +kernel
theorem dX4_fewestTooMany_10 : decode cX4_fewestTooMany 10 = .ok (.istore 5, 2) := by decide +kernel
theorem dX4_fewestTooMany_12 : decode cX4_fewestTooMany 12 = .ok (.iconst 0, 1) := by decide +kernel
theorem dX4_fewestTooMany_13 : decode cX4_fewestTooMany 13 = .ok (.istore 6, 2) := by decide +kernel
theorem dX4_fewestTooMany_15 : decode cX4_fewestTooMany 15 = .ok (.iconst 0, 1) := by decide +kernel
theorem dX4_fewestTooMany_16 : decode cX4_fewestTooMany 16 = .ok (.istore 7, 2) := by decide +kernel
theorem dX4_fewestTooMany_18 : decode cX4_fewestTooMany 18 = .ok (.iload 7, 2) := by decide +kernel
theorem dX4_fewestTooMany_20 : decode cX4_fewestTooMany 20 = .ok (.sipush 999, 3) := by decide +kernel
theorem dX4_fewestTooMany_23 : decode cX4_fewestTooMany 23 = .ok (.if_icmp .gt 60, 3) := by decide +kernel
theorem dX4_fewestTooMany_26 : decode cX4_fewestTooMany 26 = .ok (.iload 6, 2) := by decide +kernel
theorem dX4_fewestTooMany_28 : decode cX4_fewestTooMany 28 = .ok (.sipush 999, 3) := by decide +kernel
theorem dX4_fewestTooMany_31 : decode cX4_fewestTooMany 31 = .ok (.if_icmp .gt 52, 3) := by decide +kernel
theorem dX4_fewestTooMany_34 : decode cX4_fewestTooMany 34 = .ok (.iload 5, 2) := by decide +kernel
theorem dX4_fewestTooMany_36 : decode cX4_fewestTooMany 36 = .ok (.bipush (-9), 2) := by decide +kernel
theorem dX4_fewestTooMany_38 : decode cX4_fewestTooMany 38 = .ok (.if_icmp .ne 45, 3) := by decide +kernel
theorem dX4_fewestTooMany_41 : decode cX4_fewestTooMany 41 = .ok (.aload_n 0, 1) := by decide +kernel
theorem dX4_fewestTooMany_42 : decode cX4_fewestTooMany 42 = .ok (.getfield 21, 3) := by decide +kernel
theorem dX4_fewestTooMany_45 : decode cX4_fewestTooMany 45 = .ok (.iload_n 1, 1) := by decide +kernel
theorem dX4_fewestTooMany_46 : decode cX4_fewestTooMany 46 = .ok (.iload 6, 2) := by decide +kernel
theorem dX4_fewestTooMany_48 : decode cX4_fewestTooMany 48 = .ok (.iastore, 1) := by decide +kernel
theorem dX4_fewestTooMany_49 : decode cX4_fewestTooMany 49 = .ok (.aload_n 0, 1) := by decide +kernel
theorem dX4_fewestTooMany_50 : decode cX4_fewestTooMany 50 = .ok (.iload_n 2, 1) := by decide +kernel
theorem dX4_fewestTooMany_51 : decode cX4_fewestTooMany 51 = .ok (.iload_n 3, 1) := by decide +kernel
theorem dX4_fewestTooMany_52 : decode cX4_fewestTooMany 52 = .ok (.invokevirtual 43, 3) := by decide +kernel
theorem dX4_fewestTooMany_55 : decode cX4_fewestTooMany 55 = .ok (.bipush (-9), 2) := by decide +kernel
theorem dX4_fewestTooMany_57 : decode cX4_fewestTooMany 57 = .ok (.if_icmp .ne 10, 3) := by decide +kernel
theorem dX4_fewestTooMany_60 : decode cX4_fewestTooMany 60 = .ok (.iload 6, 2) := by decide +kernel
theorem dX4_fewestTooMany_62 : decode cX4_fewestTooMany 62 = .ok (.istore 5, 2) := by decide +kernel
theorem dX4_fewestTooMany_64 : decode cX4_fewestTooMany 64 = .ok (.goto 13, 3) := by decide +kernel
theorem dX4_fewestTooMany_67 : decode cX4_fewestTooMany 67 = .ok (.iload 6, 2) := by decide +kernel
theorem dX4_fewestTooMany_69 : decode cX4_fewestTooMany 69 = .ok (.aload_n 0, 1) := by decide +kernel
theorem dX4_fewestTooMany_70 : decode cX4_fewestTooMany 70 = .ok (.iload_n 1, 1) := by decide +kernel
theorem dX4_fewestTooMany_71 : decode cX4_fewestTooMany 71 = .ok (.invokevirtual 68, 3) := by decide +kernel
theorem dX4_fewestTooMany_74 : decode cX4_fewestTooMany 74 = .ok (.iadd, 1) := by decide +kernel
theorem dX4_fewestTooMany_75 : decode cX4_fewestTooMany 75 = .ok (.istore 6, 2) := by decide +kernel
theorem dX4_fewestTooMany_77 : decode cX4_fewestTooMany 77 = .ok (.iinc 7 1, 3) := by decide +kernel
theorem dX4_fewestTooMany_80 : decode cX4_fewestTooMany 80 = .ok (.goto (-62), 3) := by decide +kernel
theorem dX4_fewestTooMany_83 : decode cX4_fewestTooMany 83 = .ok (.aload_n 0, 1) := by decide +kernel
theorem dX4_fewestTooMany_84 : decode cX4_fewestTooMany 84 = .ok (.getfield 21, 3) := by decide +kernel
theorem dX4_fewestTooMany_87 : decode cX4_fewestTooMany 87 = .ok (.iload_n 1, 1) := by decide +kernel
theorem dX4_fewestTooMany_88 : decode cX4_fewestTooMany 88 = .ok (.iload 4, 2) := by decide +kernel
theorem dX4_fewestTooMany_90 : decode cX4_fewestTooMany 90 = .ok (.iastore, 1) := by decide +kernel
theorem dX4_fewestTooMany_91 : decode cX4_fewestTooMany 91 = .ok (.iload 5, 2) := by decide +kernel
theorem dX4_fewestTooMany_93 : decode cX4_fewestTooMany 93 = .ok (.ireturn, 1) := by decide +kernel
