theorem dX6_bestMark_0 : decode cX6_bestMark 0 = .ok (.aload_n 0, 1) := by decide +kernel
theorem dX6_bestMark_1 : decode cX6_bestMark 1 = .ok (.iconst 0, 1) := by decide +kernel
theorem dX6_bestMark_2 : decode cX6_bestMark 2 = .ok (.putfield 75, 3) := by decide +kernel
theorem dX6_bestMark_5 : decode cX6_bestMark 5 = .ok (.iload_n 1, 1) := by decide +kernel
theorem dX6_bestMark_6 : decode cX6_bestMark 6 = .ok (.i2l, 1) := by decide +kernel
theorem dX6_bestMark_7 : decode cX6_bestMark 7 = .ok (.lconst 1, 1) := by decide +kernel
theorem dX6_bestMark_8 : decode cX6_bestMark 8 = .ok (.ldc2_w 185, 3) := by decide +kernel
theorem dX6_bestMark_11 : decode cX6_bestMark 11 = .ok (.invokestatic 80, 3) := by decide +kernel
theorem dX6_bestMark_14 : decode cX6_bestMark 14 = .ok (.ifCond .ne 6, 3) := by decide +kernel
theorem dX6_bestMark_17 : decode cX6_bestMark 17 = .ok (.bipush (-2), 2) := by decide +kernel
theorem dX6_bestMark_19 : decode cX6_bestMark 19 = .ok (.ireturn, 1) := by decide +kernel
theorem dX6_bestMark_20 : decode cX6_bestMark 20 = .ok (.bipush (-9), 2) := by decide +kernel
theorem dX6_bestMark_22 : decode cX6_bestMark 22 = .ok (.istore_n 2, 1) := by decide +kernel
theorem dX6_bestMark_23 : decode cX6_bestMark 23 = .ok (.iconst (-1), 1) := by decide +kernel
theorem dX6_bestMark_24 : decode cX6_bestMark 24 = .ok (.istore_n 3, 1) := by decide +kernel
theorem dX6_bestMark_25 : decode cX6_bestMark 25 = .ok (.iconst 0, 1) := by decide +kernel
theorem dX6_bestMark_26 : decode cX6_bestMark 26 = .ok (.istore 4, 2) := by decide +kernel
theorem dX6_bestMark_28 : decode cX6_bestMark 28 = .ok (.iload 4, 2) := by decide +kernel
theorem dX6_bestMark_30 : decode cX6_bestMark 30 = .ok (.sipush 200, 3) := by decide +kernel
theorem dX6_bestMark_33 : decode cX6_bestMark 33 = .ok (.if_icmp .gt 45, 3) := by decide +kernel
theorem dX6_bestMark_36 : decode cX6_bestMark 36 = .ok (.aload_n 0, 1) := by decide +kernel
theorem dX6_bestMark_37 : decode cX6_bestMark 37 = .ok (.iload_n 1, 1) := by decide +kernel
theorem dX6_bestMark_38 : decode cX6_bestMark 38 = .ok (.iload 4, 2) := by decide +kernel
theorem dX6_bestMark_40 : decode cX6_bestMark 40 = .ok (.invokevirtual 187, 3) := by decide +kernel
theorem dX6_bestMark_43 : decode cX6_bestMark 43 = .ok (.aload_n 0, 1) := by decide +kernel
theorem dX6_bestMark_44 : decode cX6_bestMark 44 = .ok (.getfield 176, 3) := by decide +kernel
theorem dX6_bestMark_47 : decode cX6_bestMark 47 = .ok (.aload_n 0, 1) := by decide +kernel
theorem dX6_bestMark_48 : decode cX6_bestMark 48 = .ok (.getfield 35, 3) := by decide +kernel
theorem dX6_bestMark_51 : decode cX6_bestMark 51 = .ok (.iconst 3, 1) := by decide +kernel
theorem dX6_bestMark_52 : decode cX6_bestMark 52 = .ok (.iaload, 1) := by decide +kernel
theorem dX6_bestMark_53 : decode cX6_bestMark 53 = .ok (.if_icmp .gt 19, 3) := by decide +kernel
theorem dX6_bestMark_56 : decode cX6_bestMark 56 = .ok (.aload_n 0, 1) := by decide +kernel
theorem dX6_bestMark_57 : decode cX6_bestMark 57 = .ok (.getfield 167, 3) := by decide +kernel
theorem dX6_bestMark_60 : decode cX6_bestMark 60 = .ok (.iload_n 3, 1) := by decide +kernel
theorem dX6_bestMark_61 : decode cX6_bestMark 61 = .ok (.if_icmp .le 11, 3) := by decide +kernel
theorem dX6_bestMark_64 : decode cX6_bestMark 64 = .ok (.aload_n 0, 1) := by decide +kernel
theorem dX6_bestMark_65 : decode cX6_bestMark 65 = .ok (.getfield 167, 3) := by decide +kernel
theorem dX6_bestMark_68 : decode cX6_bestMark 68 = .ok (.istore_n 3, 1) := by decide +kernel
theorem dX6_bestMark_69 : decode cX6_bestMark 69 = .ok (.iload 4, 2) := by decide +kernel
theorem dX6_bestMark_71 : decode cX6_bestMark 71 = .ok (.istore_n 2, 1) := by decide +kernel
theorem dX6_bestMark_72 : decode cX6_bestMark 72 = .ok (.iinc 4 1, 3) := by decide +kernel
theorem dX6_bestMark_75 : decode cX6_bestMark 75 = .ok (.goto (-47), 3) := by decide +kernel
theorem dX6_bestMark_78 : decode cX6_bestMark 78 = .ok (.iload_n 2, 1) := by decide +kernel
theorem dX6_bestMark_79 : decode cX6_bestMark 79 = .ok (.ireturn, 1) := by decide +kernel
theorem dX6_test_0 : decode cX6_test 0 = .ok (.aload_n 0, 1) := by decide +kernel
theorem dX6_test_1 : decode cX6_test 1 = .ok (.iconst 0, 1) := by decide +kernel
theorem dX6_test_2 : decode cX6_test 2 = .ok (.putfield 75, 3) := by decide +kernel
theorem dX6_test_5 : decode cX6_test 5 = .ok (.iload_n 1, 1) := by decide +kernel
theorem dX6_test_6 : decode cX6_test 6 = .ok (.i2l, 1) := by decide +kernel
theorem dX6_test_7 : decode cX6_test 7 = .ok (.lconst 0, 1) := by decide +kernel
theorem dX6_test_8 : decode cX6_test 8 = .ok (.ldc2_w 86, 3) := by decide +kernel
theorem dX6_test_11 : decode cX6_test 11 = .ok (.invokestatic 80, 3) := by decide +kernel
theorem dX6_test_14 : decode cX6_test 14 = .ok (.ifCond .eq 43, 3) := by decide +kernel
theorem dX6_test_17 : decode cX6_test 17 = .ok (.iload_n 2, 1) := by decide +kernel
theorem dX6_test_18 : decode cX6_test 18 = .ok (.invokestatic 104, 3) := by decide +kernel
theorem dX6_test_21 : decode cX6_test 21 = .ok (.ifCond .ne 36, 3) := by decide +kernel
theorem dX6_test_24 : decode cX6_test 24 = .ok (.iload_n 3, 1) := by decide +kernel
theorem dX6_test_25 : decode cX6_test 25 = .ok (.i2l, 1) := by decide +kernel
theorem dX6_test_26 : decode cX6_test 26 = .ok (.lconst 1, 1) := by decide +kernel
theorem dX6_test_27 : decode cX6_test 27 = .ok (.ldc2_w 191, 3) := by decide +kernel
theorem dX6_test_30 : decode cX6_test 30 = .ok (.invokestatic 80, 3) := by decide +kernel
theorem dX6_test_33 : decode cX6_test 33 = .ok (.ifCond .eq 24, 3) := by decide +kernel
theorem dX6_test_36 : decode cX6_test 36 = .ok (.iload 4, 2) := by decide +kernel
theorem dX6_test_38 : decode cX6_test 38 = .ok (.i2l, 1) := by decide +kernel
theorem dX6_test_39 : decode cX6_test 39 = .ok (.lconst 0, 1) := by decide +kernel
theorem dX6_test_40 : decode cX6_test 40 = .ok (.iload 5, 2) := by decide +kernel
theorem dX6_test_42 : decode cX6_test 42 = .ok (.i2l, 1) := by decide +kernel
theorem dX6_test_43 : decode cX6_test 43 = .ok (.invokestatic 80, 3) := by decide +kernel
theorem dX6_test_46 : decode cX6_test 46 = .ok (.ifCond .eq 11, 3) := by decide +kernel
theorem dX6_test_49 : decode cX6_test 49 = .ok (.iload 5, 2) := by decide +kernel
theorem dX6_test_51 : decode cX6_test 51 = .ok (.sipush 9999, 3) := by decide +kernel
theorem dX6_test_54 : decode cX6_test 54 = .ok (.if_icmp .le 6, 3) := by decide +kernel
theorem dX6_test_57 : decode cX6_test 57 = .ok (.bipush (-2), 2) := by decide +kernel
theorem dX6_test_59 : decode cX6_test 59 = .ok (.ireturn, 1) := by decide +kernel
theorem dX6_test_60 : decode cX6_test 60 = .ok (.aload_n 0, 1) := by decide +kernel
theorem dX6_test_61 : decode cX6_test 61 = .ok (.getfield 193, 3) := by decide +kernel
theorem dX6_test_64 : decode cX6_test 64 = .ok (.bipush 20, 2) := by decide +kernel
theorem dX6_test_66 : decode cX6_test 66 = .ok (.if_icmp .ne 6, 3) := by decide +kernel
theorem dX6_test_69 : decode cX6_test 69 = .ok (.bipush (-4), 2) := by decide +kernel
theorem dX6_test_71 : decode cX6_test 71 = .ok (.ireturn, 1) := by decide +kernel
theorem dX6_test_72 : decode cX6_test 72 = .ok (.iconst 5, 1) := by decide +kernel
theorem dX6_test_73 : decode cX6_test 73 = .ok (.aload_n 0, 1) := by decide +kernel
theorem dX6_test_74 : decode cX6_test 74 = .ok (.getfield 193, 3) := by decide +kernel
theorem dX6_test_77 : decode cX6_test 77 = .ok (.imul, 1) := by decide +kernel
theorem dX6_test_78 : decode cX6_test 78 = .ok (.istore 6, 2) := by decide +kernel
theorem dX6_test_80 : decode cX6_test 80 = .ok (.aload_n 0, 1) := by decide +kernel
theorem dX6_test_81 : decode cX6_test 81 = .ok (.getfield 66, 3) := by decide +kernel
theorem dX6_test_84 : decode cX6_test 84 = .ok (.iload 6, 2) := by decide +kernel
theorem dX6_test_86 : decode cX6_test 86 = .ok (.iload_n 1, 1) := by decide +kernel
theorem dX6_test_87 : decode cX6_test 87 = .ok (.iastore, 1) := by decide +kernel
theorem dX6_test_88 : decode cX6_test 88 = .ok (.aload_n 0, 1) := by decide +kernel
theorem dX6_test_89 : decode cX6_test 89 = .ok (.getfield 66, 3) := by decide +kernel
theorem dX6_test_92 : decode cX6_test 92 = .ok (.iload 6, 2) := by decide +kernel
theorem dX6_test_94 : decode cX6_test 94 = .ok (.iconst 1, 1) := by decide +kernel
theorem dX6_test_95 : decode cX6_test 95 = .ok (.iadd, 1) := by decide +kernel
theorem dX6_test_96 : decode cX6_test 96 = .ok (.iload_n 2, 1) := by decide +kernel
theorem dX6_test_97 : decode cX6_test 97 = .ok (.iastore, 1) := by decide +kernel
theorem dX6_test_98 : decode cX6_test 98 = .ok (.aload_n 0, 1) := by decide +kernel
theorem dX6_test_99 : decode cX6_test 99 = .ok (.getfield 66, 3) := by decide +kernel
theorem dX6_test_102 : decode cX6_test 102 = .ok (.iload 6, 2) := by decide +kernel
theorem dX6_test_104 : decode cX6_test 104 = .ok (.iconst 2, 1) := by decide +kernel
theorem dX6_test_105 : decode cX6_test 105 = .ok (.iadd, 1) := by decide +kernel
theorem dX6_test_106 : decode cX6_test 106 = .ok (.iload_n 3, 1) := by decide +kernel
theorem dX6_test_107 : decode cX6_test 107 = .ok (.iastore, 1) := by decide +kernel
theorem dX6_test_108 : decode cX6_test 108 = .ok (.aload_n 0, 1) := by decide +kernel
theorem dX6_test_109 : decode cX6_test 109 = .ok (.getfield 66, 3) := by decide +kernel
theorem dX6_test_112 : decode cX6_test 112 = .ok (.iload 6, 2) := by decide +kernel
theorem dX6_test_114 : decode cX6_test 114 = .ok (.iconst 3, 1) := by decide +kernel
theorem dX6_test_115 : decode cX6_test 115 = .ok (.iadd, 1) := by decide +kernel
theorem dX6_test_116 : decode cX6_test 116 = .ok (.iload 4, 2) := by decide +kernel
theorem dX6_test_118 : decode cX6_test 118 = .ok (.iastore, 1) := by decide +kernel
theorem dX6_test_119 : decode cX6_test 119 = .ok (.aload_n 0, 1) := by decide +kernel
theorem dX6_test_120 : decode cX6_test 120 = .ok (.getfield 66, 3) := by decide +kernel
theorem dX6_test_123 : decode cX6_test 123 = .ok (.iload 6, 2) := by decide +kernel
theorem dX6_test_125 : decode cX6_test 125 = .ok (.iconst 4, 1) := by decide +kernel
theorem dX6_test_126 : decode cX6_test 126 = .ok (.iadd, 1) := by decide +kernel
theorem dX6_test_127 : decode cX6_test 127 = .ok (.iload 5, 2) := by decide +kernel
theorem dX6_test_129 : decode cX6_test 129 = .ok (.iastore, 1) := by decide +kernel
theorem dX6_test_130 : decode cX6_test 130 = .ok (.aload_n 0, 1) := by decide +kernel
theorem dX6_test_131 : decode cX6_test 131 = .ok (.dup, 1) := by decide +kernel
theorem dX6_test_132 : decode cX6_test 132 = .ok (.getfield 193, 3) := by decide +kernel
theorem dX6_test_135 : decode cX6_test 135 = .ok (.iconst 1, 1) := by decide +kernel
theorem dX6_test_136 : decode cX6_test 136 = .ok (.iadd, 1) := by decide +kernel
theorem dX6_test_137 : decode cX6_test 137 = .ok (.putfield 193, 3) := by decide +kernel
theorem dX6_test_140 : decode cX6_test 140 = .ok (.aload_n 0, 1) := by decide +kernel
theorem dX6_test_141 : decode cX6_test 141 = .ok (.getfield 193, 3) := by decide +kernel
theorem dX6_test_144 : decode cX6_test 144 = .ok (.iconst 1, 1) := by decide +kernel
theorem dX6_test_145 : decode cX6_test 145 = .ok (.isub, 1) := by decide +kernel
theorem dX6_test_146 : decode cX6_test 146 = .ok (.ireturn, 1) := by decide +kernel
theorem dX6_forget_0 : decode cX6_forget 0 = .ok (.aload_n 0, 1) := by decide +kernel
theorem dX6_forget_1 : decode cX6_forget 1 = .ok (.iconst 0, 1) := by decide +kernel
theorem dX6_forget_2 : decode cX6_forget 2 = .ok (.putfield 75, 3) := by decide +kernel
theorem dX6_forget_5 : decode cX6_forget 5 = .ok (.iload_n 1, 1) := by decide +kernel
theorem dX6_forget_6 : decode cX6_forget 6 = .ok (.i2l, 1) := by decide +kernel
theorem dX6_forget_7 : decode cX6_forget 7 = .ok (.lconst 0, 1) := by decide +kernel
theorem dX6_forget_8 : decode cX6_forget 8 = .ok (.aload_n 0, 1) := by decide +kernel
theorem dX6_forget_9 : decode cX6_forget 9 = .ok (.getfield 193, 3) := by decide +kernel
theorem dX6_forget_12 : decode cX6_forget 12 = .ok (.iconst 1, 1) := by decide +kernel
theorem dX6_forget_13 : decode cX6_forget 13 = .ok (.isub, 1) := by decide +kernel
theorem dX6_forget_14 : decode cX6_forget 14 = .ok (.i2l, 1) := by decide +kernel
theorem dX6_forget_15 : decode cX6_forget 15 = .ok (.invokestatic 80, 3) := by decide +kernel
theorem dX6_forget_18 : decode cX6_forget 18 = .ok (.ifCond .ne 5, 3) := by decide +kernel
theorem dX6_forget_21 : decode cX6_forget 21 = .ok (.iconst (-1), 1) := by decide +kernel
theorem dX6_forget_22 : decode cX6_forget 22 = .ok (.ireturn, 1) := by decide +kernel
theorem dX6_forget_23 : decode cX6_forget 23 = .ok (.aload_n 0, 1) := by decide +kernel
theorem dX6_forget_24 : decode cX6_forget 24 = .ok (.dup, 1) := by decide +kernel
theorem dX6_forget_25 : decode cX6_forget 25 = .ok (.getfield 193, 3) := by decide +kernel
theorem dX6_forget_28 : decode cX6_forget 28 = .ok (.iconst 1, 1) := by decide +kernel
theorem dX6_forget_29 : decode cX6_forget 29 = .ok (.isub, 1) := by decide +kernel
theorem dX6_forget_30 : decode cX6_forget 30 = .ok (.putfield 193, 3) := by decide +kernel
theorem dX6_forget_33 : decode cX6_forget 33 = .ok (.iconst 5, 1) := by decide +kernel
theorem dX6_forget_34 : decode cX6_forget 34 = .ok (.iload_n 1, 1) := by decide +kernel
theorem dX6_forget_35 : decode cX6_forget 35 = .ok (.imul, 1) := by decide +kernel
theorem dX6_forget_36 : decode cX6_forget 36 = .ok (.istore_n 2, 1) := by decide +kernel
theorem dX6_forget_37 : decode cX6_forget 37 = .ok (.iload_n 2, 1) := by decide +kernel
theorem dX6_forget_38 : decode cX6_forget 38 = .ok (.iconst 5, 1) := by decide +kernel
theorem dX6_forget_39 : decode cX6_forget 39 = .ok (.aload_n 0, 1) := by decide +kernel
theorem dX6_forget_40 : decode cX6_forget 40 = .ok (.getfield 193, 3) := by decide +kernel
theorem dX6_forget_43 : decode cX6_forget 43 = .ok (.imul, 1) := by decide +kernel
theorem dX6_forget_44 : decode cX6_forget 44 = .ok (.if_icmp .ge 23, 3) := by decide +kernel
theorem dX6_forget_47 : decode cX6_forget 47 = .ok (.aload_n 0, 1) := by decide +kernel
theorem dX6_forget_48 : decode cX6_forget 48 = .ok (.getfield 66, 3) := by decide +kernel
theorem dX6_forget_51 : decode cX6_forget 51 = .ok (.iload_n 2, 1) := by decide +kernel
theorem dX6_forget_52 : decode cX6_forget 52 = .ok (.aload_n 0, 1) := by decide +kernel
theorem dX6_forget_53 : decode cX6_forget 53 = .ok (.getfield 66, 3) := by decide +kernel
theorem dX6_forget_56 : decode cX6_forget 56 = .ok (.iload_n 2, 1) := by decide +kernel
theorem dX6_forget_57 : decode cX6_forget 57 = .ok (.iconst 5, 1) := by decide +kernel
theorem dX6_forget_58 : decode cX6_forget 58 = .ok (.iadd, 1) := by decide +kernel
theorem dX6_forget_59 : decode cX6_forget 59 = .ok (.iaload, 1) := by decide +kernel
theorem dX6_forget_60 : decode cX6_forget 60 = .ok (.iastore, 1) := by decide +kernel
theorem dX6_forget_61 : decode cX6_forget 61 = .ok (.iinc 2 1, 3) := by decide +kernel
theorem dX6_forget_64 : decode cX6_forget 64 = .ok (.goto (-27), 3) := by decide +kernel
theorem dX6_forget_67 : decode cX6_forget 67 = .ok (.aload_n 0, 1) := by decide +kernel
theorem dX6_forget_68 : decode cX6_forget 68 = .ok (.getfield 193, 3) := by decide +kernel
theorem dX6_forget_71 : decode cX6_forget 71 = .ok (.ireturn, 1) := by decide +kernel
theorem dX6_netBy_0 : decode cX6_netBy 0 = .ok (.iload_n 0, 1) := by decide +kernel
theorem dX6_netBy_1 : decode cX6_netBy 1 = .ok (.iload_n 1, 1) := by decide +kernel
theorem dX6_netBy_2 : decode cX6_netBy 2 = .ok (.bipush 50, 2) := by decide +kernel
theorem dX6_netBy_4 : decode cX6_netBy 4 = .ok (.idiv, 1) := by decide +kernel
theorem dX6_netBy_5 : decode cX6_netBy 5 = .ok (.imul, 1) := by decide +kernel
theorem dX6_netBy_6 : decode cX6_netBy 6 = .ok (.bipush 100, 2) := by decide +kernel
theorem dX6_netBy_8 : decode cX6_netBy 8 = .ok (.idiv, 1) := by decide +kernel
theorem dX6_netBy_9 : decode cX6_netBy 9 = .ok (.iload_n 1, 1) := by decide +kernel
theorem dX6_netBy_10 : decode cX6_netBy 10 = .ok (.bipush 50, 2) := by decide +kernel
theorem dX6_netBy_12 : decode cX6_netBy 12 = .ok (.irem, 1) := by decide +kernel
theorem dX6_netBy_13 : decode cX6_netBy 13 = .ok (.iconst 1, 1) := by decide +kernel
theorem dX6_netBy_14 : decode cX6_netBy 14 = .ok (.iadd, 1) := by decide +kernel
theorem dX6_netBy_15 : decode cX6_netBy 15 = .ok (.isub, 1) := by decide +kernel
theorem dX6_netBy_16 : decode cX6_netBy 16 = .ok (.ireturn, 1) := by decide +kernel
theorem dX6_after_0 : decode cX6_after 0 = .ok (.iload_n 0, 1) := by decide +kernel
theorem dX6_after_1 : decode cX6_after 1 = .ok (.iload_n 3, 1) := by decide +kernel
theorem dX6_after_2 : decode cX6_after 2 = .ok (.invokestatic 196, 3) := by decide +kernel
theorem dX6_after_5 : decode cX6_after 5 = .ok (.istore 4, 2) := by decide +kernel
theorem dX6_after_7 : decode cX6_after 7 = .ok (.iload_n 1, 1) := by decide +kernel
theorem dX6_after_8 : decode cX6_after 8 = .ok (.istore 5, 2) := by decide +kernel
theorem dX6_after_10 : decode cX6_after 10 = .ok (.iconst 0, 1) := by decide +kernel
theorem dX6_after_11 : decode cX6_after 11 = .ok (.istore 6, 2) := by decide +kernel
theorem dX6_after_13 : decode cX6_after 13 = .ok (.iload 6, 2) := by decide +kernel
theorem dX6_after_15 : decode cX6_after 15 = .ok (.iload_n 2, 1) := by decide +kernel
theorem dX6_after_16 : decode cX6_after 16 = .ok (.if_icmp .ge 18, 3) := by decide +kernel
theorem dX6_after_19 : decode cX6_after 19 = .ok (.iload 5, 2) := by decide +kernel
theorem dX6_after_21 : decode cX6_after 21 = .ok (.iload 4, 2) := by decide +kernel
theorem dX6_after_23 : decode cX6_after 23 = .ok (.invokestatic 127, 3) := by decide +kernel
theorem dX6_after_26 : decode cX6_after 26 = .ok (.istore 5, 2) := by decide +kernel
theorem dX6_after_28 : decode cX6_after 28 = .ok (.iinc 6 1, 3) := by decide +kernel
theorem dX6_after_31 : decode cX6_after 31 = .ok (.goto (-18), 3) := by decide +kernel
theorem dX6_after_34 : decode cX6_after 34 = .ok (.iload 5, 2) := by decide +kernel
theorem dX6_after_36 : decode cX6_after 36 = .ok (.ireturn, 1) := by decide +kernel
theorem dX6_firstBreak_0 : decode cX6_firstBreak 0 = .ok (.iconst 0, 1) := by decide +kernel
theorem dX6_firstBreak_1 : decode cX6_firstBreak 1 = .ok (.istore_n 2, 1) := by decide +kernel
theorem dX6_firstBreak_2 : decode cX6_firstBreak 2 = .ok (.iload_n 2, 1) := by decide +kernel
theorem dX6_firstBreak_3 : decode cX6_firstBreak 3 = .ok (.aload_n 0, 1) := by decide +kernel
theorem dX6_firstBreak_4 : decode cX6_firstBreak 4 = .ok (.getfield 193, 3) := by decide +kernel
theorem dX6_firstBreak_7 : decode cX6_firstBreak 7 = .ok (.if_icmp .ge 66, 3) := by decide +kernel
theorem dX6_firstBreak_10 : decode cX6_firstBreak 10 = .ok (.iconst 5, 1) := by decide +kernel
theorem dX6_firstBreak_11 : decode cX6_firstBreak 11 = .ok (.iload_n 2, 1) := by decide +kernel
theorem dX6_firstBreak_12 : decode cX6_firstBreak 12 = .ok (.imul, 1) := by decide +kernel
theorem dX6_firstBreak_13 : decode cX6_firstBreak 13 = .ok (.istore_n 3, 1) := by decide +kernel
theorem dX6_firstBreak_14 : decode cX6_firstBreak 14 = .ok (.aload_n 0, 1) := by decide +kernel
theorem dX6_firstBreak_15 : decode cX6_firstBreak 15 = .ok (.getfield 66, 3) := by decide +kernel
theorem dX6_firstBreak_18 : decode cX6_firstBreak 18 = .ok (.iload_n 3, 1) := by decide +kernel
theorem dX6_firstBreak_19 : decode cX6_firstBreak 19 = .ok (.iaload, 1) := by decide +kernel
theorem dX6_firstBreak_20 : decode cX6_firstBreak 20 = .ok (.aload_n 0, 1) := by decide +kernel
theorem dX6_firstBreak_21 : decode cX6_firstBreak 21 = .ok (.getfield 66, 3) := by decide +kernel
theorem dX6_firstBreak_24 : decode cX6_firstBreak 24 = .ok (.iload_n 3, 1) := by decide +kernel
theorem dX6_firstBreak_25 : decode cX6_firstBreak 25 = .ok (.iconst 1, 1) := by decide +kernel
theorem dX6_firstBreak_26 : decode cX6_firstBreak 26 = .ok (.iadd, 1) := by decide +kernel
theorem dX6_firstBreak_27 : decode cX6_firstBreak 27 = .ok (.iaload, 1) := by decide +kernel
theorem dX6_firstBreak_28 : decode cX6_firstBreak 28 = .ok (.aload_n 0, 1) := by decide +kernel
theorem dX6_firstBreak_29 : decode cX6_firstBreak 29 = .ok (.getfield 66, 3) := by decide +kernel
theorem dX6_firstBreak_32 : decode cX6_firstBreak 32 = .ok (.iload_n 3, 1) := by decide +kernel
theorem dX6_firstBreak_33 : decode cX6_firstBreak 33 = .ok (.iconst 2, 1) := by decide +kernel
theorem dX6_firstBreak_34 : decode cX6_firstBreak 34 = .ok (.iadd, 1) := by decide +kernel
theorem dX6_firstBreak_35 : decode cX6_firstBreak 35 = .ok (.iaload, 1) := by decide +kernel
theorem dX6_firstBreak_36 : decode cX6_firstBreak 36 = .ok (.iload_n 1, 1) := by decide +kernel
theorem dX6_firstBreak_37 : decode cX6_firstBreak 37 = .ok (.invokestatic 199, 3) := by decide +kernel
theorem dX6_firstBreak_40 : decode cX6_firstBreak 40 = .ok (.i2l, 1) := by decide +kernel
theorem dX6_firstBreak_41 : decode cX6_firstBreak 41 = .ok (.aload_n 0, 1) := by decide +kernel
theorem dX6_firstBreak_42 : decode cX6_firstBreak 42 = .ok (.getfield 66, 3) := by decide +kernel
theorem dX6_firstBreak_45 : decode cX6_firstBreak 45 = .ok (.iload_n 3, 1) := by decide +kernel
theorem dX6_firstBreak_46 : decode cX6_firstBreak 46 = .ok (.iconst 3, 1) := by decide +kernel
theorem dX6_firstBreak_47 : decode cX6_firstBreak 47 = .ok (.iadd, 1) := by decide +kernel
theorem dX6_firstBreak_48 : decode cX6_firstBreak 48 = .ok (.iaload, 1) := by decide +kernel
theorem dX6_firstBreak_49 : decode cX6_firstBreak 49 = .ok (.i2l, 1) := by decide +kernel
theorem dX6_firstBreak_50 : decode cX6_firstBreak 50 = .ok (.aload_n 0, 1) := by decide +kernel
theorem dX6_firstBreak_51 : decode cX6_firstBreak 51 = .ok (.getfield 66, 3) := by decide +kernel
theorem dX6_firstBreak_54 : decode cX6_firstBreak 54 = .ok (.iload_n 3, 1) := by decide +kernel
theorem dX6_firstBreak_55 : decode cX6_firstBreak 55 = .ok (.iconst 4, 1) := by decide +kernel
theorem dX6_firstBreak_56 : decode cX6_firstBreak 56 = .ok (.iadd, 1) := by decide +kernel
theorem dX6_firstBreak_57 : decode cX6_firstBreak 57 = .ok (.iaload, 1) := by decide +kernel
theorem dX6_firstBreak_58 : decode cX6_firstBreak 58 = .ok (.i2l, 1) := by decide +kernel
theorem dX6_firstBreak_59 : decode cX6_firstBreak 59 = .ok (.invokestatic 80, 3) := by decide +kernel
theorem dX6_firstBreak_62 : decode cX6_firstBreak 62 = .ok (.ifCond .ne 5, 3) := by decide +kernel
theorem dX6_firstBreak_65 : decode cX6_firstBreak 65 = .ok (.iload_n 2, 1) := by decide +kernel
theorem dX6_firstBreak_66 : decode cX6_firstBreak 66 = .ok (.ireturn, 1) := by decide +kernel
theorem dX6_firstBreak_67 : decode cX6_firstBreak 67 = .ok (.iinc 2 1, 3) := by decide +kernel
theorem dX6_firstBreak_70 : decode cX6_firstBreak 70 = .ok (.goto (-68), 3) := by decide +kernel
theorem dX6_firstBreak_73 : decode cX6_firstBreak 73 = .ok (.bipush (-9), 2) := by decide +kernel
theorem dX6_firstBreak_75 : decode cX6_firstBreak 75 = .ok (.ireturn, 1) := by decide +kernel
theorem dX6_fit_0 : decode cX6_fit 0 = .ok (.aload_n 0, 1) := by decide +kernel
theorem dX6_fit_1 : decode cX6_fit 1 = .ok (.iconst 0, 1) := by decide +kernel
theorem dX6_fit_2 : decode cX6_fit 2 = .ok (.putfield 203, 3) := by decide +kernel
theorem dX6_fit_5 : decode cX6_fit 5 = .ok (.iconst 0, 1) := by decide +kernel
theorem dX6_fit_6 : decode cX6_fit 6 = .ok (.istore_n 1, 1) := by decide +kernel
theorem dX6_fit_7 : decode cX6_fit 7 = .ok (.iload_n 1, 1) := by decide +kernel
theorem dX6_fit_8 : decode cX6_fit 8 = .ok (.sipush 2500, 3) := by decide +kernel
theorem dX6_fit_11 : decode cX6_fit 11 = .ok (.if_icmp .ge 53, 3) := by decide +kernel
theorem dX6_fit_14 : decode cX6_fit 14 = .ok (.aload_n 0, 1) := by decide +kernel
theorem dX6_fit_15 : decode cX6_fit 15 = .ok (.getfield 69, 3) := by decide +kernel
theorem dX6_fit_18 : decode cX6_fit 18 = .ok (.iload_n 1, 1) := by decide +kernel
theorem dX6_fit_19 : decode cX6_fit 19 = .ok (.aload_n 0, 1) := by decide +kernel
theorem dX6_fit_20 : decode cX6_fit 20 = .ok (.iload_n 1, 1) := by decide +kernel
theorem dX6_fit_21 : decode cX6_fit 21 = .ok (.invokevirtual 206, 3) := by decide +kernel
theorem dX6_fit_24 : decode cX6_fit 24 = .ok (.bipush (-9), 2) := by decide +kernel
theorem dX6_fit_26 : decode cX6_fit 26 = .ok (.if_icmp .ne 7, 3) := by decide +kernel
theorem dX6_fit_29 : decode cX6_fit 29 = .ok (.iconst 1, 1) := by decide +kernel
theorem dX6_fit_30 : decode cX6_fit 30 = .ok (.goto 4, 3) := by decide +kernel
theorem dX6_fit_33 : decode cX6_fit 33 = .ok (.iconst 0, 1) := by decide +kernel
theorem dX6_fit_34 : decode cX6_fit 34 = .ok (.bastore, 1) := by decide +kernel
theorem dX6_fit_35 : decode cX6_fit 35 = .ok (.aload_n 0, 1) := by decide +kernel
theorem dX6_fit_36 : decode cX6_fit 36 = .ok (.dup, 1) := by decide +kernel
theorem dX6_fit_37 : decode cX6_fit 37 = .ok (.getfield 203, 3) := by decide +kernel
theorem dX6_fit_40 : decode cX6_fit 40 = .ok (.aload_n 0, 1) := by decide +kernel
theorem dX6_fit_41 : decode cX6_fit 41 = .ok (.getfield 69, 3) := by decide +kernel
theorem dX6_fit_44 : decode cX6_fit 44 = .ok (.iload_n 1, 1) := by decide +kernel
theorem dX6_fit_45 : decode cX6_fit 45 = .ok (.baload, 1) := by decide +kernel
theorem dX6_fit_46 : decode cX6_fit 46 = .ok (.ifCond .eq 7, 3) := by decide +kernel
theorem dX6_fit_49 : decode cX6_fit 49 = .ok (.iconst 1, 1) := by decide +kernel
theorem dX6_fit_50 : decode cX6_fit 50 = .ok (.goto 4, 3) := by decide +kernel
theorem dX6_fit_53 : decode cX6_fit 53 = .ok (.iconst 0, 1) := by decide +kernel
theorem dX6_fit_54 : decode cX6_fit 54 = .ok (.iadd, 1) := by decide +kernel
theorem dX6_fit_55 : decode cX6_fit 55 = .ok (.putfield 203, 3) := by decide +kernel
theorem dX6_fit_58 : decode cX6_fit 58 = .ok (.iinc 1 1, 3) := by decide +kernel
theorem dX6_fit_61 : decode cX6_fit 61 = .ok (.goto (-54), 3) := by decide +kernel
theorem dX6_fit_64 : decode cX6_fit 64 = .ok (.return_, 1) := by decide +kernel
theorem dX6_laws_0 : decode cX6_laws 0 = .ok (.aload_n 0, 1) := by decide +kernel
theorem dX6_laws_1 : decode cX6_laws 1 = .ok (.iconst 0, 1) := by decide +kernel
theorem dX6_laws_2 : decode cX6_laws 2 = .ok (.putfield 75, 3) := by decide +kernel
theorem dX6_laws_5 : decode cX6_laws 5 = .ok (.aload_n 0, 1) := by decide +kernel
theorem dX6_laws_6 : decode cX6_laws 6 = .ok (.invokevirtual 209, 3) := by decide +kernel
theorem dX6_laws_9 : decode cX6_laws 9 = .ok (.aload_n 0, 1) := by decide +kernel
theorem dX6_laws_10 : decode cX6_laws 10 = .ok (.getfield 203, 3) := by decide +kernel
theorem dX6_laws_13 : decode cX6_laws 13 = .ok (.ireturn, 1) := by decide +kernel
theorem dX6_law_0 : decode cX6_law 0 = .ok (.aload_n 0, 1) := by decide +kernel
theorem dX6_law_1 : decode cX6_law 1 = .ok (.iconst 0, 1) := by decide +kernel
theorem dX6_law_2 : decode cX6_law 2 = .ok (.putfield 75, 3) := by decide +kernel
theorem dX6_law_5 : decode cX6_law 5 = .ok (.aload_n 0, 1) := by decide +kernel
theorem dX6_law_6 : decode cX6_law 6 = .ok (.invokevirtual 209, 3) := by decide +kernel
theorem dX6_law_9 : decode cX6_law 9 = .ok (.iconst 0, 1) := by decide +kernel
theorem dX6_law_10 : decode cX6_law 10 = .ok (.istore_n 2, 1) := by decide +kernel
theorem dX6_law_11 : decode cX6_law 11 = .ok (.iconst 0, 1) := by decide +kernel
theorem dX6_law_12 : decode cX6_law 12 = .ok (.istore_n 3, 1) := by decide +kernel
theorem dX6_law_13 : decode cX6_law 13 = .ok (.iload_n 3, 1) := by decide +kernel
theorem dX6_law_14 : decode cX6_law 14 = .ok (.sipush 2500, 3) := by decide +kernel
theorem dX6_law_17 : decode cX6_law 17 = .ok (.if_icmp .ge 41, 3) := by decide +kernel
theorem dX6_law_20 : decode cX6_law 20 = .ok (.aload_n 0, 1) := by decide +kernel
theorem dX6_law_21 : decode cX6_law 21 = .ok (.getfield 69, 3) := by decide +kernel
theorem dX6_law_24 : decode cX6_law 24 = .ok (.iload_n 3, 1) := by decide +kernel
theorem dX6_law_25 : decode cX6_law 25 = .ok (.baload, 1) := by decide +kernel
theorem dX6_law_26 : decode cX6_law 26 = .ok (.ifCond .eq 26, 3) := by decide +kernel
theorem dX6_law_29 : decode cX6_law 29 = .ok (.iload_n 2, 1) := by decide +kernel
theorem dX6_law_30 : decode cX6_law 30 = .ok (.iload_n 1, 1) := by decide +kernel
theorem dX6_law_31 : decode cX6_law 31 = .ok (.if_icmp .ne 18, 3) := by decide +kernel
theorem dX6_law_34 : decode cX6_law 34 = .ok (.bipush 100, 2) := by decide +kernel
theorem dX6_law_36 : decode cX6_law 36 = .ok (.iload_n 3, 1) := by decide +kernel
theorem dX6_law_37 : decode cX6_law 37 = .ok (.bipush 50, 2) := by decide +kernel
theorem dX6_law_39 : decode cX6_law 39 = .ok (.idiv, 1) := by decide +kernel
theorem dX6_law_40 : decode cX6_law 40 = .ok (.imul, 1) := by decide +kernel
theorem dX6_law_41 : decode cX6_law 41 = .ok (.iload_n 3, 1) := by decide +kernel
theorem dX6_law_42 : decode cX6_law 42 = .ok (.bipush 50, 2) := by decide +kernel
theorem dX6_law_44 : decode cX6_law 44 = .ok (.irem, 1) := by decide +kernel
theorem dX6_law_45 : decode cX6_law 45 = .ok (.iadd, 1) := by decide +kernel
theorem dX6_law_46 : decode cX6_law 46 = .ok (.iconst 1, 1) := by decide +kernel
theorem dX6_law_47 : decode cX6_law 47 = .ok (.iadd, 1) := by decide +kernel
theorem dX6_law_48 : decode cX6_law 48 = .ok (.ireturn, 1) := by decide +kernel
theorem dX6_law_49 : decode cX6_law 49 = .ok (.iinc 2 1, 3) := by decide +kernel
theorem dX6_law_52 : decode cX6_law 52 = .ok (.iinc 3 1, 3) := by decide +kernel
theorem dX6_law_55 : decode cX6_law 55 = .ok (.goto (-42), 3) := by decide +kernel
theorem dX6_law_58 : decode cX6_law 58 = .ok (.bipush (-9), 2) := by decide +kernel
theorem dX6_law_60 : decode cX6_law 60 = .ok (.ireturn, 1) := by decide +kernel
theorem dX6_among_0 : decode cX6_among 0 = .ok (.aload_n 0, 1) := by decide +kernel
theorem dX6_among_1 : decode cX6_among 1 = .ok (.iconst 0, 1) := by decide +kernel
theorem dX6_among_2 : decode cX6_among 2 = .ok (.putfield 75, 3) := by decide +kernel
theorem dX6_among_5 : decode cX6_among 5 = .ok (.aload_n 0, 1) := by decide +kernel
theorem dX6_among_6 : decode cX6_among 6 = .ok (.invokevirtual 209, 3) := by decide +kernel
theorem dX6_among_9 : decode cX6_among 9 = .ok (.bipush (-9), 2) := by decide +kernel
theorem dX6_among_11 : decode cX6_among 11 = .ok (.istore_n 3, 1) := by decide +kernel
theorem dX6_among_12 : decode cX6_among 12 = .ok (.iconst 0, 1) := by decide +kernel
theorem dX6_among_13 : decode cX6_among 13 = .ok (.istore 4, 2) := by decide +kernel
theorem dX6_among_15 : decode cX6_among 15 = .ok (.iload 4, 2) := by decide +kernel
theorem dX6_among_17 : decode cX6_among 17 = .ok (.sipush 2500, 3) := by decide +kernel
theorem dX6_among_20 : decode cX6_among 20 = .ok (.if_icmp .ge 84, 3) := by decide +kernel
theorem dX6_among_23 : decode cX6_among 23 = .ok (.iload_n 1, 1) := by decide +kernel
theorem dX6_among_24 : decode cX6_among 24 = .ok (.ifCond .eq 11, 3) := by decide +kernel
theorem dX6_among_27 : decode cX6_among 27 = .ok (.iload 4, 2) := by decide +kernel
theorem dX6_among_29 : decode cX6_among 29 = .ok (.bipush 50, 2) := by decide +kernel
theorem dX6_among_31 : decode cX6_among 31 = .ok (.idiv, 1) := by decide +kernel
theorem dX6_among_32 : decode cX6_among 32 = .ok (.goto 10, 3) := by decide +kernel
theorem dX6_among_35 : decode cX6_among 35 = .ok (.iload 4, 2) := by decide +kernel
theorem dX6_among_37 : decode cX6_among 37 = .ok (.bipush 50, 2) := by decide +kernel
theorem dX6_among_39 : decode cX6_among 39 = .ok (.irem, 1) := by decide +kernel
theorem dX6_among_40 : decode cX6_among 40 = .ok (.iconst 1, 1) := by decide +kernel
theorem dX6_among_41 : decode cX6_among 41 = .ok (.iadd, 1) := by decide +kernel
theorem dX6_among_42 : decode cX6_among 42 = .ok (.istore 5, 2) := by decide +kernel
theorem dX6_among_44 : decode cX6_among 44 = .ok (.iload_n 3, 1) := by decide +kernel
theorem dX6_among_45 : decode cX6_among 45 = .ok (.bipush (-9), 2) := by decide +kernel
theorem dX6_among_47 : decode cX6_among 47 = .ok (.if_icmp .eq 22, 3) := by decide +kernel
theorem dX6_among_50 : decode cX6_among 50 = .ok (.iload_n 2, 1) := by decide +kernel
theorem dX6_among_51 : decode cX6_among 51 = .ok (.ifCond .eq 12, 3) := by decide +kernel
theorem dX6_among_54 : decode cX6_among 54 = .ok (.iload 5, 2) := by decide +kernel
theorem dX6_among_56 : decode cX6_among 56 = .ok (.iload_n 3, 1) := by decide +kernel
theorem dX6_among_57 : decode cX6_among 57 = .ok (.if_icmp .le 16, 3) := by decide +kernel
theorem dX6_among_60 : decode cX6_among 60 = .ok (.goto 9, 3) := by decide +kernel
theorem dX6_among_63 : decode cX6_among 63 = .ok (.iload 5, 2) := by decide +kernel
theorem dX6_among_65 : decode cX6_among 65 = .ok (.iload_n 3, 1) := by decide +kernel
theorem dX6_among_66 : decode cX6_among 66 = .ok (.if_icmp .ge 7, 3) := by decide +kernel
theorem dX6_among_69 : decode cX6_among 69 = .ok (.iconst 1, 1) := by decide +kernel
theorem dX6_among_70 : decode cX6_among 70 = .ok (.goto 4, 3) := by decide +kernel
theorem dX6_among_73 : decode cX6_among 73 = .ok (.iconst 0, 1) := by decide +kernel
theorem dX6_among_74 : decode cX6_among 74 = .ok (.istore 6, 2) := by decide +kernel
theorem dX6_among_76 : decode cX6_among 76 = .ok (.aload_n 0, 1) := by decide +kernel
theorem dX6_among_77 : decode cX6_among 77 = .ok (.getfield 69, 3) := by decide +kernel
theorem dX6_among_80 : decode cX6_among 80 = .ok (.iload 4, 2) := by decide +kernel
theorem dX6_among_82 : decode cX6_among 82 = .ok (.baload, 1) := by decide +kernel
theorem dX6_among_83 : decode cX6_among 83 = .ok (.ifCond .eq 13, 3) := by decide +kernel
theorem dX6_among_86 : decode cX6_among 86 = .ok (.iload 6, 2) := by decide +kernel
theorem dX6_among_88 : decode cX6_among 88 = .ok (.ifCond .eq 8, 3) := by decide +kernel
theorem dX6_among_91 : decode cX6_among 91 = .ok (.iload 5, 2) := by decide +kernel
theorem dX6_among_93 : decode cX6_among 93 = .ok (.goto 4, 3) := by decide +kernel
theorem dX6_among_96 : decode cX6_among 96 = .ok (.iload_n 3, 1) := by decide +kernel
theorem dX6_among_97 : decode cX6_among 97 = .ok (.istore_n 3, 1) := by decide +kernel
theorem dX6_among_98 : decode cX6_among 98 = .ok (.iinc 4 1, 3) := by decide +kernel
theorem dX6_among_101 : decode cX6_among 101 = .ok (.goto (-86), 3) := by decide +kernel
theorem dX6_among_104 : decode cX6_among 104 = .ok (.iload_n 3, 1) := by decide +kernel
theorem dX6_among_105 : decode cX6_among 105 = .ok (.ireturn, 1) := by decide +kernel
theorem dX6_breaks_0 : decode cX6_breaks 0 = .ok (.aload_n 0, 1) := by decide +kernel
theorem dX6_breaks_1 : decode cX6_breaks 1 = .ok (.iconst 0, 1) := by decide +kernel
theorem dX6_breaks_2 : decode cX6_breaks 2 = .ok (.putfield 75, 3) := by decide +kernel
theorem dX6_breaks_5 : decode cX6_breaks 5 = .ok (.iload_n 1, 1) := by decide +kernel
theorem dX6_breaks_6 : decode cX6_breaks 6 = .ok (.i2l, 1) := by decide +kernel
theorem dX6_breaks_7 : decode cX6_breaks 7 = .ok (.lconst 0, 1) := by decide +kernel
theorem dX6_breaks_8 : decode cX6_breaks 8 = .ok (.ldc2_w 212, 3) := by decide +kernel
theorem dX6_breaks_11 : decode cX6_breaks 11 = .ok (.invokestatic 80, 3) := by decide +kernel
theorem dX6_breaks_14 : decode cX6_breaks 14 = .ok (.ifCond .eq 18, 3) := by decide +kernel
theorem dX6_breaks_17 : decode cX6_breaks 17 = .ok (.iload_n 1, 1) := by decide +kernel
theorem dX6_breaks_18 : decode cX6_breaks 18 = .ok (.bipush 100, 2) := by decide +kernel
theorem dX6_breaks_20 : decode cX6_breaks 20 = .ok (.irem, 1) := by decide +kernel
theorem dX6_breaks_21 : decode cX6_breaks 21 = .ok (.i2l, 1) := by decide +kernel
theorem dX6_breaks_22 : decode cX6_breaks 22 = .ok (.lconst 1, 1) := by decide +kernel
theorem dX6_breaks_23 : decode cX6_breaks 23 = .ok (.ldc2_w 214, 3) := by decide +kernel
theorem dX6_breaks_26 : decode cX6_breaks 26 = .ok (.invokestatic 80, 3) := by decide +kernel
theorem dX6_breaks_29 : decode cX6_breaks 29 = .ok (.ifCond .ne 6, 3) := by decide +kernel
theorem dX6_breaks_32 : decode cX6_breaks 32 = .ok (.bipush (-2), 2) := by decide +kernel
theorem dX6_breaks_34 : decode cX6_breaks 34 = .ok (.ireturn, 1) := by decide +kernel
theorem dX6_breaks_35 : decode cX6_breaks 35 = .ok (.aload_n 0, 1) := by decide +kernel
theorem dX6_breaks_36 : decode cX6_breaks 36 = .ok (.bipush 50, 2) := by decide +kernel
theorem dX6_breaks_38 : decode cX6_breaks 38 = .ok (.iload_n 1, 1) := by decide +kernel
theorem dX6_breaks_39 : decode cX6_breaks 39 = .ok (.bipush 100, 2) := by decide +kernel
theorem dX6_breaks_41 : decode cX6_breaks 41 = .ok (.idiv, 1) := by decide +kernel
theorem dX6_breaks_42 : decode cX6_breaks 42 = .ok (.imul, 1) := by decide +kernel
theorem dX6_breaks_43 : decode cX6_breaks 43 = .ok (.iload_n 1, 1) := by decide +kernel
theorem dX6_breaks_44 : decode cX6_breaks 44 = .ok (.bipush 100, 2) := by decide +kernel
theorem dX6_breaks_46 : decode cX6_breaks 46 = .ok (.irem, 1) := by decide +kernel
theorem dX6_breaks_47 : decode cX6_breaks 47 = .ok (.iadd, 1) := by decide +kernel
theorem dX6_breaks_48 : decode cX6_breaks 48 = .ok (.iconst 1, 1) := by decide +kernel
theorem dX6_breaks_49 : decode cX6_breaks 49 = .ok (.isub, 1) := by decide +kernel
theorem dX6_breaks_50 : decode cX6_breaks 50 = .ok (.invokevirtual 206, 3) := by decide +kernel
theorem dX6_breaks_53 : decode cX6_breaks 53 = .ok (.ireturn, 1) := by decide +kernel
theorem dX6_surely_0 : decode cX6_surely 0 = .ok (.iconst 0, 1) := by decide +kernel
theorem dX6_surely_1 : decode cX6_surely 1 = .ok (.istore_n 2, 1) := by decide +kernel
theorem dX6_surely_2 : decode cX6_surely 2 = .ok (.iconst 0, 1) := by decide +kernel
theorem dX6_surely_3 : decode cX6_surely 3 = .ok (.istore_n 3, 1) := by decide +kernel
theorem dX6_surely_4 : decode cX6_surely 4 = .ok (.iload_n 3, 1) := by decide +kernel
theorem dX6_surely_5 : decode cX6_surely 5 = .ok (.sipush 2500, 3) := by decide +kernel
theorem dX6_surely_8 : decode cX6_surely 8 = .ok (.if_icmp .ge 34, 3) := by decide +kernel
theorem dX6_surely_11 : decode cX6_surely 11 = .ok (.iload_n 2, 1) := by decide +kernel
theorem dX6_surely_12 : decode cX6_surely 12 = .ok (.aload_n 0, 1) := by decide +kernel
theorem dX6_surely_13 : decode cX6_surely 13 = .ok (.getfield 69, 3) := by decide +kernel
theorem dX6_surely_16 : decode cX6_surely 16 = .ok (.iload_n 3, 1) := by decide +kernel
theorem dX6_surely_17 : decode cX6_surely 17 = .ok (.baload, 1) := by decide +kernel
theorem dX6_surely_18 : decode cX6_surely 18 = .ok (.ifCond .eq 15, 3) := by decide +kernel
theorem dX6_surely_21 : decode cX6_surely 21 = .ok (.iload_n 1, 1) := by decide +kernel
theorem dX6_surely_22 : decode cX6_surely 22 = .ok (.iload_n 3, 1) := by decide +kernel
theorem dX6_surely_23 : decode cX6_surely 23 = .ok (.invokestatic 196, 3) := by decide +kernel
theorem dX6_surely_26 : decode cX6_surely 26 = .ok (.ifCond .ge 7, 3) := by decide +kernel
theorem dX6_surely_29 : decode cX6_surely 29 = .ok (.iconst 1, 1) := by decide +kernel
theorem dX6_surely_30 : decode cX6_surely 30 = .ok (.goto 4, 3) := by decide +kernel
theorem dX6_surely_33 : decode cX6_surely 33 = .ok (.iconst 0, 1) := by decide +kernel
theorem dX6_surely_34 : decode cX6_surely 34 = .ok (.iadd, 1) := by decide +kernel
theorem dX6_surely_35 : decode cX6_surely 35 = .ok (.istore_n 2, 1) := by decide +kernel
theorem dX6_surely_36 : decode cX6_surely 36 = .ok (.iinc 3 1, 3) := by decide +kernel
theorem dX6_surely_39 : decode cX6_surely 39 = .ok (.goto (-35), 3) := by decide +kernel
theorem dX6_surely_42 : decode cX6_surely 42 = .ok (.iload_n 2, 1) := by decide +kernel
theorem dX6_surely_43 : decode cX6_surely 43 = .ok (.ifCond .ne 7, 3) := by decide +kernel
theorem dX6_surely_46 : decode cX6_surely 46 = .ok (.iconst 0, 1) := by decide +kernel
theorem dX6_surely_47 : decode cX6_surely 47 = .ok (.goto 16, 3) := by decide +kernel
theorem dX6_surely_50 : decode cX6_surely 50 = .ok (.iload_n 2, 1) := by decide +kernel
theorem dX6_surely_51 : decode cX6_surely 51 = .ok (.aload_n 0, 1) := by decide +kernel
theorem dX6_surely_52 : decode cX6_surely 52 = .ok (.getfield 203, 3) := by decide +kernel
theorem dX6_surely_55 : decode cX6_surely 55 = .ok (.if_icmp .ne 7, 3) := by decide +kernel
theorem dX6_surely_58 : decode cX6_surely 58 = .ok (.iconst 2, 1) := by decide +kernel
theorem dX6_surely_59 : decode cX6_surely 59 = .ok (.goto 4, 3) := by decide +kernel
theorem dX6_surely_62 : decode cX6_surely 62 = .ok (.iconst 1, 1) := by decide +kernel
theorem dX6_surely_63 : decode cX6_surely 63 = .ok (.ireturn, 1) := by decide +kernel
theorem dX6_sure_0 : decode cX6_sure 0 = .ok (.aload_n 0, 1) := by decide +kernel
theorem dX6_sure_1 : decode cX6_sure 1 = .ok (.iconst 0, 1) := by decide +kernel
theorem dX6_sure_2 : decode cX6_sure 2 = .ok (.putfield 75, 3) := by decide +kernel
theorem dX6_sure_5 : decode cX6_sure 5 = .ok (.iload_n 1, 1) := by decide +kernel
theorem dX6_sure_6 : decode cX6_sure 6 = .ok (.i2l, 1) := by decide +kernel
theorem dX6_sure_7 : decode cX6_sure 7 = .ok (.lconst 0, 1) := by decide +kernel
theorem dX6_sure_8 : decode cX6_sure 8 = .ok (.ldc2_w 107, 3) := by decide +kernel
theorem dX6_sure_11 : decode cX6_sure 11 = .ok (.invokestatic 80, 3) := by decide +kernel
theorem dX6_sure_14 : decode cX6_sure 14 = .ok (.ifCond .ne 6, 3) := by decide +kernel
theorem dX6_sure_17 : decode cX6_sure 17 = .ok (.bipush (-2), 2) := by decide +kernel
theorem dX6_sure_19 : decode cX6_sure 19 = .ok (.ireturn, 1) := by decide +kernel
theorem dX6_sure_20 : decode cX6_sure 20 = .ok (.aload_n 0, 1) := by decide +kernel
theorem dX6_sure_21 : decode cX6_sure 21 = .ok (.invokevirtual 209, 3) := by decide +kernel
theorem dX6_sure_24 : decode cX6_sure 24 = .ok (.aload_n 0, 1) := by decide +kernel
theorem dX6_sure_25 : decode cX6_sure 25 = .ok (.iload_n 1, 1) := by decide +kernel
theorem dX6_sure_26 : decode cX6_sure 26 = .ok (.invokevirtual 216, 3) := by decide +kernel
theorem dX6_sure_29 : decode cX6_sure 29 = .ok (.ireturn, 1) := by decide +kernel
theorem dX6_safe_0 : decode cX6_safe 0 = .ok (.aload_n 0, 1) := by decide +kernel
theorem dX6_safe_1 : decode cX6_safe 1 = .ok (.iconst 0, 1) := by decide +kernel
theorem dX6_safe_2 : decode cX6_safe 2 = .ok (.putfield 75, 3) := by decide +kernel
theorem dX6_safe_5 : decode cX6_safe 5 = .ok (.aload_n 0, 1) := by decide +kernel
theorem dX6_safe_6 : decode cX6_safe 6 = .ok (.invokevirtual 209, 3) := by decide +kernel
theorem dX6_safe_9 : decode cX6_safe 9 = .ok (.iconst 0, 1) := by decide +kernel
theorem dX6_safe_10 : decode cX6_safe 10 = .ok (.istore_n 1, 1) := by decide +kernel
theorem dX6_safe_11 : decode cX6_safe 11 = .ok (.iload_n 1, 1) := by decide +kernel
theorem dX6_safe_12 : decode cX6_safe 12 = .ok (.sipush 1000, 3) := by decide +kernel
theorem dX6_safe_15 : decode cX6_safe 15 = .ok (.if_icmp .ge 18, 3) := by decide +kernel
theorem dX6_safe_18 : decode cX6_safe 18 = .ok (.aload_n 0, 1) := by decide +kernel
theorem dX6_safe_19 : decode cX6_safe 19 = .ok (.iload_n 1, 1) := by decide +kernel
theorem dX6_safe_20 : decode cX6_safe 20 = .ok (.invokevirtual 216, 3) := by decide +kernel
theorem dX6_safe_23 : decode cX6_safe 23 = .ok (.iconst 2, 1) := by decide +kernel
theorem dX6_safe_24 : decode cX6_safe 24 = .ok (.if_icmp .ne 9, 3) := by decide +kernel
theorem dX6_safe_27 : decode cX6_safe 27 = .ok (.iinc 1 1, 3) := by decide +kernel
theorem dX6_safe_30 : decode cX6_safe 30 = .ok (.goto (-19), 3) := by decide +kernel
theorem dX6_safe_33 : decode cX6_safe 33 = .ok (.iload_n 1, 1) := by decide +kernel
theorem dX6_safe_34 : decode cX6_safe 34 = .ok (.ifCond .ne 8, 3) := by decide +kernel
theorem dX6_safe_37 : decode cX6_safe 37 = .ok (.bipush (-9), 2) := by decide +kernel
theorem dX6_safe_39 : decode cX6_safe 39 = .ok (.goto 6, 3) := by decide +kernel
theorem dX6_safe_42 : decode cX6_safe 42 = .ok (.iload_n 1, 1) := by decide +kernel
theorem dX6_safe_43 : decode cX6_safe 43 = .ok (.iconst 1, 1) := by decide +kernel
theorem dX6_safe_44 : decode cX6_safe 44 = .ok (.isub, 1) := by decide +kernel
theorem dX6_safe_45 : decode cX6_safe 45 = .ok (.ireturn, 1) := by decide +kernel
theorem dX6_next_0 : decode cX6_next 0 = .ok (.aload_n 0, 1) := by decide +kernel
theorem dX6_next_1 : decode cX6_next 1 = .ok (.iconst 0, 1) := by decide +kernel
theorem dX6_next_2 : decode cX6_next 2 = .ok (.putfield 75, 3) := by decide +kernel
theorem dX6_next_5 : decode cX6_next 5 = .ok (.iload_n 1, 1) := by decide +kernel
theorem dX6_next_6 : decode cX6_next 6 = .ok (.i2l, 1) := by decide +kernel
theorem dX6_next_7 : decode cX6_next 7 = .ok (.lconst 1, 1) := by decide +kernel
theorem dX6_next_8 : decode cX6_next 8 = .ok (.ldc2_w 191, 3) := by decide +kernel
theorem dX6_next_11 : decode cX6_next 11 = .ok (.invokestatic 80, 3) := by decide +kernel
theorem dX6_next_14 : decode cX6_next 14 = .ok (.ifCond .ne 6, 3) := by decide +kernel
theorem dX6_next_17 : decode cX6_next 17 = .ok (.bipush (-2), 2) := by decide +kernel
theorem dX6_next_19 : decode cX6_next 19 = .ok (.ireturn, 1) := by decide +kernel
theorem dX6_next_20 : decode cX6_next 20 = .ok (.aload_n 0, 1) := by decide +kernel
theorem dX6_next_21 : decode cX6_next 21 = .ok (.invokevirtual 209, 3) := by decide +kernel
theorem dX6_next_24 : decode cX6_next 24 = .ok (.aload_n 0, 1) := by decide +kernel
theorem dX6_next_25 : decode cX6_next 25 = .ok (.getfield 203, 3) := by decide +kernel
theorem dX6_next_28 : decode cX6_next 28 = .ok (.iconst 2, 1) := by decide +kernel
theorem dX6_next_29 : decode cX6_next 29 = .ok (.if_icmp .ge 6, 3) := by decide +kernel
theorem dX6_next_32 : decode cX6_next 32 = .ok (.bipush (-9), 2) := by decide +kernel
theorem dX6_next_34 : decode cX6_next 34 = .ok (.ireturn, 1) := by decide +kernel
theorem dX6_next_35 : decode cX6_next 35 = .ok (.bipush (-9), 2) := by decide +kernel
theorem dX6_next_37 : decode cX6_next 37 = .ok (.istore_n 2, 1) := by decide +kernel
theorem dX6_next_38 : decode cX6_next 38 = .ok (.aload_n 0, 1) := by decide +kernel
theorem dX6_next_39 : decode cX6_next 39 = .ok (.getfield 203, 3) := by decide +kernel
theorem dX6_next_42 : decode cX6_next 42 = .ok (.iconst 1, 1) := by decide +kernel
theorem dX6_next_43 : decode cX6_next 43 = .ok (.iadd, 1) := by decide +kernel
theorem dX6_next_44 : decode cX6_next 44 = .ok (.istore_n 3, 1) := by decide +kernel
theorem dX6_next_45 : decode cX6_next 45 = .ok (.iconst 0, 1) := by decide +kernel
theorem dX6_next_46 : decode cX6_next 46 = .ok (.istore 4, 2) := by decide +kernel
theorem dX6_next_48 : decode cX6_next 48 = .ok (.iload 4, 2) := by decide +kernel
theorem dX6_next_50 : decode cX6_next 50 = .ok (.bipush 100, 2) := by decide +kernel
theorem dX6_next_52 : decode cX6_next 52 = .ok (.if_icmp .ge 129, 3) := by decide +kernel
theorem dX6_next_55 : decode cX6_next 55 = .ok (.iconst 0, 1) := by decide +kernel
theorem dX6_next_56 : decode cX6_next 56 = .ok (.istore 5, 2) := by decide +kernel
theorem dX6_next_58 : decode cX6_next 58 = .ok (.iload 5, 2) := by decide +kernel
theorem dX6_next_60 : decode cX6_next 60 = .ok (.sipush 10000, 3) := by decide +kernel
theorem dX6_next_63 : decode cX6_next 63 = .ok (.if_icmp .ge 17, 3) := by decide +kernel
theorem dX6_next_66 : decode cX6_next 66 = .ok (.aload_n 0, 1) := by decide +kernel
theorem dX6_next_67 : decode cX6_next 67 = .ok (.getfield 72, 3) := by decide +kernel
theorem dX6_next_70 : decode cX6_next 70 = .ok (.iload 5, 2) := by decide +kernel
theorem dX6_next_72 : decode cX6_next 72 = .ok (.iconst 0, 1) := by decide +kernel
theorem dX6_next_73 : decode cX6_next 73 = .ok (.iastore, 1) := by decide +kernel
theorem dX6_next_74 : decode cX6_next 74 = .ok (.iinc 5 1, 3) := by decide +kernel
theorem dX6_next_77 : decode cX6_next 77 = .ok (.goto (-19), 3) := by decide +kernel
theorem dX6_next_80 : decode cX6_next 80 = .ok (.iconst 0, 1) := by decide +kernel
theorem dX6_next_81 : decode cX6_next 81 = .ok (.istore 5, 2) := by decide +kernel
theorem dX6_next_83 : decode cX6_next 83 = .ok (.iconst 0, 1) := by decide +kernel
theorem dX6_next_84 : decode cX6_next 84 = .ok (.istore 6, 2) := by decide +kernel
theorem dX6_next_86 : decode cX6_next 86 = .ok (.iload 6, 2) := by decide +kernel
theorem dX6_next_88 : decode cX6_next 88 = .ok (.sipush 2500, 3) := by decide +kernel
theorem dX6_next_91 : decode cX6_next 91 = .ok (.if_icmp .ge 72, 3) := by decide +kernel
theorem dX6_next_94 : decode cX6_next 94 = .ok (.aload_n 0, 1) := by decide +kernel
theorem dX6_next_95 : decode cX6_next 95 = .ok (.getfield 69, 3) := by decide +kernel
theorem dX6_next_98 : decode cX6_next 98 = .ok (.iload 6, 2) := by decide +kernel
theorem dX6_next_100 : decode cX6_next 100 = .ok (.baload, 1) := by decide +kernel
theorem dX6_next_101 : decode cX6_next 101 = .ok (.ifCond .eq 56, 3) := by decide +kernel
theorem dX6_next_104 : decode cX6_next 104 = .ok (.iload 4, 2) := by decide +kernel
theorem dX6_next_106 : decode cX6_next 106 = .ok (.aload_n 0, 1) := by decide +kernel
theorem dX6_next_107 : decode cX6_next 107 = .ok (.getfield 35, 3) := by decide +kernel
theorem dX6_next_110 : decode cX6_next 110 = .ok (.iconst 1, 1) := by decide +kernel
theorem dX6_next_111 : decode cX6_next 111 = .ok (.iaload, 1) := by decide +kernel
theorem dX6_next_112 : decode cX6_next 112 = .ok (.iload_n 1, 1) := by decide +kernel
theorem dX6_next_113 : decode cX6_next 113 = .ok (.iload 6, 2) := by decide +kernel
theorem dX6_next_115 : decode cX6_next 115 = .ok (.invokestatic 199, 3) := by decide +kernel
theorem dX6_next_118 : decode cX6_next 118 = .ok (.istore 7, 2) := by decide +kernel
theorem dX6_next_120 : decode cX6_next 120 = .ok (.aload_n 0, 1) := by decide +kernel
theorem dX6_next_121 : decode cX6_next 121 = .ok (.getfield 72, 3) := by decide +kernel
theorem dX6_next_124 : decode cX6_next 124 = .ok (.iload 7, 2) := by decide +kernel
theorem dX6_next_126 : decode cX6_next 126 = .ok (.dup2, 1) := by decide +kernel
theorem dX6_next_127 : decode cX6_next 127 = .ok (.iaload, 1) := by decide +kernel
theorem dX6_next_128 : decode cX6_next 128 = .ok (.iconst 1, 1) := by decide +kernel
theorem dX6_next_129 : decode cX6_next 129 = .ok (.iadd, 1) := by decide +kernel
theorem dX6_next_130 : decode cX6_next 130 = .ok (.iastore, 1) := by decide +kernel
theorem dX6_next_131 : decode cX6_next 131 = .ok (.aload_n 0, 1) := by decide +kernel
theorem dX6_next_132 : decode cX6_next 132 = .ok (.getfield 72, 3) := by decide +kernel
theorem dX6_next_135 : decode cX6_next 135 = .ok (.iload 7, 2) := by decide +kernel
theorem dX6_next_137 : decode cX6_next 137 = .ok (.iaload, 1) := by decide +kernel
theorem dX6_next_138 : decode cX6_next 138 = .ok (.iload 5, 2) := by decide +kernel
theorem dX6_next_140 : decode cX6_next 140 = .ok (.if_icmp .le 13, 3) := by decide +kernel
theorem dX6_next_143 : decode cX6_next 143 = .ok (.aload_n 0, 1) := by decide +kernel
theorem dX6_next_144 : decode cX6_next 144 = .ok (.getfield 72, 3) := by decide +kernel
theorem dX6_next_147 : decode cX6_next 147 = .ok (.iload 7, 2) := by decide +kernel
theorem dX6_next_149 : decode cX6_next 149 = .ok (.iaload, 1) := by decide +kernel
theorem dX6_next_150 : decode cX6_next 150 = .ok (.goto 5, 3) := by decide +kernel
theorem dX6_next_153 : decode cX6_next 153 = .ok (.iload 5, 2) := by decide +kernel
theorem dX6_next_155 : decode cX6_next 155 = .ok (.istore 5, 2) := by decide +kernel
theorem dX6_next_157 : decode cX6_next 157 = .ok (.iinc 6 1, 3) := by decide +kernel
theorem dX6_next_160 : decode cX6_next 160 = .ok (.goto (-74), 3) := by decide +kernel
theorem dX6_next_163 : decode cX6_next 163 = .ok (.iload 5, 2) := by decide +kernel
theorem dX6_next_165 : decode cX6_next 165 = .ok (.iload_n 3, 1) := by decide +kernel
theorem dX6_next_166 : decode cX6_next 166 = .ok (.if_icmp .ge 9, 3) := by decide +kernel
theorem dX6_next_169 : decode cX6_next 169 = .ok (.iload 5, 2) := by decide +kernel
theorem dX6_next_171 : decode cX6_next 171 = .ok (.istore_n 3, 1) := by decide +kernel
theorem dX6_next_172 : decode cX6_next 172 = .ok (.iload 4, 2) := by decide +kernel
theorem dX6_next_174 : decode cX6_next 174 = .ok (.istore_n 2, 1) := by decide +kernel
theorem dX6_next_175 : decode cX6_next 175 = .ok (.iinc 4 1, 3) := by decide +kernel
theorem dX6_next_178 : decode cX6_next 178 = .ok (.goto (-130), 3) := by decide +kernel
theorem dX6_next_181 : decode cX6_next 181 = .ok (.iload_n 2, 1) := by decide +kernel
theorem dX6_next_182 : decode cX6_next 182 = .ok (.ireturn, 1) := by decide +kernel
theorem dX6_count_0 : decode cX6_count 0 = .ok (.aload_n 0, 1) := by decide +kernel
theorem dX6_count_1 : decode cX6_count 1 = .ok (.iconst 0, 1) := by decide +kernel
theorem dX6_count_2 : decode cX6_count 2 = .ok (.putfield 75, 3) := by decide +kernel
theorem dX6_count_5 : decode cX6_count 5 = .ok (.iconst 0, 1) := by decide +kernel
theorem dX6_count_6 : decode cX6_count 6 = .ok (.istore_n 2, 1) := by decide +kernel
theorem dX6_count_7 : decode cX6_count 7 = .ok (.iconst 0, 1) := by decide +kernel
theorem dX6_count_8 : decode cX6_count 8 = .ok (.istore_n 3, 1) := by decide +kernel
theorem dX6_count_9 : decode cX6_count 9 = .ok (.iconst 0, 1) := by decide +kernel
theorem dX6_count_10 : decode cX6_count 10 = .ok (.istore 4, 2) := by decide +kernel
theorem dX6_count_12 : decode cX6_count 12 = .ok (.iconst 0, 1) := by decide +kernel
theorem dX6_count_13 : decode cX6_count 13 = .ok (.istore 5, 2) := by decide +kernel
theorem dX6_count_15 : decode cX6_count 15 = .ok (.iload 5, 2) := by decide +kernel
theorem dX6_count_17 : decode cX6_count 17 = .ok (.aload_n 0, 1) := by decide +kernel
theorem dX6_count_18 : decode cX6_count 18 = .ok (.getfield 112, 3) := by decide +kernel
theorem dX6_count_21 : decode cX6_count 21 = .ok (.if_icmp .ge 27, 3) := by decide +kernel
theorem dX6_count_24 : decode cX6_count 24 = .ok (.iload_n 2, 1) := by decide +kernel
theorem dX6_count_25 : decode cX6_count 25 = .ok (.aload_n 0, 1) := by decide +kernel
theorem dX6_count_26 : decode cX6_count 26 = .ok (.getfield 47, 3) := by decide +kernel
theorem dX6_count_29 : decode cX6_count 29 = .ok (.iload 5, 2) := by decide +kernel
theorem dX6_count_31 : decode cX6_count 31 = .ok (.baload, 1) := by decide +kernel
theorem dX6_count_32 : decode cX6_count 32 = .ok (.ifCond .eq 7, 3) := by decide +kernel
theorem dX6_count_35 : decode cX6_count 35 = .ok (.iconst 1, 1) := by decide +kernel
theorem dX6_count_36 : decode cX6_count 36 = .ok (.goto 4, 3) := by decide +kernel
theorem dX6_count_39 : decode cX6_count 39 = .ok (.iconst 0, 1) := by decide +kernel
theorem dX6_count_40 : decode cX6_count 40 = .ok (.iadd, 1) := by decide +kernel
theorem dX6_count_41 : decode cX6_count 41 = .ok (.istore_n 2, 1) := by decide +kernel
theorem dX6_count_42 : decode cX6_count 42 = .ok (.iinc 5 1, 3) := by decide +kernel
theorem dX6_count_45 : decode cX6_count 45 = .ok (.goto (-30), 3) := by decide +kernel
theorem dX6_count_48 : decode cX6_count 48 = .ok (.iconst 0, 1) := by decide +kernel
theorem dX6_count_49 : decode cX6_count 49 = .ok (.istore 5, 2) := by decide +kernel
theorem dX6_count_51 : decode cX6_count 51 = .ok (.iload 5, 2) := by decide +kernel
theorem dX6_count_53 : decode cX6_count 53 = .ok (.iconst 4, 1) := by decide +kernel
theorem dX6_count_54 : decode cX6_count 54 = .ok (.if_icmp .ge 19, 3) := by decide +kernel
theorem dX6_count_57 : decode cX6_count 57 = .ok (.iload_n 3, 1) := by decide +kernel
theorem dX6_count_58 : decode cX6_count 58 = .ok (.aload_n 0, 1) := by decide +kernel
theorem dX6_count_59 : decode cX6_count 59 = .ok (.getfield 29, 3) := by decide +kernel
theorem dX6_count_62 : decode cX6_count 62 = .ok (.iload 5, 2) := by decide +kernel
theorem dX6_count_64 : decode cX6_count 64 = .ok (.iaload, 1) := by decide +kernel
theorem dX6_count_65 : decode cX6_count 65 = .ok (.iadd, 1) := by decide +kernel
theorem dX6_count_66 : decode cX6_count 66 = .ok (.istore_n 3, 1) := by decide +kernel
theorem dX6_count_67 : decode cX6_count 67 = .ok (.iinc 5 1, 3) := by decide +kernel
theorem dX6_count_70 : decode cX6_count 70 = .ok (.goto (-19), 3) := by decide +kernel
theorem dX6_count_73 : decode cX6_count 73 = .ok (.iconst 0, 1) := by decide +kernel
theorem dX6_count_74 : decode cX6_count 74 = .ok (.istore 5, 2) := by decide +kernel
theorem dX6_count_76 : decode cX6_count 76 = .ok (.iload 5, 2) := by decide +kernel
theorem dX6_count_78 : decode cX6_count 78 = .ok (.bipush 60, 2) := by decide +kernel
theorem dX6_count_80 : decode cX6_count 80 = .ok (.if_icmp .ge 21, 3) := by decide +kernel
theorem dX6_count_83 : decode cX6_count 83 = .ok (.iload 4, 2) := by decide +kernel
theorem dX6_count_85 : decode cX6_count 85 = .ok (.aload_n 0, 1) := by decide +kernel
theorem dX6_count_86 : decode cX6_count 86 = .ok (.getfield 57, 3) := by decide +kernel
theorem dX6_count_89 : decode cX6_count 89 = .ok (.iload 5, 2) := by decide +kernel
theorem dX6_count_91 : decode cX6_count 91 = .ok (.iaload, 1) := by decide +kernel
theorem dX6_count_92 : decode cX6_count 92 = .ok (.iadd, 1) := by decide +kernel
theorem dX6_count_93 : decode cX6_count 93 = .ok (.istore 4, 2) := by decide +kernel
theorem dX6_count_95 : decode cX6_count 95 = .ok (.iinc 5 1, 3) := by decide +kernel
theorem dX6_count_98 : decode cX6_count 98 = .ok (.goto (-22), 3) := by decide +kernel
theorem dX6_count_101 : decode cX6_count 101 = .ok (.iload_n 1, 1) := by decide +kernel
theorem dX6_count_102 : decode cX6_count 102 = .ok (.tableswitch 60 0 5 #[38, 43, 48, 50, 55, 57], 38) := by decide +kernel
theorem dX6_count_140 : decode cX6_count 140 = .ok (.aload_n 0, 1) := by decide +kernel
theorem dX6_count_141 : decode cX6_count 141 = .ok (.getfield 7, 3) := by decide +kernel
theorem dX6_count_144 : decode cX6_count 144 = .ok (.ireturn, 1) := by decide +kernel
theorem dX6_count_145 : decode cX6_count 145 = .ok (.aload_n 0, 1) := by decide +kernel
theorem dX6_count_146 : decode cX6_count 146 = .ok (.getfield 112, 3) := by decide +kernel
theorem dX6_count_149 : decode cX6_count 149 = .ok (.ireturn, 1) := by decide +kernel
theorem dX6_count_150 : decode cX6_count 150 = .ok (.iload_n 2, 1) := by decide +kernel
theorem dX6_count_151 : decode cX6_count 151 = .ok (.ireturn, 1) := by decide +kernel
theorem dX6_count_152 : decode cX6_count 152 = .ok (.aload_n 0, 1) := by decide +kernel
theorem dX6_count_153 : decode cX6_count 153 = .ok (.getfield 193, 3) := by decide +kernel
theorem dX6_count_156 : decode cX6_count 156 = .ok (.ireturn, 1) := by decide +kernel
theorem dX6_count_157 : decode cX6_count 157 = .ok (.iload_n 3, 1) := by decide +kernel
theorem dX6_count_158 : decode cX6_count 158 = .ok (.ireturn, 1) := by decide +kernel
theorem dX6_count_159 : decode cX6_count 159 = .ok (.iload 4, 2) := by decide +kernel
theorem dX6_count_161 : decode cX6_count 161 = .ok (.ireturn, 1) := by decide +kernel
theorem dX6_count_162 : decode cX6_count 162 = .ok (.bipush (-2), 2) := by decide +kernel
theorem dX6_count_164 : decode cX6_count 164 = .ok (.ireturn, 1) := by decide +kernel
theorem dJ6_bitCount_0f7a4_0 : decode cJ6_bitCount_0f7a4 0 = .ok (.iload_n 0, 1) := by decide +kernel
theorem dJ6_bitCount_0f7a4_1 : decode cJ6_bitCount_0f7a4 1 = .ok (.iload_n 0, 1) := by decide +kernel
theorem dJ6_bitCount_0f7a4_2 : decode cJ6_bitCount_0f7a4 2 = .ok (.iconst 1, 1) := by decide +kernel
theorem dJ6_bitCount_0f7a4_3 : decode cJ6_bitCount_0f7a4 3 = .ok (.iushr, 1) := by decide +kernel
theorem dJ6_bitCount_0f7a4_4 : decode cJ6_bitCount_0f7a4 4 = .ok (.ldc_w 265, 3) := by decide +kernel
theorem dJ6_bitCount_0f7a4_7 : decode cJ6_bitCount_0f7a4 7 = .ok (.iand, 1) := by decide +kernel
theorem dJ6_bitCount_0f7a4_8 : decode cJ6_bitCount_0f7a4 8 = .ok (.isub, 1) := by decide +kernel
theorem dJ6_bitCount_0f7a4_9 : decode cJ6_bitCount_0f7a4 9 = .ok (.istore_n 0, 1) := by decide +kernel
theorem dJ6_bitCount_0f7a4_10 : decode cJ6_bitCount_0f7a4 10 = .ok (.iload_n 0, 1) := by decide +kernel
theorem dJ6_bitCount_0f7a4_11 : decode cJ6_bitCount_0f7a4 11 = .ok (.ldc_w 266, 3) := by decide +kernel
theorem dJ6_bitCount_0f7a4_14 : decode cJ6_bitCount_0f7a4 14 = .ok (.iand, 1) := by decide +kernel
theorem dJ6_bitCount_0f7a4_15 : decode cJ6_bitCount_0f7a4 15 = .ok (.iload_n 0, 1) := by decide +kernel
theorem dJ6_bitCount_0f7a4_16 : decode cJ6_bitCount_0f7a4 16 = .ok (.iconst 2, 1) := by decide +kernel
theorem dJ6_bitCount_0f7a4_17 : decode cJ6_bitCount_0f7a4 17 = .ok (.iushr, 1) := by decide +kernel
theorem dJ6_bitCount_0f7a4_18 : decode cJ6_bitCount_0f7a4 18 = .ok (.ldc_w 266, 3) := by decide +kernel
theorem dJ6_bitCount_0f7a4_21 : decode cJ6_bitCount_0f7a4 21 = .ok (.iand, 1) := by decide +kernel
theorem dJ6_bitCount_0f7a4_22 : decode cJ6_bitCount_0f7a4 22 = .ok (.iadd, 1) := by decide +kernel
theorem dJ6_bitCount_0f7a4_23 : decode cJ6_bitCount_0f7a4 23 = .ok (.istore_n 0, 1) := by decide +kernel
theorem dJ6_bitCount_0f7a4_24 : decode cJ6_bitCount_0f7a4 24 = .ok (.iload_n 0, 1) := by decide +kernel
theorem dJ6_bitCount_0f7a4_25 : decode cJ6_bitCount_0f7a4 25 = .ok (.iload_n 0, 1) := by decide +kernel
theorem dJ6_bitCount_0f7a4_26 : decode cJ6_bitCount_0f7a4 26 = .ok (.iconst 4, 1) := by decide +kernel
theorem dJ6_bitCount_0f7a4_27 : decode cJ6_bitCount_0f7a4 27 = .ok (.iushr, 1) := by decide +kernel
theorem dJ6_bitCount_0f7a4_28 : decode cJ6_bitCount_0f7a4 28 = .ok (.iadd, 1) := by decide +kernel
theorem dJ6_bitCount_0f7a4_29 : decode cJ6_bitCount_0f7a4 29 = .ok (.ldc_w 267, 3) := by decide +kernel
theorem dJ6_bitCount_0f7a4_32 : decode cJ6_bitCount_0f7a4 32 = .ok (.iand, 1) := by decide +kernel
theorem dJ6_bitCount_0f7a4_33 : decode cJ6_bitCount_0f7a4 33 = .ok (.istore_n 0, 1) := by decide +kernel
theorem dJ6_bitCount_0f7a4_34 : decode cJ6_bitCount_0f7a4 34 = .ok (.iload_n 0, 1) := by decide +kernel
theorem dJ6_bitCount_0f7a4_35 : decode cJ6_bitCount_0f7a4 35 = .ok (.iload_n 0, 1) := by decide +kernel
theorem dJ6_bitCount_0f7a4_36 : decode cJ6_bitCount_0f7a4 36 = .ok (.bipush 8, 2) := by decide +kernel
theorem dJ6_bitCount_0f7a4_38 : decode cJ6_bitCount_0f7a4 38 = .ok (.iushr, 1) := by decide +kernel
theorem dJ6_bitCount_0f7a4_39 : decode cJ6_bitCount_0f7a4 39 = .ok (.iadd, 1) := by decide +kernel
theorem dJ6_bitCount_0f7a4_40 : decode cJ6_bitCount_0f7a4 40 = .ok (.istore_n 0, 1) := by decide +kernel
theorem dJ6_bitCount_0f7a4_41 : decode cJ6_bitCount_0f7a4 41 = .ok (.iload_n 0, 1) := by decide +kernel
theorem dJ6_bitCount_0f7a4_42 : decode cJ6_bitCount_0f7a4 42 = .ok (.iload_n 0, 1) := by decide +kernel
theorem dJ6_bitCount_0f7a4_43 : decode cJ6_bitCount_0f7a4 43 = .ok (.bipush 16, 2) := by decide +kernel
theorem dJ6_bitCount_0f7a4_45 : decode cJ6_bitCount_0f7a4 45 = .ok (.iushr, 1) := by decide +kernel
theorem dJ6_bitCount_0f7a4_46 : decode cJ6_bitCount_0f7a4 46 = .ok (.iadd, 1) := by decide +kernel
theorem dJ6_bitCount_0f7a4_47 : decode cJ6_bitCount_0f7a4 47 = .ok (.istore_n 0, 1) := by decide +kernel
theorem dJ6_bitCount_0f7a4_48 : decode cJ6_bitCount_0f7a4 48 = .ok (.iload_n 0, 1) := by decide +kernel
theorem dJ6_bitCount_0f7a4_49 : decode cJ6_bitCount_0f7a4 49 = .ok (.bipush 63, 2) := by decide +kernel
theorem dJ6_bitCount_0f7a4_51 : decode cJ6_bitCount_0f7a4 51 = .ok (.iand, 1) := by decide +kernel
theorem dJ6_bitCount_0f7a4_52 : decode cJ6_bitCount_0f7a4 52 = .ok (.ireturn, 1) := by decide +kernel
theorem dJ9_floorDiv_7cf53_0 : decode cJ9_floorDiv_7cf53 0 = .ok (.iload_n 0, 1) := by decide +kernel
theorem dJ9_floorDiv_7cf53_1 : decode cJ9_floorDiv_7cf53 1 = .ok (.iload_n 1, 1) := by decide +kernel
theorem dJ9_floorDiv_7cf53_2 : decode cJ9_floorDiv_7cf53 2 = .ok (.idiv, 1) := by decide +kernel
theorem dJ9_floorDiv_7cf53_3 : decode cJ9_floorDiv_7cf53 3 = .ok (.istore_n 2, 1) := by decide +kernel
theorem dJ9_floorDiv_7cf53_4 : decode cJ9_floorDiv_7cf53 4 = .ok (.iload_n 0, 1) := by decide +kernel
theorem dJ9_floorDiv_7cf53_5 : decode cJ9_floorDiv_7cf53 5 = .ok (.iload_n 1, 1) := by decide +kernel
theorem dJ9_floorDiv_7cf53_6 : decode cJ9_floorDiv_7cf53 6 = .ok (.ixor, 1) := by decide +kernel
theorem dJ9_floorDiv_7cf53_7 : decode cJ9_floorDiv_7cf53 7 = .ok (.ifCond .ge 14, 3) := by decide +kernel
theorem dJ9_floorDiv_7cf53_10 : decode cJ9_floorDiv_7cf53 10 = .ok (.iload_n 2, 1) := by decide +kernel
theorem dJ9_floorDiv_7cf53_11 : decode cJ9_floorDiv_7cf53 11 = .ok (.iload_n 1, 1) := by decide +kernel
theorem dJ9_floorDiv_7cf53_12 : decode cJ9_floorDiv_7cf53 12 = .ok (.imul, 1) := by decide +kernel
theorem dJ9_floorDiv_7cf53_13 : decode cJ9_floorDiv_7cf53 13 = .ok (.iload_n 0, 1) := by decide +kernel
theorem dJ9_floorDiv_7cf53_14 : decode cJ9_floorDiv_7cf53 14 = .ok (.if_icmp .eq 7, 3) := by decide +kernel
theorem dJ9_floorDiv_7cf53_17 : decode cJ9_floorDiv_7cf53 17 = .ok (.iload_n 2, 1) := by decide +kernel
theorem dJ9_floorDiv_7cf53_18 : decode cJ9_floorDiv_7cf53 18 = .ok (.iconst 1, 1) := by decide +kernel
theorem dJ9_floorDiv_7cf53_19 : decode cJ9_floorDiv_7cf53 19 = .ok (.isub, 1) := by decide +kernel
theorem dJ9_floorDiv_7cf53_20 : decode cJ9_floorDiv_7cf53 20 = .ok (.ireturn, 1) := by decide +kernel
theorem dJ9_floorDiv_7cf53_21 : decode cJ9_floorDiv_7cf53 21 = .ok (.iload_n 2, 1) := by decide +kernel
theorem dJ9_floorDiv_7cf53_22 : decode cJ9_floorDiv_7cf53 22 = .ok (.ireturn, 1) := by decide +kernel
theorem dJ9_max_7cf53_0 : decode cJ9_max_7cf53 0 = .ok (.iload_n 0, 1) := by decide +kernel
theorem dJ9_max_7cf53_1 : decode cJ9_max_7cf53 1 = .ok (.iload_n 1, 1) := by decide +kernel
theorem dJ9_max_7cf53_2 : decode cJ9_max_7cf53 2 = .ok (.if_icmp .lt 7, 3) := by decide +kernel
theorem dJ9_max_7cf53_5 : decode cJ9_max_7cf53 5 = .ok (.iload_n 0, 1) := by decide +kernel
theorem dJ9_max_7cf53_6 : decode cJ9_max_7cf53 6 = .ok (.goto 4, 3) := by decide +kernel
theorem dJ9_max_7cf53_9 : decode cJ9_max_7cf53 9 = .ok (.iload_n 1, 1) := by decide +kernel
theorem dJ9_max_7cf53_10 : decode cJ9_max_7cf53 10 = .ok (.ireturn, 1) := by decide +kernel
theorem dJ9_min_7cf53_0 : decode cJ9_min_7cf53 0 = .ok (.iload_n 0, 1) := by decide +kernel
theorem dJ9_min_7cf53_1 : decode cJ9_min_7cf53 1 = .ok (.iload_n 1, 1) := by decide +kernel
theorem dJ9_min_7cf53_2 : decode cJ9_min_7cf53 2 = .ok (.if_icmp .gt 7, 3) := by decide +kernel
theorem dJ9_min_7cf53_5 : decode cJ9_min_7cf53 5 = .ok (.iload_n 0, 1) := by decide +kernel
theorem dJ9_min_7cf53_6 : decode cJ9_min_7cf53 6 = .ok (.goto 4, 3) := by decide +kernel
theorem dJ9_min_7cf53_9 : decode cJ9_min_7cf53 9 = .ok (.iload_n 1, 1) := by decide +kernel
theorem dJ9_min_7cf53_10 : decode cJ9_min_7cf53 10 = .ok (.ireturn, 1) := by decide +kernel
theorem dJ7_fill_d0a16_0 : decode cJ7_fill_d0a16 0 = .ok (.iconst 0, 1) := by decide +kernel
theorem dJ7_fill_d0a16_1 : decode cJ7_fill_d0a16 1 = .ok (.istore_n 3, 1) := by decide +kernel
theorem dJ7_fill_d0a16_2 : decode cJ7_fill_d0a16 2 = .ok (.aload_n 0, 1) := by decide +kernel
theorem dJ7_fill_d0a16_3 : decode cJ7_fill_d0a16 3 = .ok (.arraylength, 1) := by decide +kernel
theorem dJ7_fill_d0a16_4 : decode cJ7_fill_d0a16 4 = .ok (.istore 4, 2) := by decide +kernel
theorem dJ7_fill_d0a16_6 : decode cJ7_fill_d0a16 6 = .ok (.iload_n 3, 1) := by decide +kernel
theorem dJ7_fill_d0a16_7 : decode cJ7_fill_d0a16 7 = .ok (.iload 4, 2) := by decide +kernel
theorem dJ7_fill_d0a16_9 : decode cJ7_fill_d0a16 9 = .ok (.if_icmp .ge 13, 3) := by decide +kernel
theorem dJ7_fill_d0a16_12 : decode cJ7_fill_d0a16 12 = .ok (.aload_n 0, 1) := by decide +kernel
theorem dJ7_fill_d0a16_13 : decode cJ7_fill_d0a16 13 = .ok (.iload_n 3, 1) := by decide +kernel
theorem dJ7_fill_d0a16_14 : decode cJ7_fill_d0a16 14 = .ok (.lload_n 1, 1) := by decide +kernel
theorem dJ7_fill_d0a16_15 : decode cJ7_fill_d0a16 15 = .ok (.lastore, 1) := by decide +kernel
theorem dJ7_fill_d0a16_16 : decode cJ7_fill_d0a16 16 = .ok (.iinc 3 1, 3) := by decide +kernel
theorem dJ7_fill_d0a16_19 : decode cJ7_fill_d0a16 19 = .ok (.goto (-13), 3) := by decide +kernel
theorem dJ7_fill_d0a16_22 : decode cJ7_fill_d0a16 22 = .ok (.return_, 1) := by decide +kernel
theorem dJ7_fill_53178_0 : decode cJ7_fill_53178 0 = .ok (.iconst 0, 1) := by decide +kernel
theorem dJ7_fill_53178_1 : decode cJ7_fill_53178 1 = .ok (.istore_n 2, 1) := by decide +kernel
theorem dJ7_fill_53178_2 : decode cJ7_fill_53178 2 = .ok (.aload_n 0, 1) := by decide +kernel
theorem dJ7_fill_53178_3 : decode cJ7_fill_53178 3 = .ok (.arraylength, 1) := by decide +kernel
theorem dJ7_fill_53178_4 : decode cJ7_fill_53178 4 = .ok (.istore_n 3, 1) := by decide +kernel
theorem dJ7_fill_53178_5 : decode cJ7_fill_53178 5 = .ok (.iload_n 2, 1) := by decide +kernel
theorem dJ7_fill_53178_6 : decode cJ7_fill_53178 6 = .ok (.iload_n 3, 1) := by decide +kernel
theorem dJ7_fill_53178_7 : decode cJ7_fill_53178 7 = .ok (.if_icmp .ge 13, 3) := by decide +kernel
theorem dJ7_fill_53178_10 : decode cJ7_fill_53178 10 = .ok (.aload_n 0, 1) := by decide +kernel
theorem dJ7_fill_53178_11 : decode cJ7_fill_53178 11 = .ok (.iload_n 2, 1) := by decide +kernel
theorem dJ7_fill_53178_12 : decode cJ7_fill_53178 12 = .ok (.iload_n 1, 1) := by decide +kernel
theorem dJ7_fill_53178_13 : decode cJ7_fill_53178 13 = .ok (.iastore, 1) := by decide +kernel
theorem dJ7_fill_53178_14 : decode cJ7_fill_53178 14 = .ok (.iinc 2 1, 3) := by decide +kernel
theorem dJ7_fill_53178_17 : decode cJ7_fill_53178 17 = .ok (.goto (-12), 3) := by decide +kernel
theorem dJ7_fill_53178_20 : decode cJ7_fill_53178 20 = .ok (.return_, 1) := by decide +kernel
