theorem dX6_ring_0 : decode cX6_ring 0 = .ok (.aload_n 0, 1) := by decide +kernel
theorem dX6_ring_1 : decode cX6_ring 1 = .ok (.iconst 0, 1) := by decide +kernel
theorem dX6_ring_2 : decode cX6_ring 2 = .ok (.putfield 75, 3) := by decide +kernel
theorem dX6_ring_5 : decode cX6_ring 5 = .ok (.iload_n 1, 1) := by decide +kernel
theorem dX6_ring_6 : decode cX6_ring 6 = .ok (.invokestatic 104, 3) := by decide +kernel
theorem dX6_ring_9 : decode cX6_ring 9 = .ok (.ifCond .ne 15, 3) := by decide +kernel
theorem dX6_ring_12 : decode cX6_ring 12 = .ok (.iload_n 2, 1) := by decide +kernel
theorem dX6_ring_13 : decode cX6_ring 13 = .ok (.i2l, 1) := by decide +kernel
theorem dX6_ring_14 : decode cX6_ring 14 = .ok (.lconst 0, 1) := by decide +kernel
theorem dX6_ring_15 : decode cX6_ring 15 = .ok (.ldc2_w 96, 3) := by decide +kernel
theorem dX6_ring_18 : decode cX6_ring 18 = .ok (.invokestatic 80, 3) := by decide +kernel
theorem dX6_ring_21 : decode cX6_ring 21 = .ok (.ifCond .ne 6, 3) := by decide +kernel
theorem dX6_ring_24 : decode cX6_ring 24 = .ok (.bipush (-2), 2) := by decide +kernel
theorem dX6_ring_26 : decode cX6_ring 26 = .ok (.ireturn, 1) := by decide +kernel
theorem dX6_ring_27 : decode cX6_ring 27 = .ok (.aload_n 0, 1) := by decide +kernel
theorem dX6_ring_28 : decode cX6_ring 28 = .ok (.invokevirtual 130, 3) := by decide +kernel
theorem dX6_ring_31 : decode cX6_ring 31 = .ok (.aload_n 0, 1) := by decide +kernel
theorem dX6_ring_32 : decode cX6_ring 32 = .ok (.iload_n 1, 1) := by decide +kernel
theorem dX6_ring_33 : decode cX6_ring 33 = .ok (.invokevirtual 148, 3) := by decide +kernel
theorem dX6_ring_36 : decode cX6_ring 36 = .ok (.aload_n 0, 1) := by decide +kernel
theorem dX6_ring_37 : decode cX6_ring 37 = .ok (.getfield 145, 3) := by decide +kernel
theorem dX6_ring_40 : decode cX6_ring 40 = .ok (.ifCond .ne 6, 3) := by decide +kernel
theorem dX6_ring_43 : decode cX6_ring 43 = .ok (.bipush (-9), 2) := by decide +kernel
theorem dX6_ring_45 : decode cX6_ring 45 = .ok (.ireturn, 1) := by decide +kernel
theorem dX6_ring_46 : decode cX6_ring 46 = .ok (.aload_n 0, 1) := by decide +kernel
theorem dX6_ring_47 : decode cX6_ring 47 = .ok (.getfield 145, 3) := by decide +kernel
theorem dX6_ring_50 : decode cX6_ring 50 = .ok (.istore_n 3, 1) := by decide +kernel
theorem dX6_ring_51 : decode cX6_ring 51 = .ok (.aload_n 0, 1) := by decide +kernel
theorem dX6_ring_52 : decode cX6_ring 52 = .ok (.getfield 145, 3) := by decide +kernel
theorem dX6_ring_55 : decode cX6_ring 55 = .ok (.istore 4, 2) := by decide +kernel
theorem dX6_ring_57 : decode cX6_ring 57 = .ok (.aload_n 0, 1) := by decide +kernel
theorem dX6_ring_58 : decode cX6_ring 58 = .ok (.getfield 145, 3) := by decide +kernel
theorem dX6_ring_61 : decode cX6_ring 61 = .ok (.istore 5, 2) := by decide +kernel
theorem dX6_ring_63 : decode cX6_ring 63 = .ok (.iconst 0, 1) := by decide +kernel
theorem dX6_ring_64 : decode cX6_ring 64 = .ok (.istore 6, 2) := by decide +kernel
theorem dX6_ring_66 : decode cX6_ring 66 = .ok (.iload 6, 2) := by decide +kernel
theorem dX6_ring_68 : decode cX6_ring 68 = .ok (.aload_n 0, 1) := by decide +kernel
theorem dX6_ring_69 : decode cX6_ring 69 = .ok (.getfield 142, 3) := by decide +kernel
theorem dX6_ring_72 : decode cX6_ring 72 = .ok (.if_icmp .ge 40, 3) := by decide +kernel
theorem dX6_ring_75 : decode cX6_ring 75 = .ok (.iload_n 3, 1) := by decide +kernel
theorem dX6_ring_76 : decode cX6_ring 76 = .ok (.iload 5, 2) := by decide +kernel
theorem dX6_ring_78 : decode cX6_ring 78 = .ok (.invokestatic 119, 3) := by decide +kernel
theorem dX6_ring_81 : decode cX6_ring 81 = .ok (.istore_n 3, 1) := by decide +kernel
theorem dX6_ring_82 : decode cX6_ring 82 = .ok (.iload 5, 2) := by decide +kernel
theorem dX6_ring_84 : decode cX6_ring 84 = .ok (.iload 4, 2) := by decide +kernel
theorem dX6_ring_86 : decode cX6_ring 86 = .ok (.if_icmp .le 8, 3) := by decide +kernel
theorem dX6_ring_89 : decode cX6_ring 89 = .ok (.iload 5, 2) := by decide +kernel
theorem dX6_ring_91 : decode cX6_ring 91 = .ok (.goto 5, 3) := by decide +kernel
theorem dX6_ring_94 : decode cX6_ring 94 = .ok (.iload 4, 2) := by decide +kernel
theorem dX6_ring_96 : decode cX6_ring 96 = .ok (.istore 4, 2) := by decide +kernel
theorem dX6_ring_98 : decode cX6_ring 98 = .ok (.aload_n 0, 1) := by decide +kernel
theorem dX6_ring_99 : decode cX6_ring 99 = .ok (.iload 5, 2) := by decide +kernel
theorem dX6_ring_101 : decode cX6_ring 101 = .ok (.invokevirtual 136, 3) := by decide +kernel
theorem dX6_ring_104 : decode cX6_ring 104 = .ok (.istore 5, 2) := by decide +kernel
theorem dX6_ring_106 : decode cX6_ring 106 = .ok (.iinc 6 1, 3) := by decide +kernel
theorem dX6_ring_109 : decode cX6_ring 109 = .ok (.goto (-43), 3) := by decide +kernel
theorem dX6_ring_112 : decode cX6_ring 112 = .ok (.iload_n 2, 1) := by decide +kernel
theorem dX6_ring_113 : decode cX6_ring 113 = .ok (.ifCond .ne 7, 3) := by decide +kernel
theorem dX6_ring_116 : decode cX6_ring 116 = .ok (.iload_n 3, 1) := by decide +kernel
theorem dX6_ring_117 : decode cX6_ring 117 = .ok (.goto 29, 3) := by decide +kernel
theorem dX6_ring_120 : decode cX6_ring 120 = .ok (.iload_n 2, 1) := by decide +kernel
theorem dX6_ring_121 : decode cX6_ring 121 = .ok (.iconst 1, 1) := by decide +kernel
theorem dX6_ring_122 : decode cX6_ring 122 = .ok (.if_icmp .ne 8, 3) := by decide +kernel
theorem dX6_ring_125 : decode cX6_ring 125 = .ok (.iload 4, 2) := by decide +kernel
theorem dX6_ring_127 : decode cX6_ring 127 = .ok (.goto 19, 3) := by decide +kernel
theorem dX6_ring_130 : decode cX6_ring 130 = .ok (.iload_n 2, 1) := by decide +kernel
theorem dX6_ring_131 : decode cX6_ring 131 = .ok (.iconst 2, 1) := by decide +kernel
theorem dX6_ring_132 : decode cX6_ring 132 = .ok (.if_icmp .ne 10, 3) := by decide +kernel
theorem dX6_ring_135 : decode cX6_ring 135 = .ok (.aload_n 0, 1) := by decide +kernel
theorem dX6_ring_136 : decode cX6_ring 136 = .ok (.getfield 142, 3) := by decide +kernel
theorem dX6_ring_139 : decode cX6_ring 139 = .ok (.goto 7, 3) := by decide +kernel
theorem dX6_ring_142 : decode cX6_ring 142 = .ok (.aload_n 0, 1) := by decide +kernel
theorem dX6_ring_143 : decode cX6_ring 143 = .ok (.getfield 139, 3) := by decide +kernel
theorem dX6_ring_146 : decode cX6_ring 146 = .ok (.ireturn, 1) := by decide +kernel
theorem dX6_smallSettles_0 : decode cX6_smallSettles 0 = .ok (.aload_n 0, 1) := by decide +kernel
theorem dX6_smallSettles_1 : decode cX6_smallSettles 1 = .ok (.aload_n 0, 1) := by decide +kernel
theorem dX6_smallSettles_2 : decode cX6_smallSettles 2 = .ok (.getfield 35, 3) := by decide +kernel
theorem dX6_smallSettles_5 : decode cX6_smallSettles 5 = .ok (.iconst 1, 1) := by decide +kernel
theorem dX6_smallSettles_6 : decode cX6_smallSettles 6 = .ok (.iaload, 1) := by decide +kernel
theorem dX6_smallSettles_7 : decode cX6_smallSettles 7 = .ok (.invokevirtual 148, 3) := by decide +kernel
theorem dX6_smallSettles_10 : decode cX6_smallSettles 10 = .ok (.aload_n 0, 1) := by decide +kernel
theorem dX6_smallSettles_11 : decode cX6_smallSettles 11 = .ok (.getfield 145, 3) := by decide +kernel
theorem dX6_smallSettles_14 : decode cX6_smallSettles 14 = .ok (.ifCond .ne 7, 3) := by decide +kernel
theorem dX6_smallSettles_17 : decode cX6_smallSettles 17 = .ok (.iconst 1, 1) := by decide +kernel
theorem dX6_smallSettles_18 : decode cX6_smallSettles 18 = .ok (.goto 4, 3) := by decide +kernel
theorem dX6_smallSettles_21 : decode cX6_smallSettles 21 = .ok (.iconst 0, 1) := by decide +kernel
theorem dX6_smallSettles_22 : decode cX6_smallSettles 22 = .ok (.ireturn, 1) := by decide +kernel
theorem dX6_tooMany_0 : decode cX6_tooMany 0 = .ok (.aload_n 0, 1) := by decide +kernel
theorem dX6_tooMany_1 : decode cX6_tooMany 1 = .ok (.iconst 0, 1) := by decide +kernel
theorem dX6_tooMany_2 : decode cX6_tooMany 2 = .ok (.putfield 75, 3) := by decide +kernel
theorem dX6_tooMany_5 : decode cX6_tooMany 5 = .ok (.iload_n 1, 1) := by decide +kernel
theorem dX6_tooMany_6 : decode cX6_tooMany 6 = .ok (.invokestatic 100, 3) := by decide +kernel
theorem dX6_tooMany_9 : decode cX6_tooMany 9 = .ok (.ifCond .eq 5, 3) := by decide +kernel
theorem dX6_tooMany_12 : decode cX6_tooMany 12 = .ok (.iconst (-1), 1) := by decide +kernel
theorem dX6_tooMany_13 : decode cX6_tooMany 13 = .ok (.ireturn, 1) := by decide +kernel
theorem dX6_tooMany_14 : decode cX6_tooMany 14 = .ok (.aload_n 0, 1) := by decide +kernel
theorem dX6_tooMany_15 : decode cX6_tooMany 15 = .ok (.invokevirtual 130, 3) := by decide +kernel
theorem dX6_tooMany_18 : decode cX6_tooMany 18 = .ok (.iconst 0, 1) := by decide +kernel
theorem dX6_tooMany_19 : decode cX6_tooMany 19 = .ok (.istore_n 2, 1) := by decide +kernel
theorem dX6_tooMany_20 : decode cX6_tooMany 20 = .ok (.iload_n 2, 1) := by decide +kernel
theorem dX6_tooMany_21 : decode cX6_tooMany 21 = .ok (.sipush 1000, 3) := by decide +kernel
theorem dX6_tooMany_24 : decode cX6_tooMany 24 = .ok (.if_icmp .ge 25, 3) := by decide +kernel
theorem dX6_tooMany_27 : decode cX6_tooMany 27 = .ok (.aload_n 0, 1) := by decide +kernel
theorem dX6_tooMany_28 : decode cX6_tooMany 28 = .ok (.getfield 32, 3) := by decide +kernel
theorem dX6_tooMany_31 : decode cX6_tooMany 31 = .ok (.iload_n 1, 1) := by decide +kernel
theorem dX6_tooMany_32 : decode cX6_tooMany 32 = .ok (.iload_n 2, 1) := by decide +kernel
theorem dX6_tooMany_33 : decode cX6_tooMany 33 = .ok (.iastore, 1) := by decide +kernel
theorem dX6_tooMany_34 : decode cX6_tooMany 34 = .ok (.aload_n 0, 1) := by decide +kernel
theorem dX6_tooMany_35 : decode cX6_tooMany 35 = .ok (.invokevirtual 152, 3) := by decide +kernel
theorem dX6_tooMany_38 : decode cX6_tooMany 38 = .ok (.ifCond .ne 5, 3) := by decide +kernel
theorem dX6_tooMany_41 : decode cX6_tooMany 41 = .ok (.iload_n 2, 1) := by decide +kernel
theorem dX6_tooMany_42 : decode cX6_tooMany 42 = .ok (.ireturn, 1) := by decide +kernel
theorem dX6_tooMany_43 : decode cX6_tooMany 43 = .ok (.iinc 2 1, 3) := by decide +kernel
theorem dX6_tooMany_46 : decode cX6_tooMany 46 = .ok (.goto (-26), 3) := by decide +kernel
theorem dX6_tooMany_49 : decode cX6_tooMany 49 = .ok (.bipush (-9), 2) := by decide +kernel
theorem dX6_tooMany_51 : decode cX6_tooMany 51 = .ok (.ireturn, 1) := by decide +kernel
theorem dX6_inStep_0 : decode cX6_inStep 0 = .ok (.aload_n 0, 1) := by decide +kernel
theorem dX6_inStep_1 : decode cX6_inStep 1 = .ok (.iconst 0, 1) := by decide +kernel
theorem dX6_inStep_2 : decode cX6_inStep 2 = .ok (.putfield 75, 3) := by decide +kernel
theorem dX6_inStep_5 : decode cX6_inStep 5 = .ok (.iload_n 1, 1) := by decide +kernel
theorem dX6_inStep_6 : decode cX6_inStep 6 = .ok (.invokestatic 104, 3) := by decide +kernel
theorem dX6_inStep_9 : decode cX6_inStep 9 = .ok (.ifCond .eq 6, 3) := by decide +kernel
theorem dX6_inStep_12 : decode cX6_inStep 12 = .ok (.bipush (-2), 2) := by decide +kernel
theorem dX6_inStep_14 : decode cX6_inStep 14 = .ok (.ireturn, 1) := by decide +kernel
theorem dX6_inStep_15 : decode cX6_inStep 15 = .ok (.iconst 0, 1) := by decide +kernel
theorem dX6_inStep_16 : decode cX6_inStep 16 = .ok (.istore_n 2, 1) := by decide +kernel
theorem dX6_inStep_17 : decode cX6_inStep 17 = .ok (.iconst 0, 1) := by decide +kernel
theorem dX6_inStep_18 : decode cX6_inStep 18 = .ok (.istore_n 3, 1) := by decide +kernel
theorem dX6_inStep_19 : decode cX6_inStep 19 = .ok (.iload_n 3, 1) := by decide +kernel
theorem dX6_inStep_20 : decode cX6_inStep 20 = .ok (.iconst 4, 1) := by decide +kernel
theorem dX6_inStep_21 : decode cX6_inStep 21 = .ok (.if_icmp .ge 31, 3) := by decide +kernel
theorem dX6_inStep_24 : decode cX6_inStep 24 = .ok (.iload_n 2, 1) := by decide +kernel
theorem dX6_inStep_25 : decode cX6_inStep 25 = .ok (.aload_n 0, 1) := by decide +kernel
theorem dX6_inStep_26 : decode cX6_inStep 26 = .ok (.iload_n 3, 1) := by decide +kernel
theorem dX6_inStep_27 : decode cX6_inStep 27 = .ok (.iload_n 1, 1) := by decide +kernel
theorem dX6_inStep_28 : decode cX6_inStep 28 = .ok (.invokevirtual 115, 3) := by decide +kernel
theorem dX6_inStep_31 : decode cX6_inStep 31 = .ok (.ifCond .eq 12, 3) := by decide +kernel
theorem dX6_inStep_34 : decode cX6_inStep 34 = .ok (.aload_n 0, 1) := by decide +kernel
theorem dX6_inStep_35 : decode cX6_inStep 35 = .ok (.getfield 29, 3) := by decide +kernel
theorem dX6_inStep_38 : decode cX6_inStep 38 = .ok (.iload_n 3, 1) := by decide +kernel
theorem dX6_inStep_39 : decode cX6_inStep 39 = .ok (.iaload, 1) := by decide +kernel
theorem dX6_inStep_40 : decode cX6_inStep 40 = .ok (.goto 4, 3) := by decide +kernel
theorem dX6_inStep_43 : decode cX6_inStep 43 = .ok (.iconst 0, 1) := by decide +kernel
theorem dX6_inStep_44 : decode cX6_inStep 44 = .ok (.iadd, 1) := by decide +kernel
theorem dX6_inStep_45 : decode cX6_inStep 45 = .ok (.istore_n 2, 1) := by decide +kernel
theorem dX6_inStep_46 : decode cX6_inStep 46 = .ok (.iinc 3 1, 3) := by decide +kernel
theorem dX6_inStep_49 : decode cX6_inStep 49 = .ok (.goto (-30), 3) := by decide +kernel
theorem dX6_inStep_52 : decode cX6_inStep 52 = .ok (.iload_n 2, 1) := by decide +kernel
theorem dX6_inStep_53 : decode cX6_inStep 53 = .ok (.ireturn, 1) := by decide +kernel
theorem dX6_damper_0 : decode cX6_damper 0 = .ok (.aload_n 0, 1) := by decide +kernel
theorem dX6_damper_1 : decode cX6_damper 1 = .ok (.iconst 0, 1) := by decide +kernel
theorem dX6_damper_2 : decode cX6_damper 2 = .ok (.putfield 75, 3) := by decide +kernel
theorem dX6_damper_5 : decode cX6_damper 5 = .ok (.iload_n 1, 1) := by decide +kernel
theorem dX6_damper_6 : decode cX6_damper 6 = .ok (.i2l, 1) := by decide +kernel
theorem dX6_damper_7 : decode cX6_damper 7 = .ok (.lconst 1, 1) := by decide +kernel
theorem dX6_damper_8 : decode cX6_damper 8 = .ok (.ldc2_w 156, 3) := by decide +kernel
theorem dX6_damper_11 : decode cX6_damper 11 = .ok (.invokestatic 80, 3) := by decide +kernel
theorem dX6_damper_14 : decode cX6_damper 14 = .ok (.ifCond .eq 27, 3) := by decide +kernel
theorem dX6_damper_17 : decode cX6_damper 17 = .ok (.iload_n 2, 1) := by decide +kernel
theorem dX6_damper_18 : decode cX6_damper 18 = .ok (.i2l, 1) := by decide +kernel
theorem dX6_damper_19 : decode cX6_damper 19 = .ok (.lconst 0, 1) := by decide +kernel
theorem dX6_damper_20 : decode cX6_damper 20 = .ok (.ldc2_w 98, 3) := by decide +kernel
theorem dX6_damper_23 : decode cX6_damper 23 = .ok (.invokestatic 80, 3) := by decide +kernel
theorem dX6_damper_26 : decode cX6_damper 26 = .ok (.ifCond .eq 15, 3) := by decide +kernel
theorem dX6_damper_29 : decode cX6_damper 29 = .ok (.iload_n 3, 1) := by decide +kernel
theorem dX6_damper_30 : decode cX6_damper 30 = .ok (.i2l, 1) := by decide +kernel
theorem dX6_damper_31 : decode cX6_damper 31 = .ok (.lconst 0, 1) := by decide +kernel
theorem dX6_damper_32 : decode cX6_damper 32 = .ok (.ldc2_w 86, 3) := by decide +kernel
theorem dX6_damper_35 : decode cX6_damper 35 = .ok (.invokestatic 80, 3) := by decide +kernel
theorem dX6_damper_38 : decode cX6_damper 38 = .ok (.ifCond .ne 6, 3) := by decide +kernel
theorem dX6_damper_41 : decode cX6_damper 41 = .ok (.bipush (-2), 2) := by decide +kernel
theorem dX6_damper_43 : decode cX6_damper 43 = .ok (.ireturn, 1) := by decide +kernel
theorem dX6_damper_44 : decode cX6_damper 44 = .ok (.aload_n 0, 1) := by decide +kernel
theorem dX6_damper_45 : decode cX6_damper 45 = .ok (.getfield 112, 3) := by decide +kernel
theorem dX6_damper_48 : decode cX6_damper 48 = .ok (.bipush 10, 2) := by decide +kernel
theorem dX6_damper_50 : decode cX6_damper 50 = .ok (.if_icmp .ne 6, 3) := by decide +kernel
theorem dX6_damper_53 : decode cX6_damper 53 = .ok (.bipush (-4), 2) := by decide +kernel
theorem dX6_damper_55 : decode cX6_damper 55 = .ok (.ireturn, 1) := by decide +kernel
theorem dX6_damper_56 : decode cX6_damper 56 = .ok (.aload_n 0, 1) := by decide +kernel
theorem dX6_damper_57 : decode cX6_damper 57 = .ok (.getfield 38, 3) := by decide +kernel
theorem dX6_damper_60 : decode cX6_damper 60 = .ok (.aload_n 0, 1) := by decide +kernel
theorem dX6_damper_61 : decode cX6_damper 61 = .ok (.getfield 112, 3) := by decide +kernel
theorem dX6_damper_64 : decode cX6_damper 64 = .ok (.iload_n 1, 1) := by decide +kernel
theorem dX6_damper_65 : decode cX6_damper 65 = .ok (.iastore, 1) := by decide +kernel
theorem dX6_damper_66 : decode cX6_damper 66 = .ok (.aload_n 0, 1) := by decide +kernel
theorem dX6_damper_67 : decode cX6_damper 67 = .ok (.getfield 41, 3) := by decide +kernel
theorem dX6_damper_70 : decode cX6_damper 70 = .ok (.aload_n 0, 1) := by decide +kernel
theorem dX6_damper_71 : decode cX6_damper 71 = .ok (.getfield 112, 3) := by decide +kernel
theorem dX6_damper_74 : decode cX6_damper 74 = .ok (.iload_n 2, 1) := by decide +kernel
theorem dX6_damper_75 : decode cX6_damper 75 = .ok (.iastore, 1) := by decide +kernel
theorem dX6_damper_76 : decode cX6_damper 76 = .ok (.aload_n 0, 1) := by decide +kernel
theorem dX6_damper_77 : decode cX6_damper 77 = .ok (.getfield 44, 3) := by decide +kernel
theorem dX6_damper_80 : decode cX6_damper 80 = .ok (.aload_n 0, 1) := by decide +kernel
theorem dX6_damper_81 : decode cX6_damper 81 = .ok (.getfield 112, 3) := by decide +kernel
theorem dX6_damper_84 : decode cX6_damper 84 = .ok (.iload_n 3, 1) := by decide +kernel
theorem dX6_damper_85 : decode cX6_damper 85 = .ok (.iastore, 1) := by decide +kernel
theorem dX6_damper_86 : decode cX6_damper 86 = .ok (.aload_n 0, 1) := by decide +kernel
theorem dX6_damper_87 : decode cX6_damper 87 = .ok (.getfield 47, 3) := by decide +kernel
theorem dX6_damper_90 : decode cX6_damper 90 = .ok (.aload_n 0, 1) := by decide +kernel
theorem dX6_damper_91 : decode cX6_damper 91 = .ok (.getfield 112, 3) := by decide +kernel
theorem dX6_damper_94 : decode cX6_damper 94 = .ok (.iconst 0, 1) := by decide +kernel
theorem dX6_damper_95 : decode cX6_damper 95 = .ok (.bastore, 1) := by decide +kernel
theorem dX6_damper_96 : decode cX6_damper 96 = .ok (.aload_n 0, 1) := by decide +kernel
theorem dX6_damper_97 : decode cX6_damper 97 = .ok (.dup, 1) := by decide +kernel
theorem dX6_damper_98 : decode cX6_damper 98 = .ok (.getfield 112, 3) := by decide +kernel
theorem dX6_damper_101 : decode cX6_damper 101 = .ok (.iconst 1, 1) := by decide +kernel
theorem dX6_damper_102 : decode cX6_damper 102 = .ok (.iadd, 1) := by decide +kernel
theorem dX6_damper_103 : decode cX6_damper 103 = .ok (.putfield 112, 3) := by decide +kernel
theorem dX6_damper_106 : decode cX6_damper 106 = .ok (.aload_n 0, 1) := by decide +kernel
theorem dX6_damper_107 : decode cX6_damper 107 = .ok (.getfield 112, 3) := by decide +kernel
theorem dX6_damper_110 : decode cX6_damper 110 = .ok (.iconst 1, 1) := by decide +kernel
theorem dX6_damper_111 : decode cX6_damper 111 = .ok (.isub, 1) := by decide +kernel
theorem dX6_damper_112 : decode cX6_damper 112 = .ok (.ireturn, 1) := by decide +kernel
theorem dX6_build_0 : decode cX6_build 0 = .ok (.aload_n 0, 1) := by decide +kernel
theorem dX6_build_1 : decode cX6_build 1 = .ok (.iconst 0, 1) := by decide +kernel
theorem dX6_build_2 : decode cX6_build 2 = .ok (.putfield 75, 3) := by decide +kernel
theorem dX6_build_5 : decode cX6_build 5 = .ok (.iload_n 1, 1) := by decide +kernel
theorem dX6_build_6 : decode cX6_build 6 = .ok (.i2l, 1) := by decide +kernel
theorem dX6_build_7 : decode cX6_build 7 = .ok (.lconst 0, 1) := by decide +kernel
theorem dX6_build_8 : decode cX6_build 8 = .ok (.aload_n 0, 1) := by decide +kernel
theorem dX6_build_9 : decode cX6_build 9 = .ok (.getfield 112, 3) := by decide +kernel
theorem dX6_build_12 : decode cX6_build 12 = .ok (.iconst 1, 1) := by decide +kernel
theorem dX6_build_13 : decode cX6_build 13 = .ok (.isub, 1) := by decide +kernel
theorem dX6_build_14 : decode cX6_build 14 = .ok (.i2l, 1) := by decide +kernel
theorem dX6_build_15 : decode cX6_build 15 = .ok (.invokestatic 80, 3) := by decide +kernel
theorem dX6_build_18 : decode cX6_build 18 = .ok (.ifCond .ne 5, 3) := by decide +kernel
theorem dX6_build_21 : decode cX6_build 21 = .ok (.iconst (-1), 1) := by decide +kernel
theorem dX6_build_22 : decode cX6_build 22 = .ok (.ireturn, 1) := by decide +kernel
theorem dX6_build_23 : decode cX6_build 23 = .ok (.aload_n 0, 1) := by decide +kernel
theorem dX6_build_24 : decode cX6_build 24 = .ok (.getfield 47, 3) := by decide +kernel
theorem dX6_build_27 : decode cX6_build 27 = .ok (.iload_n 1, 1) := by decide +kernel
theorem dX6_build_28 : decode cX6_build 28 = .ok (.baload, 1) := by decide +kernel
theorem dX6_build_29 : decode cX6_build 29 = .ok (.ifCond .eq 7, 3) := by decide +kernel
theorem dX6_build_32 : decode cX6_build 32 = .ok (.iconst 1, 1) := by decide +kernel
theorem dX6_build_33 : decode cX6_build 33 = .ok (.goto 4, 3) := by decide +kernel
theorem dX6_build_36 : decode cX6_build 36 = .ok (.iconst 0, 1) := by decide +kernel
theorem dX6_build_37 : decode cX6_build 37 = .ok (.istore_n 3, 1) := by decide +kernel
theorem dX6_build_38 : decode cX6_build 38 = .ok (.aload_n 0, 1) := by decide +kernel
theorem dX6_build_39 : decode cX6_build 39 = .ok (.getfield 47, 3) := by decide +kernel
theorem dX6_build_42 : decode cX6_build 42 = .ok (.iload_n 1, 1) := by decide +kernel
theorem dX6_build_43 : decode cX6_build 43 = .ok (.iload_n 2, 1) := by decide +kernel
theorem dX6_build_44 : decode cX6_build 44 = .ok (.bastore, 1) := by decide +kernel
theorem dX6_build_45 : decode cX6_build 45 = .ok (.iload_n 3, 1) := by decide +kernel
theorem dX6_build_46 : decode cX6_build 46 = .ok (.ireturn, 1) := by decide +kernel
theorem dX6_buy_0 : decode cX6_buy 0 = .ok (.aload_n 0, 1) := by decide +kernel
theorem dX6_buy_1 : decode cX6_buy 1 = .ok (.invokevirtual 130, 3) := by decide +kernel
theorem dX6_buy_4 : decode cX6_buy 4 = .ok (.bipush (-9), 2) := by decide +kernel
theorem dX6_buy_6 : decode cX6_buy 6 = .ok (.istore_n 1, 1) := by decide +kernel
theorem dX6_buy_7 : decode cX6_buy 7 = .ok (.iconst 0, 1) := by decide +kernel
theorem dX6_buy_8 : decode cX6_buy 8 = .ok (.istore_n 2, 1) := by decide +kernel
theorem dX6_buy_9 : decode cX6_buy 9 = .ok (.iconst 1, 1) := by decide +kernel
theorem dX6_buy_10 : decode cX6_buy 10 = .ok (.aload_n 0, 1) := by decide +kernel
theorem dX6_buy_11 : decode cX6_buy 11 = .ok (.getfield 112, 3) := by decide +kernel
theorem dX6_buy_14 : decode cX6_buy 14 = .ok (.ishl, 1) := by decide +kernel
theorem dX6_buy_15 : decode cX6_buy 15 = .ok (.iconst 1, 1) := by decide +kernel
theorem dX6_buy_16 : decode cX6_buy 16 = .ok (.isub, 1) := by decide +kernel
theorem dX6_buy_17 : decode cX6_buy 17 = .ok (.istore_n 3, 1) := by decide +kernel
theorem dX6_buy_18 : decode cX6_buy 18 = .ok (.iload_n 3, 1) := by decide +kernel
theorem dX6_buy_19 : decode cX6_buy 19 = .ok (.ifCond .lt 166, 3) := by decide +kernel
theorem dX6_buy_22 : decode cX6_buy 22 = .ok (.iconst 0, 1) := by decide +kernel
theorem dX6_buy_23 : decode cX6_buy 23 = .ok (.istore 4, 2) := by decide +kernel
theorem dX6_buy_25 : decode cX6_buy 25 = .ok (.iconst 0, 1) := by decide +kernel
theorem dX6_buy_26 : decode cX6_buy 26 = .ok (.istore 5, 2) := by decide +kernel
theorem dX6_buy_28 : decode cX6_buy 28 = .ok (.iconst 0, 1) := by decide +kernel
theorem dX6_buy_29 : decode cX6_buy 29 = .ok (.istore 6, 2) := by decide +kernel
theorem dX6_buy_31 : decode cX6_buy 31 = .ok (.aload_n 0, 1) := by decide +kernel
theorem dX6_buy_32 : decode cX6_buy 32 = .ok (.iconst 0, 1) := by decide +kernel
theorem dX6_buy_33 : decode cX6_buy 33 = .ok (.putfield 109, 3) := by decide +kernel
theorem dX6_buy_36 : decode cX6_buy 36 = .ok (.iconst 0, 1) := by decide +kernel
theorem dX6_buy_37 : decode cX6_buy 37 = .ok (.istore 7, 2) := by decide +kernel
theorem dX6_buy_39 : decode cX6_buy 39 = .ok (.iload 7, 2) := by decide +kernel
theorem dX6_buy_41 : decode cX6_buy 41 = .ok (.aload_n 0, 1) := by decide +kernel
theorem dX6_buy_42 : decode cX6_buy 42 = .ok (.getfield 112, 3) := by decide +kernel
theorem dX6_buy_45 : decode cX6_buy 45 = .ok (.if_icmp .ge 69, 3) := by decide +kernel
theorem dX6_buy_48 : decode cX6_buy 48 = .ok (.iload_n 3, 1) := by decide +kernel
theorem dX6_buy_49 : decode cX6_buy 49 = .ok (.aload_n 0, 1) := by decide +kernel
theorem dX6_buy_50 : decode cX6_buy 50 = .ok (.getfield 112, 3) := by decide +kernel
theorem dX6_buy_53 : decode cX6_buy 53 = .ok (.iconst 1, 1) := by decide +kernel
theorem dX6_buy_54 : decode cX6_buy 54 = .ok (.isub, 1) := by decide +kernel
theorem dX6_buy_55 : decode cX6_buy 55 = .ok (.iload 7, 2) := by decide +kernel
theorem dX6_buy_57 : decode cX6_buy 57 = .ok (.isub, 1) := by decide +kernel
theorem dX6_buy_58 : decode cX6_buy 58 = .ok (.ishr, 1) := by decide +kernel
theorem dX6_buy_59 : decode cX6_buy 59 = .ok (.iconst 1, 1) := by decide +kernel
theorem dX6_buy_60 : decode cX6_buy 60 = .ok (.iand, 1) := by decide +kernel
theorem dX6_buy_61 : decode cX6_buy 61 = .ok (.iconst 1, 1) := by decide +kernel
theorem dX6_buy_62 : decode cX6_buy 62 = .ok (.if_icmp .ne 46, 3) := by decide +kernel
theorem dX6_buy_65 : decode cX6_buy 65 = .ok (.iload 4, 2) := by decide +kernel
theorem dX6_buy_67 : decode cX6_buy 67 = .ok (.aload_n 0, 1) := by decide +kernel
theorem dX6_buy_68 : decode cX6_buy 68 = .ok (.getfield 41, 3) := by decide +kernel
theorem dX6_buy_71 : decode cX6_buy 71 = .ok (.iload 7, 2) := by decide +kernel
theorem dX6_buy_73 : decode cX6_buy 73 = .ok (.iaload, 1) := by decide +kernel
theorem dX6_buy_74 : decode cX6_buy 74 = .ok (.iadd, 1) := by decide +kernel
theorem dX6_buy_75 : decode cX6_buy 75 = .ok (.istore 4, 2) := by decide +kernel
theorem dX6_buy_77 : decode cX6_buy 77 = .ok (.iload 5, 2) := by decide +kernel
theorem dX6_buy_79 : decode cX6_buy 79 = .ok (.aload_n 0, 1) := by decide +kernel
theorem dX6_buy_80 : decode cX6_buy 80 = .ok (.getfield 44, 3) := by decide +kernel
theorem dX6_buy_83 : decode cX6_buy 83 = .ok (.iload 7, 2) := by decide +kernel
theorem dX6_buy_85 : decode cX6_buy 85 = .ok (.iaload, 1) := by decide +kernel
theorem dX6_buy_86 : decode cX6_buy 86 = .ok (.iadd, 1) := by decide +kernel
theorem dX6_buy_87 : decode cX6_buy 87 = .ok (.istore 5, 2) := by decide +kernel
theorem dX6_buy_89 : decode cX6_buy 89 = .ok (.aload_n 0, 1) := by decide +kernel
theorem dX6_buy_90 : decode cX6_buy 90 = .ok (.dup, 1) := by decide +kernel
theorem dX6_buy_91 : decode cX6_buy 91 = .ok (.getfield 109, 3) := by decide +kernel
theorem dX6_buy_94 : decode cX6_buy 94 = .ok (.aload_n 0, 1) := by decide +kernel
theorem dX6_buy_95 : decode cX6_buy 95 = .ok (.getfield 38, 3) := by decide +kernel
theorem dX6_buy_98 : decode cX6_buy 98 = .ok (.iload 7, 2) := by decide +kernel
theorem dX6_buy_100 : decode cX6_buy 100 = .ok (.iaload, 1) := by decide +kernel
theorem dX6_buy_101 : decode cX6_buy 101 = .ok (.iadd, 1) := by decide +kernel
theorem dX6_buy_102 : decode cX6_buy 102 = .ok (.putfield 109, 3) := by decide +kernel
theorem dX6_buy_105 : decode cX6_buy 105 = .ok (.iinc 6 1, 3) := by decide +kernel
theorem dX6_buy_108 : decode cX6_buy 108 = .ok (.iinc 7 1, 3) := by decide +kernel
theorem dX6_buy_111 : decode cX6_buy 111 = .ok (.goto (-72), 3) := by decide +kernel
theorem dX6_buy_114 : decode cX6_buy 114 = .ok (.iload_n 1, 1) := by decide +kernel
theorem dX6_buy_115 : decode cX6_buy 115 = .ok (.bipush (-9), 2) := by decide +kernel
theorem dX6_buy_117 : decode cX6_buy 117 = .ok (.if_icmp .eq 21, 3) := by decide +kernel
theorem dX6_buy_120 : decode cX6_buy 120 = .ok (.iload 4, 2) := by decide +kernel
theorem dX6_buy_122 : decode cX6_buy 122 = .ok (.iload_n 1, 1) := by decide +kernel
theorem dX6_buy_123 : decode cX6_buy 123 = .ok (.if_icmp .lt 15, 3) := by decide +kernel
theorem dX6_buy_126 : decode cX6_buy 126 = .ok (.iload 4, 2) := by decide +kernel
theorem dX6_buy_128 : decode cX6_buy 128 = .ok (.iload_n 1, 1) := by decide +kernel
theorem dX6_buy_129 : decode cX6_buy 129 = .ok (.if_icmp .ne 13, 3) := by decide +kernel
theorem dX6_buy_132 : decode cX6_buy 132 = .ok (.iload 6, 2) := by decide +kernel
theorem dX6_buy_134 : decode cX6_buy 134 = .ok (.iload_n 2, 1) := by decide +kernel
theorem dX6_buy_135 : decode cX6_buy 135 = .ok (.if_icmp .ge 7, 3) := by decide +kernel
theorem dX6_buy_138 : decode cX6_buy 138 = .ok (.iconst 1, 1) := by decide +kernel
theorem dX6_buy_139 : decode cX6_buy 139 = .ok (.goto 4, 3) := by decide +kernel
theorem dX6_buy_142 : decode cX6_buy 142 = .ok (.iconst 0, 1) := by decide +kernel
theorem dX6_buy_143 : decode cX6_buy 143 = .ok (.istore 7, 2) := by decide +kernel
theorem dX6_buy_145 : decode cX6_buy 145 = .ok (.iload 5, 2) := by decide +kernel
theorem dX6_buy_147 : decode cX6_buy 147 = .ok (.aload_n 0, 1) := by decide +kernel
theorem dX6_buy_148 : decode cX6_buy 148 = .ok (.getfield 35, 3) := by decide +kernel
theorem dX6_buy_151 : decode cX6_buy 151 = .ok (.iconst 2, 1) := by decide +kernel
theorem dX6_buy_152 : decode cX6_buy 152 = .ok (.iaload, 1) := by decide +kernel
theorem dX6_buy_153 : decode cX6_buy 153 = .ok (.if_icmp .gt 26, 3) := by decide +kernel
theorem dX6_buy_156 : decode cX6_buy 156 = .ok (.iload 7, 2) := by decide +kernel
theorem dX6_buy_158 : decode cX6_buy 158 = .ok (.ifCond .eq 21, 3) := by decide +kernel
theorem dX6_buy_161 : decode cX6_buy 161 = .ok (.aload_n 0, 1) := by decide +kernel
theorem dX6_buy_162 : decode cX6_buy 162 = .ok (.invokevirtual 152, 3) := by decide +kernel
theorem dX6_buy_165 : decode cX6_buy 165 = .ok (.ifCond .eq 14, 3) := by decide +kernel
theorem dX6_buy_168 : decode cX6_buy 168 = .ok (.iload 4, 2) := by decide +kernel
theorem dX6_buy_170 : decode cX6_buy 170 = .ok (.istore_n 1, 1) := by decide +kernel
theorem dX6_buy_171 : decode cX6_buy 171 = .ok (.iload 6, 2) := by decide +kernel
theorem dX6_buy_173 : decode cX6_buy 173 = .ok (.istore_n 2, 1) := by decide +kernel
theorem dX6_buy_174 : decode cX6_buy 174 = .ok (.aload_n 0, 1) := by decide +kernel
theorem dX6_buy_175 : decode cX6_buy 175 = .ok (.iload_n 3, 1) := by decide +kernel
theorem dX6_buy_176 : decode cX6_buy 176 = .ok (.putfield 158, 3) := by decide +kernel
theorem dX6_buy_179 : decode cX6_buy 179 = .ok (.iinc 3 (-1), 3) := by decide +kernel
theorem dX6_buy_182 : decode cX6_buy 182 = .ok (.goto (-164), 3) := by decide +kernel
theorem dX6_buy_185 : decode cX6_buy 185 = .ok (.iload_n 1, 1) := by decide +kernel
theorem dX6_buy_186 : decode cX6_buy 186 = .ok (.ireturn, 1) := by decide +kernel
theorem dX6_cheapest_0 : decode cX6_cheapest 0 = .ok (.aload_n 0, 1) := by decide +kernel
theorem dX6_cheapest_1 : decode cX6_cheapest 1 = .ok (.iconst 0, 1) := by decide +kernel
theorem dX6_cheapest_2 : decode cX6_cheapest 2 = .ok (.putfield 75, 3) := by decide +kernel
theorem dX6_cheapest_5 : decode cX6_cheapest 5 = .ok (.aload_n 0, 1) := by decide +kernel
theorem dX6_cheapest_6 : decode cX6_cheapest 6 = .ok (.invokevirtual 161, 3) := by decide +kernel
theorem dX6_cheapest_9 : decode cX6_cheapest 9 = .ok (.ireturn, 1) := by decide +kernel
theorem dX6_bought_0 : decode cX6_bought 0 = .ok (.aload_n 0, 1) := by decide +kernel
theorem dX6_bought_1 : decode cX6_bought 1 = .ok (.iconst 0, 1) := by decide +kernel
theorem dX6_bought_2 : decode cX6_bought 2 = .ok (.putfield 75, 3) := by decide +kernel
theorem dX6_bought_5 : decode cX6_bought 5 = .ok (.aload_n 0, 1) := by decide +kernel
theorem dX6_bought_6 : decode cX6_bought 6 = .ok (.invokevirtual 161, 3) := by decide +kernel
theorem dX6_bought_9 : decode cX6_bought 9 = .ok (.bipush (-9), 2) := by decide +kernel
theorem dX6_bought_11 : decode cX6_bought 11 = .ok (.if_icmp .ne 6, 3) := by decide +kernel
theorem dX6_bought_14 : decode cX6_bought 14 = .ok (.bipush (-9), 2) := by decide +kernel
theorem dX6_bought_16 : decode cX6_bought 16 = .ok (.ireturn, 1) := by decide +kernel
theorem dX6_bought_17 : decode cX6_bought 17 = .ok (.iconst 0, 1) := by decide +kernel
theorem dX6_bought_18 : decode cX6_bought 18 = .ok (.istore_n 2, 1) := by decide +kernel
theorem dX6_bought_19 : decode cX6_bought 19 = .ok (.iconst 0, 1) := by decide +kernel
theorem dX6_bought_20 : decode cX6_bought 20 = .ok (.istore_n 3, 1) := by decide +kernel
theorem dX6_bought_21 : decode cX6_bought 21 = .ok (.iload_n 3, 1) := by decide +kernel
theorem dX6_bought_22 : decode cX6_bought 22 = .ok (.aload_n 0, 1) := by decide +kernel
theorem dX6_bought_23 : decode cX6_bought 23 = .ok (.getfield 112, 3) := by decide +kernel
theorem dX6_bought_26 : decode cX6_bought 26 = .ok (.if_icmp .ge 38, 3) := by decide +kernel
theorem dX6_bought_29 : decode cX6_bought 29 = .ok (.aload_n 0, 1) := by decide +kernel
theorem dX6_bought_30 : decode cX6_bought 30 = .ok (.getfield 158, 3) := by decide +kernel
theorem dX6_bought_33 : decode cX6_bought 33 = .ok (.aload_n 0, 1) := by decide +kernel
theorem dX6_bought_34 : decode cX6_bought 34 = .ok (.getfield 112, 3) := by decide +kernel
theorem dX6_bought_37 : decode cX6_bought 37 = .ok (.iconst 1, 1) := by decide +kernel
theorem dX6_bought_38 : decode cX6_bought 38 = .ok (.isub, 1) := by decide +kernel
theorem dX6_bought_39 : decode cX6_bought 39 = .ok (.iload_n 3, 1) := by decide +kernel
theorem dX6_bought_40 : decode cX6_bought 40 = .ok (.isub, 1) := by decide +kernel
theorem dX6_bought_41 : decode cX6_bought 41 = .ok (.ishr, 1) := by decide +kernel
theorem dX6_bought_42 : decode cX6_bought 42 = .ok (.iconst 1, 1) := by decide +kernel
theorem dX6_bought_43 : decode cX6_bought 43 = .ok (.iand, 1) := by decide +kernel
theorem dX6_bought_44 : decode cX6_bought 44 = .ok (.iconst 1, 1) := by decide +kernel
theorem dX6_bought_45 : decode cX6_bought 45 = .ok (.if_icmp .ne 13, 3) := by decide +kernel
theorem dX6_bought_48 : decode cX6_bought 48 = .ok (.iload_n 2, 1) := by decide +kernel
theorem dX6_bought_49 : decode cX6_bought 49 = .ok (.iload_n 1, 1) := by decide +kernel
theorem dX6_bought_50 : decode cX6_bought 50 = .ok (.if_icmp .ne 5, 3) := by decide +kernel
theorem dX6_bought_53 : decode cX6_bought 53 = .ok (.iload_n 3, 1) := by decide +kernel
theorem dX6_bought_54 : decode cX6_bought 54 = .ok (.ireturn, 1) := by decide +kernel
theorem dX6_bought_55 : decode cX6_bought 55 = .ok (.iinc 2 1, 3) := by decide +kernel
theorem dX6_bought_58 : decode cX6_bought 58 = .ok (.iinc 3 1, 3) := by decide +kernel
theorem dX6_bought_61 : decode cX6_bought 61 = .ok (.goto (-40), 3) := by decide +kernel
theorem dX6_bought_64 : decode cX6_bought 64 = .ok (.bipush (-9), 2) := by decide +kernel
theorem dX6_bought_66 : decode cX6_bought 66 = .ok (.ireturn, 1) := by decide +kernel
theorem dX6_way_0 : decode cX6_way 0 = .ok (.aload_n 0, 1) := by decide +kernel
theorem dX6_way_1 : decode cX6_way 1 = .ok (.iconst 0, 1) := by decide +kernel
theorem dX6_way_2 : decode cX6_way 2 = .ok (.putfield 75, 3) := by decide +kernel
theorem dX6_way_5 : decode cX6_way 5 = .ok (.iload_n 1, 1) := by decide +kernel
theorem dX6_way_6 : decode cX6_way 6 = .ok (.iconst 3, 1) := by decide +kernel
theorem dX6_way_7 : decode cX6_way 7 = .ok (.if_icmp .ge 7, 3) := by decide +kernel
theorem dX6_way_10 : decode cX6_way 10 = .ok (.iconst 1, 1) := by decide +kernel
theorem dX6_way_11 : decode cX6_way 11 = .ok (.goto 4, 3) := by decide +kernel
theorem dX6_way_14 : decode cX6_way 14 = .ok (.iconst 0, 1) := by decide +kernel
theorem dX6_way_15 : decode cX6_way 15 = .ok (.istore_n 3, 1) := by decide +kernel
theorem dX6_way_16 : decode cX6_way 16 = .ok (.iload_n 1, 1) := by decide +kernel
theorem dX6_way_17 : decode cX6_way 17 = .ok (.ifCond .ne 8, 3) := by decide +kernel
theorem dX6_way_20 : decode cX6_way 20 = .ok (.bipush 8, 2) := by decide +kernel
theorem dX6_way_22 : decode cX6_way 22 = .ok (.goto 26, 3) := by decide +kernel
theorem dX6_way_25 : decode cX6_way 25 = .ok (.iload_n 1, 1) := by decide +kernel
theorem dX6_way_26 : decode cX6_way 26 = .ok (.iconst 4, 1) := by decide +kernel
theorem dX6_way_27 : decode cX6_way 27 = .ok (.if_icmp .ne 9, 3) := by decide +kernel
theorem dX6_way_30 : decode cX6_way 30 = .ok (.sipush 999, 3) := by decide +kernel
theorem dX6_way_33 : decode cX6_way 33 = .ok (.goto 15, 3) := by decide +kernel
theorem dX6_way_36 : decode cX6_way 36 = .ok (.iload_n 1, 1) := by decide +kernel
theorem dX6_way_37 : decode cX6_way 37 = .ok (.iconst 5, 1) := by decide +kernel
theorem dX6_way_38 : decode cX6_way 38 = .ok (.if_icmp .ne 8, 3) := by decide +kernel
theorem dX6_way_41 : decode cX6_way 41 = .ok (.bipush 9, 2) := by decide +kernel
theorem dX6_way_43 : decode cX6_way 43 = .ok (.goto 5, 3) := by decide +kernel
theorem dX6_way_46 : decode cX6_way 46 = .ok (.bipush 99, 2) := by decide +kernel
theorem dX6_way_48 : decode cX6_way 48 = .ok (.istore 4, 2) := by decide +kernel
theorem dX6_way_50 : decode cX6_way 50 = .ok (.iload_n 1, 1) := by decide +kernel
theorem dX6_way_51 : decode cX6_way 51 = .ok (.i2l, 1) := by decide +kernel
theorem dX6_way_52 : decode cX6_way 52 = .ok (.lconst 0, 1) := by decide +kernel
theorem dX6_way_53 : decode cX6_way 53 = .ok (.ldc2_w 78, 3) := by decide +kernel
theorem dX6_way_56 : decode cX6_way 56 = .ok (.invokestatic 80, 3) := by decide +kernel
theorem dX6_way_59 : decode cX6_way 59 = .ok (.ifCond .eq 16, 3) := by decide +kernel
theorem dX6_way_62 : decode cX6_way 62 = .ok (.iload_n 2, 1) := by decide +kernel
theorem dX6_way_63 : decode cX6_way 63 = .ok (.i2l, 1) := by decide +kernel
theorem dX6_way_64 : decode cX6_way 64 = .ok (.iload_n 3, 1) := by decide +kernel
theorem dX6_way_65 : decode cX6_way 65 = .ok (.i2l, 1) := by decide +kernel
theorem dX6_way_66 : decode cX6_way 66 = .ok (.iload 4, 2) := by decide +kernel
theorem dX6_way_68 : decode cX6_way 68 = .ok (.i2l, 1) := by decide +kernel
theorem dX6_way_69 : decode cX6_way 69 = .ok (.invokestatic 80, 3) := by decide +kernel
theorem dX6_way_72 : decode cX6_way 72 = .ok (.ifCond .ne 6, 3) := by decide +kernel
theorem dX6_way_75 : decode cX6_way 75 = .ok (.bipush (-2), 2) := by decide +kernel
theorem dX6_way_77 : decode cX6_way 77 = .ok (.ireturn, 1) := by decide +kernel
theorem dX6_way_78 : decode cX6_way 78 = .ok (.aload_n 0, 1) := by decide +kernel
theorem dX6_way_79 : decode cX6_way 79 = .ok (.getfield 54, 3) := by decide +kernel
theorem dX6_way_82 : decode cX6_way 82 = .ok (.iload_n 1, 1) := by decide +kernel
theorem dX6_way_83 : decode cX6_way 83 = .ok (.iaload, 1) := by decide +kernel
theorem dX6_way_84 : decode cX6_way 84 = .ok (.istore 5, 2) := by decide +kernel
theorem dX6_way_86 : decode cX6_way 86 = .ok (.aload_n 0, 1) := by decide +kernel
theorem dX6_way_87 : decode cX6_way 87 = .ok (.getfield 54, 3) := by decide +kernel
theorem dX6_way_90 : decode cX6_way 90 = .ok (.iload_n 1, 1) := by decide +kernel
theorem dX6_way_91 : decode cX6_way 91 = .ok (.iload_n 2, 1) := by decide +kernel
theorem dX6_way_92 : decode cX6_way 92 = .ok (.iastore, 1) := by decide +kernel
theorem dX6_way_93 : decode cX6_way 93 = .ok (.iload 5, 2) := by decide +kernel
theorem dX6_way_95 : decode cX6_way 95 = .ok (.ireturn, 1) := by decide +kernel
theorem dX6_arrive_0 : decode cX6_arrive 0 = .ok (.aload_n 0, 1) := by decide +kernel
theorem dX6_arrive_1 : decode cX6_arrive 1 = .ok (.iconst 0, 1) := by decide +kernel
theorem dX6_arrive_2 : decode cX6_arrive 2 = .ok (.putfield 75, 3) := by decide +kernel
theorem dX6_arrive_5 : decode cX6_arrive 5 = .ok (.iload_n 1, 1) := by decide +kernel
theorem dX6_arrive_6 : decode cX6_arrive 6 = .ok (.i2l, 1) := by decide +kernel
theorem dX6_arrive_7 : decode cX6_arrive 7 = .ok (.lconst 0, 1) := by decide +kernel
theorem dX6_arrive_8 : decode cX6_arrive 8 = .ok (.ldc2_w 165, 3) := by decide +kernel
theorem dX6_arrive_11 : decode cX6_arrive 11 = .ok (.invokestatic 80, 3) := by decide +kernel
theorem dX6_arrive_14 : decode cX6_arrive 14 = .ok (.ifCond .eq 15, 3) := by decide +kernel
theorem dX6_arrive_17 : decode cX6_arrive 17 = .ok (.iload_n 2, 1) := by decide +kernel
theorem dX6_arrive_18 : decode cX6_arrive 18 = .ok (.i2l, 1) := by decide +kernel
theorem dX6_arrive_19 : decode cX6_arrive 19 = .ok (.lconst 0, 1) := by decide +kernel
theorem dX6_arrive_20 : decode cX6_arrive 20 = .ok (.ldc2_w 86, 3) := by decide +kernel
theorem dX6_arrive_23 : decode cX6_arrive 23 = .ok (.invokestatic 80, 3) := by decide +kernel
theorem dX6_arrive_26 : decode cX6_arrive 26 = .ok (.ifCond .ne 6, 3) := by decide +kernel
theorem dX6_arrive_29 : decode cX6_arrive 29 = .ok (.bipush (-2), 2) := by decide +kernel
theorem dX6_arrive_31 : decode cX6_arrive 31 = .ok (.ireturn, 1) := by decide +kernel
theorem dX6_arrive_32 : decode cX6_arrive 32 = .ok (.aload_n 0, 1) := by decide +kernel
theorem dX6_arrive_33 : decode cX6_arrive 33 = .ok (.getfield 57, 3) := by decide +kernel
theorem dX6_arrive_36 : decode cX6_arrive 36 = .ok (.iload_n 1, 1) := by decide +kernel
theorem dX6_arrive_37 : decode cX6_arrive 37 = .ok (.iaload, 1) := by decide +kernel
theorem dX6_arrive_38 : decode cX6_arrive 38 = .ok (.istore_n 3, 1) := by decide +kernel
theorem dX6_arrive_39 : decode cX6_arrive 39 = .ok (.aload_n 0, 1) := by decide +kernel
theorem dX6_arrive_40 : decode cX6_arrive 40 = .ok (.getfield 57, 3) := by decide +kernel
theorem dX6_arrive_43 : decode cX6_arrive 43 = .ok (.iload_n 1, 1) := by decide +kernel
theorem dX6_arrive_44 : decode cX6_arrive 44 = .ok (.iload_n 2, 1) := by decide +kernel
theorem dX6_arrive_45 : decode cX6_arrive 45 = .ok (.iastore, 1) := by decide +kernel
theorem dX6_arrive_46 : decode cX6_arrive 46 = .ok (.iload_n 3, 1) := by decide +kernel
theorem dX6_arrive_47 : decode cX6_arrive 47 = .ok (.ireturn, 1) := by decide +kernel
theorem dX6_onBridge_0 : decode cX6_onBridge 0 = .ok (.iconst 0, 1) := by decide +kernel
theorem dX6_onBridge_1 : decode cX6_onBridge 1 = .ok (.istore_n 1, 1) := by decide +kernel
theorem dX6_onBridge_2 : decode cX6_onBridge 2 = .ok (.iconst 0, 1) := by decide +kernel
theorem dX6_onBridge_3 : decode cX6_onBridge 3 = .ok (.istore_n 2, 1) := by decide +kernel
theorem dX6_onBridge_4 : decode cX6_onBridge 4 = .ok (.iload_n 2, 1) := by decide +kernel
theorem dX6_onBridge_5 : decode cX6_onBridge 5 = .ok (.aload_n 0, 1) := by decide +kernel
theorem dX6_onBridge_6 : decode cX6_onBridge 6 = .ok (.getfield 54, 3) := by decide +kernel
theorem dX6_onBridge_9 : decode cX6_onBridge 9 = .ok (.iconst 0, 1) := by decide +kernel
theorem dX6_onBridge_10 : decode cX6_onBridge 10 = .ok (.iaload, 1) := by decide +kernel
theorem dX6_onBridge_11 : decode cX6_onBridge 11 = .ok (.if_icmp .ge 18, 3) := by decide +kernel
theorem dX6_onBridge_14 : decode cX6_onBridge 14 = .ok (.iload_n 1, 1) := by decide +kernel
theorem dX6_onBridge_15 : decode cX6_onBridge 15 = .ok (.aload_n 0, 1) := by decide +kernel
theorem dX6_onBridge_16 : decode cX6_onBridge 16 = .ok (.getfield 60, 3) := by decide +kernel
theorem dX6_onBridge_19 : decode cX6_onBridge 19 = .ok (.iload_n 2, 1) := by decide +kernel
theorem dX6_onBridge_20 : decode cX6_onBridge 20 = .ok (.iaload, 1) := by decide +kernel
theorem dX6_onBridge_21 : decode cX6_onBridge 21 = .ok (.iadd, 1) := by decide +kernel
theorem dX6_onBridge_22 : decode cX6_onBridge 22 = .ok (.istore_n 1, 1) := by decide +kernel
theorem dX6_onBridge_23 : decode cX6_onBridge 23 = .ok (.iinc 2 1, 3) := by decide +kernel
theorem dX6_onBridge_26 : decode cX6_onBridge 26 = .ok (.goto (-22), 3) := by decide +kernel
theorem dX6_onBridge_29 : decode cX6_onBridge 29 = .ok (.iload_n 1, 1) := by decide +kernel
theorem dX6_onBridge_30 : decode cX6_onBridge 30 = .ok (.ireturn, 1) := by decide +kernel
theorem dX6_live_0 : decode cX6_live 0 = .ok (.aload_n 0, 1) := by decide +kernel
theorem dX6_live_1 : decode cX6_live 1 = .ok (.invokevirtual 130, 3) := by decide +kernel
theorem dX6_live_4 : decode cX6_live 4 = .ok (.aload_n 0, 1) := by decide +kernel
theorem dX6_live_5 : decode cX6_live 5 = .ok (.iconst 0, 1) := by decide +kernel
theorem dX6_live_6 : decode cX6_live 6 = .ok (.putfield 167, 3) := by decide +kernel
theorem dX6_live_9 : decode cX6_live 9 = .ok (.aload_n 0, 1) := by decide +kernel
theorem dX6_live_10 : decode cX6_live 10 = .ok (.iconst 0, 1) := by decide +kernel
theorem dX6_live_11 : decode cX6_live 11 = .ok (.putfield 170, 3) := by decide +kernel
theorem dX6_live_14 : decode cX6_live 14 = .ok (.aload_n 0, 1) := by decide +kernel
theorem dX6_live_15 : decode cX6_live 15 = .ok (.aload_n 0, 1) := by decide +kernel
theorem dX6_live_16 : decode cX6_live 16 = .ok (.getfield 35, 3) := by decide +kernel
theorem dX6_live_19 : decode cX6_live 19 = .ok (.iconst 1, 1) := by decide +kernel
theorem dX6_live_20 : decode cX6_live 20 = .ok (.iaload, 1) := by decide +kernel
theorem dX6_live_21 : decode cX6_live 21 = .ok (.putfield 173, 3) := by decide +kernel
theorem dX6_live_24 : decode cX6_live 24 = .ok (.aload_n 0, 1) := by decide +kernel
theorem dX6_live_25 : decode cX6_live 25 = .ok (.iconst 0, 1) := by decide +kernel
theorem dX6_live_26 : decode cX6_live 26 = .ok (.putfield 176, 3) := by decide +kernel
theorem dX6_live_29 : decode cX6_live 29 = .ok (.aload_n 0, 1) := by decide +kernel
theorem dX6_live_30 : decode cX6_live 30 = .ok (.iconst 0, 1) := by decide +kernel
theorem dX6_live_31 : decode cX6_live 31 = .ok (.putfield 179, 3) := by decide +kernel
theorem dX6_live_34 : decode cX6_live 34 = .ok (.iconst 0, 1) := by decide +kernel
theorem dX6_live_35 : decode cX6_live 35 = .ok (.istore_n 3, 1) := by decide +kernel
theorem dX6_live_36 : decode cX6_live 36 = .ok (.iload_n 3, 1) := by decide +kernel
theorem dX6_live_37 : decode cX6_live 37 = .ok (.bipush 8, 2) := by decide +kernel
theorem dX6_live_39 : decode cX6_live 39 = .ok (.if_icmp .ge 16, 3) := by decide +kernel
theorem dX6_live_42 : decode cX6_live 42 = .ok (.aload_n 0, 1) := by decide +kernel
theorem dX6_live_43 : decode cX6_live 43 = .ok (.getfield 60, 3) := by decide +kernel
theorem dX6_live_46 : decode cX6_live 46 = .ok (.iload_n 3, 1) := by decide +kernel
theorem dX6_live_47 : decode cX6_live 47 = .ok (.iconst 0, 1) := by decide +kernel
theorem dX6_live_48 : decode cX6_live 48 = .ok (.iastore, 1) := by decide +kernel
theorem dX6_live_49 : decode cX6_live 49 = .ok (.iinc 3 1, 3) := by decide +kernel
theorem dX6_live_52 : decode cX6_live 52 = .ok (.goto (-16), 3) := by decide +kernel
theorem dX6_live_55 : decode cX6_live 55 = .ok (.iconst 0, 1) := by decide +kernel
theorem dX6_live_56 : decode cX6_live 56 = .ok (.istore_n 3, 1) := by decide +kernel
theorem dX6_live_57 : decode cX6_live 57 = .ok (.iload_n 3, 1) := by decide +kernel
theorem dX6_live_58 : decode cX6_live 58 = .ok (.iconst 4, 1) := by decide +kernel
theorem dX6_live_59 : decode cX6_live 59 = .ok (.if_icmp .ge 16, 3) := by decide +kernel
theorem dX6_live_62 : decode cX6_live 62 = .ok (.aload_n 0, 1) := by decide +kernel
theorem dX6_live_63 : decode cX6_live 63 = .ok (.getfield 32, 3) := by decide +kernel
theorem dX6_live_66 : decode cX6_live 66 = .ok (.iload_n 3, 1) := by decide +kernel
theorem dX6_live_67 : decode cX6_live 67 = .ok (.iconst 0, 1) := by decide +kernel
theorem dX6_live_68 : decode cX6_live 68 = .ok (.iastore, 1) := by decide +kernel
theorem dX6_live_69 : decode cX6_live 69 = .ok (.iinc 3 1, 3) := by decide +kernel
theorem dX6_live_72 : decode cX6_live 72 = .ok (.goto (-15), 3) := by decide +kernel
theorem dX6_live_75 : decode cX6_live 75 = .ok (.aload_n 0, 1) := by decide +kernel
theorem dX6_live_76 : decode cX6_live 76 = .ok (.getfield 54, 3) := by decide +kernel
theorem dX6_live_79 : decode cX6_live 79 = .ok (.iconst 0, 1) := by decide +kernel
theorem dX6_live_80 : decode cX6_live 80 = .ok (.iaload, 1) := by decide +kernel
theorem dX6_live_81 : decode cX6_live 81 = .ok (.iconst 1, 1) := by decide +kernel
theorem dX6_live_82 : decode cX6_live 82 = .ok (.isub, 1) := by decide +kernel
theorem dX6_live_83 : decode cX6_live 83 = .ok (.istore_n 3, 1) := by decide +kernel
theorem dX6_live_84 : decode cX6_live 84 = .ok (.iconst 0, 1) := by decide +kernel
theorem dX6_live_85 : decode cX6_live 85 = .ok (.istore 4, 2) := by decide +kernel
theorem dX6_live_87 : decode cX6_live 87 = .ok (.iload 4, 2) := by decide +kernel
theorem dX6_live_89 : decode cX6_live 89 = .ok (.iload_n 1, 1) := by decide +kernel
theorem dX6_live_90 : decode cX6_live 90 = .ok (.if_icmp .ge 382, 3) := by decide +kernel
theorem dX6_live_93 : decode cX6_live 93 = .ok (.aload_n 0, 1) := by decide +kernel
theorem dX6_live_94 : decode cX6_live 94 = .ok (.dup, 1) := by decide +kernel
theorem dX6_live_95 : decode cX6_live 95 = .ok (.getfield 170, 3) := by decide +kernel
theorem dX6_live_98 : decode cX6_live 98 = .ok (.aload_n 0, 1) := by decide +kernel
theorem dX6_live_99 : decode cX6_live 99 = .ok (.getfield 57, 3) := by decide +kernel
theorem dX6_live_102 : decode cX6_live 102 = .ok (.iload 4, 2) := by decide +kernel
theorem dX6_live_104 : decode cX6_live 104 = .ok (.iaload, 1) := by decide +kernel
theorem dX6_live_105 : decode cX6_live 105 = .ok (.iadd, 1) := by decide +kernel
theorem dX6_live_106 : decode cX6_live 106 = .ok (.putfield 170, 3) := by decide +kernel
theorem dX6_live_109 : decode cX6_live 109 = .ok (.iload_n 3, 1) := by decide +kernel
theorem dX6_live_110 : decode cX6_live 110 = .ok (.istore 5, 2) := by decide +kernel
theorem dX6_live_112 : decode cX6_live 112 = .ok (.iload 5, 2) := by decide +kernel
theorem dX6_live_114 : decode cX6_live 114 = .ok (.ifCond .lt 130, 3) := by decide +kernel
theorem dX6_live_117 : decode cX6_live 117 = .ok (.aload_n 0, 1) := by decide +kernel
theorem dX6_live_118 : decode cX6_live 118 = .ok (.getfield 60, 3) := by decide +kernel
theorem dX6_live_121 : decode cX6_live 121 = .ok (.iload 5, 2) := by decide +kernel
theorem dX6_live_123 : decode cX6_live 123 = .ok (.iaload, 1) := by decide +kernel
theorem dX6_live_124 : decode cX6_live 124 = .ok (.aload_n 0, 1) := by decide +kernel
theorem dX6_live_125 : decode cX6_live 125 = .ok (.getfield 54, 3) := by decide +kernel
theorem dX6_live_128 : decode cX6_live 128 = .ok (.iconst 2, 1) := by decide +kernel
theorem dX6_live_129 : decode cX6_live 129 = .ok (.iaload, 1) := by decide +kernel
theorem dX6_live_130 : decode cX6_live 130 = .ok (.invokestatic 119, 3) := by decide +kernel
theorem dX6_live_133 : decode cX6_live 133 = .ok (.istore 6, 2) := by decide +kernel
theorem dX6_live_135 : decode cX6_live 135 = .ok (.iload 5, 2) := by decide +kernel
theorem dX6_live_137 : decode cX6_live 137 = .ok (.iload_n 3, 1) := by decide +kernel
theorem dX6_live_138 : decode cX6_live 138 = .ok (.if_icmp .ne 8, 3) := by decide +kernel
theorem dX6_live_141 : decode cX6_live 141 = .ok (.iload 6, 2) := by decide +kernel
theorem dX6_live_143 : decode cX6_live 143 = .ok (.goto 47, 3) := by decide +kernel
theorem dX6_live_146 : decode cX6_live 146 = .ok (.iload 6, 2) := by decide +kernel
theorem dX6_live_148 : decode cX6_live 148 = .ok (.aload_n 0, 1) := by decide +kernel
theorem dX6_live_149 : decode cX6_live 149 = .ok (.getfield 54, 3) := by decide +kernel
theorem dX6_live_152 : decode cX6_live 152 = .ok (.iconst 1, 1) := by decide +kernel
theorem dX6_live_153 : decode cX6_live 153 = .ok (.iaload, 1) := by decide +kernel
theorem dX6_live_154 : decode cX6_live 154 = .ok (.aload_n 0, 1) := by decide +kernel
theorem dX6_live_155 : decode cX6_live 155 = .ok (.getfield 60, 3) := by decide +kernel
theorem dX6_live_158 : decode cX6_live 158 = .ok (.iload 5, 2) := by decide +kernel
theorem dX6_live_160 : decode cX6_live 160 = .ok (.iconst 1, 1) := by decide +kernel
theorem dX6_live_161 : decode cX6_live 161 = .ok (.iadd, 1) := by decide +kernel
theorem dX6_live_162 : decode cX6_live 162 = .ok (.iaload, 1) := by decide +kernel
theorem dX6_live_163 : decode cX6_live 163 = .ok (.isub, 1) := by decide +kernel
theorem dX6_live_164 : decode cX6_live 164 = .ok (.ifCond .le 22, 3) := by decide +kernel
theorem dX6_live_167 : decode cX6_live 167 = .ok (.aload_n 0, 1) := by decide +kernel
theorem dX6_live_168 : decode cX6_live 168 = .ok (.getfield 54, 3) := by decide +kernel
theorem dX6_live_171 : decode cX6_live 171 = .ok (.iconst 1, 1) := by decide +kernel
theorem dX6_live_172 : decode cX6_live 172 = .ok (.iaload, 1) := by decide +kernel
theorem dX6_live_173 : decode cX6_live 173 = .ok (.aload_n 0, 1) := by decide +kernel
theorem dX6_live_174 : decode cX6_live 174 = .ok (.getfield 60, 3) := by decide +kernel
theorem dX6_live_177 : decode cX6_live 177 = .ok (.iload 5, 2) := by decide +kernel
theorem dX6_live_179 : decode cX6_live 179 = .ok (.iconst 1, 1) := by decide +kernel
theorem dX6_live_180 : decode cX6_live 180 = .ok (.iadd, 1) := by decide +kernel
theorem dX6_live_181 : decode cX6_live 181 = .ok (.iaload, 1) := by decide +kernel
theorem dX6_live_182 : decode cX6_live 182 = .ok (.isub, 1) := by decide +kernel
theorem dX6_live_183 : decode cX6_live 183 = .ok (.goto 4, 3) := by decide +kernel
theorem dX6_live_186 : decode cX6_live 186 = .ok (.iconst 0, 1) := by decide +kernel
theorem dX6_live_187 : decode cX6_live 187 = .ok (.invokestatic 119, 3) := by decide +kernel
theorem dX6_live_190 : decode cX6_live 190 = .ok (.istore 6, 2) := by decide +kernel
theorem dX6_live_192 : decode cX6_live 192 = .ok (.aload_n 0, 1) := by decide +kernel
theorem dX6_live_193 : decode cX6_live 193 = .ok (.getfield 60, 3) := by decide +kernel
theorem dX6_live_196 : decode cX6_live 196 = .ok (.iload 5, 2) := by decide +kernel
theorem dX6_live_198 : decode cX6_live 198 = .ok (.dup2, 1) := by decide +kernel
theorem dX6_live_199 : decode cX6_live 199 = .ok (.iaload, 1) := by decide +kernel
theorem dX6_live_200 : decode cX6_live 200 = .ok (.iload 6, 2) := by decide +kernel
theorem dX6_live_202 : decode cX6_live 202 = .ok (.isub, 1) := by decide +kernel
theorem dX6_live_203 : decode cX6_live 203 = .ok (.iastore, 1) := by decide +kernel
theorem dX6_live_204 : decode cX6_live 204 = .ok (.iload 5, 2) := by decide +kernel
theorem dX6_live_206 : decode cX6_live 206 = .ok (.iload_n 3, 1) := by decide +kernel
theorem dX6_live_207 : decode cX6_live 207 = .ok (.if_icmp .ne 17, 3) := by decide +kernel
theorem dX6_live_210 : decode cX6_live 210 = .ok (.aload_n 0, 1) := by decide +kernel
theorem dX6_live_211 : decode cX6_live 211 = .ok (.dup, 1) := by decide +kernel
theorem dX6_live_212 : decode cX6_live 212 = .ok (.getfield 167, 3) := by decide +kernel
theorem dX6_live_215 : decode cX6_live 215 = .ok (.iload 6, 2) := by decide +kernel
theorem dX6_live_217 : decode cX6_live 217 = .ok (.iadd, 1) := by decide +kernel
theorem dX6_live_218 : decode cX6_live 218 = .ok (.putfield 167, 3) := by decide +kernel
theorem dX6_live_221 : decode cX6_live 221 = .ok (.goto 17, 3) := by decide +kernel
theorem dX6_live_224 : decode cX6_live 224 = .ok (.aload_n 0, 1) := by decide +kernel
theorem dX6_live_225 : decode cX6_live 225 = .ok (.getfield 60, 3) := by decide +kernel
theorem dX6_live_228 : decode cX6_live 228 = .ok (.iload 5, 2) := by decide +kernel
theorem dX6_live_230 : decode cX6_live 230 = .ok (.iconst 1, 1) := by decide +kernel
theorem dX6_live_231 : decode cX6_live 231 = .ok (.iadd, 1) := by decide +kernel
theorem dX6_live_232 : decode cX6_live 232 = .ok (.dup2, 1) := by decide +kernel
theorem dX6_live_233 : decode cX6_live 233 = .ok (.iaload, 1) := by decide +kernel
theorem dX6_live_234 : decode cX6_live 234 = .ok (.iload 6, 2) := by decide +kernel
theorem dX6_live_236 : decode cX6_live 236 = .ok (.iadd, 1) := by decide +kernel
theorem dX6_live_237 : decode cX6_live 237 = .ok (.iastore, 1) := by decide +kernel
theorem dX6_live_238 : decode cX6_live 238 = .ok (.iinc 5 (-1), 3) := by decide +kernel
theorem dX6_live_241 : decode cX6_live 241 = .ok (.goto (-129), 3) := by decide +kernel
theorem dX6_live_244 : decode cX6_live 244 = .ok (.iload 4, 2) := by decide +kernel
theorem dX6_live_246 : decode cX6_live 246 = .ok (.aload_n 0, 1) := by decide +kernel
theorem dX6_live_247 : decode cX6_live 247 = .ok (.getfield 54, 3) := by decide +kernel
theorem dX6_live_250 : decode cX6_live 250 = .ok (.iconst 5, 1) := by decide +kernel
theorem dX6_live_251 : decode cX6_live 251 = .ok (.iaload, 1) := by decide +kernel
theorem dX6_live_252 : decode cX6_live 252 = .ok (.isub, 1) := by decide +kernel
theorem dX6_live_253 : decode cX6_live 253 = .ok (.istore 5, 2) := by decide +kernel
theorem dX6_live_255 : decode cX6_live 255 = .ok (.aload_n 0, 1) := by decide +kernel
theorem dX6_live_256 : decode cX6_live 256 = .ok (.getfield 54, 3) := by decide +kernel
theorem dX6_live_259 : decode cX6_live 259 = .ok (.iconst 5, 1) := by decide +kernel
theorem dX6_live_260 : decode cX6_live 260 = .ok (.iaload, 1) := by decide +kernel
theorem dX6_live_261 : decode cX6_live 261 = .ok (.ifCond .ne 10, 3) := by decide +kernel
theorem dX6_live_264 : decode cX6_live 264 = .ok (.aload_n 0, 1) := by decide +kernel
theorem dX6_live_265 : decode cX6_live 265 = .ok (.invokevirtual 182, 3) := by decide +kernel
theorem dX6_live_268 : decode cX6_live 268 = .ok (.goto 19, 3) := by decide +kernel
theorem dX6_live_271 : decode cX6_live 271 = .ok (.iload 5, 2) := by decide +kernel
theorem dX6_live_273 : decode cX6_live 273 = .ok (.ifCond .ge 7, 3) := by decide +kernel
theorem dX6_live_276 : decode cX6_live 276 = .ok (.iconst 0, 1) := by decide +kernel
theorem dX6_live_277 : decode cX6_live 277 = .ok (.goto 10, 3) := by decide +kernel
theorem dX6_live_280 : decode cX6_live 280 = .ok (.aload_n 0, 1) := by decide +kernel
theorem dX6_live_281 : decode cX6_live 281 = .ok (.getfield 63, 3) := by decide +kernel
theorem dX6_live_284 : decode cX6_live 284 = .ok (.iload 5, 2) := by decide +kernel
theorem dX6_live_286 : decode cX6_live 286 = .ok (.iaload, 1) := by decide +kernel
theorem dX6_live_287 : decode cX6_live 287 = .ok (.istore 6, 2) := by decide +kernel
theorem dX6_live_289 : decode cX6_live 289 = .ok (.iload 6, 2) := by decide +kernel
theorem dX6_live_291 : decode cX6_live 291 = .ok (.iload_n 2, 1) := by decide +kernel
theorem dX6_live_292 : decode cX6_live 292 = .ok (.if_icmp .ge 80, 3) := by decide +kernel
theorem dX6_live_295 : decode cX6_live 295 = .ok (.aload_n 0, 1) := by decide +kernel
theorem dX6_live_296 : decode cX6_live 296 = .ok (.getfield 54, 3) := by decide +kernel
theorem dX6_live_299 : decode cX6_live 299 = .ok (.iconst 1, 1) := by decide +kernel
theorem dX6_live_300 : decode cX6_live 300 = .ok (.iaload, 1) := by decide +kernel
theorem dX6_live_301 : decode cX6_live 301 = .ok (.aload_n 0, 1) := by decide +kernel
theorem dX6_live_302 : decode cX6_live 302 = .ok (.getfield 60, 3) := by decide +kernel
theorem dX6_live_305 : decode cX6_live 305 = .ok (.iconst 0, 1) := by decide +kernel
theorem dX6_live_306 : decode cX6_live 306 = .ok (.iaload, 1) := by decide +kernel
theorem dX6_live_307 : decode cX6_live 307 = .ok (.isub, 1) := by decide +kernel
theorem dX6_live_308 : decode cX6_live 308 = .ok (.ifCond .le 19, 3) := by decide +kernel
theorem dX6_live_311 : decode cX6_live 311 = .ok (.aload_n 0, 1) := by decide +kernel
theorem dX6_live_312 : decode cX6_live 312 = .ok (.getfield 54, 3) := by decide +kernel
theorem dX6_live_315 : decode cX6_live 315 = .ok (.iconst 1, 1) := by decide +kernel
theorem dX6_live_316 : decode cX6_live 316 = .ok (.iaload, 1) := by decide +kernel
theorem dX6_live_317 : decode cX6_live 317 = .ok (.aload_n 0, 1) := by decide +kernel
theorem dX6_live_318 : decode cX6_live 318 = .ok (.getfield 60, 3) := by decide +kernel
theorem dX6_live_321 : decode cX6_live 321 = .ok (.iconst 0, 1) := by decide +kernel
theorem dX6_live_322 : decode cX6_live 322 = .ok (.iaload, 1) := by decide +kernel
theorem dX6_live_323 : decode cX6_live 323 = .ok (.isub, 1) := by decide +kernel
theorem dX6_live_324 : decode cX6_live 324 = .ok (.goto 4, 3) := by decide +kernel
theorem dX6_live_327 : decode cX6_live 327 = .ok (.iconst 0, 1) := by decide +kernel
theorem dX6_live_328 : decode cX6_live 328 = .ok (.istore 7, 2) := by decide +kernel
theorem dX6_live_330 : decode cX6_live 330 = .ok (.aload_n 0, 1) := by decide +kernel
theorem dX6_live_331 : decode cX6_live 331 = .ok (.getfield 170, 3) := by decide +kernel
theorem dX6_live_334 : decode cX6_live 334 = .ok (.aload_n 0, 1) := by decide +kernel
theorem dX6_live_335 : decode cX6_live 335 = .ok (.getfield 54, 3) := by decide +kernel
theorem dX6_live_338 : decode cX6_live 338 = .ok (.iconst 3, 1) := by decide +kernel
theorem dX6_live_339 : decode cX6_live 339 = .ok (.iaload, 1) := by decide +kernel
theorem dX6_live_340 : decode cX6_live 340 = .ok (.invokestatic 119, 3) := by decide +kernel
theorem dX6_live_343 : decode cX6_live 343 = .ok (.iload 7, 2) := by decide +kernel
theorem dX6_live_345 : decode cX6_live 345 = .ok (.invokestatic 119, 3) := by decide +kernel
theorem dX6_live_348 : decode cX6_live 348 = .ok (.istore 8, 2) := by decide +kernel
theorem dX6_live_350 : decode cX6_live 350 = .ok (.aload_n 0, 1) := by decide +kernel
theorem dX6_live_351 : decode cX6_live 351 = .ok (.dup, 1) := by decide +kernel
theorem dX6_live_352 : decode cX6_live 352 = .ok (.getfield 170, 3) := by decide +kernel
theorem dX6_live_355 : decode cX6_live 355 = .ok (.iload 8, 2) := by decide +kernel
theorem dX6_live_357 : decode cX6_live 357 = .ok (.isub, 1) := by decide +kernel
theorem dX6_live_358 : decode cX6_live 358 = .ok (.putfield 170, 3) := by decide +kernel
theorem dX6_live_361 : decode cX6_live 361 = .ok (.aload_n 0, 1) := by decide +kernel
theorem dX6_live_362 : decode cX6_live 362 = .ok (.getfield 60, 3) := by decide +kernel
theorem dX6_live_365 : decode cX6_live 365 = .ok (.iconst 0, 1) := by decide +kernel
theorem dX6_live_366 : decode cX6_live 366 = .ok (.dup2, 1) := by decide +kernel
theorem dX6_live_367 : decode cX6_live 367 = .ok (.iaload, 1) := by decide +kernel
theorem dX6_live_368 : decode cX6_live 368 = .ok (.iload 8, 2) := by decide +kernel
theorem dX6_live_370 : decode cX6_live 370 = .ok (.iadd, 1) := by decide +kernel
theorem dX6_live_371 : decode cX6_live 371 = .ok (.iastore, 1) := by decide +kernel
theorem dX6_live_372 : decode cX6_live 372 = .ok (.aload_n 0, 1) := by decide +kernel
theorem dX6_live_373 : decode cX6_live 373 = .ok (.getfield 63, 3) := by decide +kernel
theorem dX6_live_376 : decode cX6_live 376 = .ok (.iload 4, 2) := by decide +kernel
theorem dX6_live_378 : decode cX6_live 378 = .ok (.aload_n 0, 1) := by decide +kernel
theorem dX6_live_379 : decode cX6_live 379 = .ok (.invokevirtual 182, 3) := by decide +kernel
theorem dX6_live_382 : decode cX6_live 382 = .ok (.iastore, 1) := by decide +kernel
theorem dX6_live_383 : decode cX6_live 383 = .ok (.aload_n 0, 1) := by decide +kernel
theorem dX6_live_384 : decode cX6_live 384 = .ok (.aload_n 0, 1) := by decide +kernel
theorem dX6_live_385 : decode cX6_live 385 = .ok (.getfield 63, 3) := by decide +kernel
theorem dX6_live_388 : decode cX6_live 388 = .ok (.iload 4, 2) := by decide +kernel
theorem dX6_live_390 : decode cX6_live 390 = .ok (.iaload, 1) := by decide +kernel
theorem dX6_live_391 : decode cX6_live 391 = .ok (.aload_n 0, 1) := by decide +kernel
theorem dX6_live_392 : decode cX6_live 392 = .ok (.getfield 179, 3) := by decide +kernel
theorem dX6_live_395 : decode cX6_live 395 = .ok (.if_icmp .le 13, 3) := by decide +kernel
theorem dX6_live_398 : decode cX6_live 398 = .ok (.aload_n 0, 1) := by decide +kernel
theorem dX6_live_399 : decode cX6_live 399 = .ok (.getfield 63, 3) := by decide +kernel
theorem dX6_live_402 : decode cX6_live 402 = .ok (.iload 4, 2) := by decide +kernel
theorem dX6_live_404 : decode cX6_live 404 = .ok (.iaload, 1) := by decide +kernel
theorem dX6_live_405 : decode cX6_live 405 = .ok (.goto 7, 3) := by decide +kernel
theorem dX6_live_408 : decode cX6_live 408 = .ok (.aload_n 0, 1) := by decide +kernel
theorem dX6_live_409 : decode cX6_live 409 = .ok (.getfield 179, 3) := by decide +kernel
theorem dX6_live_412 : decode cX6_live 412 = .ok (.putfield 179, 3) := by decide +kernel
theorem dX6_live_415 : decode cX6_live 415 = .ok (.aload_n 0, 1) := by decide +kernel
theorem dX6_live_416 : decode cX6_live 416 = .ok (.getfield 32, 3) := by decide +kernel
theorem dX6_live_419 : decode cX6_live 419 = .ok (.iconst 0, 1) := by decide +kernel
theorem dX6_live_420 : decode cX6_live 420 = .ok (.aload_n 0, 1) := by decide +kernel
theorem dX6_live_421 : decode cX6_live 421 = .ok (.getfield 63, 3) := by decide +kernel
theorem dX6_live_424 : decode cX6_live 424 = .ok (.iload 4, 2) := by decide +kernel
theorem dX6_live_426 : decode cX6_live 426 = .ok (.iaload, 1) := by decide +kernel
theorem dX6_live_427 : decode cX6_live 427 = .ok (.iastore, 1) := by decide +kernel
theorem dX6_live_428 : decode cX6_live 428 = .ok (.aload_n 0, 1) := by decide +kernel
theorem dX6_live_429 : decode cX6_live 429 = .ok (.aload_n 0, 1) := by decide +kernel
theorem dX6_live_430 : decode cX6_live 430 = .ok (.aload_n 0, 1) := by decide +kernel
theorem dX6_live_431 : decode cX6_live 431 = .ok (.getfield 173, 3) := by decide +kernel
theorem dX6_live_434 : decode cX6_live 434 = .ok (.invokevirtual 136, 3) := by decide +kernel
theorem dX6_live_437 : decode cX6_live 437 = .ok (.putfield 173, 3) := by decide +kernel
theorem dX6_live_440 : decode cX6_live 440 = .ok (.aload_n 0, 1) := by decide +kernel
theorem dX6_live_441 : decode cX6_live 441 = .ok (.aload_n 0, 1) := by decide +kernel
theorem dX6_live_442 : decode cX6_live 442 = .ok (.getfield 173, 3) := by decide +kernel
theorem dX6_live_445 : decode cX6_live 445 = .ok (.aload_n 0, 1) := by decide +kernel
theorem dX6_live_446 : decode cX6_live 446 = .ok (.getfield 176, 3) := by decide +kernel
theorem dX6_live_449 : decode cX6_live 449 = .ok (.if_icmp .le 10, 3) := by decide +kernel
theorem dX6_live_452 : decode cX6_live 452 = .ok (.aload_n 0, 1) := by decide +kernel
theorem dX6_live_453 : decode cX6_live 453 = .ok (.getfield 173, 3) := by decide +kernel
theorem dX6_live_456 : decode cX6_live 456 = .ok (.goto 7, 3) := by decide +kernel
theorem dX6_live_459 : decode cX6_live 459 = .ok (.aload_n 0, 1) := by decide +kernel
theorem dX6_live_460 : decode cX6_live 460 = .ok (.getfield 176, 3) := by decide +kernel
theorem dX6_live_463 : decode cX6_live 463 = .ok (.putfield 176, 3) := by decide +kernel
theorem dX6_live_466 : decode cX6_live 466 = .ok (.iinc 4 1, 3) := by decide +kernel
theorem dX6_live_469 : decode cX6_live 469 = .ok (.goto (-382), 3) := by decide +kernel
theorem dX6_live_472 : decode cX6_live 472 = .ok (.return_, 1) := by decide +kernel
theorem dX6_day_0 : decode cX6_day 0 = .ok (.aload_n 0, 1) := by decide +kernel
theorem dX6_day_1 : decode cX6_day 1 = .ok (.iconst 0, 1) := by decide +kernel
theorem dX6_day_2 : decode cX6_day 2 = .ok (.putfield 75, 3) := by decide +kernel
theorem dX6_day_5 : decode cX6_day 5 = .ok (.iload_n 1, 1) := by decide +kernel
theorem dX6_day_6 : decode cX6_day 6 = .ok (.i2l, 1) := by decide +kernel
theorem dX6_day_7 : decode cX6_day 7 = .ok (.lconst 1, 1) := by decide +kernel
theorem dX6_day_8 : decode cX6_day 8 = .ok (.ldc2_w 185, 3) := by decide +kernel
theorem dX6_day_11 : decode cX6_day 11 = .ok (.invokestatic 80, 3) := by decide +kernel
theorem dX6_day_14 : decode cX6_day 14 = .ok (.ifCond .eq 15, 3) := by decide +kernel
theorem dX6_day_17 : decode cX6_day 17 = .ok (.iload_n 2, 1) := by decide +kernel
theorem dX6_day_18 : decode cX6_day 18 = .ok (.i2l, 1) := by decide +kernel
theorem dX6_day_19 : decode cX6_day 19 = .ok (.lconst 0, 1) := by decide +kernel
theorem dX6_day_20 : decode cX6_day 20 = .ok (.ldc2_w 78, 3) := by decide +kernel
theorem dX6_day_23 : decode cX6_day 23 = .ok (.invokestatic 80, 3) := by decide +kernel
theorem dX6_day_26 : decode cX6_day 26 = .ok (.ifCond .ne 6, 3) := by decide +kernel
theorem dX6_day_29 : decode cX6_day 29 = .ok (.bipush (-2), 2) := by decide +kernel
theorem dX6_day_31 : decode cX6_day 31 = .ok (.ireturn, 1) := by decide +kernel
theorem dX6_day_32 : decode cX6_day 32 = .ok (.aload_n 0, 1) := by decide +kernel
theorem dX6_day_33 : decode cX6_day 33 = .ok (.iload_n 1, 1) := by decide +kernel
theorem dX6_day_34 : decode cX6_day 34 = .ok (.aload_n 0, 1) := by decide +kernel
theorem dX6_day_35 : decode cX6_day 35 = .ok (.getfield 54, 3) := by decide +kernel
theorem dX6_day_38 : decode cX6_day 38 = .ok (.iconst 4, 1) := by decide +kernel
theorem dX6_day_39 : decode cX6_day 39 = .ok (.iaload, 1) := by decide +kernel
theorem dX6_day_40 : decode cX6_day 40 = .ok (.invokevirtual 187, 3) := by decide +kernel
theorem dX6_day_43 : decode cX6_day 43 = .ok (.iload_n 2, 1) := by decide +kernel
theorem dX6_day_44 : decode cX6_day 44 = .ok (.tableswitch 61 0 4 #[36, 41, 46, 51, 56], 36) := by decide +kernel
theorem dX6_day_80 : decode cX6_day 80 = .ok (.aload_n 0, 1) := by decide +kernel
theorem dX6_day_81 : decode cX6_day 81 = .ok (.getfield 167, 3) := by decide +kernel
theorem dX6_day_84 : decode cX6_day 84 = .ok (.ireturn, 1) := by decide +kernel
theorem dX6_day_85 : decode cX6_day 85 = .ok (.aload_n 0, 1) := by decide +kernel
theorem dX6_day_86 : decode cX6_day 86 = .ok (.invokevirtual 182, 3) := by decide +kernel
theorem dX6_day_89 : decode cX6_day 89 = .ok (.ireturn, 1) := by decide +kernel
theorem dX6_day_90 : decode cX6_day 90 = .ok (.aload_n 0, 1) := by decide +kernel
theorem dX6_day_91 : decode cX6_day 91 = .ok (.getfield 170, 3) := by decide +kernel
theorem dX6_day_94 : decode cX6_day 94 = .ok (.ireturn, 1) := by decide +kernel
theorem dX6_day_95 : decode cX6_day 95 = .ok (.aload_n 0, 1) := by decide +kernel
theorem dX6_day_96 : decode cX6_day 96 = .ok (.getfield 173, 3) := by decide +kernel
theorem dX6_day_99 : decode cX6_day 99 = .ok (.ireturn, 1) := by decide +kernel
theorem dX6_day_100 : decode cX6_day 100 = .ok (.aload_n 0, 1) := by decide +kernel
theorem dX6_day_101 : decode cX6_day 101 = .ok (.getfield 176, 3) := by decide +kernel
theorem dX6_day_104 : decode cX6_day 104 = .ok (.ireturn, 1) := by decide +kernel
theorem dX6_day_105 : decode cX6_day 105 = .ok (.aload_n 0, 1) := by decide +kernel
theorem dX6_day_106 : decode cX6_day 106 = .ok (.getfield 179, 3) := by decide +kernel
theorem dX6_day_109 : decode cX6_day 109 = .ok (.ireturn, 1) := by decide +kernel
theorem dX6_on_0 : decode cX6_on 0 = .ok (.aload_n 0, 1) := by decide +kernel
theorem dX6_on_1 : decode cX6_on 1 = .ok (.iconst 0, 1) := by decide +kernel
theorem dX6_on_2 : decode cX6_on 2 = .ok (.putfield 75, 3) := by decide +kernel
theorem dX6_on_5 : decode cX6_on 5 = .ok (.iload_n 1, 1) := by decide +kernel
theorem dX6_on_6 : decode cX6_on 6 = .ok (.i2l, 1) := by decide +kernel
theorem dX6_on_7 : decode cX6_on 7 = .ok (.lconst 1, 1) := by decide +kernel
theorem dX6_on_8 : decode cX6_on 8 = .ok (.ldc2_w 185, 3) := by decide +kernel
theorem dX6_on_11 : decode cX6_on 11 = .ok (.invokestatic 80, 3) := by decide +kernel
theorem dX6_on_14 : decode cX6_on 14 = .ok (.ifCond .ne 6, 3) := by decide +kernel
theorem dX6_on_17 : decode cX6_on 17 = .ok (.bipush (-2), 2) := by decide +kernel
theorem dX6_on_19 : decode cX6_on 19 = .ok (.ireturn, 1) := by decide +kernel
theorem dX6_on_20 : decode cX6_on 20 = .ok (.iload_n 2, 1) := by decide +kernel
theorem dX6_on_21 : decode cX6_on 21 = .ok (.i2l, 1) := by decide +kernel
theorem dX6_on_22 : decode cX6_on 22 = .ok (.lconst 0, 1) := by decide +kernel
theorem dX6_on_23 : decode cX6_on 23 = .ok (.aload_n 0, 1) := by decide +kernel
theorem dX6_on_24 : decode cX6_on 24 = .ok (.getfield 54, 3) := by decide +kernel
theorem dX6_on_27 : decode cX6_on 27 = .ok (.iconst 0, 1) := by decide +kernel
theorem dX6_on_28 : decode cX6_on 28 = .ok (.iaload, 1) := by decide +kernel
theorem dX6_on_29 : decode cX6_on 29 = .ok (.iconst 1, 1) := by decide +kernel
theorem dX6_on_30 : decode cX6_on 30 = .ok (.isub, 1) := by decide +kernel
theorem dX6_on_31 : decode cX6_on 31 = .ok (.i2l, 1) := by decide +kernel
theorem dX6_on_32 : decode cX6_on 32 = .ok (.invokestatic 80, 3) := by decide +kernel
theorem dX6_on_35 : decode cX6_on 35 = .ok (.ifCond .ne 5, 3) := by decide +kernel
theorem dX6_on_38 : decode cX6_on 38 = .ok (.iconst (-1), 1) := by decide +kernel
theorem dX6_on_39 : decode cX6_on 39 = .ok (.ireturn, 1) := by decide +kernel
theorem dX6_on_40 : decode cX6_on 40 = .ok (.aload_n 0, 1) := by decide +kernel
theorem dX6_on_41 : decode cX6_on 41 = .ok (.iload_n 1, 1) := by decide +kernel
theorem dX6_on_42 : decode cX6_on 42 = .ok (.aload_n 0, 1) := by decide +kernel
theorem dX6_on_43 : decode cX6_on 43 = .ok (.getfield 54, 3) := by decide +kernel
theorem dX6_on_46 : decode cX6_on 46 = .ok (.iconst 4, 1) := by decide +kernel
theorem dX6_on_47 : decode cX6_on 47 = .ok (.iaload, 1) := by decide +kernel
theorem dX6_on_48 : decode cX6_on 48 = .ok (.invokevirtual 187, 3) := by decide +kernel
theorem dX6_on_51 : decode cX6_on 51 = .ok (.aload_n 0, 1) := by decide +kernel
theorem dX6_on_52 : decode cX6_on 52 = .ok (.getfield 60, 3) := by decide +kernel
theorem dX6_on_55 : decode cX6_on 55 = .ok (.iload_n 2, 1) := by decide +kernel
theorem dX6_on_56 : decode cX6_on 56 = .ok (.iaload, 1) := by decide +kernel
theorem dX6_on_57 : decode cX6_on 57 = .ok (.ireturn, 1) := by decide +kernel
