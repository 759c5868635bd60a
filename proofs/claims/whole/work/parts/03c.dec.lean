theorem dX4_moreToChangeNet_0 : decode cX4_moreToChangeNet 0 = .ok (.sipush 1000, 3) := by decide +kernel
theorem dX4_moreToChangeNet_3 : decode cX4_moreToChangeNet 3 = .ok (.istore_n 2, 1) := by decide +kernel
theorem dX4_moreToChangeNet_4 : decode cX4_moreToChangeNet 4 = .ok (.iconst 0, 1) := by decide +kernel
theorem dX4_moreToChangeNet_5 : decode cX4_moreToChangeNet 5 = .ok (.istore_n 3, 1) := by decide +kernel
theorem dX4_moreToChangeNet_6 : decode cX4_moreToChangeNet 6 = .ok (.iload_n 3, 1) := by decide +kernel
theorem dX4_moreToChangeNet_7 : decode cX4_moreToChangeNet 7 = .ok (.iconst 4, 1) := by decide +kernel
theorem dX4_moreToChangeNet_8 : decode cX4_moreToChangeNet 8 = .ok (.if_icmp .ge 43, 3) := by decide +kernel
theorem dX4_moreToChangeNet_11 : decode cX4_moreToChangeNet 11 = .ok (.iload_n 2, 1) := by decide +kernel
theorem dX4_moreToChangeNet_12 : decode cX4_moreToChangeNet 12 = .ok (.aload_n 0, 1) := by decide +kernel
theorem dX4_moreToChangeNet_13 : decode cX4_moreToChangeNet 13 = .ok (.aload_n 0, 1) := by decide +kernel
theorem dX4_moreToChangeNet_14 : decode cX4_moreToChangeNet 14 = .ok (.getfield 15, 3) := by decide +kernel
theorem dX4_moreToChangeNet_17 : decode cX4_moreToChangeNet 17 = .ok (.iload_n 3, 1) := by decide +kernel
theorem dX4_moreToChangeNet_18 : decode cX4_moreToChangeNet 18 = .ok (.iaload, 1) := by decide +kernel
theorem dX4_moreToChangeNet_19 : decode cX4_moreToChangeNet 19 = .ok (.iload_n 1, 1) := by decide +kernel
theorem dX4_moreToChangeNet_20 : decode cX4_moreToChangeNet 20 = .ok (.invokevirtual 71, 3) := by decide +kernel
theorem dX4_moreToChangeNet_23 : decode cX4_moreToChangeNet 23 = .ok (.invokestatic 62, 3) := by decide +kernel
theorem dX4_moreToChangeNet_26 : decode cX4_moreToChangeNet 26 = .ok (.istore_n 2, 1) := by decide +kernel
theorem dX4_moreToChangeNet_27 : decode cX4_moreToChangeNet 27 = .ok (.iload_n 2, 1) := by decide +kernel
theorem dX4_moreToChangeNet_28 : decode cX4_moreToChangeNet 28 = .ok (.aload_n 0, 1) := by decide +kernel
theorem dX4_moreToChangeNet_29 : decode cX4_moreToChangeNet 29 = .ok (.aload_n 0, 1) := by decide +kernel
theorem dX4_moreToChangeNet_30 : decode cX4_moreToChangeNet 30 = .ok (.getfield 18, 3) := by decide +kernel
theorem dX4_moreToChangeNet_33 : decode cX4_moreToChangeNet 33 = .ok (.iload_n 3, 1) := by decide +kernel
theorem dX4_moreToChangeNet_34 : decode cX4_moreToChangeNet 34 = .ok (.iaload, 1) := by decide +kernel
theorem dX4_moreToChangeNet_35 : decode cX4_moreToChangeNet 35 = .ok (.iconst 1, 1) := by decide +kernel
theorem dX4_moreToChangeNet_36 : decode cX4_moreToChangeNet 36 = .ok (.iadd, 1) := by decide +kernel
theorem dX4_moreToChangeNet_37 : decode cX4_moreToChangeNet 37 = .ok (.iload_n 1, 1) := by decide +kernel
theorem dX4_moreToChangeNet_38 : decode cX4_moreToChangeNet 38 = .ok (.invokevirtual 71, 3) := by decide +kernel
theorem dX4_moreToChangeNet_41 : decode cX4_moreToChangeNet 41 = .ok (.invokestatic 62, 3) := by decide +kernel
theorem dX4_moreToChangeNet_44 : decode cX4_moreToChangeNet 44 = .ok (.istore_n 2, 1) := by decide +kernel
theorem dX4_moreToChangeNet_45 : decode cX4_moreToChangeNet 45 = .ok (.iinc 3 1, 3) := by decide +kernel
theorem dX4_moreToChangeNet_48 : decode cX4_moreToChangeNet 48 = .ok (.goto (-42), 3) := by decide +kernel
theorem dX4_moreToChangeNet_51 : decode cX4_moreToChangeNet 51 = .ok (.iload_n 2, 1) := by decide +kernel
theorem dX4_moreToChangeNet_52 : decode cX4_moreToChangeNet 52 = .ok (.ireturn, 1) := by decide +kernel
theorem dX4_moreToChangeNetAt_0 : decode cX4_moreToChangeNetAt 0 = .ok (.aload_n 0, 1) := by decide +kernel
theorem dX4_moreToChangeNetAt_1 : decode cX4_moreToChangeNetAt 1 = .ok (.getfield 11, 3) := by decide +kernel
theorem dX4_moreToChangeNetAt_4 : decode cX4_moreToChangeNetAt 4 = .ok (.iload_n 2, 1) := by decide +kernel
theorem dX4_moreToChangeNetAt_5 : decode cX4_moreToChangeNetAt 5 = .ok (.iaload, 1) := by decide +kernel
theorem dX4_moreToChangeNetAt_6 : decode cX4_moreToChangeNetAt 6 = .ok (.ifCond .eq 12, 3) := by decide +kernel
theorem dX4_moreToChangeNetAt_9 : decode cX4_moreToChangeNetAt 9 = .ok (.aload_n 0, 1) := by decide +kernel
theorem dX4_moreToChangeNetAt_10 : decode cX4_moreToChangeNetAt 10 = .ok (.iload_n 2, 1) := by decide +kernel
theorem dX4_moreToChangeNetAt_11 : decode cX4_moreToChangeNetAt 11 = .ok (.iload_n 1, 1) := by decide +kernel
theorem dX4_moreToChangeNetAt_12 : decode cX4_moreToChangeNetAt 12 = .ok (.invokevirtual 24, 3) := by decide +kernel
theorem dX4_moreToChangeNetAt_15 : decode cX4_moreToChangeNetAt 15 = .ok (.ifCond .ne 7, 3) := by decide +kernel
theorem dX4_moreToChangeNetAt_18 : decode cX4_moreToChangeNetAt 18 = .ok (.sipush 1000, 3) := by decide +kernel
theorem dX4_moreToChangeNetAt_21 : decode cX4_moreToChangeNetAt 21 = .ok (.ireturn, 1) := by decide +kernel
theorem dX4_moreToChangeNetAt_22 : decode cX4_moreToChangeNetAt 22 = .ok (.bipush 100, 2) := by decide +kernel
theorem dX4_moreToChangeNetAt_24 : decode cX4_moreToChangeNetAt 24 = .ok (.aload_n 0, 1) := by decide +kernel
theorem dX4_moreToChangeNetAt_25 : decode cX4_moreToChangeNetAt 25 = .ok (.iload_n 1, 1) := by decide +kernel
theorem dX4_moreToChangeNetAt_26 : decode cX4_moreToChangeNetAt 26 = .ok (.invokevirtual 28, 3) := by decide +kernel
theorem dX4_moreToChangeNetAt_29 : decode cX4_moreToChangeNetAt 29 = .ok (.bipush 100, 2) := by decide +kernel
theorem dX4_moreToChangeNetAt_31 : decode cX4_moreToChangeNetAt 31 = .ok (.irem, 1) := by decide +kernel
theorem dX4_moreToChangeNetAt_32 : decode cX4_moreToChangeNetAt 32 = .ok (.isub, 1) := by decide +kernel
theorem dX4_moreToChangeNetAt_33 : decode cX4_moreToChangeNetAt 33 = .ok (.istore_n 3, 1) := by decide +kernel
theorem dX4_moreToChangeNetAt_34 : decode cX4_moreToChangeNetAt 34 = .ok (.iload_n 3, 1) := by decide +kernel
theorem dX4_moreToChangeNetAt_35 : decode cX4_moreToChangeNetAt 35 = .ok (.aload_n 0, 1) := by decide +kernel
theorem dX4_moreToChangeNetAt_36 : decode cX4_moreToChangeNetAt 36 = .ok (.getfield 11, 3) := by decide +kernel
theorem dX4_moreToChangeNetAt_39 : decode cX4_moreToChangeNetAt 39 = .ok (.iload_n 2, 1) := by decide +kernel
theorem dX4_moreToChangeNetAt_40 : decode cX4_moreToChangeNetAt 40 = .ok (.iaload, 1) := by decide +kernel
theorem dX4_moreToChangeNetAt_41 : decode cX4_moreToChangeNetAt 41 = .ok (.iadd, 1) := by decide +kernel
theorem dX4_moreToChangeNetAt_42 : decode cX4_moreToChangeNetAt 42 = .ok (.iconst 1, 1) := by decide +kernel
theorem dX4_moreToChangeNetAt_43 : decode cX4_moreToChangeNetAt 43 = .ok (.isub, 1) := by decide +kernel
theorem dX4_moreToChangeNetAt_44 : decode cX4_moreToChangeNetAt 44 = .ok (.aload_n 0, 1) := by decide +kernel
theorem dX4_moreToChangeNetAt_45 : decode cX4_moreToChangeNetAt 45 = .ok (.getfield 11, 3) := by decide +kernel
theorem dX4_moreToChangeNetAt_48 : decode cX4_moreToChangeNetAt 48 = .ok (.iload_n 2, 1) := by decide +kernel
theorem dX4_moreToChangeNetAt_49 : decode cX4_moreToChangeNetAt 49 = .ok (.iaload, 1) := by decide +kernel
theorem dX4_moreToChangeNetAt_50 : decode cX4_moreToChangeNetAt 50 = .ok (.idiv, 1) := by decide +kernel
theorem dX4_moreToChangeNetAt_51 : decode cX4_moreToChangeNetAt 51 = .ok (.ireturn, 1) := by decide +kernel
theorem dX5_init_0 : decode cX5_init 0 = .ok (.aload_n 0, 1) := by decide +kernel
theorem dX5_init_1 : decode cX5_init 1 = .ok (.invokespecial 1, 3) := by decide +kernel
theorem dX5_init_4 : decode cX5_init 4 = .ok (.aload_n 0, 1) := by decide +kernel
theorem dX5_init_5 : decode cX5_init 5 = .ok (.iconst 4, 1) := by decide +kernel
theorem dX5_init_6 : decode cX5_init 6 = .ok (.newarray .int, 2) := by decide +kernel
theorem dX5_init_8 : decode cX5_init 8 = .ok (.dup, 1) := by decide +kernel
theorem dX5_init_9 : decode cX5_init 9 = .ok (.iconst 0, 1) := by decide +kernel
theorem dX5_init_10 : decode cX5_init 10 = .ok (.bipush 10, 2) := by decide +kernel
theorem dX5_init_12 : decode cX5_init 12 = .ok (.iastore, 1) := by decide +kernel
theorem dX5_init_13 : decode cX5_init 13 = .ok (.dup, 1) := by decide +kernel
theorem dX5_init_14 : decode cX5_init 14 = .ok (.iconst 1, 1) := by decide +kernel
theorem dX5_init_15 : decode cX5_init 15 = .ok (.bipush 10, 2) := by decide +kernel
theorem dX5_init_17 : decode cX5_init 17 = .ok (.iastore, 1) := by decide +kernel
theorem dX5_init_18 : decode cX5_init 18 = .ok (.dup, 1) := by decide +kernel
theorem dX5_init_19 : decode cX5_init 19 = .ok (.iconst 2, 1) := by decide +kernel
theorem dX5_init_20 : decode cX5_init 20 = .ok (.bipush 100, 2) := by decide +kernel
theorem dX5_init_22 : decode cX5_init 22 = .ok (.iastore, 1) := by decide +kernel
theorem dX5_init_23 : decode cX5_init 23 = .ok (.dup, 1) := by decide +kernel
theorem dX5_init_24 : decode cX5_init 24 = .ok (.iconst 3, 1) := by decide +kernel
theorem dX5_init_25 : decode cX5_init 25 = .ok (.bipush 100, 2) := by decide +kernel
theorem dX5_init_27 : decode cX5_init 27 = .ok (.iastore, 1) := by decide +kernel
theorem dX5_init_28 : decode cX5_init 28 = .ok (.putfield 7, 3) := by decide +kernel
theorem dX5_init_31 : decode cX5_init 31 = .ok (.aload_n 0, 1) := by decide +kernel
theorem dX5_init_32 : decode cX5_init 32 = .ok (.new 13, 3) := by decide +kernel
theorem dX5_init_35 : decode cX5_init 35 = .ok (.dup, 1) := by decide +kernel
theorem dX5_init_36 : decode cX5_init 36 = .ok (.invokespecial 15, 3) := by decide +kernel
theorem dX5_init_39 : decode cX5_init 39 = .ok (.putfield 16, 3) := by decide +kernel
theorem dX5_init_42 : decode cX5_init 42 = .ok (.aload_n 0, 1) := by decide +kernel
theorem dX5_init_43 : decode cX5_init 43 = .ok (.new 20, 3) := by decide +kernel
theorem dX5_init_46 : decode cX5_init 46 = .ok (.dup, 1) := by decide +kernel
theorem dX5_init_47 : decode cX5_init 47 = .ok (.invokespecial 22, 3) := by decide +kernel
theorem dX5_init_50 : decode cX5_init 50 = .ok (.putfield 23, 3) := by decide +kernel
theorem dX5_init_53 : decode cX5_init 53 = .ok (.aload_n 0, 1) := by decide +kernel
theorem dX5_init_54 : decode cX5_init 54 = .ok (.new 27, 3) := by decide +kernel
theorem dX5_init_57 : decode cX5_init 57 = .ok (.dup, 1) := by decide +kernel
theorem dX5_init_58 : decode cX5_init 58 = .ok (.invokespecial 29, 3) := by decide +kernel
theorem dX5_init_61 : decode cX5_init 61 = .ok (.putfield 30, 3) := by decide +kernel
theorem dX5_init_64 : decode cX5_init 64 = .ok (.aload_n 0, 1) := by decide +kernel
theorem dX5_init_65 : decode cX5_init 65 = .ok (.new 34, 3) := by decide +kernel
theorem dX5_init_68 : decode cX5_init 68 = .ok (.dup, 1) := by decide +kernel
theorem dX5_init_69 : decode cX5_init 69 = .ok (.invokespecial 36, 3) := by decide +kernel
theorem dX5_init_72 : decode cX5_init 72 = .ok (.putfield 37, 3) := by decide +kernel
theorem dX5_init_75 : decode cX5_init 75 = .ok (.aload_n 0, 1) := by decide +kernel
theorem dX5_init_76 : decode cX5_init 76 = .ok (.new 41, 3) := by decide +kernel
theorem dX5_init_79 : decode cX5_init 79 = .ok (.dup, 1) := by decide +kernel
theorem dX5_init_80 : decode cX5_init 80 = .ok (.invokespecial 43, 3) := by decide +kernel
theorem dX5_init_83 : decode cX5_init 83 = .ok (.putfield 44, 3) := by decide +kernel
theorem dX5_init_86 : decode cX5_init 86 = .ok (.return_, 1) := by decide +kernel
theorem dX5_span_0 : decode cX5_span 0 = .ok (.iload_n 1, 1) := by decide +kernel
theorem dX5_span_1 : decode cX5_span 1 = .ok (.iconst 1, 1) := by decide +kernel
theorem dX5_span_2 : decode cX5_span 2 = .ok (.iconst 5, 1) := by decide +kernel
theorem dX5_span_3 : decode cX5_span 3 = .ok (.invokestatic 48, 3) := by decide +kernel
theorem dX5_span_6 : decode cX5_span 6 = .ok (.ifCond .ne 6, 3) := by decide +kernel
theorem dX5_span_9 : decode cX5_span 9 = .ok (.bipush (-2), 2) := by decide +kernel
theorem dX5_span_11 : decode cX5_span 11 = .ok (.ireturn, 1) := by decide +kernel
theorem dX5_span_12 : decode cX5_span 12 = .ok (.aload_n 0, 1) := by decide +kernel
theorem dX5_span_13 : decode cX5_span 13 = .ok (.getfield 16, 3) := by decide +kernel
theorem dX5_span_16 : decode cX5_span 16 = .ok (.getfield 52, 3) := by decide +kernel
theorem dX5_span_19 : decode cX5_span 19 = .ok (.istore_n 2, 1) := by decide +kernel
theorem dX5_span_20 : decode cX5_span 20 = .ok (.aload_n 0, 1) := by decide +kernel
theorem dX5_span_21 : decode cX5_span 21 = .ok (.getfield 16, 3) := by decide +kernel
theorem dX5_span_24 : decode cX5_span 24 = .ok (.iload_n 1, 1) := by decide +kernel
theorem dX5_span_25 : decode cX5_span 25 = .ok (.invokevirtual 56, 3) := by decide +kernel
theorem dX5_span_28 : decode cX5_span 28 = .ok (.iload_n 2, 1) := by decide +kernel
theorem dX5_span_29 : decode cX5_span 29 = .ok (.ireturn, 1) := by decide +kernel
theorem dX5_weight_0 : decode cX5_weight 0 = .ok (.iload_n 1, 1) := by decide +kernel
theorem dX5_weight_1 : decode cX5_weight 1 = .ok (.iconst 0, 1) := by decide +kernel
theorem dX5_weight_2 : decode cX5_weight 2 = .ok (.aload_n 0, 1) := by decide +kernel
theorem dX5_weight_3 : decode cX5_weight 3 = .ok (.getfield 16, 3) := by decide +kernel
theorem dX5_weight_6 : decode cX5_weight 6 = .ok (.getfield 52, 3) := by decide +kernel
theorem dX5_weight_9 : decode cX5_weight 9 = .ok (.iconst 1, 1) := by decide +kernel
theorem dX5_weight_10 : decode cX5_weight 10 = .ok (.isub, 1) := by decide +kernel
theorem dX5_weight_11 : decode cX5_weight 11 = .ok (.invokestatic 48, 3) := by decide +kernel
theorem dX5_weight_14 : decode cX5_weight 14 = .ok (.ifCond .ne 5, 3) := by decide +kernel
theorem dX5_weight_17 : decode cX5_weight 17 = .ok (.iconst (-1), 1) := by decide +kernel
theorem dX5_weight_18 : decode cX5_weight 18 = .ok (.ireturn, 1) := by decide +kernel
theorem dX5_weight_19 : decode cX5_weight 19 = .ok (.iload_n 2, 1) := by decide +kernel
theorem dX5_weight_20 : decode cX5_weight 20 = .ok (.iconst 1, 1) := by decide +kernel
theorem dX5_weight_21 : decode cX5_weight 21 = .ok (.bipush 9, 2) := by decide +kernel
theorem dX5_weight_23 : decode cX5_weight 23 = .ok (.invokestatic 48, 3) := by decide +kernel
theorem dX5_weight_26 : decode cX5_weight 26 = .ok (.ifCond .ne 6, 3) := by decide +kernel
theorem dX5_weight_29 : decode cX5_weight 29 = .ok (.bipush (-2), 2) := by decide +kernel
theorem dX5_weight_31 : decode cX5_weight 31 = .ok (.ireturn, 1) := by decide +kernel
theorem dX5_weight_32 : decode cX5_weight 32 = .ok (.aload_n 0, 1) := by decide +kernel
theorem dX5_weight_33 : decode cX5_weight 33 = .ok (.getfield 16, 3) := by decide +kernel
theorem dX5_weight_36 : decode cX5_weight 36 = .ok (.getfield 60, 3) := by decide +kernel
theorem dX5_weight_39 : decode cX5_weight 39 = .ok (.iload_n 1, 1) := by decide +kernel
theorem dX5_weight_40 : decode cX5_weight 40 = .ok (.iload_n 2, 1) := by decide +kernel
theorem dX5_weight_41 : decode cX5_weight 41 = .ok (.invokestatic 63, 3) := by decide +kernel
theorem dX5_weight_44 : decode cX5_weight 44 = .ok (.ireturn, 1) := by decide +kernel
theorem dX5_spring_0 : decode cX5_spring 0 = .ok (.iload_n 1, 1) := by decide +kernel
theorem dX5_spring_1 : decode cX5_spring 1 = .ok (.iconst 0, 1) := by decide +kernel
theorem dX5_spring_2 : decode cX5_spring 2 = .ok (.aload_n 0, 1) := by decide +kernel
theorem dX5_spring_3 : decode cX5_spring 3 = .ok (.getfield 16, 3) := by decide +kernel
theorem dX5_spring_6 : decode cX5_spring 6 = .ok (.getfield 52, 3) := by decide +kernel
theorem dX5_spring_9 : decode cX5_spring 9 = .ok (.invokestatic 48, 3) := by decide +kernel
theorem dX5_spring_12 : decode cX5_spring 12 = .ok (.ifCond .ne 5, 3) := by decide +kernel
theorem dX5_spring_15 : decode cX5_spring 15 = .ok (.iconst (-1), 1) := by decide +kernel
theorem dX5_spring_16 : decode cX5_spring 16 = .ok (.ireturn, 1) := by decide +kernel
theorem dX5_spring_17 : decode cX5_spring 17 = .ok (.iload_n 1, 1) := by decide +kernel
theorem dX5_spring_18 : decode cX5_spring 18 = .ok (.ifCond .eq 14, 3) := by decide +kernel
theorem dX5_spring_21 : decode cX5_spring 21 = .ok (.iload_n 1, 1) := by decide +kernel
theorem dX5_spring_22 : decode cX5_spring 22 = .ok (.aload_n 0, 1) := by decide +kernel
theorem dX5_spring_23 : decode cX5_spring 23 = .ok (.getfield 16, 3) := by decide +kernel
theorem dX5_spring_26 : decode cX5_spring 26 = .ok (.getfield 52, 3) := by decide +kernel
theorem dX5_spring_29 : decode cX5_spring 29 = .ok (.if_icmp .ne 7, 3) := by decide +kernel
theorem dX5_spring_32 : decode cX5_spring 32 = .ok (.iconst 0, 1) := by decide +kernel
theorem dX5_spring_33 : decode cX5_spring 33 = .ok (.goto 4, 3) := by decide +kernel
theorem dX5_spring_36 : decode cX5_spring 36 = .ok (.iconst 1, 1) := by decide +kernel
theorem dX5_spring_37 : decode cX5_spring 37 = .ok (.istore_n 3, 1) := by decide +kernel
theorem dX5_spring_38 : decode cX5_spring 38 = .ok (.iload_n 2, 1) := by decide +kernel
theorem dX5_spring_39 : decode cX5_spring 39 = .ok (.iload_n 3, 1) := by decide +kernel
theorem dX5_spring_40 : decode cX5_spring 40 = .ok (.bipush 99, 2) := by decide +kernel
theorem dX5_spring_42 : decode cX5_spring 42 = .ok (.invokestatic 48, 3) := by decide +kernel
theorem dX5_spring_45 : decode cX5_spring 45 = .ok (.ifCond .ne 6, 3) := by decide +kernel
theorem dX5_spring_48 : decode cX5_spring 48 = .ok (.bipush (-2), 2) := by decide +kernel
theorem dX5_spring_50 : decode cX5_spring 50 = .ok (.ireturn, 1) := by decide +kernel
theorem dX5_spring_51 : decode cX5_spring 51 = .ok (.aload_n 0, 1) := by decide +kernel
theorem dX5_spring_52 : decode cX5_spring 52 = .ok (.getfield 16, 3) := by decide +kernel
theorem dX5_spring_55 : decode cX5_spring 55 = .ok (.getfield 67, 3) := by decide +kernel
theorem dX5_spring_58 : decode cX5_spring 58 = .ok (.iload_n 1, 1) := by decide +kernel
theorem dX5_spring_59 : decode cX5_spring 59 = .ok (.iload_n 2, 1) := by decide +kernel
theorem dX5_spring_60 : decode cX5_spring 60 = .ok (.invokestatic 63, 3) := by decide +kernel
theorem dX5_spring_63 : decode cX5_spring 63 = .ok (.ireturn, 1) := by decide +kernel
theorem dX5_below_0 : decode cX5_below 0 = .ok (.iload_n 1, 1) := by decide +kernel
theorem dX5_below_1 : decode cX5_below 1 = .ok (.iconst 0, 1) := by decide +kernel
theorem dX5_below_2 : decode cX5_below 2 = .ok (.sipush 400, 3) := by decide +kernel
theorem dX5_below_5 : decode cX5_below 5 = .ok (.invokestatic 48, 3) := by decide +kernel
theorem dX5_below_8 : decode cX5_below 8 = .ok (.ifCond .eq 14, 3) := by decide +kernel
theorem dX5_below_11 : decode cX5_below 11 = .ok (.aload_n 0, 1) := by decide +kernel
theorem dX5_below_12 : decode cX5_below 12 = .ok (.getfield 16, 3) := by decide +kernel
theorem dX5_below_15 : decode cX5_below 15 = .ok (.iload_n 1, 1) := by decide +kernel
theorem dX5_below_16 : decode cX5_below 16 = .ok (.invokevirtual 70, 3) := by decide +kernel
theorem dX5_below_19 : decode cX5_below 19 = .ok (.goto 5, 3) := by decide +kernel
theorem dX5_below_22 : decode cX5_below 22 = .ok (.bipush (-2), 2) := by decide +kernel
theorem dX5_below_24 : decode cX5_below 24 = .ok (.ireturn, 1) := by decide +kernel
theorem dX5_tone_0 : decode cX5_tone 0 = .ok (.iload_n 1, 1) := by decide +kernel
theorem dX5_tone_1 : decode cX5_tone 1 = .ok (.iconst 0, 1) := by decide +kernel
theorem dX5_tone_2 : decode cX5_tone 2 = .ok (.aload_n 0, 1) := by decide +kernel
theorem dX5_tone_3 : decode cX5_tone 3 = .ok (.getfield 16, 3) := by decide +kernel
theorem dX5_tone_6 : decode cX5_tone 6 = .ok (.getfield 52, 3) := by decide +kernel
theorem dX5_tone_9 : decode cX5_tone 9 = .ok (.iconst 1, 1) := by decide +kernel
theorem dX5_tone_10 : decode cX5_tone 10 = .ok (.isub, 1) := by decide +kernel
theorem dX5_tone_11 : decode cX5_tone 11 = .ok (.invokestatic 48, 3) := by decide +kernel
theorem dX5_tone_14 : decode cX5_tone 14 = .ok (.ifCond .eq 14, 3) := by decide +kernel
theorem dX5_tone_17 : decode cX5_tone 17 = .ok (.aload_n 0, 1) := by decide +kernel
theorem dX5_tone_18 : decode cX5_tone 18 = .ok (.getfield 16, 3) := by decide +kernel
theorem dX5_tone_21 : decode cX5_tone 21 = .ok (.iload_n 1, 1) := by decide +kernel
theorem dX5_tone_22 : decode cX5_tone 22 = .ok (.invokevirtual 74, 3) := by decide +kernel
theorem dX5_tone_25 : decode cX5_tone 25 = .ok (.goto 4, 3) := by decide +kernel
theorem dX5_tone_28 : decode cX5_tone 28 = .ok (.iconst (-1), 1) := by decide +kernel
theorem dX5_tone_29 : decode cX5_tone 29 = .ok (.ireturn, 1) := by decide +kernel
theorem dX5_isTone_0 : decode cX5_isTone 0 = .ok (.iload_n 1, 1) := by decide +kernel
theorem dX5_isTone_1 : decode cX5_isTone 1 = .ok (.iconst 0, 1) := by decide +kernel
theorem dX5_isTone_2 : decode cX5_isTone 2 = .ok (.sipush 400, 3) := by decide +kernel
theorem dX5_isTone_5 : decode cX5_isTone 5 = .ok (.invokestatic 48, 3) := by decide +kernel
theorem dX5_isTone_8 : decode cX5_isTone 8 = .ok (.ifCond .eq 17, 3) := by decide +kernel
theorem dX5_isTone_11 : decode cX5_isTone 11 = .ok (.aload_n 0, 1) := by decide +kernel
theorem dX5_isTone_12 : decode cX5_isTone 12 = .ok (.getfield 16, 3) := by decide +kernel
theorem dX5_isTone_15 : decode cX5_isTone 15 = .ok (.iload_n 1, 1) := by decide +kernel
theorem dX5_isTone_16 : decode cX5_isTone 16 = .ok (.invokevirtual 77, 3) := by decide +kernel
theorem dX5_isTone_19 : decode cX5_isTone 19 = .ok (.invokestatic 81, 3) := by decide +kernel
theorem dX5_isTone_22 : decode cX5_isTone 22 = .ok (.goto 5, 3) := by decide +kernel
theorem dX5_isTone_25 : decode cX5_isTone 25 = .ok (.bipush (-2), 2) := by decide +kernel
theorem dX5_isTone_27 : decode cX5_isTone 27 = .ok (.ireturn, 1) := by decide +kernel
theorem dX5_sort_0 : decode cX5_sort 0 = .ok (.iload_n 1, 1) := by decide +kernel
theorem dX5_sort_1 : decode cX5_sort 1 = .ok (.invokestatic 85, 3) := by decide +kernel
theorem dX5_sort_4 : decode cX5_sort 4 = .ok (.ifCond .ne 5, 3) := by decide +kernel
theorem dX5_sort_7 : decode cX5_sort 7 = .ok (.iconst (-1), 1) := by decide +kernel
theorem dX5_sort_8 : decode cX5_sort 8 = .ok (.ireturn, 1) := by decide +kernel
theorem dX5_sort_9 : decode cX5_sort 9 = .ok (.iload_n 2, 1) := by decide +kernel
theorem dX5_sort_10 : decode cX5_sort 10 = .ok (.iconst 0, 1) := by decide +kernel
theorem dX5_sort_11 : decode cX5_sort 11 = .ok (.bipush 99, 2) := by decide +kernel
theorem dX5_sort_13 : decode cX5_sort 13 = .ok (.invokestatic 48, 3) := by decide +kernel
theorem dX5_sort_16 : decode cX5_sort 16 = .ok (.ifCond .eq 18, 3) := by decide +kernel
theorem dX5_sort_19 : decode cX5_sort 19 = .ok (.iload_n 3, 1) := by decide +kernel
theorem dX5_sort_20 : decode cX5_sort 20 = .ok (.invokestatic 88, 3) := by decide +kernel
theorem dX5_sort_23 : decode cX5_sort 23 = .ok (.ifCond .eq 11, 3) := by decide +kernel
theorem dX5_sort_26 : decode cX5_sort 26 = .ok (.iload 4, 2) := by decide +kernel
theorem dX5_sort_28 : decode cX5_sort 28 = .ok (.invokestatic 88, 3) := by decide +kernel
theorem dX5_sort_31 : decode cX5_sort 31 = .ok (.ifCond .ne 6, 3) := by decide +kernel
theorem dX5_sort_34 : decode cX5_sort 34 = .ok (.bipush (-2), 2) := by decide +kernel
theorem dX5_sort_36 : decode cX5_sort 36 = .ok (.ireturn, 1) := by decide +kernel
theorem dX5_sort_37 : decode cX5_sort 37 = .ok (.aload_n 0, 1) := by decide +kernel
theorem dX5_sort_38 : decode cX5_sort 38 = .ok (.getfield 30, 3) := by decide +kernel
theorem dX5_sort_41 : decode cX5_sort 41 = .ok (.invokevirtual 91, 3) := by decide +kernel
theorem dX5_sort_44 : decode cX5_sort 44 = .ok (.aload_n 0, 1) := by decide +kernel
theorem dX5_sort_45 : decode cX5_sort 45 = .ok (.getfield 23, 3) := by decide +kernel
theorem dX5_sort_48 : decode cX5_sort 48 = .ok (.getfield 94, 3) := by decide +kernel
theorem dX5_sort_51 : decode cX5_sort 51 = .ok (.iload_n 1, 1) := by decide +kernel
theorem dX5_sort_52 : decode cX5_sort 52 = .ok (.iload_n 3, 1) := by decide +kernel
theorem dX5_sort_53 : decode cX5_sort 53 = .ok (.iastore, 1) := by decide +kernel
theorem dX5_sort_54 : decode cX5_sort 54 = .ok (.aload_n 0, 1) := by decide +kernel
theorem dX5_sort_55 : decode cX5_sort 55 = .ok (.getfield 23, 3) := by decide +kernel
theorem dX5_sort_58 : decode cX5_sort 58 = .ok (.getfield 97, 3) := by decide +kernel
theorem dX5_sort_61 : decode cX5_sort 61 = .ok (.iload_n 1, 1) := by decide +kernel
theorem dX5_sort_62 : decode cX5_sort 62 = .ok (.iload 4, 2) := by decide +kernel
theorem dX5_sort_64 : decode cX5_sort 64 = .ok (.iastore, 1) := by decide +kernel
theorem dX5_sort_65 : decode cX5_sort 65 = .ok (.aload_n 0, 1) := by decide +kernel
theorem dX5_sort_66 : decode cX5_sort 66 = .ok (.getfield 23, 3) := by decide +kernel
theorem dX5_sort_69 : decode cX5_sort 69 = .ok (.getfield 100, 3) := by decide +kernel
theorem dX5_sort_72 : decode cX5_sort 72 = .ok (.iload_n 1, 1) := by decide +kernel
theorem dX5_sort_73 : decode cX5_sort 73 = .ok (.iload_n 2, 1) := by decide +kernel
theorem dX5_sort_74 : decode cX5_sort 74 = .ok (.invokestatic 63, 3) := by decide +kernel
theorem dX5_sort_77 : decode cX5_sort 77 = .ok (.ireturn, 1) := by decide +kernel
theorem dX5_crowd_0 : decode cX5_crowd 0 = .ok (.iload_n 1, 1) := by decide +kernel
theorem dX5_crowd_1 : decode cX5_crowd 1 = .ok (.invokestatic 85, 3) := by decide +kernel
theorem dX5_crowd_4 : decode cX5_crowd 4 = .ok (.ifCond .ne 5, 3) := by decide +kernel
theorem dX5_crowd_7 : decode cX5_crowd 7 = .ok (.iconst (-1), 1) := by decide +kernel
theorem dX5_crowd_8 : decode cX5_crowd 8 = .ok (.ireturn, 1) := by decide +kernel
theorem dX5_crowd_9 : decode cX5_crowd 9 = .ok (.iload_n 2, 1) := by decide +kernel
theorem dX5_crowd_10 : decode cX5_crowd 10 = .ok (.iconst 0, 1) := by decide +kernel
theorem dX5_crowd_11 : decode cX5_crowd 11 = .ok (.sipush 999, 3) := by decide +kernel
theorem dX5_crowd_14 : decode cX5_crowd 14 = .ok (.invokestatic 48, 3) := by decide +kernel
theorem dX5_crowd_17 : decode cX5_crowd 17 = .ok (.ifCond .ne 6, 3) := by decide +kernel
theorem dX5_crowd_20 : decode cX5_crowd 20 = .ok (.bipush (-2), 2) := by decide +kernel
theorem dX5_crowd_22 : decode cX5_crowd 22 = .ok (.ireturn, 1) := by decide +kernel
theorem dX5_crowd_23 : decode cX5_crowd 23 = .ok (.aload_n 0, 1) := by decide +kernel
theorem dX5_crowd_24 : decode cX5_crowd 24 = .ok (.getfield 30, 3) := by decide +kernel
theorem dX5_crowd_27 : decode cX5_crowd 27 = .ok (.invokevirtual 91, 3) := by decide +kernel
theorem dX5_crowd_30 : decode cX5_crowd 30 = .ok (.aload_n 0, 1) := by decide +kernel
theorem dX5_crowd_31 : decode cX5_crowd 31 = .ok (.getfield 23, 3) := by decide +kernel
theorem dX5_crowd_34 : decode cX5_crowd 34 = .ok (.getfield 103, 3) := by decide +kernel
theorem dX5_crowd_37 : decode cX5_crowd 37 = .ok (.iload_n 1, 1) := by decide +kernel
theorem dX5_crowd_38 : decode cX5_crowd 38 = .ok (.iload_n 2, 1) := by decide +kernel
theorem dX5_crowd_39 : decode cX5_crowd 39 = .ok (.invokestatic 63, 3) := by decide +kernel
theorem dX5_crowd_42 : decode cX5_crowd 42 = .ok (.ireturn, 1) := by decide +kernel
theorem dX5_rule_0 : decode cX5_rule 0 = .ok (.iload_n 1, 1) := by decide +kernel
theorem dX5_rule_1 : decode cX5_rule 1 = .ok (.iconst 0, 1) := by decide +kernel
theorem dX5_rule_2 : decode cX5_rule 2 = .ok (.iconst 3, 1) := by decide +kernel
theorem dX5_rule_3 : decode cX5_rule 3 = .ok (.invokestatic 48, 3) := by decide +kernel
theorem dX5_rule_6 : decode cX5_rule 6 = .ok (.ifCond .eq 20, 3) := by decide +kernel
theorem dX5_rule_9 : decode cX5_rule 9 = .ok (.iload_n 2, 1) := by decide +kernel
theorem dX5_rule_10 : decode cX5_rule 10 = .ok (.getstatic 106, 3) := by decide +kernel
theorem dX5_rule_13 : decode cX5_rule 13 = .ok (.iload_n 1, 1) := by decide +kernel
theorem dX5_rule_14 : decode cX5_rule 14 = .ok (.iaload, 1) := by decide +kernel
theorem dX5_rule_15 : decode cX5_rule 15 = .ok (.getstatic 109, 3) := by decide +kernel
theorem dX5_rule_18 : decode cX5_rule 18 = .ok (.iload_n 1, 1) := by decide +kernel
theorem dX5_rule_19 : decode cX5_rule 19 = .ok (.iaload, 1) := by decide +kernel
theorem dX5_rule_20 : decode cX5_rule 20 = .ok (.invokestatic 48, 3) := by decide +kernel
theorem dX5_rule_23 : decode cX5_rule 23 = .ok (.ifCond .ne 6, 3) := by decide +kernel
theorem dX5_rule_26 : decode cX5_rule 26 = .ok (.bipush (-2), 2) := by decide +kernel
theorem dX5_rule_28 : decode cX5_rule 28 = .ok (.ireturn, 1) := by decide +kernel
theorem dX5_rule_29 : decode cX5_rule 29 = .ok (.aload_n 0, 1) := by decide +kernel
theorem dX5_rule_30 : decode cX5_rule 30 = .ok (.getfield 30, 3) := by decide +kernel
theorem dX5_rule_33 : decode cX5_rule 33 = .ok (.invokevirtual 91, 3) := by decide +kernel
theorem dX5_rule_36 : decode cX5_rule 36 = .ok (.aload_n 0, 1) := by decide +kernel
theorem dX5_rule_37 : decode cX5_rule 37 = .ok (.getfield 7, 3) := by decide +kernel
theorem dX5_rule_40 : decode cX5_rule 40 = .ok (.iload_n 1, 1) := by decide +kernel
theorem dX5_rule_41 : decode cX5_rule 41 = .ok (.iload_n 2, 1) := by decide +kernel
theorem dX5_rule_42 : decode cX5_rule 42 = .ok (.invokestatic 63, 3) := by decide +kernel
theorem dX5_rule_45 : decode cX5_rule 45 = .ok (.ireturn, 1) := by decide +kernel
theorem dX5_net_0 : decode cX5_net 0 = .ok (.iload_n 1, 1) := by decide +kernel
theorem dX5_net_1 : decode cX5_net 1 = .ok (.invokestatic 88, 3) := by decide +kernel
theorem dX5_net_4 : decode cX5_net 4 = .ok (.ifCond .eq 21, 3) := by decide +kernel
theorem dX5_net_7 : decode cX5_net 7 = .ok (.aload_n 0, 1) := by decide +kernel
theorem dX5_net_8 : decode cX5_net 8 = .ok (.getfield 23, 3) := by decide +kernel
theorem dX5_net_11 : decode cX5_net 11 = .ok (.iload_n 1, 1) := by decide +kernel
theorem dX5_net_12 : decode cX5_net 12 = .ok (.aload_n 0, 1) := by decide +kernel
theorem dX5_net_13 : decode cX5_net 13 = .ok (.invokevirtual 112, 3) := by decide +kernel
theorem dX5_net_16 : decode cX5_net 16 = .ok (.invokevirtual 116, 3) := by decide +kernel
theorem dX5_net_19 : decode cX5_net 19 = .ok (.ldc 120, 2) := by decide +kernel
theorem dX5_net_21 : decode cX5_net 21 = .ok (.iadd, 1) := by decide +kernel
theorem dX5_net_22 : decode cX5_net 22 = .ok (.goto 5, 3) := by decide +kernel
theorem dX5_net_25 : decode cX5_net 25 = .ok (.bipush (-2), 2) := by decide +kernel
theorem dX5_net_27 : decode cX5_net 27 = .ok (.ireturn, 1) := by decide +kernel
theorem dX5_beats_0 : decode cX5_beats 0 = .ok (.iload_n 1, 1) := by decide +kernel
theorem dX5_beats_1 : decode cX5_beats 1 = .ok (.invokestatic 88, 3) := by decide +kernel
theorem dX5_beats_4 : decode cX5_beats 4 = .ok (.ifCond .eq 14, 3) := by decide +kernel
theorem dX5_beats_7 : decode cX5_beats 7 = .ok (.iload_n 2, 1) := by decide +kernel
theorem dX5_beats_8 : decode cX5_beats 8 = .ok (.iconst 0, 1) := by decide +kernel
theorem dX5_beats_9 : decode cX5_beats 9 = .ok (.sipush 10000, 3) := by decide +kernel
theorem dX5_beats_12 : decode cX5_beats 12 = .ok (.invokestatic 48, 3) := by decide +kernel
theorem dX5_beats_15 : decode cX5_beats 15 = .ok (.ifCond .ne 6, 3) := by decide +kernel
theorem dX5_beats_18 : decode cX5_beats 18 = .ok (.bipush (-2), 2) := by decide +kernel
theorem dX5_beats_20 : decode cX5_beats 20 = .ok (.ireturn, 1) := by decide +kernel
theorem dX5_beats_21 : decode cX5_beats 21 = .ok (.aload_n 0, 1) := by decide +kernel
theorem dX5_beats_22 : decode cX5_beats 22 = .ok (.getfield 23, 3) := by decide +kernel
theorem dX5_beats_25 : decode cX5_beats 25 = .ok (.iload_n 1, 1) := by decide +kernel
theorem dX5_beats_26 : decode cX5_beats 26 = .ok (.iload_n 2, 1) := by decide +kernel
theorem dX5_beats_27 : decode cX5_beats 27 = .ok (.aload_n 0, 1) := by decide +kernel
theorem dX5_beats_28 : decode cX5_beats 28 = .ok (.invokevirtual 112, 3) := by decide +kernel
theorem dX5_beats_31 : decode cX5_beats 31 = .ok (.invokevirtual 121, 3) := by decide +kernel
theorem dX5_beats_34 : decode cX5_beats 34 = .ok (.ireturn, 1) := by decide +kernel
theorem dX5_settles_0 : decode cX5_settles 0 = .ok (.iload_n 1, 1) := by decide +kernel
theorem dX5_settles_1 : decode cX5_settles 1 = .ok (.invokestatic 88, 3) := by decide +kernel
theorem dX5_settles_4 : decode cX5_settles 4 = .ok (.ifCond .eq 18, 3) := by decide +kernel
theorem dX5_settles_7 : decode cX5_settles 7 = .ok (.aload_n 0, 1) := by decide +kernel
theorem dX5_settles_8 : decode cX5_settles 8 = .ok (.getfield 23, 3) := by decide +kernel
theorem dX5_settles_11 : decode cX5_settles 11 = .ok (.iload_n 1, 1) := by decide +kernel
theorem dX5_settles_12 : decode cX5_settles 12 = .ok (.aload_n 0, 1) := by decide +kernel
theorem dX5_settles_13 : decode cX5_settles 13 = .ok (.invokevirtual 112, 3) := by decide +kernel
theorem dX5_settles_16 : decode cX5_settles 16 = .ok (.invokevirtual 125, 3) := by decide +kernel
theorem dX5_settles_19 : decode cX5_settles 19 = .ok (.goto 5, 3) := by decide +kernel
theorem dX5_settles_22 : decode cX5_settles 22 = .ok (.bipush (-2), 2) := by decide +kernel
theorem dX5_settles_24 : decode cX5_settles 24 = .ok (.ireturn, 1) := by decide +kernel
theorem dX5_ring_0 : decode cX5_ring 0 = .ok (.iload_n 1, 1) := by decide +kernel
theorem dX5_ring_1 : decode cX5_ring 1 = .ok (.invokestatic 88, 3) := by decide +kernel
theorem dX5_ring_4 : decode cX5_ring 4 = .ok (.ifCond .eq 12, 3) := by decide +kernel
theorem dX5_ring_7 : decode cX5_ring 7 = .ok (.iload_n 2, 1) := by decide +kernel
theorem dX5_ring_8 : decode cX5_ring 8 = .ok (.iconst 0, 1) := by decide +kernel
theorem dX5_ring_9 : decode cX5_ring 9 = .ok (.iconst 3, 1) := by decide +kernel
theorem dX5_ring_10 : decode cX5_ring 10 = .ok (.invokestatic 48, 3) := by decide +kernel
theorem dX5_ring_13 : decode cX5_ring 13 = .ok (.ifCond .ne 6, 3) := by decide +kernel
theorem dX5_ring_16 : decode cX5_ring 16 = .ok (.bipush (-2), 2) := by decide +kernel
theorem dX5_ring_18 : decode cX5_ring 18 = .ok (.ireturn, 1) := by decide +kernel
theorem dX5_ring_19 : decode cX5_ring 19 = .ok (.aload_n 0, 1) := by decide +kernel
theorem dX5_ring_20 : decode cX5_ring 20 = .ok (.getfield 23, 3) := by decide +kernel
theorem dX5_ring_23 : decode cX5_ring 23 = .ok (.iload_n 1, 1) := by decide +kernel
theorem dX5_ring_24 : decode cX5_ring 24 = .ok (.iload_n 2, 1) := by decide +kernel
theorem dX5_ring_25 : decode cX5_ring 25 = .ok (.aload_n 0, 1) := by decide +kernel
theorem dX5_ring_26 : decode cX5_ring 26 = .ok (.invokevirtual 112, 3) := by decide +kernel
theorem dX5_ring_29 : decode cX5_ring 29 = .ok (.invokevirtual 128, 3) := by decide +kernel
theorem dX5_ring_32 : decode cX5_ring 32 = .ok (.ireturn, 1) := by decide +kernel
theorem dX5_tooMany_0 : decode cX5_tooMany 0 = .ok (.iload_n 1, 1) := by decide +kernel
theorem dX5_tooMany_1 : decode cX5_tooMany 1 = .ok (.invokestatic 85, 3) := by decide +kernel
theorem dX5_tooMany_4 : decode cX5_tooMany 4 = .ok (.ifCond .eq 24, 3) := by decide +kernel
theorem dX5_tooMany_7 : decode cX5_tooMany 7 = .ok (.aload_n 0, 1) := by decide +kernel
theorem dX5_tooMany_8 : decode cX5_tooMany 8 = .ok (.getfield 23, 3) := by decide +kernel
theorem dX5_tooMany_11 : decode cX5_tooMany 11 = .ok (.iload_n 1, 1) := by decide +kernel
theorem dX5_tooMany_12 : decode cX5_tooMany 12 = .ok (.aload_n 0, 1) := by decide +kernel
theorem dX5_tooMany_13 : decode cX5_tooMany 13 = .ok (.getfield 7, 3) := by decide +kernel
theorem dX5_tooMany_16 : decode cX5_tooMany 16 = .ok (.iconst 1, 1) := by decide +kernel
theorem dX5_tooMany_17 : decode cX5_tooMany 17 = .ok (.iaload, 1) := by decide +kernel
theorem dX5_tooMany_18 : decode cX5_tooMany 18 = .ok (.aload_n 0, 1) := by decide +kernel
theorem dX5_tooMany_19 : decode cX5_tooMany 19 = .ok (.invokevirtual 112, 3) := by decide +kernel
theorem dX5_tooMany_22 : decode cX5_tooMany 22 = .ok (.invokevirtual 131, 3) := by decide +kernel
theorem dX5_tooMany_25 : decode cX5_tooMany 25 = .ok (.goto 4, 3) := by decide +kernel
theorem dX5_tooMany_28 : decode cX5_tooMany 28 = .ok (.iconst (-1), 1) := by decide +kernel
theorem dX5_tooMany_29 : decode cX5_tooMany 29 = .ok (.ireturn, 1) := by decide +kernel
theorem dX5_inStep_0 : decode cX5_inStep 0 = .ok (.iload_n 1, 1) := by decide +kernel
theorem dX5_inStep_1 : decode cX5_inStep 1 = .ok (.invokestatic 88, 3) := by decide +kernel
theorem dX5_inStep_4 : decode cX5_inStep 4 = .ok (.ifCond .eq 14, 3) := by decide +kernel
theorem dX5_inStep_7 : decode cX5_inStep 7 = .ok (.aload_n 0, 1) := by decide +kernel
theorem dX5_inStep_8 : decode cX5_inStep 8 = .ok (.getfield 23, 3) := by decide +kernel
theorem dX5_inStep_11 : decode cX5_inStep 11 = .ok (.iload_n 1, 1) := by decide +kernel
theorem dX5_inStep_12 : decode cX5_inStep 12 = .ok (.invokevirtual 134, 3) := by decide +kernel
theorem dX5_inStep_15 : decode cX5_inStep 15 = .ok (.goto 5, 3) := by decide +kernel
theorem dX5_inStep_18 : decode cX5_inStep 18 = .ok (.bipush (-2), 2) := by decide +kernel
theorem dX5_inStep_20 : decode cX5_inStep 20 = .ok (.ireturn, 1) := by decide +kernel
theorem dX5_damper_0 : decode cX5_damper 0 = .ok (.iload_n 1, 1) := by decide +kernel
theorem dX5_damper_1 : decode cX5_damper 1 = .ok (.iconst 1, 1) := by decide +kernel
theorem dX5_damper_2 : decode cX5_damper 2 = .ok (.sipush 500, 3) := by decide +kernel
theorem dX5_damper_5 : decode cX5_damper 5 = .ok (.invokestatic 48, 3) := by decide +kernel
theorem dX5_damper_8 : decode cX5_damper 8 = .ok (.ifCond .eq 24, 3) := by decide +kernel
theorem dX5_damper_11 : decode cX5_damper 11 = .ok (.iload_n 2, 1) := by decide +kernel
theorem dX5_damper_12 : decode cX5_damper 12 = .ok (.iconst 0, 1) := by decide +kernel
theorem dX5_damper_13 : decode cX5_damper 13 = .ok (.sipush 9999, 3) := by decide +kernel
theorem dX5_damper_16 : decode cX5_damper 16 = .ok (.invokestatic 48, 3) := by decide +kernel
theorem dX5_damper_19 : decode cX5_damper 19 = .ok (.ifCond .eq 13, 3) := by decide +kernel
theorem dX5_damper_22 : decode cX5_damper 22 = .ok (.iload_n 3, 1) := by decide +kernel
theorem dX5_damper_23 : decode cX5_damper 23 = .ok (.iconst 0, 1) := by decide +kernel
theorem dX5_damper_24 : decode cX5_damper 24 = .ok (.bipush 99, 2) := by decide +kernel
theorem dX5_damper_26 : decode cX5_damper 26 = .ok (.invokestatic 48, 3) := by decide +kernel
theorem dX5_damper_29 : decode cX5_damper 29 = .ok (.ifCond .ne 6, 3) := by decide +kernel
theorem dX5_damper_32 : decode cX5_damper 32 = .ok (.bipush (-2), 2) := by decide +kernel
theorem dX5_damper_34 : decode cX5_damper 34 = .ok (.ireturn, 1) := by decide +kernel
theorem dX5_damper_35 : decode cX5_damper 35 = .ok (.aload_n 0, 1) := by decide +kernel
theorem dX5_damper_36 : decode cX5_damper 36 = .ok (.getfield 30, 3) := by decide +kernel
theorem dX5_damper_39 : decode cX5_damper 39 = .ok (.getfield 137, 3) := by decide +kernel
theorem dX5_damper_42 : decode cX5_damper 42 = .ok (.bipush 10, 2) := by decide +kernel
theorem dX5_damper_44 : decode cX5_damper 44 = .ok (.if_icmp .ge 16, 3) := by decide +kernel
theorem dX5_damper_47 : decode cX5_damper 47 = .ok (.aload_n 0, 1) := by decide +kernel
theorem dX5_damper_48 : decode cX5_damper 48 = .ok (.getfield 30, 3) := by decide +kernel
theorem dX5_damper_51 : decode cX5_damper 51 = .ok (.iload_n 1, 1) := by decide +kernel
theorem dX5_damper_52 : decode cX5_damper 52 = .ok (.iload_n 2, 1) := by decide +kernel
theorem dX5_damper_53 : decode cX5_damper 53 = .ok (.iload_n 3, 1) := by decide +kernel
theorem dX5_damper_54 : decode cX5_damper 54 = .ok (.invokevirtual 140, 3) := by decide +kernel
theorem dX5_damper_57 : decode cX5_damper 57 = .ok (.goto 5, 3) := by decide +kernel
theorem dX5_damper_60 : decode cX5_damper 60 = .ok (.bipush (-4), 2) := by decide +kernel
theorem dX5_damper_62 : decode cX5_damper 62 = .ok (.ireturn, 1) := by decide +kernel
theorem dX5_build_0 : decode cX5_build 0 = .ok (.iload_n 1, 1) := by decide +kernel
theorem dX5_build_1 : decode cX5_build 1 = .ok (.iconst 0, 1) := by decide +kernel
theorem dX5_build_2 : decode cX5_build 2 = .ok (.aload_n 0, 1) := by decide +kernel
theorem dX5_build_3 : decode cX5_build 3 = .ok (.getfield 30, 3) := by decide +kernel
theorem dX5_build_6 : decode cX5_build 6 = .ok (.getfield 137, 3) := by decide +kernel
theorem dX5_build_9 : decode cX5_build 9 = .ok (.iconst 1, 1) := by decide +kernel
theorem dX5_build_10 : decode cX5_build 10 = .ok (.isub, 1) := by decide +kernel
theorem dX5_build_11 : decode cX5_build 11 = .ok (.invokestatic 48, 3) := by decide +kernel
theorem dX5_build_14 : decode cX5_build 14 = .ok (.ifCond .ne 5, 3) := by decide +kernel
theorem dX5_build_17 : decode cX5_build 17 = .ok (.iconst (-1), 1) := by decide +kernel
theorem dX5_build_18 : decode cX5_build 18 = .ok (.ireturn, 1) := by decide +kernel
theorem dX5_build_19 : decode cX5_build 19 = .ok (.aload_n 0, 1) := by decide +kernel
theorem dX5_build_20 : decode cX5_build 20 = .ok (.getfield 30, 3) := by decide +kernel
theorem dX5_build_23 : decode cX5_build 23 = .ok (.getfield 143, 3) := by decide +kernel
theorem dX5_build_26 : decode cX5_build 26 = .ok (.iload_n 1, 1) := by decide +kernel
theorem dX5_build_27 : decode cX5_build 27 = .ok (.iload_n 2, 1) := by decide +kernel
theorem dX5_build_28 : decode cX5_build 28 = .ok (.invokestatic 81, 3) := by decide +kernel
theorem dX5_build_31 : decode cX5_build 31 = .ok (.invokestatic 63, 3) := by decide +kernel
theorem dX5_build_34 : decode cX5_build 34 = .ok (.ireturn, 1) := by decide +kernel
theorem dX5_cheapest_0 : decode cX5_cheapest 0 = .ok (.aload_n 0, 1) := by decide +kernel
theorem dX5_cheapest_1 : decode cX5_cheapest 1 = .ok (.getfield 30, 3) := by decide +kernel
theorem dX5_cheapest_4 : decode cX5_cheapest 4 = .ok (.aload_n 0, 1) := by decide +kernel
theorem dX5_cheapest_5 : decode cX5_cheapest 5 = .ok (.getfield 23, 3) := by decide +kernel
theorem dX5_cheapest_8 : decode cX5_cheapest 8 = .ok (.aload_n 0, 1) := by decide +kernel
theorem dX5_cheapest_9 : decode cX5_cheapest 9 = .ok (.getfield 7, 3) := by decide +kernel
theorem dX5_cheapest_12 : decode cX5_cheapest 12 = .ok (.invokevirtual 146, 3) := by decide +kernel
theorem dX5_cheapest_15 : decode cX5_cheapest 15 = .ok (.aload_n 0, 1) := by decide +kernel
theorem dX5_cheapest_16 : decode cX5_cheapest 16 = .ok (.getfield 30, 3) := by decide +kernel
theorem dX5_cheapest_19 : decode cX5_cheapest 19 = .ok (.invokevirtual 150, 3) := by decide +kernel
theorem dX5_cheapest_22 : decode cX5_cheapest 22 = .ok (.ireturn, 1) := by decide +kernel
theorem dX5_bought_0 : decode cX5_bought 0 = .ok (.aload_n 0, 1) := by decide +kernel
theorem dX5_bought_1 : decode cX5_bought 1 = .ok (.getfield 30, 3) := by decide +kernel
theorem dX5_bought_4 : decode cX5_bought 4 = .ok (.aload_n 0, 1) := by decide +kernel
theorem dX5_bought_5 : decode cX5_bought 5 = .ok (.getfield 23, 3) := by decide +kernel
theorem dX5_bought_8 : decode cX5_bought 8 = .ok (.aload_n 0, 1) := by decide +kernel
theorem dX5_bought_9 : decode cX5_bought 9 = .ok (.getfield 7, 3) := by decide +kernel
theorem dX5_bought_12 : decode cX5_bought 12 = .ok (.invokevirtual 146, 3) := by decide +kernel
theorem dX5_bought_15 : decode cX5_bought 15 = .ok (.aload_n 0, 1) := by decide +kernel
theorem dX5_bought_16 : decode cX5_bought 16 = .ok (.getfield 30, 3) := by decide +kernel
theorem dX5_bought_19 : decode cX5_bought 19 = .ok (.iload_n 1, 1) := by decide +kernel
theorem dX5_bought_20 : decode cX5_bought 20 = .ok (.invokevirtual 153, 3) := by decide +kernel
theorem dX5_bought_23 : decode cX5_bought 23 = .ok (.ireturn, 1) := by decide +kernel
theorem dX5_way_0 : decode cX5_way 0 = .ok (.iload_n 1, 1) := by decide +kernel
theorem dX5_way_1 : decode cX5_way 1 = .ok (.iconst 0, 1) := by decide +kernel
theorem dX5_way_2 : decode cX5_way 2 = .ok (.iconst 5, 1) := by decide +kernel
theorem dX5_way_3 : decode cX5_way 3 = .ok (.invokestatic 48, 3) := by decide +kernel
theorem dX5_way_6 : decode cX5_way 6 = .ok (.ifCond .eq 20, 3) := by decide +kernel
theorem dX5_way_9 : decode cX5_way 9 = .ok (.iload_n 2, 1) := by decide +kernel
theorem dX5_way_10 : decode cX5_way 10 = .ok (.getstatic 156, 3) := by decide +kernel
theorem dX5_way_13 : decode cX5_way 13 = .ok (.iload_n 1, 1) := by decide +kernel
theorem dX5_way_14 : decode cX5_way 14 = .ok (.iaload, 1) := by decide +kernel
theorem dX5_way_15 : decode cX5_way 15 = .ok (.getstatic 159, 3) := by decide +kernel
theorem dX5_way_18 : decode cX5_way 18 = .ok (.iload_n 1, 1) := by decide +kernel
theorem dX5_way_19 : decode cX5_way 19 = .ok (.iaload, 1) := by decide +kernel
theorem dX5_way_20 : decode cX5_way 20 = .ok (.invokestatic 48, 3) := by decide +kernel
theorem dX5_way_23 : decode cX5_way 23 = .ok (.ifCond .ne 6, 3) := by decide +kernel
theorem dX5_way_26 : decode cX5_way 26 = .ok (.bipush (-2), 2) := by decide +kernel
theorem dX5_way_28 : decode cX5_way 28 = .ok (.ireturn, 1) := by decide +kernel
theorem dX5_way_29 : decode cX5_way 29 = .ok (.aload_n 0, 1) := by decide +kernel
theorem dX5_way_30 : decode cX5_way 30 = .ok (.getfield 37, 3) := by decide +kernel
theorem dX5_way_33 : decode cX5_way 33 = .ok (.getfield 162, 3) := by decide +kernel
theorem dX5_way_36 : decode cX5_way 36 = .ok (.iload_n 1, 1) := by decide +kernel
theorem dX5_way_37 : decode cX5_way 37 = .ok (.iload_n 2, 1) := by decide +kernel
theorem dX5_way_38 : decode cX5_way 38 = .ok (.invokestatic 63, 3) := by decide +kernel
theorem dX5_way_41 : decode cX5_way 41 = .ok (.ireturn, 1) := by decide +kernel
theorem dX5_arrive_0 : decode cX5_arrive 0 = .ok (.iload_n 1, 1) := by decide +kernel
theorem dX5_arrive_1 : decode cX5_arrive 1 = .ok (.iconst 0, 1) := by decide +kernel
theorem dX5_arrive_2 : decode cX5_arrive 2 = .ok (.bipush 59, 2) := by decide +kernel
theorem dX5_arrive_4 : decode cX5_arrive 4 = .ok (.invokestatic 48, 3) := by decide +kernel
theorem dX5_arrive_7 : decode cX5_arrive 7 = .ok (.ifCond .eq 13, 3) := by decide +kernel
theorem dX5_arrive_10 : decode cX5_arrive 10 = .ok (.iload_n 2, 1) := by decide +kernel
theorem dX5_arrive_11 : decode cX5_arrive 11 = .ok (.iconst 0, 1) := by decide +kernel
theorem dX5_arrive_12 : decode cX5_arrive 12 = .ok (.bipush 99, 2) := by decide +kernel
theorem dX5_arrive_14 : decode cX5_arrive 14 = .ok (.invokestatic 48, 3) := by decide +kernel
theorem dX5_arrive_17 : decode cX5_arrive 17 = .ok (.ifCond .ne 6, 3) := by decide +kernel
theorem dX5_arrive_20 : decode cX5_arrive 20 = .ok (.bipush (-2), 2) := by decide +kernel
theorem dX5_arrive_22 : decode cX5_arrive 22 = .ok (.ireturn, 1) := by decide +kernel
theorem dX5_arrive_23 : decode cX5_arrive 23 = .ok (.aload_n 0, 1) := by decide +kernel
theorem dX5_arrive_24 : decode cX5_arrive 24 = .ok (.getfield 37, 3) := by decide +kernel
theorem dX5_arrive_27 : decode cX5_arrive 27 = .ok (.getfield 165, 3) := by decide +kernel
theorem dX5_arrive_30 : decode cX5_arrive 30 = .ok (.iload_n 1, 1) := by decide +kernel
theorem dX5_arrive_31 : decode cX5_arrive 31 = .ok (.iload_n 2, 1) := by decide +kernel
theorem dX5_arrive_32 : decode cX5_arrive 32 = .ok (.invokestatic 63, 3) := by decide +kernel
theorem dX5_arrive_35 : decode cX5_arrive 35 = .ok (.ireturn, 1) := by decide +kernel
theorem dX5_day_0 : decode cX5_day 0 = .ok (.iload_n 1, 1) := by decide +kernel
theorem dX5_day_1 : decode cX5_day 1 = .ok (.invokestatic 168, 3) := by decide +kernel
theorem dX5_day_4 : decode cX5_day 4 = .ok (.ifCond .eq 12, 3) := by decide +kernel
theorem dX5_day_7 : decode cX5_day 7 = .ok (.iload_n 2, 1) := by decide +kernel
theorem dX5_day_8 : decode cX5_day 8 = .ok (.iconst 0, 1) := by decide +kernel
theorem dX5_day_9 : decode cX5_day 9 = .ok (.iconst 5, 1) := by decide +kernel
theorem dX5_day_10 : decode cX5_day 10 = .ok (.invokestatic 48, 3) := by decide +kernel
theorem dX5_day_13 : decode cX5_day 13 = .ok (.ifCond .ne 6, 3) := by decide +kernel
theorem dX5_day_16 : decode cX5_day 16 = .ok (.bipush (-2), 2) := by decide +kernel
theorem dX5_day_18 : decode cX5_day 18 = .ok (.ireturn, 1) := by decide +kernel
theorem dX5_day_19 : decode cX5_day 19 = .ok (.aload_n 0, 1) := by decide +kernel
theorem dX5_day_20 : decode cX5_day 20 = .ok (.iload_n 1, 1) := by decide +kernel
theorem dX5_day_21 : decode cX5_day 21 = .ok (.invokevirtual 171, 3) := by decide +kernel
theorem dX5_day_24 : decode cX5_day 24 = .ok (.iload_n 2, 1) := by decide +kernel
theorem dX5_day_25 : decode cX5_day 25 = .ok (.tableswitch 75 0 4 #[35, 43, 51, 59, 67], 35) := by decide +kernel
theorem dX5_day_60 : decode cX5_day 60 = .ok (.aload_n 0, 1) := by decide +kernel
theorem dX5_day_61 : decode cX5_day 61 = .ok (.getfield 37, 3) := by decide +kernel
theorem dX5_day_64 : decode cX5_day 64 = .ok (.getfield 174, 3) := by decide +kernel
theorem dX5_day_67 : decode cX5_day 67 = .ok (.ireturn, 1) := by decide +kernel
theorem dX5_day_68 : decode cX5_day 68 = .ok (.aload_n 0, 1) := by decide +kernel
theorem dX5_day_69 : decode cX5_day 69 = .ok (.getfield 37, 3) := by decide +kernel
theorem dX5_day_72 : decode cX5_day 72 = .ok (.getfield 177, 3) := by decide +kernel
theorem dX5_day_75 : decode cX5_day 75 = .ok (.ireturn, 1) := by decide +kernel
theorem dX5_day_76 : decode cX5_day 76 = .ok (.aload_n 0, 1) := by decide +kernel
theorem dX5_day_77 : decode cX5_day 77 = .ok (.getfield 37, 3) := by decide +kernel
theorem dX5_day_80 : decode cX5_day 80 = .ok (.getfield 180, 3) := by decide +kernel
theorem dX5_day_83 : decode cX5_day 83 = .ok (.ireturn, 1) := by decide +kernel
theorem dX5_day_84 : decode cX5_day 84 = .ok (.aload_n 0, 1) := by decide +kernel
theorem dX5_day_85 : decode cX5_day 85 = .ok (.getfield 37, 3) := by decide +kernel
theorem dX5_day_88 : decode cX5_day 88 = .ok (.getfield 183, 3) := by decide +kernel
theorem dX5_day_91 : decode cX5_day 91 = .ok (.ireturn, 1) := by decide +kernel
theorem dX5_day_92 : decode cX5_day 92 = .ok (.aload_n 0, 1) := by decide +kernel
theorem dX5_day_93 : decode cX5_day 93 = .ok (.getfield 37, 3) := by decide +kernel
theorem dX5_day_96 : decode cX5_day 96 = .ok (.getfield 186, 3) := by decide +kernel
theorem dX5_day_99 : decode cX5_day 99 = .ok (.ireturn, 1) := by decide +kernel
theorem dX5_day_100 : decode cX5_day 100 = .ok (.aload_n 0, 1) := by decide +kernel
theorem dX5_day_101 : decode cX5_day 101 = .ok (.getfield 37, 3) := by decide +kernel
theorem dX5_day_104 : decode cX5_day 104 = .ok (.getfield 189, 3) := by decide +kernel
theorem dX5_day_107 : decode cX5_day 107 = .ok (.ireturn, 1) := by decide +kernel
theorem dX5_on_0 : decode cX5_on 0 = .ok (.iload_n 1, 1) := by decide +kernel
theorem dX5_on_1 : decode cX5_on 1 = .ok (.invokestatic 168, 3) := by decide +kernel
theorem dX5_on_4 : decode cX5_on 4 = .ok (.ifCond .ne 6, 3) := by decide +kernel
theorem dX5_on_7 : decode cX5_on 7 = .ok (.bipush (-2), 2) := by decide +kernel
theorem dX5_on_9 : decode cX5_on 9 = .ok (.ireturn, 1) := by decide +kernel
theorem dX5_on_10 : decode cX5_on 10 = .ok (.iload_n 2, 1) := by decide +kernel
theorem dX5_on_11 : decode cX5_on 11 = .ok (.iconst 0, 1) := by decide +kernel
theorem dX5_on_12 : decode cX5_on 12 = .ok (.aload_n 0, 1) := by decide +kernel
theorem dX5_on_13 : decode cX5_on 13 = .ok (.getfield 37, 3) := by decide +kernel
theorem dX5_on_16 : decode cX5_on 16 = .ok (.getfield 162, 3) := by decide +kernel
theorem dX5_on_19 : decode cX5_on 19 = .ok (.iconst 0, 1) := by decide +kernel
theorem dX5_on_20 : decode cX5_on 20 = .ok (.iaload, 1) := by decide +kernel
theorem dX5_on_21 : decode cX5_on 21 = .ok (.iconst 1, 1) := by decide +kernel
theorem dX5_on_22 : decode cX5_on 22 = .ok (.isub, 1) := by decide +kernel
theorem dX5_on_23 : decode cX5_on 23 = .ok (.invokestatic 48, 3) := by decide +kernel
theorem dX5_on_26 : decode cX5_on 26 = .ok (.ifCond .ne 5, 3) := by decide +kernel
theorem dX5_on_29 : decode cX5_on 29 = .ok (.iconst (-1), 1) := by decide +kernel
theorem dX5_on_30 : decode cX5_on 30 = .ok (.ireturn, 1) := by decide +kernel
theorem dX5_on_31 : decode cX5_on 31 = .ok (.aload_n 0, 1) := by decide +kernel
theorem dX5_on_32 : decode cX5_on 32 = .ok (.iload_n 1, 1) := by decide +kernel
theorem dX5_on_33 : decode cX5_on 33 = .ok (.invokevirtual 171, 3) := by decide +kernel
theorem dX5_on_36 : decode cX5_on 36 = .ok (.aload_n 0, 1) := by decide +kernel
theorem dX5_on_37 : decode cX5_on 37 = .ok (.getfield 37, 3) := by decide +kernel
theorem dX5_on_40 : decode cX5_on 40 = .ok (.getfield 192, 3) := by decide +kernel
theorem dX5_on_43 : decode cX5_on 43 = .ok (.iload_n 2, 1) := by decide +kernel
theorem dX5_on_44 : decode cX5_on 44 = .ok (.iaload, 1) := by decide +kernel
theorem dX5_on_45 : decode cX5_on 45 = .ok (.ireturn, 1) := by decide +kernel
theorem dX5_bestMark_0 : decode cX5_bestMark 0 = .ok (.iload_n 1, 1) := by decide +kernel
theorem dX5_bestMark_1 : decode cX5_bestMark 1 = .ok (.invokestatic 168, 3) := by decide +kernel
theorem dX5_bestMark_4 : decode cX5_bestMark 4 = .ok (.ifCond .eq 26, 3) := by decide +kernel
theorem dX5_bestMark_7 : decode cX5_bestMark 7 = .ok (.aload_n 0, 1) := by decide +kernel
theorem dX5_bestMark_8 : decode cX5_bestMark 8 = .ok (.getfield 37, 3) := by decide +kernel
theorem dX5_bestMark_11 : decode cX5_bestMark 11 = .ok (.iload_n 1, 1) := by decide +kernel
theorem dX5_bestMark_12 : decode cX5_bestMark 12 = .ok (.aload_n 0, 1) := by decide +kernel
theorem dX5_bestMark_13 : decode cX5_bestMark 13 = .ok (.getfield 23, 3) := by decide +kernel
theorem dX5_bestMark_16 : decode cX5_bestMark 16 = .ok (.aload_n 0, 1) := by decide +kernel
theorem dX5_bestMark_17 : decode cX5_bestMark 17 = .ok (.getfield 7, 3) := by decide +kernel
theorem dX5_bestMark_20 : decode cX5_bestMark 20 = .ok (.aload_n 0, 1) := by decide +kernel
theorem dX5_bestMark_21 : decode cX5_bestMark 21 = .ok (.invokevirtual 112, 3) := by decide +kernel
theorem dX5_bestMark_24 : decode cX5_bestMark 24 = .ok (.invokevirtual 195, 3) := by decide +kernel
theorem dX5_bestMark_27 : decode cX5_bestMark 27 = .ok (.goto 5, 3) := by decide +kernel
theorem dX5_bestMark_30 : decode cX5_bestMark 30 = .ok (.bipush (-2), 2) := by decide +kernel
theorem dX5_bestMark_32 : decode cX5_bestMark 32 = .ok (.ireturn, 1) := by decide +kernel
theorem dX5_test_0 : decode cX5_test 0 = .ok (.iload_n 1, 1) := by decide +kernel
theorem dX5_test_1 : decode cX5_test 1 = .ok (.iconst 0, 1) := by decide +kernel
theorem dX5_test_2 : decode cX5_test 2 = .ok (.bipush 99, 2) := by decide +kernel
theorem dX5_test_4 : decode cX5_test 4 = .ok (.invokestatic 48, 3) := by decide +kernel
theorem dX5_test_7 : decode cX5_test 7 = .ok (.ifCond .eq 17, 3) := by decide +kernel
theorem dX5_test_10 : decode cX5_test 10 = .ok (.iload_n 2, 1) := by decide +kernel
theorem dX5_test_11 : decode cX5_test 11 = .ok (.invokestatic 88, 3) := by decide +kernel
theorem dX5_test_14 : decode cX5_test 14 = .ok (.ifCond .eq 10, 3) := by decide +kernel
theorem dX5_test_17 : decode cX5_test 17 = .ok (.iload_n 3, 1) := by decide +kernel
theorem dX5_test_18 : decode cX5_test 18 = .ok (.invokestatic 199, 3) := by decide +kernel
theorem dX5_test_21 : decode cX5_test 21 = .ok (.ifCond .ne 6, 3) := by decide +kernel
theorem dX5_test_24 : decode cX5_test 24 = .ok (.bipush (-2), 2) := by decide +kernel
theorem dX5_test_26 : decode cX5_test 26 = .ok (.ireturn, 1) := by decide +kernel
theorem dX5_test_27 : decode cX5_test 27 = .ok (.iload 4, 2) := by decide +kernel
theorem dX5_test_29 : decode cX5_test 29 = .ok (.invokestatic 88, 3) := by decide +kernel
theorem dX5_test_32 : decode cX5_test 32 = .ok (.ifCond .eq 18, 3) := by decide +kernel
theorem dX5_test_35 : decode cX5_test 35 = .ok (.iload 5, 2) := by decide +kernel
theorem dX5_test_37 : decode cX5_test 37 = .ok (.invokestatic 88, 3) := by decide +kernel
theorem dX5_test_40 : decode cX5_test 40 = .ok (.ifCond .eq 10, 3) := by decide +kernel
theorem dX5_test_43 : decode cX5_test 43 = .ok (.iload 4, 2) := by decide +kernel
theorem dX5_test_45 : decode cX5_test 45 = .ok (.iload 5, 2) := by decide +kernel
theorem dX5_test_47 : decode cX5_test 47 = .ok (.if_icmp .le 6, 3) := by decide +kernel
theorem dX5_test_50 : decode cX5_test 50 = .ok (.bipush (-2), 2) := by decide +kernel
theorem dX5_test_52 : decode cX5_test 52 = .ok (.ireturn, 1) := by decide +kernel
theorem dX5_test_53 : decode cX5_test 53 = .ok (.aload_n 0, 1) := by decide +kernel
theorem dX5_test_54 : decode cX5_test 54 = .ok (.getfield 44, 3) := by decide +kernel
theorem dX5_test_57 : decode cX5_test 57 = .ok (.getfield 202, 3) := by decide +kernel
theorem dX5_test_60 : decode cX5_test 60 = .ok (.bipush 20, 2) := by decide +kernel
theorem dX5_test_62 : decode cX5_test 62 = .ok (.if_icmp .ge 20, 3) := by decide +kernel
theorem dX5_test_65 : decode cX5_test 65 = .ok (.aload_n 0, 1) := by decide +kernel
theorem dX5_test_66 : decode cX5_test 66 = .ok (.getfield 44, 3) := by decide +kernel
theorem dX5_test_69 : decode cX5_test 69 = .ok (.iload_n 1, 1) := by decide +kernel
theorem dX5_test_70 : decode cX5_test 70 = .ok (.iload_n 2, 1) := by decide +kernel
theorem dX5_test_71 : decode cX5_test 71 = .ok (.iload_n 3, 1) := by decide +kernel
theorem dX5_test_72 : decode cX5_test 72 = .ok (.iload 4, 2) := by decide +kernel
theorem dX5_test_74 : decode cX5_test 74 = .ok (.iload 5, 2) := by decide +kernel
theorem dX5_test_76 : decode cX5_test 76 = .ok (.invokevirtual 203, 3) := by decide +kernel
theorem dX5_test_79 : decode cX5_test 79 = .ok (.goto 5, 3) := by decide +kernel
theorem dX5_test_82 : decode cX5_test 82 = .ok (.bipush (-4), 2) := by decide +kernel
theorem dX5_test_84 : decode cX5_test 84 = .ok (.ireturn, 1) := by decide +kernel
theorem dX5_forget_0 : decode cX5_forget 0 = .ok (.iload_n 1, 1) := by decide +kernel
theorem dX5_forget_1 : decode cX5_forget 1 = .ok (.iconst 0, 1) := by decide +kernel
theorem dX5_forget_2 : decode cX5_forget 2 = .ok (.aload_n 0, 1) := by decide +kernel
theorem dX5_forget_3 : decode cX5_forget 3 = .ok (.getfield 44, 3) := by decide +kernel
theorem dX5_forget_6 : decode cX5_forget 6 = .ok (.getfield 202, 3) := by decide +kernel
theorem dX5_forget_9 : decode cX5_forget 9 = .ok (.iconst 1, 1) := by decide +kernel
theorem dX5_forget_10 : decode cX5_forget 10 = .ok (.isub, 1) := by decide +kernel
theorem dX5_forget_11 : decode cX5_forget 11 = .ok (.invokestatic 48, 3) := by decide +kernel
theorem dX5_forget_14 : decode cX5_forget 14 = .ok (.ifCond .eq 14, 3) := by decide +kernel
theorem dX5_forget_17 : decode cX5_forget 17 = .ok (.aload_n 0, 1) := by decide +kernel
theorem dX5_forget_18 : decode cX5_forget 18 = .ok (.getfield 44, 3) := by decide +kernel
theorem dX5_forget_21 : decode cX5_forget 21 = .ok (.iload_n 1, 1) := by decide +kernel
theorem dX5_forget_22 : decode cX5_forget 22 = .ok (.invokevirtual 206, 3) := by decide +kernel
theorem dX5_forget_25 : decode cX5_forget 25 = .ok (.goto 4, 3) := by decide +kernel
theorem dX5_forget_28 : decode cX5_forget 28 = .ok (.iconst (-1), 1) := by decide +kernel
theorem dX5_forget_29 : decode cX5_forget 29 = .ok (.ireturn, 1) := by decide +kernel
theorem dX5_laws_0 : decode cX5_laws 0 = .ok (.aload_n 0, 1) := by decide +kernel
theorem dX5_laws_1 : decode cX5_laws 1 = .ok (.getfield 44, 3) := by decide +kernel
theorem dX5_laws_4 : decode cX5_laws 4 = .ok (.getfield 209, 3) := by decide +kernel
theorem dX5_laws_7 : decode cX5_laws 7 = .ok (.ireturn, 1) := by decide +kernel
theorem dX5_law_0 : decode cX5_law 0 = .ok (.aload_n 0, 1) := by decide +kernel
theorem dX5_law_1 : decode cX5_law 1 = .ok (.getfield 44, 3) := by decide +kernel
theorem dX5_law_4 : decode cX5_law 4 = .ok (.iload_n 1, 1) := by decide +kernel
theorem dX5_law_5 : decode cX5_law 5 = .ok (.invokevirtual 212, 3) := by decide +kernel
theorem dX5_law_8 : decode cX5_law 8 = .ok (.ireturn, 1) := by decide +kernel
theorem dX5_among_0 : decode cX5_among 0 = .ok (.aload_n 0, 1) := by decide +kernel
theorem dX5_among_1 : decode cX5_among 1 = .ok (.getfield 44, 3) := by decide +kernel
theorem dX5_among_4 : decode cX5_among 4 = .ok (.getfield 209, 3) := by decide +kernel
theorem dX5_among_7 : decode cX5_among 7 = .ok (.ifCond .ne 8, 3) := by decide +kernel
theorem dX5_among_10 : decode cX5_among 10 = .ok (.bipush (-9), 2) := by decide +kernel
theorem dX5_among_12 : decode cX5_among 12 = .ok (.goto 12, 3) := by decide +kernel
theorem dX5_among_15 : decode cX5_among 15 = .ok (.aload_n 0, 1) := by decide +kernel
theorem dX5_among_16 : decode cX5_among 16 = .ok (.getfield 44, 3) := by decide +kernel
theorem dX5_among_19 : decode cX5_among 19 = .ok (.iload_n 1, 1) := by decide +kernel
theorem dX5_among_20 : decode cX5_among 20 = .ok (.iload_n 2, 1) := by decide +kernel
theorem dX5_among_21 : decode cX5_among 21 = .ok (.invokevirtual 215, 3) := by decide +kernel
theorem dX5_among_24 : decode cX5_among 24 = .ok (.ireturn, 1) := by decide +kernel
theorem dX5_breaks_0 : decode cX5_breaks 0 = .ok (.iload_n 1, 1) := by decide +kernel
theorem dX5_breaks_1 : decode cX5_breaks 1 = .ok (.bipush 100, 2) := by decide +kernel
theorem dX5_breaks_3 : decode cX5_breaks 3 = .ok (.idiv, 1) := by decide +kernel
theorem dX5_breaks_4 : decode cX5_breaks 4 = .ok (.istore_n 2, 1) := by decide +kernel
theorem dX5_breaks_5 : decode cX5_breaks 5 = .ok (.iload_n 1, 1) := by decide +kernel
theorem dX5_breaks_6 : decode cX5_breaks 6 = .ok (.bipush 100, 2) := by decide +kernel
theorem dX5_breaks_8 : decode cX5_breaks 8 = .ok (.irem, 1) := by decide +kernel
theorem dX5_breaks_9 : decode cX5_breaks 9 = .ok (.istore_n 3, 1) := by decide +kernel
theorem dX5_breaks_10 : decode cX5_breaks 10 = .ok (.iload_n 2, 1) := by decide +kernel
theorem dX5_breaks_11 : decode cX5_breaks 11 = .ok (.iconst 0, 1) := by decide +kernel
theorem dX5_breaks_12 : decode cX5_breaks 12 = .ok (.bipush 49, 2) := by decide +kernel
theorem dX5_breaks_14 : decode cX5_breaks 14 = .ok (.invokestatic 48, 3) := by decide +kernel
theorem dX5_breaks_17 : decode cX5_breaks 17 = .ok (.ifCond .eq 13, 3) := by decide +kernel
theorem dX5_breaks_20 : decode cX5_breaks 20 = .ok (.iload_n 3, 1) := by decide +kernel
theorem dX5_breaks_21 : decode cX5_breaks 21 = .ok (.iconst 1, 1) := by decide +kernel
theorem dX5_breaks_22 : decode cX5_breaks 22 = .ok (.bipush 50, 2) := by decide +kernel
theorem dX5_breaks_24 : decode cX5_breaks 24 = .ok (.invokestatic 48, 3) := by decide +kernel
theorem dX5_breaks_27 : decode cX5_breaks 27 = .ok (.ifCond .ne 6, 3) := by decide +kernel
theorem dX5_breaks_30 : decode cX5_breaks 30 = .ok (.bipush (-2), 2) := by decide +kernel
theorem dX5_breaks_32 : decode cX5_breaks 32 = .ok (.ireturn, 1) := by decide +kernel
theorem dX5_breaks_33 : decode cX5_breaks 33 = .ok (.aload_n 0, 1) := by decide +kernel
theorem dX5_breaks_34 : decode cX5_breaks 34 = .ok (.getfield 44, 3) := by decide +kernel
theorem dX5_breaks_37 : decode cX5_breaks 37 = .ok (.iload_n 2, 1) := by decide +kernel
theorem dX5_breaks_38 : decode cX5_breaks 38 = .ok (.iload_n 3, 1) := by decide +kernel
theorem dX5_breaks_39 : decode cX5_breaks 39 = .ok (.invokevirtual 219, 3) := by decide +kernel
theorem dX5_breaks_42 : decode cX5_breaks 42 = .ok (.ireturn, 1) := by decide +kernel
theorem dX5_sure_0 : decode cX5_sure 0 = .ok (.iload_n 1, 1) := by decide +kernel
theorem dX5_sure_1 : decode cX5_sure 1 = .ok (.iconst 0, 1) := by decide +kernel
theorem dX5_sure_2 : decode cX5_sure 2 = .ok (.sipush 999, 3) := by decide +kernel
theorem dX5_sure_5 : decode cX5_sure 5 = .ok (.invokestatic 48, 3) := by decide +kernel
theorem dX5_sure_8 : decode cX5_sure 8 = .ok (.ifCond .eq 14, 3) := by decide +kernel
theorem dX5_sure_11 : decode cX5_sure 11 = .ok (.aload_n 0, 1) := by decide +kernel
theorem dX5_sure_12 : decode cX5_sure 12 = .ok (.getfield 44, 3) := by decide +kernel
theorem dX5_sure_15 : decode cX5_sure 15 = .ok (.iload_n 1, 1) := by decide +kernel
theorem dX5_sure_16 : decode cX5_sure 16 = .ok (.invokevirtual 222, 3) := by decide +kernel
theorem dX5_sure_19 : decode cX5_sure 19 = .ok (.goto 5, 3) := by decide +kernel
theorem dX5_sure_22 : decode cX5_sure 22 = .ok (.bipush (-2), 2) := by decide +kernel
theorem dX5_sure_24 : decode cX5_sure 24 = .ok (.ireturn, 1) := by decide +kernel
theorem dX5_safe_0 : decode cX5_safe 0 = .ok (.aload_n 0, 1) := by decide +kernel
theorem dX5_safe_1 : decode cX5_safe 1 = .ok (.getfield 44, 3) := by decide +kernel
theorem dX5_safe_4 : decode cX5_safe 4 = .ok (.getfield 209, 3) := by decide +kernel
theorem dX5_safe_7 : decode cX5_safe 7 = .ok (.ifCond .ne 8, 3) := by decide +kernel
theorem dX5_safe_10 : decode cX5_safe 10 = .ok (.bipush (-9), 2) := by decide +kernel
theorem dX5_safe_12 : decode cX5_safe 12 = .ok (.goto 10, 3) := by decide +kernel
theorem dX5_safe_15 : decode cX5_safe 15 = .ok (.aload_n 0, 1) := by decide +kernel
theorem dX5_safe_16 : decode cX5_safe 16 = .ok (.getfield 44, 3) := by decide +kernel
theorem dX5_safe_19 : decode cX5_safe 19 = .ok (.invokevirtual 225, 3) := by decide +kernel
theorem dX5_safe_22 : decode cX5_safe 22 = .ok (.ireturn, 1) := by decide +kernel
theorem dX5_next_0 : decode cX5_next 0 = .ok (.iload_n 1, 1) := by decide +kernel
theorem dX5_next_1 : decode cX5_next 1 = .ok (.invokestatic 199, 3) := by decide +kernel
theorem dX5_next_4 : decode cX5_next 4 = .ok (.ifCond .ne 6, 3) := by decide +kernel
theorem dX5_next_7 : decode cX5_next 7 = .ok (.bipush (-2), 2) := by decide +kernel
theorem dX5_next_9 : decode cX5_next 9 = .ok (.ireturn, 1) := by decide +kernel
theorem dX5_next_10 : decode cX5_next 10 = .ok (.aload_n 0, 1) := by decide +kernel
theorem dX5_next_11 : decode cX5_next 11 = .ok (.getfield 44, 3) := by decide +kernel
theorem dX5_next_14 : decode cX5_next 14 = .ok (.getfield 209, 3) := by decide +kernel
theorem dX5_next_17 : decode cX5_next 17 = .ok (.iconst 2, 1) := by decide +kernel
theorem dX5_next_18 : decode cX5_next 18 = .ok (.if_icmp .ge 8, 3) := by decide +kernel
theorem dX5_next_21 : decode cX5_next 21 = .ok (.bipush (-9), 2) := by decide +kernel
theorem dX5_next_23 : decode cX5_next 23 = .ok (.goto 17, 3) := by decide +kernel
theorem dX5_next_26 : decode cX5_next 26 = .ok (.aload_n 0, 1) := by decide +kernel
theorem dX5_next_27 : decode cX5_next 27 = .ok (.getfield 44, 3) := by decide +kernel
theorem dX5_next_30 : decode cX5_next 30 = .ok (.aload_n 0, 1) := by decide +kernel
theorem dX5_next_31 : decode cX5_next 31 = .ok (.getfield 7, 3) := by decide +kernel
theorem dX5_next_34 : decode cX5_next 34 = .ok (.iconst 1, 1) := by decide +kernel
theorem dX5_next_35 : decode cX5_next 35 = .ok (.iaload, 1) := by decide +kernel
theorem dX5_next_36 : decode cX5_next 36 = .ok (.iload_n 1, 1) := by decide +kernel
theorem dX5_next_37 : decode cX5_next 37 = .ok (.invokevirtual 228, 3) := by decide +kernel
theorem dX5_next_40 : decode cX5_next 40 = .ok (.ireturn, 1) := by decide +kernel
theorem dX5_count_0 : decode cX5_count 0 = .ok (.iload_n 1, 1) := by decide +kernel
theorem dX5_count_1 : decode cX5_count 1 = .ok (.tableswitch 96 0 5 #[39, 47, 55, 66, 74, 85], 39) := by decide +kernel
theorem dX5_count_40 : decode cX5_count 40 = .ok (.aload_n 0, 1) := by decide +kernel
theorem dX5_count_41 : decode cX5_count 41 = .ok (.getfield 16, 3) := by decide +kernel
theorem dX5_count_44 : decode cX5_count 44 = .ok (.getfield 52, 3) := by decide +kernel
theorem dX5_count_47 : decode cX5_count 47 = .ok (.ireturn, 1) := by decide +kernel
theorem dX5_count_48 : decode cX5_count 48 = .ok (.aload_n 0, 1) := by decide +kernel
theorem dX5_count_49 : decode cX5_count 49 = .ok (.getfield 30, 3) := by decide +kernel
theorem dX5_count_52 : decode cX5_count 52 = .ok (.getfield 137, 3) := by decide +kernel
theorem dX5_count_55 : decode cX5_count 55 = .ok (.ireturn, 1) := by decide +kernel
theorem dX5_count_56 : decode cX5_count 56 = .ok (.aload_n 0, 1) := by decide +kernel
theorem dX5_count_57 : decode cX5_count 57 = .ok (.getfield 30, 3) := by decide +kernel
theorem dX5_count_60 : decode cX5_count 60 = .ok (.getfield 143, 3) := by decide +kernel
theorem dX5_count_63 : decode cX5_count 63 = .ok (.invokestatic 231, 3) := by decide +kernel
theorem dX5_count_66 : decode cX5_count 66 = .ok (.ireturn, 1) := by decide +kernel
theorem dX5_count_67 : decode cX5_count 67 = .ok (.aload_n 0, 1) := by decide +kernel
theorem dX5_count_68 : decode cX5_count 68 = .ok (.getfield 44, 3) := by decide +kernel
theorem dX5_count_71 : decode cX5_count 71 = .ok (.getfield 202, 3) := by decide +kernel
theorem dX5_count_74 : decode cX5_count 74 = .ok (.ireturn, 1) := by decide +kernel
theorem dX5_count_75 : decode cX5_count 75 = .ok (.aload_n 0, 1) := by decide +kernel
theorem dX5_count_76 : decode cX5_count 76 = .ok (.getfield 23, 3) := by decide +kernel
theorem dX5_count_79 : decode cX5_count 79 = .ok (.getfield 103, 3) := by decide +kernel
theorem dX5_count_82 : decode cX5_count 82 = .ok (.invokestatic 231, 3) := by decide +kernel
theorem dX5_count_85 : decode cX5_count 85 = .ok (.ireturn, 1) := by decide +kernel
theorem dX5_count_86 : decode cX5_count 86 = .ok (.aload_n 0, 1) := by decide +kernel
theorem dX5_count_87 : decode cX5_count 87 = .ok (.getfield 37, 3) := by decide +kernel
theorem dX5_count_90 : decode cX5_count 90 = .ok (.getfield 165, 3) := by decide +kernel
theorem dX5_count_93 : decode cX5_count 93 = .ok (.invokestatic 231, 3) := by decide +kernel
theorem dX5_count_96 : decode cX5_count 96 = .ok (.ireturn, 1) := by decide +kernel
theorem dX5_count_97 : decode cX5_count 97 = .ok (.bipush (-2), 2) := by decide +kernel
theorem dX5_count_99 : decode cX5_count 99 = .ok (.ireturn, 1) := by decide +kernel
theorem dX5_allDamping_0 : decode cX5_allDamping 0 = .ok (.aload_n 0, 1) := by decide +kernel
theorem dX5_allDamping_1 : decode cX5_allDamping 1 = .ok (.getfield 7, 3) := by decide +kernel
theorem dX5_allDamping_4 : decode cX5_allDamping 4 = .ok (.iconst 0, 1) := by decide +kernel
theorem dX5_allDamping_5 : decode cX5_allDamping 5 = .ok (.iaload, 1) := by decide +kernel
theorem dX5_allDamping_6 : decode cX5_allDamping 6 = .ok (.aload_n 0, 1) := by decide +kernel
theorem dX5_allDamping_7 : decode cX5_allDamping 7 = .ok (.getfield 30, 3) := by decide +kernel
theorem dX5_allDamping_10 : decode cX5_allDamping 10 = .ok (.invokevirtual 235, 3) := by decide +kernel
theorem dX5_allDamping_13 : decode cX5_allDamping 13 = .ok (.iadd, 1) := by decide +kernel
theorem dX5_allDamping_14 : decode cX5_allDamping 14 = .ok (.ireturn, 1) := by decide +kernel
theorem dX5_walkDay_0 : decode cX5_walkDay 0 = .ok (.aload_n 0, 1) := by decide +kernel
theorem dX5_walkDay_1 : decode cX5_walkDay 1 = .ok (.getfield 37, 3) := by decide +kernel
theorem dX5_walkDay_4 : decode cX5_walkDay 4 = .ok (.iload_n 1, 1) := by decide +kernel
theorem dX5_walkDay_5 : decode cX5_walkDay 5 = .ok (.aload_n 0, 1) := by decide +kernel
theorem dX5_walkDay_6 : decode cX5_walkDay 6 = .ok (.getfield 37, 3) := by decide +kernel
theorem dX5_walkDay_9 : decode cX5_walkDay 9 = .ok (.getfield 162, 3) := by decide +kernel
theorem dX5_walkDay_12 : decode cX5_walkDay 12 = .ok (.iconst 4, 1) := by decide +kernel
theorem dX5_walkDay_13 : decode cX5_walkDay 13 = .ok (.iaload, 1) := by decide +kernel
theorem dX5_walkDay_14 : decode cX5_walkDay 14 = .ok (.sipush 9999, 3) := by decide +kernel
theorem dX5_walkDay_17 : decode cX5_walkDay 17 = .ok (.aload_n 0, 1) := by decide +kernel
theorem dX5_walkDay_18 : decode cX5_walkDay 18 = .ok (.getfield 23, 3) := by decide +kernel
theorem dX5_walkDay_21 : decode cX5_walkDay 21 = .ok (.aload_n 0, 1) := by decide +kernel
theorem dX5_walkDay_22 : decode cX5_walkDay 22 = .ok (.getfield 7, 3) := by decide +kernel
theorem dX5_walkDay_25 : decode cX5_walkDay 25 = .ok (.iconst 1, 1) := by decide +kernel
theorem dX5_walkDay_26 : decode cX5_walkDay 26 = .ok (.iaload, 1) := by decide +kernel
theorem dX5_walkDay_27 : decode cX5_walkDay 27 = .ok (.aload_n 0, 1) := by decide +kernel
theorem dX5_walkDay_28 : decode cX5_walkDay 28 = .ok (.invokevirtual 112, 3) := by decide +kernel
theorem dX5_walkDay_31 : decode cX5_walkDay 31 = .ok (.invokevirtual 238, 3) := by decide +kernel
theorem dX5_walkDay_34 : decode cX5_walkDay 34 = .ok (.return_, 1) := by decide +kernel
theorem dX5_isWithin_0 : decode cX5_isWithin 0 = .ok (.iload_n 0, 1) := by decide +kernel
theorem dX5_isWithin_1 : decode cX5_isWithin 1 = .ok (.iload_n 1, 1) := by decide +kernel
theorem dX5_isWithin_2 : decode cX5_isWithin 2 = .ok (.if_icmp .lt 12, 3) := by decide +kernel
theorem dX5_isWithin_5 : decode cX5_isWithin 5 = .ok (.iload_n 0, 1) := by decide +kernel
theorem dX5_isWithin_6 : decode cX5_isWithin 6 = .ok (.iload_n 2, 1) := by decide +kernel
theorem dX5_isWithin_7 : decode cX5_isWithin 7 = .ok (.if_icmp .gt 7, 3) := by decide +kernel
theorem dX5_isWithin_10 : decode cX5_isWithin 10 = .ok (.iconst 1, 1) := by decide +kernel
theorem dX5_isWithin_11 : decode cX5_isWithin 11 = .ok (.goto 4, 3) := by decide +kernel
theorem dX5_isWithin_14 : decode cX5_isWithin 14 = .ok (.iconst 0, 1) := by decide +kernel
theorem dX5_isWithin_15 : decode cX5_isWithin 15 = .ok (.ireturn, 1) := by decide +kernel
theorem dX5_isSway_0 : decode cX5_isSway 0 = .ok (.iload_n 0, 1) := by decide +kernel
theorem dX5_isSway_1 : decode cX5_isSway 1 = .ok (.iconst 0, 1) := by decide +kernel
theorem dX5_isSway_2 : decode cX5_isSway 2 = .ok (.sipush 9999, 3) := by decide +kernel
theorem dX5_isSway_5 : decode cX5_isSway 5 = .ok (.invokestatic 48, 3) := by decide +kernel
theorem dX5_isSway_8 : decode cX5_isSway 8 = .ok (.ireturn, 1) := by decide +kernel
theorem dX5_isSort_0 : decode cX5_isSort 0 = .ok (.iload_n 0, 1) := by decide +kernel
theorem dX5_isSort_1 : decode cX5_isSort 1 = .ok (.iconst 0, 1) := by decide +kernel
theorem dX5_isSort_2 : decode cX5_isSort 2 = .ok (.iconst 3, 1) := by decide +kernel
theorem dX5_isSort_3 : decode cX5_isSort 3 = .ok (.invokestatic 48, 3) := by decide +kernel
theorem dX5_isSort_6 : decode cX5_isSort 6 = .ok (.ireturn, 1) := by decide +kernel
theorem dX5_isDay_0 : decode cX5_isDay 0 = .ok (.iload_n 0, 1) := by decide +kernel
theorem dX5_isDay_1 : decode cX5_isDay 1 = .ok (.iconst 1, 1) := by decide +kernel
theorem dX5_isDay_2 : decode cX5_isDay 2 = .ok (.bipush 60, 2) := by decide +kernel
theorem dX5_isDay_4 : decode cX5_isDay 4 = .ok (.invokestatic 48, 3) := by decide +kernel
theorem dX5_isDay_7 : decode cX5_isDay 7 = .ok (.ireturn, 1) := by decide +kernel
theorem dX5_isBeatsOfTest_0 : decode cX5_isBeatsOfTest 0 = .ok (.iload_n 0, 1) := by decide +kernel
theorem dX5_isBeatsOfTest_1 : decode cX5_isBeatsOfTest 1 = .ok (.iconst 1, 1) := by decide +kernel
theorem dX5_isBeatsOfTest_2 : decode cX5_isBeatsOfTest 2 = .ok (.bipush 30, 2) := by decide +kernel
theorem dX5_isBeatsOfTest_4 : decode cX5_isBeatsOfTest 4 = .ok (.invokestatic 48, 3) := by decide +kernel
theorem dX5_isBeatsOfTest_7 : decode cX5_isBeatsOfTest 7 = .ok (.ireturn, 1) := by decide +kernel
theorem dX5_asNumber_0 : decode cX5_asNumber 0 = .ok (.iload_n 0, 1) := by decide +kernel
theorem dX5_asNumber_1 : decode cX5_asNumber 1 = .ok (.ifCond .eq 7, 3) := by decide +kernel
theorem dX5_asNumber_4 : decode cX5_asNumber 4 = .ok (.iconst 1, 1) := by decide +kernel
theorem dX5_asNumber_5 : decode cX5_asNumber 5 = .ok (.goto 4, 3) := by decide +kernel
theorem dX5_asNumber_8 : decode cX5_asNumber 8 = .ok (.iconst 0, 1) := by decide +kernel
theorem dX5_asNumber_9 : decode cX5_asNumber 9 = .ok (.ireturn, 1) := by decide +kernel
theorem dX5_exchange_0 : decode cX5_exchange 0 = .ok (.aload_n 0, 1) := by decide +kernel
theorem dX5_exchange_1 : decode cX5_exchange 1 = .ok (.iload_n 1, 1) := by decide +kernel
theorem dX5_exchange_2 : decode cX5_exchange 2 = .ok (.iaload, 1) := by decide +kernel
theorem dX5_exchange_3 : decode cX5_exchange 3 = .ok (.istore_n 3, 1) := by decide +kernel
theorem dX5_exchange_4 : decode cX5_exchange 4 = .ok (.aload_n 0, 1) := by decide +kernel
theorem dX5_exchange_5 : decode cX5_exchange 5 = .ok (.iload_n 1, 1) := by decide +kernel
theorem dX5_exchange_6 : decode cX5_exchange 6 = .ok (.iload_n 2, 1) := by decide +kernel
theorem dX5_exchange_7 : decode cX5_exchange 7 = .ok (.iastore, 1) := by decide +kernel
theorem dX5_exchange_8 : decode cX5_exchange 8 = .ok (.iload_n 3, 1) := by decide +kernel
theorem dX5_exchange_9 : decode cX5_exchange 9 = .ok (.ireturn, 1) := by decide +kernel
theorem dX5_sum_0 : decode cX5_sum 0 = .ok (.iconst 0, 1) := by decide +kernel
theorem dX5_sum_1 : decode cX5_sum 1 = .ok (.istore_n 1, 1) := by decide +kernel
theorem dX5_sum_2 : decode cX5_sum 2 = .ok (.aload_n 0, 1) := by decide +kernel
theorem dX5_sum_3 : decode cX5_sum 3 = .ok (.astore_n 2, 1) := by decide +kernel
theorem dX5_sum_4 : decode cX5_sum 4 = .ok (.aload_n 2, 1) := by decide +kernel
theorem dX5_sum_5 : decode cX5_sum 5 = .ok (.arraylength, 1) := by decide +kernel
theorem dX5_sum_6 : decode cX5_sum 6 = .ok (.istore_n 3, 1) := by decide +kernel
theorem dX5_sum_7 : decode cX5_sum 7 = .ok (.iconst 0, 1) := by decide +kernel
theorem dX5_sum_8 : decode cX5_sum 8 = .ok (.istore 4, 2) := by decide +kernel
theorem dX5_sum_10 : decode cX5_sum 10 = .ok (.iload 4, 2) := by decide +kernel
theorem dX5_sum_12 : decode cX5_sum 12 = .ok (.iload_n 3, 1) := by decide +kernel
theorem dX5_sum_13 : decode cX5_sum 13 = .ok (.if_icmp .ge 20, 3) := by decide +kernel
theorem dX5_sum_16 : decode cX5_sum 16 = .ok (.aload_n 2, 1) := by decide +kernel
theorem dX5_sum_17 : decode cX5_sum 17 = .ok (.iload 4, 2) := by decide +kernel
theorem dX5_sum_19 : decode cX5_sum 19 = .ok (.iaload, 1) := by decide +kernel
theorem dX5_sum_20 : decode cX5_sum 20 = .ok (.istore 5, 2) := by decide +kernel
theorem dX5_sum_22 : decode cX5_sum 22 = .ok (.iload_n 1, 1) := by decide +kernel
theorem dX5_sum_23 : decode cX5_sum 23 = .ok (.iload 5, 2) := by decide +kernel
theorem dX5_sum_25 : decode cX5_sum 25 = .ok (.iadd, 1) := by decide +kernel
theorem dX5_sum_26 : decode cX5_sum 26 = .ok (.istore_n 1, 1) := by decide +kernel
theorem dX5_sum_27 : decode cX5_sum 27 = .ok (.iinc 4 1, 3) := by decide +kernel
theorem dX5_sum_30 : decode cX5_sum 30 = .ok (.goto (-20), 3) := by decide +kernel
theorem dX5_sum_33 : decode cX5_sum 33 = .ok (.iload_n 1, 1) := by decide +kernel
theorem dX5_sum_34 : decode cX5_sum 34 = .ok (.ireturn, 1) := by decide +kernel
