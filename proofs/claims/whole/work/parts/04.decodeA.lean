theorem dX0_init_0 : decode cX0_init 0 = .ok (.aload_n 0, 1) := by decide +kernel
theorem dX0_init_1 : decode cX0_init 1 = .ok (.invokespecial 1, 3) := by decide +kernel
theorem dX0_init_4 : decode cX0_init 4 = .ok (.return_, 1) := by decide +kernel
theorem dX0_swell_0 : decode cX0_swell 0 = .ok (.iconst 3, 1) := by decide +kernel
theorem dX0_swell_1 : decode cX0_swell 1 = .ok (.iload_n 1, 1) := by decide +kernel
theorem dX0_swell_2 : decode cX0_swell 2 = .ok (.imul, 1) := by decide +kernel
theorem dX0_swell_3 : decode cX0_swell 3 = .ok (.ireturn, 1) := by decide +kernel
theorem dX0_telling_0 : decode cX0_telling 0 = .ok (.aload_n 2, 1) := by decide +kernel
theorem dX0_telling_1 : decode cX0_telling 1 = .ok (.iconst 2, 1) := by decide +kernel
theorem dX0_telling_2 : decode cX0_telling 2 = .ok (.invokevirtual 7, 3) := by decide +kernel
theorem dX0_telling_5 : decode cX0_telling 5 = .ok (.aload_n 0, 1) := by decide +kernel
theorem dX0_telling_6 : decode cX0_telling 6 = .ok (.iload_n 1, 1) := by decide +kernel
theorem dX0_telling_7 : decode cX0_telling 7 = .ok (.aload_n 2, 1) := by decide +kernel
theorem dX0_telling_8 : decode cX0_telling 8 = .ok (.invokespecial 13, 3) := by decide +kernel
theorem dX0_telling_11 : decode cX0_telling 11 = .ok (.bipush 100, 2) := by decide +kernel
theorem dX0_telling_13 : decode cX0_telling 13 = .ok (.iadd, 1) := by decide +kernel
theorem dX0_telling_14 : decode cX0_telling 14 = .ok (.ireturn, 1) := by decide +kernel
theorem dX1_init_0 : decode cX1_init 0 = .ok (.aload_n 0, 1) := by decide +kernel
theorem dX1_init_1 : decode cX1_init 1 = .ok (.invokespecial 1, 3) := by decide +kernel
theorem dX1_init_4 : decode cX1_init 4 = .ok (.return_, 1) := by decide +kernel
theorem dX1_swell_0 : decode cX1_swell 0 = .ok (.aload_n 0, 1) := by decide +kernel
theorem dX1_swell_1 : decode cX1_swell 1 = .ok (.iload_n 1, 1) := by decide +kernel
theorem dX1_swell_2 : decode cX1_swell 2 = .ok (.iload_n 2, 1) := by decide +kernel
theorem dX1_swell_3 : decode cX1_swell 3 = .ok (.invokespecial 7, 3) := by decide +kernel
theorem dX1_swell_6 : decode cX1_swell 6 = .ok (.iconst 2, 1) := by decide +kernel
theorem dX1_swell_7 : decode cX1_swell 7 = .ok (.iload_n 2, 1) := by decide +kernel
theorem dX1_swell_8 : decode cX1_swell 8 = .ok (.imul, 1) := by decide +kernel
theorem dX1_swell_9 : decode cX1_swell 9 = .ok (.iadd, 1) := by decide +kernel
theorem dX1_swell_10 : decode cX1_swell 10 = .ok (.ireturn, 1) := by decide +kernel
theorem dX1_telling_0 : decode cX1_telling 0 = .ok (.aload_n 2, 1) := by decide +kernel
theorem dX1_telling_1 : decode cX1_telling 1 = .ok (.iconst 3, 1) := by decide +kernel
theorem dX1_telling_2 : decode cX1_telling 2 = .ok (.invokevirtual 11, 3) := by decide +kernel
theorem dX1_telling_5 : decode cX1_telling 5 = .ok (.aload_n 0, 1) := by decide +kernel
theorem dX1_telling_6 : decode cX1_telling 6 = .ok (.iload_n 1, 1) := by decide +kernel
theorem dX1_telling_7 : decode cX1_telling 7 = .ok (.aload_n 2, 1) := by decide +kernel
theorem dX1_telling_8 : decode cX1_telling 8 = .ok (.invokespecial 17, 3) := by decide +kernel
theorem dX1_telling_11 : decode cX1_telling 11 = .ok (.istore_n 3, 1) := by decide +kernel
theorem dX1_telling_12 : decode cX1_telling 12 = .ok (.iload_n 3, 1) := by decide +kernel
theorem dX1_telling_13 : decode cX1_telling 13 = .ok (.aload_n 0, 1) := by decide +kernel
theorem dX1_telling_14 : decode cX1_telling 14 = .ok (.iload_n 1, 1) := by decide +kernel
theorem dX1_telling_15 : decode cX1_telling 15 = .ok (.aload_n 2, 1) := by decide +kernel
theorem dX1_telling_16 : decode cX1_telling 16 = .ok (.invokevirtual 21, 3) := by decide +kernel
theorem dX1_telling_19 : decode cX1_telling 19 = .ok (.iadd, 1) := by decide +kernel
theorem dX1_telling_20 : decode cX1_telling 20 = .ok (.ireturn, 1) := by decide +kernel
theorem dX1_trodden_0 : decode cX1_trodden 0 = .ok (.aload_n 2, 1) := by decide +kernel
theorem dX1_trodden_1 : decode cX1_trodden 1 = .ok (.iconst 5, 1) := by decide +kernel
theorem dX1_trodden_2 : decode cX1_trodden 2 = .ok (.invokevirtual 11, 3) := by decide +kernel
theorem dX1_trodden_5 : decode cX1_trodden 5 = .ok (.bipush 50, 2) := by decide +kernel
theorem dX1_trodden_7 : decode cX1_trodden 7 = .ok (.ireturn, 1) := by decide +kernel
theorem dX2_init_0 : decode cX2_init 0 = .ok (.aload_n 0, 1) := by decide +kernel
theorem dX2_init_1 : decode cX2_init 1 = .ok (.invokespecial 3, 3) := by decide +kernel
theorem dX2_init_4 : decode cX2_init 4 = .ok (.aload_n 0, 1) := by decide +kernel
theorem dX2_init_5 : decode cX2_init 5 = .ok (.bipush 30, 2) := by decide +kernel
theorem dX2_init_7 : decode cX2_init 7 = .ok (.newarray .int, 2) := by decide +kernel
theorem dX2_init_9 : decode cX2_init 9 = .ok (.putfield 9, 3) := by decide +kernel
theorem dX2_init_12 : decode cX2_init 12 = .ok (.aload_n 0, 1) := by decide +kernel
theorem dX2_init_13 : decode cX2_init 13 = .ok (.aload_n 1, 1) := by decide +kernel
theorem dX2_init_14 : decode cX2_init 14 = .ok (.putfield 15, 3) := by decide +kernel
theorem dX2_init_17 : decode cX2_init 17 = .ok (.return_, 1) := by decide +kernel
theorem dX2_nightsTill_0 : decode cX2_nightsTill 0 = .ok (.aload_n 0, 1) := by decide +kernel
theorem dX2_nightsTill_1 : decode cX2_nightsTill 1 = .ok (.getfield 15, 3) := by decide +kernel
theorem dX2_nightsTill_4 : decode cX2_nightsTill 4 = .ok (.invokevirtual 19, 3) := by decide +kernel
theorem dX2_nightsTill_7 : decode cX2_nightsTill 7 = .ok (.istore 4, 2) := by decide +kernel
theorem dX2_nightsTill_9 : decode cX2_nightsTill 9 = .ok (.iload_n 2, 1) := by decide +kernel
theorem dX2_nightsTill_10 : decode cX2_nightsTill 10 = .ok (.iload 4, 2) := by decide +kernel
theorem dX2_nightsTill_12 : decode cX2_nightsTill 12 = .ok (.invokestatic 25, 3) := by decide +kernel
theorem dX2_nightsTill_15 : decode cX2_nightsTill 15 = .ok (.istore 5, 2) := by decide +kernel
theorem dX2_nightsTill_17 : decode cX2_nightsTill 17 = .ok (.iconst 0, 1) := by decide +kernel
theorem dX2_nightsTill_18 : decode cX2_nightsTill 18 = .ok (.istore 6, 2) := by decide +kernel
theorem dX2_nightsTill_20 : decode cX2_nightsTill 20 = .ok (.iload 6, 2) := by decide +kernel
theorem dX2_nightsTill_22 : decode cX2_nightsTill 22 = .ok (.iload 4, 2) := by decide +kernel
theorem dX2_nightsTill_24 : decode cX2_nightsTill 24 = .ok (.if_icmp .ge 32, 3) := by decide +kernel
theorem dX2_nightsTill_27 : decode cX2_nightsTill 27 = .ok (.aload_n 0, 1) := by decide +kernel
theorem dX2_nightsTill_28 : decode cX2_nightsTill 28 = .ok (.getfield 9, 3) := by decide +kernel
theorem dX2_nightsTill_31 : decode cX2_nightsTill 31 = .ok (.iload 6, 2) := by decide +kernel
theorem dX2_nightsTill_33 : decode cX2_nightsTill 33 = .ok (.aload_n 0, 1) := by decide +kernel
theorem dX2_nightsTill_34 : decode cX2_nightsTill 34 = .ok (.getfield 15, 3) := by decide +kernel
theorem dX2_nightsTill_37 : decode cX2_nightsTill 37 = .ok (.iload 6, 2) := by decide +kernel
theorem dX2_nightsTill_39 : decode cX2_nightsTill 39 = .ok (.iload_n 1, 1) := by decide +kernel
theorem dX2_nightsTill_40 : decode cX2_nightsTill 40 = .ok (.invokevirtual 31, 3) := by decide +kernel
theorem dX2_nightsTill_43 : decode cX2_nightsTill 43 = .ok (.bipush 32, 2) := by decide +kernel
theorem dX2_nightsTill_45 : decode cX2_nightsTill 45 = .ok (.imul, 1) := by decide +kernel
theorem dX2_nightsTill_46 : decode cX2_nightsTill 46 = .ok (.iload 6, 2) := by decide +kernel
theorem dX2_nightsTill_48 : decode cX2_nightsTill 48 = .ok (.iadd, 1) := by decide +kernel
theorem dX2_nightsTill_49 : decode cX2_nightsTill 49 = .ok (.iastore, 1) := by decide +kernel
theorem dX2_nightsTill_50 : decode cX2_nightsTill 50 = .ok (.iinc 6 1, 3) := by decide +kernel
theorem dX2_nightsTill_53 : decode cX2_nightsTill 53 = .ok (.goto (-33), 3) := by decide +kernel
theorem dX2_nightsTill_56 : decode cX2_nightsTill 56 = .ok (.iconst 0, 1) := by decide +kernel
theorem dX2_nightsTill_57 : decode cX2_nightsTill 57 = .ok (.istore 6, 2) := by decide +kernel
theorem dX2_nightsTill_59 : decode cX2_nightsTill 59 = .ok (.iload 6, 2) := by decide +kernel
theorem dX2_nightsTill_61 : decode cX2_nightsTill 61 = .ok (.sipush 500, 3) := by decide +kernel
theorem dX2_nightsTill_64 : decode cX2_nightsTill 64 = .ok (.if_icmp .gt 72, 3) := by decide +kernel
theorem dX2_nightsTill_67 : decode cX2_nightsTill 67 = .ok (.aload_n 0, 1) := by decide +kernel
theorem dX2_nightsTill_68 : decode cX2_nightsTill 68 = .ok (.iload 4, 2) := by decide +kernel
theorem dX2_nightsTill_70 : decode cX2_nightsTill 70 = .ok (.invokevirtual 34, 3) := by decide +kernel
theorem dX2_nightsTill_73 : decode cX2_nightsTill 73 = .ok (.aload_n 0, 1) := by decide +kernel
theorem dX2_nightsTill_74 : decode cX2_nightsTill 74 = .ok (.getfield 9, 3) := by decide +kernel
theorem dX2_nightsTill_77 : decode cX2_nightsTill 77 = .ok (.iload 4, 2) := by decide +kernel
theorem dX2_nightsTill_79 : decode cX2_nightsTill 79 = .ok (.iconst 1, 1) := by decide +kernel
theorem dX2_nightsTill_80 : decode cX2_nightsTill 80 = .ok (.isub, 1) := by decide +kernel
theorem dX2_nightsTill_81 : decode cX2_nightsTill 81 = .ok (.iaload, 1) := by decide +kernel
theorem dX2_nightsTill_82 : decode cX2_nightsTill 82 = .ok (.bipush 32, 2) := by decide +kernel
theorem dX2_nightsTill_84 : decode cX2_nightsTill 84 = .ok (.idiv, 1) := by decide +kernel
theorem dX2_nightsTill_85 : decode cX2_nightsTill 85 = .ok (.aload_n 0, 1) := by decide +kernel
theorem dX2_nightsTill_86 : decode cX2_nightsTill 86 = .ok (.getfield 9, 3) := by decide +kernel
theorem dX2_nightsTill_89 : decode cX2_nightsTill 89 = .ok (.iconst 0, 1) := by decide +kernel
theorem dX2_nightsTill_90 : decode cX2_nightsTill 90 = .ok (.iaload, 1) := by decide +kernel
theorem dX2_nightsTill_91 : decode cX2_nightsTill 91 = .ok (.bipush 32, 2) := by decide +kernel
theorem dX2_nightsTill_93 : decode cX2_nightsTill 93 = .ok (.idiv, 1) := by decide +kernel
theorem dX2_nightsTill_94 : decode cX2_nightsTill 94 = .ok (.isub, 1) := by decide +kernel
theorem dX2_nightsTill_95 : decode cX2_nightsTill 95 = .ok (.iload_n 3, 1) := by decide +kernel
theorem dX2_nightsTill_96 : decode cX2_nightsTill 96 = .ok (.if_icmp .gt 6, 3) := by decide +kernel
theorem dX2_nightsTill_99 : decode cX2_nightsTill 99 = .ok (.iload 6, 2) := by decide +kernel
theorem dX2_nightsTill_101 : decode cX2_nightsTill 101 = .ok (.ireturn, 1) := by decide +kernel
theorem dX2_nightsTill_102 : decode cX2_nightsTill 102 = .ok (.iconst 0, 1) := by decide +kernel
theorem dX2_nightsTill_103 : decode cX2_nightsTill 103 = .ok (.istore 7, 2) := by decide +kernel
theorem dX2_nightsTill_105 : decode cX2_nightsTill 105 = .ok (.iload 7, 2) := by decide +kernel
theorem dX2_nightsTill_107 : decode cX2_nightsTill 107 = .ok (.iload 5, 2) := by decide +kernel
theorem dX2_nightsTill_109 : decode cX2_nightsTill 109 = .ok (.if_icmp .ge 21, 3) := by decide +kernel
theorem dX2_nightsTill_112 : decode cX2_nightsTill 112 = .ok (.aload_n 0, 1) := by decide +kernel
theorem dX2_nightsTill_113 : decode cX2_nightsTill 113 = .ok (.getfield 9, 3) := by decide +kernel
theorem dX2_nightsTill_116 : decode cX2_nightsTill 116 = .ok (.iload 7, 2) := by decide +kernel
theorem dX2_nightsTill_118 : decode cX2_nightsTill 118 = .ok (.dup2, 1) := by decide +kernel
theorem dX2_nightsTill_119 : decode cX2_nightsTill 119 = .ok (.iaload, 1) := by decide +kernel
theorem dX2_nightsTill_120 : decode cX2_nightsTill 120 = .ok (.bipush 32, 2) := by decide +kernel
theorem dX2_nightsTill_122 : decode cX2_nightsTill 122 = .ok (.iadd, 1) := by decide +kernel
theorem dX2_nightsTill_123 : decode cX2_nightsTill 123 = .ok (.iastore, 1) := by decide +kernel
theorem dX2_nightsTill_124 : decode cX2_nightsTill 124 = .ok (.iinc 7 1, 3) := by decide +kernel
theorem dX2_nightsTill_127 : decode cX2_nightsTill 127 = .ok (.goto (-22), 3) := by decide +kernel
theorem dX2_nightsTill_130 : decode cX2_nightsTill 130 = .ok (.iinc 6 1, 3) := by decide +kernel
theorem dX2_nightsTill_133 : decode cX2_nightsTill 133 = .ok (.goto (-74), 3) := by decide +kernel
theorem dX2_nightsTill_136 : decode cX2_nightsTill 136 = .ok (.bipush (-9), 2) := by decide +kernel
theorem dX2_nightsTill_138 : decode cX2_nightsTill 138 = .ok (.ireturn, 1) := by decide +kernel
theorem dX2_putInOrder_0 : decode cX2_putInOrder 0 = .ok (.iconst 1, 1) := by decide +kernel
theorem dX2_putInOrder_1 : decode cX2_putInOrder 1 = .ok (.istore_n 2, 1) := by decide +kernel
theorem dX2_putInOrder_2 : decode cX2_putInOrder 2 = .ok (.iload_n 2, 1) := by decide +kernel
theorem dX2_putInOrder_3 : decode cX2_putInOrder 3 = .ok (.iload_n 1, 1) := by decide +kernel
theorem dX2_putInOrder_4 : decode cX2_putInOrder 4 = .ok (.if_icmp .ge 67, 3) := by decide +kernel
theorem dX2_putInOrder_7 : decode cX2_putInOrder 7 = .ok (.aload_n 0, 1) := by decide +kernel
theorem dX2_putInOrder_8 : decode cX2_putInOrder 8 = .ok (.getfield 9, 3) := by decide +kernel
theorem dX2_putInOrder_11 : decode cX2_putInOrder 11 = .ok (.iload_n 2, 1) := by decide +kernel
theorem dX2_putInOrder_12 : decode cX2_putInOrder 12 = .ok (.iaload, 1) := by decide +kernel
theorem dX2_putInOrder_13 : decode cX2_putInOrder 13 = .ok (.istore_n 3, 1) := by decide +kernel
theorem dX2_putInOrder_14 : decode cX2_putInOrder 14 = .ok (.iload_n 2, 1) := by decide +kernel
theorem dX2_putInOrder_15 : decode cX2_putInOrder 15 = .ok (.istore 4, 2) := by decide +kernel
theorem dX2_putInOrder_17 : decode cX2_putInOrder 17 = .ok (.iload 4, 2) := by decide +kernel
theorem dX2_putInOrder_19 : decode cX2_putInOrder 19 = .ok (.ifCond .le 38, 3) := by decide +kernel
theorem dX2_putInOrder_22 : decode cX2_putInOrder 22 = .ok (.aload_n 0, 1) := by decide +kernel
theorem dX2_putInOrder_23 : decode cX2_putInOrder 23 = .ok (.getfield 9, 3) := by decide +kernel
theorem dX2_putInOrder_26 : decode cX2_putInOrder 26 = .ok (.iload 4, 2) := by decide +kernel
theorem dX2_putInOrder_28 : decode cX2_putInOrder 28 = .ok (.iconst 1, 1) := by decide +kernel
theorem dX2_putInOrder_29 : decode cX2_putInOrder 29 = .ok (.isub, 1) := by decide +kernel
theorem dX2_putInOrder_30 : decode cX2_putInOrder 30 = .ok (.iaload, 1) := by decide +kernel
theorem dX2_putInOrder_31 : decode cX2_putInOrder 31 = .ok (.iload_n 3, 1) := by decide +kernel
theorem dX2_putInOrder_32 : decode cX2_putInOrder 32 = .ok (.if_icmp .le 25, 3) := by decide +kernel
theorem dX2_putInOrder_35 : decode cX2_putInOrder 35 = .ok (.aload_n 0, 1) := by decide +kernel
theorem dX2_putInOrder_36 : decode cX2_putInOrder 36 = .ok (.getfield 9, 3) := by decide +kernel
theorem dX2_putInOrder_39 : decode cX2_putInOrder 39 = .ok (.iload 4, 2) := by decide +kernel
theorem dX2_putInOrder_41 : decode cX2_putInOrder 41 = .ok (.aload_n 0, 1) := by decide +kernel
theorem dX2_putInOrder_42 : decode cX2_putInOrder 42 = .ok (.getfield 9, 3) := by decide +kernel
theorem dX2_putInOrder_45 : decode cX2_putInOrder 45 = .ok (.iload 4, 2) := by decide +kernel
theorem dX2_putInOrder_47 : decode cX2_putInOrder 47 = .ok (.iconst 1, 1) := by decide +kernel
theorem dX2_putInOrder_48 : decode cX2_putInOrder 48 = .ok (.isub, 1) := by decide +kernel
theorem dX2_putInOrder_49 : decode cX2_putInOrder 49 = .ok (.iaload, 1) := by decide +kernel
theorem dX2_putInOrder_50 : decode cX2_putInOrder 50 = .ok (.iastore, 1) := by decide +kernel
theorem dX2_putInOrder_51 : decode cX2_putInOrder 51 = .ok (.iinc 4 (-1), 3) := by decide +kernel
theorem dX2_putInOrder_54 : decode cX2_putInOrder 54 = .ok (.goto (-37), 3) := by decide +kernel
theorem dX2_putInOrder_57 : decode cX2_putInOrder 57 = .ok (.aload_n 0, 1) := by decide +kernel
theorem dX2_putInOrder_58 : decode cX2_putInOrder 58 = .ok (.getfield 9, 3) := by decide +kernel
theorem dX2_putInOrder_61 : decode cX2_putInOrder 61 = .ok (.iload 4, 2) := by decide +kernel
theorem dX2_putInOrder_63 : decode cX2_putInOrder 63 = .ok (.iload_n 3, 1) := by decide +kernel
theorem dX2_putInOrder_64 : decode cX2_putInOrder 64 = .ok (.iastore, 1) := by decide +kernel
theorem dX2_putInOrder_65 : decode cX2_putInOrder 65 = .ok (.iinc 2 1, 3) := by decide +kernel
theorem dX2_putInOrder_68 : decode cX2_putInOrder 68 = .ok (.goto (-66), 3) := by decide +kernel
theorem dX2_putInOrder_71 : decode cX2_putInOrder 71 = .ok (.return_, 1) := by decide +kernel
theorem dX3_init_0 : decode cX3_init 0 = .ok (.aload_n 0, 1) := by decide +kernel
theorem dX3_init_1 : decode cX3_init 1 = .ok (.invokespecial 3, 3) := by decide +kernel
theorem dX3_init_4 : decode cX3_init 4 = .ok (.aload_n 0, 1) := by decide +kernel
theorem dX3_init_5 : decode cX3_init 5 = .ok (.iconst 3, 1) := by decide +kernel
theorem dX3_init_6 : decode cX3_init 6 = .ok (.anewarray 9, 3) := by decide +kernel
theorem dX3_init_9 : decode cX3_init 9 = .ok (.dup, 1) := by decide +kernel
theorem dX3_init_10 : decode cX3_init 10 = .ok (.iconst 0, 1) := by decide +kernel
theorem dX3_init_11 : decode cX3_init 11 = .ok (.new 9, 3) := by decide +kernel
theorem dX3_init_14 : decode cX3_init 14 = .ok (.dup, 1) := by decide +kernel
theorem dX3_init_15 : decode cX3_init 15 = .ok (.invokespecial 11, 3) := by decide +kernel
theorem dX3_init_18 : decode cX3_init 18 = .ok (.aastore, 1) := by decide +kernel
theorem dX3_init_19 : decode cX3_init 19 = .ok (.dup, 1) := by decide +kernel
theorem dX3_init_20 : decode cX3_init 20 = .ok (.iconst 1, 1) := by decide +kernel
theorem dX3_init_21 : decode cX3_init 21 = .ok (.new 12, 3) := by decide +kernel
theorem dX3_init_24 : decode cX3_init 24 = .ok (.dup, 1) := by decide +kernel
theorem dX3_init_25 : decode cX3_init 25 = .ok (.invokespecial 14, 3) := by decide +kernel
theorem dX3_init_28 : decode cX3_init 28 = .ok (.aastore, 1) := by decide +kernel
theorem dX3_init_29 : decode cX3_init 29 = .ok (.dup, 1) := by decide +kernel
theorem dX3_init_30 : decode cX3_init 30 = .ok (.iconst 2, 1) := by decide +kernel
theorem dX3_init_31 : decode cX3_init 31 = .ok (.new 15, 3) := by decide +kernel
theorem dX3_init_34 : decode cX3_init 34 = .ok (.dup, 1) := by decide +kernel
theorem dX3_init_35 : decode cX3_init 35 = .ok (.invokespecial 17, 3) := by decide +kernel
theorem dX3_init_38 : decode cX3_init 38 = .ok (.aastore, 1) := by decide +kernel
theorem dX3_init_39 : decode cX3_init 39 = .ok (.putfield 18, 3) := by decide +kernel
theorem dX3_init_42 : decode cX3_init 42 = .ok (.aload_n 0, 1) := by decide +kernel
theorem dX3_init_43 : decode cX3_init 43 = .ok (.bipush 30, 2) := by decide +kernel
theorem dX3_init_45 : decode cX3_init 45 = .ok (.newarray .int, 2) := by decide +kernel
theorem dX3_init_47 : decode cX3_init 47 = .ok (.putfield 24, 3) := by decide +kernel
theorem dX3_init_50 : decode cX3_init 50 = .ok (.aload_n 0, 1) := by decide +kernel
theorem dX3_init_51 : decode cX3_init 51 = .ok (.bipush 30, 2) := by decide +kernel
theorem dX3_init_53 : decode cX3_init 53 = .ok (.newarray .int, 2) := by decide +kernel
theorem dX3_init_55 : decode cX3_init 55 = .ok (.putfield 28, 3) := by decide +kernel
theorem dX3_init_58 : decode cX3_init 58 = .ok (.aload_n 0, 1) := by decide +kernel
theorem dX3_init_59 : decode cX3_init 59 = .ok (.bipush 30, 2) := by decide +kernel
theorem dX3_init_61 : decode cX3_init 61 = .ok (.newarray .int, 2) := by decide +kernel
theorem dX3_init_63 : decode cX3_init 63 = .ok (.putfield 31, 3) := by decide +kernel
theorem dX3_init_66 : decode cX3_init 66 = .ok (.aload_n 0, 1) := by decide +kernel
theorem dX3_init_67 : decode cX3_init 67 = .ok (.bipush 30, 2) := by decide +kernel
theorem dX3_init_69 : decode cX3_init 69 = .ok (.newarray .int, 2) := by decide +kernel
theorem dX3_init_71 : decode cX3_init 71 = .ok (.putfield 34, 3) := by decide +kernel
theorem dX3_init_74 : decode cX3_init 74 = .ok (.aload_n 0, 1) := by decide +kernel
theorem dX3_init_75 : decode cX3_init 75 = .ok (.bipush 30, 2) := by decide +kernel
theorem dX3_init_77 : decode cX3_init 77 = .ok (.newarray .int, 2) := by decide +kernel
theorem dX3_init_79 : decode cX3_init 79 = .ok (.putfield 37, 3) := by decide +kernel
theorem dX3_init_82 : decode cX3_init 82 = .ok (.aload_n 0, 1) := by decide +kernel
theorem dX3_init_83 : decode cX3_init 83 = .ok (.bipush 12, 2) := by decide +kernel
theorem dX3_init_85 : decode cX3_init 85 = .ok (.newarray .int, 2) := by decide +kernel
theorem dX3_init_87 : decode cX3_init 87 = .ok (.putfield 40, 3) := by decide +kernel
theorem dX3_init_90 : decode cX3_init 90 = .ok (.aload_n 0, 1) := by decide +kernel
theorem dX3_init_91 : decode cX3_init 91 = .ok (.bipush 12, 2) := by decide +kernel
theorem dX3_init_93 : decode cX3_init 93 = .ok (.newarray .int, 2) := by decide +kernel
theorem dX3_init_95 : decode cX3_init 95 = .ok (.putfield 43, 3) := by decide +kernel
theorem dX3_init_98 : decode cX3_init 98 = .ok (.return_, 1) := by decide +kernel
theorem dX3_firstFault_0 : decode cX3_firstFault 0 = .ok (.iconst 0, 1) := by decide +kernel
theorem dX3_firstFault_1 : decode cX3_firstFault 1 = .ok (.istore_n 3, 1) := by decide +kernel
theorem dX3_firstFault_2 : decode cX3_firstFault 2 = .ok (.iconst 0, 1) := by decide +kernel
theorem dX3_firstFault_3 : decode cX3_firstFault 3 = .ok (.istore 4, 2) := by decide +kernel
theorem dX3_firstFault_5 : decode cX3_firstFault 5 = .ok (.iconst 3, 1) := by decide +kernel
theorem dX3_firstFault_6 : decode cX3_firstFault 6 = .ok (.istore 5, 2) := by decide +kernel
theorem dX3_firstFault_8 : decode cX3_firstFault 8 = .ok (.iconst 0, 1) := by decide +kernel
theorem dX3_firstFault_9 : decode cX3_firstFault 9 = .ok (.istore 6, 2) := by decide +kernel
theorem dX3_firstFault_11 : decode cX3_firstFault 11 = .ok (.iload 6, 2) := by decide +kernel
theorem dX3_firstFault_13 : decode cX3_firstFault 13 = .ok (.iload_n 2, 1) := by decide +kernel
theorem dX3_firstFault_14 : decode cX3_firstFault 14 = .ok (.if_icmp .ge 109, 3) := by decide +kernel
theorem dX3_firstFault_17 : decode cX3_firstFault 17 = .ok (.aload_n 0, 1) := by decide +kernel
theorem dX3_firstFault_18 : decode cX3_firstFault 18 = .ok (.getfield 46, 3) := by decide +kernel
theorem dX3_firstFault_21 : decode cX3_firstFault 21 = .ok (.iload_n 1, 1) := by decide +kernel
theorem dX3_firstFault_22 : decode cX3_firstFault 22 = .ok (.iload 6, 2) := by decide +kernel
theorem dX3_firstFault_24 : decode cX3_firstFault 24 = .ok (.iadd, 1) := by decide +kernel
theorem dX3_firstFault_25 : decode cX3_firstFault 25 = .ok (.iaload, 1) := by decide +kernel
theorem dX3_firstFault_26 : decode cX3_firstFault 26 = .ok (.istore 7, 2) := by decide +kernel
theorem dX3_firstFault_28 : decode cX3_firstFault 28 = .ok (.iload 6, 2) := by decide +kernel
theorem dX3_firstFault_30 : decode cX3_firstFault 30 = .ok (.iconst 3, 1) := by decide +kernel
theorem dX3_firstFault_31 : decode cX3_firstFault 31 = .ok (.if_icmp .ge 13, 3) := by decide +kernel
theorem dX3_firstFault_34 : decode cX3_firstFault 34 = .ok (.iload 6, 2) := by decide +kernel
theorem dX3_firstFault_36 : decode cX3_firstFault 36 = .ok (.iload 7, 2) := by decide +kernel
theorem dX3_firstFault_38 : decode cX3_firstFault 38 = .ok (.invokestatic 51, 3) := by decide +kernel
theorem dX3_firstFault_41 : decode cX3_firstFault 41 = .ok (.goto 27, 3) := by decide +kernel
theorem dX3_firstFault_44 : decode cX3_firstFault 44 = .ok (.iload 6, 2) := by decide +kernel
theorem dX3_firstFault_46 : decode cX3_firstFault 46 = .ok (.iload 5, 2) := by decide +kernel
theorem dX3_firstFault_48 : decode cX3_firstFault 48 = .ok (.if_icmp .ge 19, 3) := by decide +kernel
theorem dX3_firstFault_51 : decode cX3_firstFault 51 = .ok (.iload 6, 2) := by decide +kernel
theorem dX3_firstFault_53 : decode cX3_firstFault 53 = .ok (.iload 7, 2) := by decide +kernel
theorem dX3_firstFault_55 : decode cX3_firstFault 55 = .ok (.iload 4, 2) := by decide +kernel
theorem dX3_firstFault_57 : decode cX3_firstFault 57 = .ok (.invokestatic 55, 3) := by decide +kernel
theorem dX3_firstFault_60 : decode cX3_firstFault 60 = .ok (.ifCond .eq 7, 3) := by decide +kernel
theorem dX3_firstFault_63 : decode cX3_firstFault 63 = .ok (.iconst 1, 1) := by decide +kernel
theorem dX3_firstFault_64 : decode cX3_firstFault 64 = .ok (.goto 4, 3) := by decide +kernel
theorem dX3_firstFault_67 : decode cX3_firstFault 67 = .ok (.iconst 0, 1) := by decide +kernel
theorem dX3_firstFault_68 : decode cX3_firstFault 68 = .ok (.istore 8, 2) := by decide +kernel
theorem dX3_firstFault_70 : decode cX3_firstFault 70 = .ok (.iload 8, 2) := by decide +kernel
theorem dX3_firstFault_72 : decode cX3_firstFault 72 = .ok (.ifCond .ne 6, 3) := by decide +kernel
theorem dX3_firstFault_75 : decode cX3_firstFault 75 = .ok (.iload 6, 2) := by decide +kernel
theorem dX3_firstFault_77 : decode cX3_firstFault 77 = .ok (.ireturn, 1) := by decide +kernel
theorem dX3_firstFault_78 : decode cX3_firstFault 78 = .ok (.iload 6, 2) := by decide +kernel
theorem dX3_firstFault_80 : decode cX3_firstFault 80 = .ok (.iconst 1, 1) := by decide +kernel
theorem dX3_firstFault_81 : decode cX3_firstFault 81 = .ok (.if_icmp .ne 12, 3) := by decide +kernel
theorem dX3_firstFault_84 : decode cX3_firstFault 84 = .ok (.iload 7, 2) := by decide +kernel
theorem dX3_firstFault_86 : decode cX3_firstFault 86 = .ok (.bipush 48, 2) := by decide +kernel
theorem dX3_firstFault_88 : decode cX3_firstFault 88 = .ok (.isub, 1) := by decide +kernel
theorem dX3_firstFault_89 : decode cX3_firstFault 89 = .ok (.istore_n 3, 1) := by decide +kernel
theorem dX3_firstFault_90 : decode cX3_firstFault 90 = .ok (.goto 27, 3) := by decide +kernel
theorem dX3_firstFault_93 : decode cX3_firstFault 93 = .ok (.iload 6, 2) := by decide +kernel
theorem dX3_firstFault_95 : decode cX3_firstFault 95 = .ok (.iconst 2, 1) := by decide +kernel
theorem dX3_firstFault_96 : decode cX3_firstFault 96 = .ok (.if_icmp .ne 21, 3) := by decide +kernel
theorem dX3_firstFault_99 : decode cX3_firstFault 99 = .ok (.iload 7, 2) := by decide +kernel
theorem dX3_firstFault_101 : decode cX3_firstFault 101 = .ok (.bipush 48, 2) := by decide +kernel
theorem dX3_firstFault_103 : decode cX3_firstFault 103 = .ok (.isub, 1) := by decide +kernel
theorem dX3_firstFault_104 : decode cX3_firstFault 104 = .ok (.istore 4, 2) := by decide +kernel
theorem dX3_firstFault_106 : decode cX3_firstFault 106 = .ok (.iconst 3, 1) := by decide +kernel
theorem dX3_firstFault_107 : decode cX3_firstFault 107 = .ok (.iload_n 3, 1) := by decide +kernel
theorem dX3_firstFault_108 : decode cX3_firstFault 108 = .ok (.iload 4, 2) := by decide +kernel
theorem dX3_firstFault_110 : decode cX3_firstFault 110 = .ok (.invokestatic 59, 3) := by decide +kernel
theorem dX3_firstFault_113 : decode cX3_firstFault 113 = .ok (.imul, 1) := by decide +kernel
theorem dX3_firstFault_114 : decode cX3_firstFault 114 = .ok (.iadd, 1) := by decide +kernel
theorem dX3_firstFault_115 : decode cX3_firstFault 115 = .ok (.istore 5, 2) := by decide +kernel
theorem dX3_firstFault_117 : decode cX3_firstFault 117 = .ok (.iinc 6 1, 3) := by decide +kernel
theorem dX3_firstFault_120 : decode cX3_firstFault 120 = .ok (.goto (-109), 3) := by decide +kernel
theorem dX3_firstFault_123 : decode cX3_firstFault 123 = .ok (.iload_n 2, 1) := by decide +kernel
theorem dX3_firstFault_124 : decode cX3_firstFault 124 = .ok (.iload 5, 2) := by decide +kernel
theorem dX3_firstFault_126 : decode cX3_firstFault 126 = .ok (.if_icmp .ge 7, 3) := by decide +kernel
theorem dX3_firstFault_129 : decode cX3_firstFault 129 = .ok (.iload_n 2, 1) := by decide +kernel
theorem dX3_firstFault_130 : decode cX3_firstFault 130 = .ok (.goto 5, 3) := by decide +kernel
theorem dX3_firstFault_133 : decode cX3_firstFault 133 = .ok (.bipush (-9), 2) := by decide +kernel
theorem dX3_firstFault_135 : decode cX3_firstFault 135 = .ok (.ireturn, 1) := by decide +kernel
theorem dX3_fitsHead_0 : decode cX3_fitsHead 0 = .ok (.iload_n 0, 1) := by decide +kernel
theorem dX3_fitsHead_1 : decode cX3_fitsHead 1 = .ok (.ifCond .ne 15, 3) := by decide +kernel
theorem dX3_fitsHead_4 : decode cX3_fitsHead 4 = .ok (.iload_n 1, 1) := by decide +kernel
theorem dX3_fitsHead_5 : decode cX3_fitsHead 5 = .ok (.bipush 113, 2) := by decide +kernel
theorem dX3_fitsHead_7 : decode cX3_fitsHead 7 = .ok (.if_icmp .ne 7, 3) := by decide +kernel
theorem dX3_fitsHead_10 : decode cX3_fitsHead 10 = .ok (.iconst 1, 1) := by decide +kernel
theorem dX3_fitsHead_11 : decode cX3_fitsHead 11 = .ok (.goto 4, 3) := by decide +kernel
theorem dX3_fitsHead_14 : decode cX3_fitsHead 14 = .ok (.iconst 0, 1) := by decide +kernel
theorem dX3_fitsHead_15 : decode cX3_fitsHead 15 = .ok (.ireturn, 1) := by decide +kernel
theorem dX3_fitsHead_16 : decode cX3_fitsHead 16 = .ok (.iload_n 1, 1) := by decide +kernel
theorem dX3_fitsHead_17 : decode cX3_fitsHead 17 = .ok (.bipush 50, 2) := by decide +kernel
theorem dX3_fitsHead_19 : decode cX3_fitsHead 19 = .ok (.iload_n 0, 1) := by decide +kernel
theorem dX3_fitsHead_20 : decode cX3_fitsHead 20 = .ok (.iconst 1, 1) := by decide +kernel
theorem dX3_fitsHead_21 : decode cX3_fitsHead 21 = .ok (.if_icmp .ne 8, 3) := by decide +kernel
theorem dX3_fitsHead_24 : decode cX3_fitsHead 24 = .ok (.bipush 53, 2) := by decide +kernel
theorem dX3_fitsHead_26 : decode cX3_fitsHead 26 = .ok (.goto 5, 3) := by decide +kernel
theorem dX3_fitsHead_29 : decode cX3_fitsHead 29 = .ok (.bipush 54, 2) := by decide +kernel
theorem dX3_fitsHead_31 : decode cX3_fitsHead 31 = .ok (.invokestatic 63, 3) := by decide +kernel
theorem dX3_fitsHead_34 : decode cX3_fitsHead 34 = .ok (.ireturn, 1) := by decide +kernel
theorem dX3_fitsRow_0 : decode cX3_fitsRow 0 = .ok (.iload_n 0, 1) := by decide +kernel
theorem dX3_fitsRow_1 : decode cX3_fitsRow 1 = .ok (.iconst 3, 1) := by decide +kernel
theorem dX3_fitsRow_2 : decode cX3_fitsRow 2 = .ok (.isub, 1) := by decide +kernel
theorem dX3_fitsRow_3 : decode cX3_fitsRow 3 = .ok (.iload_n 2, 1) := by decide +kernel
theorem dX3_fitsRow_4 : decode cX3_fitsRow 4 = .ok (.invokestatic 59, 3) := by decide +kernel
theorem dX3_fitsRow_7 : decode cX3_fitsRow 7 = .ok (.irem, 1) := by decide +kernel
theorem dX3_fitsRow_8 : decode cX3_fitsRow 8 = .ok (.istore_n 3, 1) := by decide +kernel
theorem dX3_fitsRow_9 : decode cX3_fitsRow 9 = .ok (.iload_n 3, 1) := by decide +kernel
theorem dX3_fitsRow_10 : decode cX3_fitsRow 10 = .ok (.ifCond .ne 15, 3) := by decide +kernel
theorem dX3_fitsRow_13 : decode cX3_fitsRow 13 = .ok (.iload_n 1, 1) := by decide +kernel
theorem dX3_fitsRow_14 : decode cX3_fitsRow 14 = .ok (.bipush 59, 2) := by decide +kernel
theorem dX3_fitsRow_16 : decode cX3_fitsRow 16 = .ok (.if_icmp .ne 7, 3) := by decide +kernel
theorem dX3_fitsRow_19 : decode cX3_fitsRow 19 = .ok (.iconst 1, 1) := by decide +kernel
theorem dX3_fitsRow_20 : decode cX3_fitsRow 20 = .ok (.goto 4, 3) := by decide +kernel
theorem dX3_fitsRow_23 : decode cX3_fitsRow 23 = .ok (.iconst 0, 1) := by decide +kernel
theorem dX3_fitsRow_24 : decode cX3_fitsRow 24 = .ok (.ireturn, 1) := by decide +kernel
theorem dX3_fitsRow_25 : decode cX3_fitsRow 25 = .ok (.iload_n 3, 1) := by decide +kernel
theorem dX3_fitsRow_26 : decode cX3_fitsRow 26 = .ok (.iconst 2, 1) := by decide +kernel
theorem dX3_fitsRow_27 : decode cX3_fitsRow 27 = .ok (.irem, 1) := by decide +kernel
theorem dX3_fitsRow_28 : decode cX3_fitsRow 28 = .ok (.iconst 1, 1) := by decide +kernel
theorem dX3_fitsRow_29 : decode cX3_fitsRow 29 = .ok (.if_icmp .ne 20, 3) := by decide +kernel
theorem dX3_fitsRow_32 : decode cX3_fitsRow 32 = .ok (.iload_n 1, 1) := by decide +kernel
theorem dX3_fitsRow_33 : decode cX3_fitsRow 33 = .ok (.invokestatic 66, 3) := by decide +kernel
theorem dX3_fitsRow_36 : decode cX3_fitsRow 36 = .ok (.bipush (-9), 2) := by decide +kernel
theorem dX3_fitsRow_38 : decode cX3_fitsRow 38 = .ok (.if_icmp .eq 7, 3) := by decide +kernel
theorem dX3_fitsRow_41 : decode cX3_fitsRow 41 = .ok (.iconst 1, 1) := by decide +kernel
theorem dX3_fitsRow_42 : decode cX3_fitsRow 42 = .ok (.goto 15, 3) := by decide +kernel
theorem dX3_fitsRow_45 : decode cX3_fitsRow 45 = .ok (.iconst 0, 1) := by decide +kernel
theorem dX3_fitsRow_46 : decode cX3_fitsRow 46 = .ok (.goto 11, 3) := by decide +kernel
theorem dX3_fitsRow_49 : decode cX3_fitsRow 49 = .ok (.iload_n 1, 1) := by decide +kernel
theorem dX3_fitsRow_50 : decode cX3_fitsRow 50 = .ok (.bipush 48, 2) := by decide +kernel
theorem dX3_fitsRow_52 : decode cX3_fitsRow 52 = .ok (.bipush 57, 2) := by decide +kernel
theorem dX3_fitsRow_54 : decode cX3_fitsRow 54 = .ok (.invokestatic 63, 3) := by decide +kernel
theorem dX3_fitsRow_57 : decode cX3_fitsRow 57 = .ok (.ireturn, 1) := by decide +kernel
theorem dX3_rowLength_0 : decode cX3_rowLength 0 = .ok (.iconst 1, 1) := by decide +kernel
theorem dX3_rowLength_1 : decode cX3_rowLength 1 = .ok (.iconst 2, 1) := by decide +kernel
theorem dX3_rowLength_2 : decode cX3_rowLength 2 = .ok (.iload_n 0, 1) := by decide +kernel
theorem dX3_rowLength_3 : decode cX3_rowLength 3 = .ok (.imul, 1) := by decide +kernel
theorem dX3_rowLength_4 : decode cX3_rowLength 4 = .ok (.iadd, 1) := by decide +kernel
theorem dX3_rowLength_5 : decode cX3_rowLength 5 = .ok (.ireturn, 1) := by decide +kernel
theorem dX3_kindBy_0 : decode cX3_kindBy 0 = .ok (.iload_n 0, 1) := by decide +kernel
theorem dX3_kindBy_1 : decode cX3_kindBy 1 = .ok (.lookupswitch 41 #[(99, 37), (102, 39), (115, 35)], 35) := by decide +kernel
theorem dX3_kindBy_36 : decode cX3_kindBy 36 = .ok (.iconst 0, 1) := by decide +kernel
theorem dX3_kindBy_37 : decode cX3_kindBy 37 = .ok (.ireturn, 1) := by decide +kernel
theorem dX3_kindBy_38 : decode cX3_kindBy 38 = .ok (.iconst 1, 1) := by decide +kernel
theorem dX3_kindBy_39 : decode cX3_kindBy 39 = .ok (.ireturn, 1) := by decide +kernel
theorem dX3_kindBy_40 : decode cX3_kindBy 40 = .ok (.iconst 2, 1) := by decide +kernel
theorem dX3_kindBy_41 : decode cX3_kindBy 41 = .ok (.ireturn, 1) := by decide +kernel
theorem dX3_kindBy_42 : decode cX3_kindBy 42 = .ok (.bipush (-9), 2) := by decide +kernel
theorem dX3_kindBy_44 : decode cX3_kindBy 44 = .ok (.ireturn, 1) := by decide +kernel
theorem dX3_lay_0 : decode cX3_lay 0 = .ok (.aload_n 0, 1) := by decide +kernel
theorem dX3_lay_1 : decode cX3_lay 1 = .ok (.aload_n 1, 1) := by decide +kernel
theorem dX3_lay_2 : decode cX3_lay 2 = .ok (.getfield 46, 3) := by decide +kernel
theorem dX3_lay_5 : decode cX3_lay 5 = .ok (.iload_n 2, 1) := by decide +kernel
theorem dX3_lay_6 : decode cX3_lay 6 = .ok (.iconst 1, 1) := by decide +kernel
theorem dX3_lay_7 : decode cX3_lay 7 = .ok (.iadd, 1) := by decide +kernel
theorem dX3_lay_8 : decode cX3_lay 8 = .ok (.iaload, 1) := by decide +kernel
theorem dX3_lay_9 : decode cX3_lay 9 = .ok (.bipush 48, 2) := by decide +kernel
theorem dX3_lay_11 : decode cX3_lay 11 = .ok (.isub, 1) := by decide +kernel
theorem dX3_lay_12 : decode cX3_lay 12 = .ok (.putfield 69, 3) := by decide +kernel
theorem dX3_lay_15 : decode cX3_lay 15 = .ok (.aload_n 0, 1) := by decide +kernel
theorem dX3_lay_16 : decode cX3_lay 16 = .ok (.aload_n 1, 1) := by decide +kernel
theorem dX3_lay_17 : decode cX3_lay 17 = .ok (.getfield 46, 3) := by decide +kernel
theorem dX3_lay_20 : decode cX3_lay 20 = .ok (.iload_n 2, 1) := by decide +kernel
theorem dX3_lay_21 : decode cX3_lay 21 = .ok (.iconst 2, 1) := by decide +kernel
theorem dX3_lay_22 : decode cX3_lay 22 = .ok (.iadd, 1) := by decide +kernel
theorem dX3_lay_23 : decode cX3_lay 23 = .ok (.iaload, 1) := by decide +kernel
theorem dX3_lay_24 : decode cX3_lay 24 = .ok (.bipush 48, 2) := by decide +kernel
theorem dX3_lay_26 : decode cX3_lay 26 = .ok (.isub, 1) := by decide +kernel
theorem dX3_lay_27 : decode cX3_lay 27 = .ok (.putfield 73, 3) := by decide +kernel
theorem dX3_lay_30 : decode cX3_lay 30 = .ok (.iload_n 2, 1) := by decide +kernel
theorem dX3_lay_31 : decode cX3_lay 31 = .ok (.iconst 3, 1) := by decide +kernel
theorem dX3_lay_32 : decode cX3_lay 32 = .ok (.iadd, 1) := by decide +kernel
theorem dX3_lay_33 : decode cX3_lay 33 = .ok (.istore_n 3, 1) := by decide +kernel
theorem dX3_lay_34 : decode cX3_lay 34 = .ok (.iconst 0, 1) := by decide +kernel
theorem dX3_lay_35 : decode cX3_lay 35 = .ok (.istore 4, 2) := by decide +kernel
theorem dX3_lay_37 : decode cX3_lay 37 = .ok (.iconst 0, 1) := by decide +kernel
theorem dX3_lay_38 : decode cX3_lay 38 = .ok (.istore 5, 2) := by decide +kernel
theorem dX3_lay_40 : decode cX3_lay 40 = .ok (.iload 5, 2) := by decide +kernel
theorem dX3_lay_42 : decode cX3_lay 42 = .ok (.aload_n 0, 1) := by decide +kernel
theorem dX3_lay_43 : decode cX3_lay 43 = .ok (.getfield 69, 3) := by decide +kernel
theorem dX3_lay_46 : decode cX3_lay 46 = .ok (.if_icmp .ge 96, 3) := by decide +kernel
theorem dX3_lay_49 : decode cX3_lay 49 = .ok (.iinc 3 1, 3) := by decide +kernel
theorem dX3_lay_52 : decode cX3_lay 52 = .ok (.iconst 0, 1) := by decide +kernel
theorem dX3_lay_53 : decode cX3_lay 53 = .ok (.istore 6, 2) := by decide +kernel
theorem dX3_lay_55 : decode cX3_lay 55 = .ok (.iload 6, 2) := by decide +kernel
theorem dX3_lay_57 : decode cX3_lay 57 = .ok (.aload_n 0, 1) := by decide +kernel
theorem dX3_lay_58 : decode cX3_lay 58 = .ok (.getfield 73, 3) := by decide +kernel
theorem dX3_lay_61 : decode cX3_lay 61 = .ok (.if_icmp .ge 75, 3) := by decide +kernel
theorem dX3_lay_64 : decode cX3_lay 64 = .ok (.aload_n 0, 1) := by decide +kernel
theorem dX3_lay_65 : decode cX3_lay 65 = .ok (.getfield 24, 3) := by decide +kernel
theorem dX3_lay_68 : decode cX3_lay 68 = .ok (.iload 4, 2) := by decide +kernel
theorem dX3_lay_70 : decode cX3_lay 70 = .ok (.aload_n 1, 1) := by decide +kernel
theorem dX3_lay_71 : decode cX3_lay 71 = .ok (.getfield 46, 3) := by decide +kernel
theorem dX3_lay_74 : decode cX3_lay 74 = .ok (.iload_n 3, 1) := by decide +kernel
theorem dX3_lay_75 : decode cX3_lay 75 = .ok (.iaload, 1) := by decide +kernel
theorem dX3_lay_76 : decode cX3_lay 76 = .ok (.invokestatic 66, 3) := by decide +kernel
theorem dX3_lay_79 : decode cX3_lay 79 = .ok (.iastore, 1) := by decide +kernel
theorem dX3_lay_80 : decode cX3_lay 80 = .ok (.aload_n 0, 1) := by decide +kernel
theorem dX3_lay_81 : decode cX3_lay 81 = .ok (.getfield 28, 3) := by decide +kernel
theorem dX3_lay_84 : decode cX3_lay 84 = .ok (.iload 4, 2) := by decide +kernel
theorem dX3_lay_86 : decode cX3_lay 86 = .ok (.aload_n 1, 1) := by decide +kernel
theorem dX3_lay_87 : decode cX3_lay 87 = .ok (.getfield 46, 3) := by decide +kernel
theorem dX3_lay_90 : decode cX3_lay 90 = .ok (.iload_n 3, 1) := by decide +kernel
theorem dX3_lay_91 : decode cX3_lay 91 = .ok (.iconst 1, 1) := by decide +kernel
theorem dX3_lay_92 : decode cX3_lay 92 = .ok (.iadd, 1) := by decide +kernel
theorem dX3_lay_93 : decode cX3_lay 93 = .ok (.iaload, 1) := by decide +kernel
theorem dX3_lay_94 : decode cX3_lay 94 = .ok (.bipush 48, 2) := by decide +kernel
theorem dX3_lay_96 : decode cX3_lay 96 = .ok (.isub, 1) := by decide +kernel
theorem dX3_lay_97 : decode cX3_lay 97 = .ok (.iastore, 1) := by decide +kernel
theorem dX3_lay_98 : decode cX3_lay 98 = .ok (.aload_n 0, 1) := by decide +kernel
theorem dX3_lay_99 : decode cX3_lay 99 = .ok (.getfield 31, 3) := by decide +kernel
theorem dX3_lay_102 : decode cX3_lay 102 = .ok (.iload 4, 2) := by decide +kernel
theorem dX3_lay_104 : decode cX3_lay 104 = .ok (.iconst 0, 1) := by decide +kernel
theorem dX3_lay_105 : decode cX3_lay 105 = .ok (.iastore, 1) := by decide +kernel
theorem dX3_lay_106 : decode cX3_lay 106 = .ok (.aload_n 0, 1) := by decide +kernel
theorem dX3_lay_107 : decode cX3_lay 107 = .ok (.getfield 34, 3) := by decide +kernel
theorem dX3_lay_110 : decode cX3_lay 110 = .ok (.iload 4, 2) := by decide +kernel
theorem dX3_lay_112 : decode cX3_lay 112 = .ok (.iload 5, 2) := by decide +kernel
theorem dX3_lay_114 : decode cX3_lay 114 = .ok (.iastore, 1) := by decide +kernel
theorem dX3_lay_115 : decode cX3_lay 115 = .ok (.aload_n 0, 1) := by decide +kernel
theorem dX3_lay_116 : decode cX3_lay 116 = .ok (.getfield 37, 3) := by decide +kernel
theorem dX3_lay_119 : decode cX3_lay 119 = .ok (.iload 4, 2) := by decide +kernel
theorem dX3_lay_121 : decode cX3_lay 121 = .ok (.iload 6, 2) := by decide +kernel
theorem dX3_lay_123 : decode cX3_lay 123 = .ok (.iastore, 1) := by decide +kernel
theorem dX3_lay_124 : decode cX3_lay 124 = .ok (.iinc 3 2, 3) := by decide +kernel
theorem dX3_lay_127 : decode cX3_lay 127 = .ok (.iinc 4 1, 3) := by decide +kernel
theorem dX3_lay_130 : decode cX3_lay 130 = .ok (.iinc 6 1, 3) := by decide +kernel
theorem dX3_lay_133 : decode cX3_lay 133 = .ok (.goto (-78), 3) := by decide +kernel
theorem dX3_lay_136 : decode cX3_lay 136 = .ok (.iinc 5 1, 3) := by decide +kernel
theorem dX3_lay_139 : decode cX3_lay 139 = .ok (.goto (-99), 3) := by decide +kernel
theorem dX3_lay_142 : decode cX3_lay 142 = .ok (.iconst 0, 1) := by decide +kernel
theorem dX3_lay_143 : decode cX3_lay 143 = .ok (.istore 5, 2) := by decide +kernel
theorem dX3_lay_145 : decode cX3_lay 145 = .ok (.iload 5, 2) := by decide +kernel
theorem dX3_lay_147 : decode cX3_lay 147 = .ok (.bipush 12, 2) := by decide +kernel
theorem dX3_lay_149 : decode cX3_lay 149 = .ok (.if_icmp .ge 25, 3) := by decide +kernel
theorem dX3_lay_152 : decode cX3_lay 152 = .ok (.aload_n 0, 1) := by decide +kernel
theorem dX3_lay_153 : decode cX3_lay 153 = .ok (.getfield 40, 3) := by decide +kernel
theorem dX3_lay_156 : decode cX3_lay 156 = .ok (.iload 5, 2) := by decide +kernel
theorem dX3_lay_158 : decode cX3_lay 158 = .ok (.iconst 0, 1) := by decide +kernel
theorem dX3_lay_159 : decode cX3_lay 159 = .ok (.iastore, 1) := by decide +kernel
theorem dX3_lay_160 : decode cX3_lay 160 = .ok (.aload_n 0, 1) := by decide +kernel
theorem dX3_lay_161 : decode cX3_lay 161 = .ok (.getfield 43, 3) := by decide +kernel
theorem dX3_lay_164 : decode cX3_lay 164 = .ok (.iload 5, 2) := by decide +kernel
theorem dX3_lay_166 : decode cX3_lay 166 = .ok (.iconst 0, 1) := by decide +kernel
theorem dX3_lay_167 : decode cX3_lay 167 = .ok (.iastore, 1) := by decide +kernel
theorem dX3_lay_168 : decode cX3_lay 168 = .ok (.iinc 5 1, 3) := by decide +kernel
theorem dX3_lay_171 : decode cX3_lay 171 = .ok (.goto (-26), 3) := by decide +kernel
theorem dX3_lay_174 : decode cX3_lay 174 = .ok (.return_, 1) := by decide +kernel
theorem dX3_isBare_0 : decode cX3_isBare 0 = .ok (.aload_n 0, 1) := by decide +kernel
theorem dX3_isBare_1 : decode cX3_isBare 1 = .ok (.getfield 73, 3) := by decide +kernel
theorem dX3_isBare_4 : decode cX3_isBare 4 = .ok (.ifCond .ne 7, 3) := by decide +kernel
theorem dX3_isBare_7 : decode cX3_isBare 7 = .ok (.iconst 1, 1) := by decide +kernel
theorem dX3_isBare_8 : decode cX3_isBare 8 = .ok (.goto 4, 3) := by decide +kernel
theorem dX3_isBare_11 : decode cX3_isBare 11 = .ok (.iconst 0, 1) := by decide +kernel
theorem dX3_isBare_12 : decode cX3_isBare 12 = .ok (.ireturn, 1) := by decide +kernel
theorem dX3_stones_0 : decode cX3_stones 0 = .ok (.aload_n 0, 1) := by decide +kernel
theorem dX3_stones_1 : decode cX3_stones 1 = .ok (.getfield 69, 3) := by decide +kernel
theorem dX3_stones_4 : decode cX3_stones 4 = .ok (.aload_n 0, 1) := by decide +kernel
theorem dX3_stones_5 : decode cX3_stones 5 = .ok (.getfield 73, 3) := by decide +kernel
theorem dX3_stones_8 : decode cX3_stones 8 = .ok (.imul, 1) := by decide +kernel
theorem dX3_stones_9 : decode cX3_stones 9 = .ok (.ireturn, 1) := by decide +kernel
theorem dX3_has_0 : decode cX3_has 0 = .ok (.iload_n 1, 1) := by decide +kernel
theorem dX3_has_1 : decode cX3_has 1 = .ok (.ifCond .lt 20, 3) := by decide +kernel
theorem dX3_has_4 : decode cX3_has 4 = .ok (.iload_n 1, 1) := by decide +kernel
theorem dX3_has_5 : decode cX3_has 5 = .ok (.aload_n 0, 1) := by decide +kernel
theorem dX3_has_6 : decode cX3_has 6 = .ok (.getfield 69, 3) := by decide +kernel
theorem dX3_has_9 : decode cX3_has 9 = .ok (.aload_n 0, 1) := by decide +kernel
theorem dX3_has_10 : decode cX3_has 10 = .ok (.getfield 73, 3) := by decide +kernel
theorem dX3_has_13 : decode cX3_has 13 = .ok (.imul, 1) := by decide +kernel
theorem dX3_has_14 : decode cX3_has 14 = .ok (.if_icmp .ge 7, 3) := by decide +kernel
theorem dX3_has_17 : decode cX3_has 17 = .ok (.iconst 1, 1) := by decide +kernel
theorem dX3_has_18 : decode cX3_has 18 = .ok (.goto 4, 3) := by decide +kernel
theorem dX3_has_21 : decode cX3_has 21 = .ok (.iconst 0, 1) := by decide +kernel
theorem dX3_has_22 : decode cX3_has 22 = .ok (.ireturn, 1) := by decide +kernel
theorem dX3_hasStall_0 : decode cX3_hasStall 0 = .ok (.aload_n 0, 1) := by decide +kernel
theorem dX3_hasStall_1 : decode cX3_hasStall 1 = .ok (.iload_n 1, 1) := by decide +kernel
theorem dX3_hasStall_2 : decode cX3_hasStall 2 = .ok (.invokevirtual 76, 3) := by decide +kernel
theorem dX3_hasStall_5 : decode cX3_hasStall 5 = .ok (.ifCond .eq 37, 3) := by decide +kernel
theorem dX3_hasStall_8 : decode cX3_hasStall 8 = .ok (.aload_n 0, 1) := by decide +kernel
theorem dX3_hasStall_9 : decode cX3_hasStall 9 = .ok (.getfield 34, 3) := by decide +kernel
theorem dX3_hasStall_12 : decode cX3_hasStall 12 = .ok (.iload_n 1, 1) := by decide +kernel
theorem dX3_hasStall_13 : decode cX3_hasStall 13 = .ok (.iaload, 1) := by decide +kernel
theorem dX3_hasStall_14 : decode cX3_hasStall 14 = .ok (.aload_n 0, 1) := by decide +kernel
theorem dX3_hasStall_15 : decode cX3_hasStall 15 = .ok (.getfield 69, 3) := by decide +kernel
theorem dX3_hasStall_18 : decode cX3_hasStall 18 = .ok (.iconst 1, 1) := by decide +kernel
theorem dX3_hasStall_19 : decode cX3_hasStall 19 = .ok (.isub, 1) := by decide +kernel
theorem dX3_hasStall_20 : decode cX3_hasStall 20 = .ok (.if_icmp .ge 22, 3) := by decide +kernel
theorem dX3_hasStall_23 : decode cX3_hasStall 23 = .ok (.aload_n 0, 1) := by decide +kernel
theorem dX3_hasStall_24 : decode cX3_hasStall 24 = .ok (.getfield 37, 3) := by decide +kernel
theorem dX3_hasStall_27 : decode cX3_hasStall 27 = .ok (.iload_n 1, 1) := by decide +kernel
theorem dX3_hasStall_28 : decode cX3_hasStall 28 = .ok (.iaload, 1) := by decide +kernel
theorem dX3_hasStall_29 : decode cX3_hasStall 29 = .ok (.aload_n 0, 1) := by decide +kernel
theorem dX3_hasStall_30 : decode cX3_hasStall 30 = .ok (.getfield 73, 3) := by decide +kernel
theorem dX3_hasStall_33 : decode cX3_hasStall 33 = .ok (.iconst 1, 1) := by decide +kernel
theorem dX3_hasStall_34 : decode cX3_hasStall 34 = .ok (.isub, 1) := by decide +kernel
theorem dX3_hasStall_35 : decode cX3_hasStall 35 = .ok (.if_icmp .ge 7, 3) := by decide +kernel
theorem dX3_hasStall_38 : decode cX3_hasStall 38 = .ok (.iconst 1, 1) := by decide +kernel
theorem dX3_hasStall_39 : decode cX3_hasStall 39 = .ok (.goto 4, 3) := by decide +kernel
theorem dX3_hasStall_42 : decode cX3_hasStall 42 = .ok (.iconst 0, 1) := by decide +kernel
theorem dX3_hasStall_43 : decode cX3_hasStall 43 = .ok (.ireturn, 1) := by decide +kernel
theorem dX3_isAtEdge_0 : decode cX3_isAtEdge 0 = .ok (.aload_n 0, 1) := by decide +kernel
theorem dX3_isAtEdge_1 : decode cX3_isAtEdge 1 = .ok (.getfield 34, 3) := by decide +kernel
theorem dX3_isAtEdge_4 : decode cX3_isAtEdge 4 = .ok (.iload_n 1, 1) := by decide +kernel
theorem dX3_isAtEdge_5 : decode cX3_isAtEdge 5 = .ok (.iaload, 1) := by decide +kernel
theorem dX3_isAtEdge_6 : decode cX3_isAtEdge 6 = .ok (.ifCond .eq 42, 3) := by decide +kernel
theorem dX3_isAtEdge_9 : decode cX3_isAtEdge 9 = .ok (.aload_n 0, 1) := by decide +kernel
theorem dX3_isAtEdge_10 : decode cX3_isAtEdge 10 = .ok (.getfield 34, 3) := by decide +kernel
theorem dX3_isAtEdge_13 : decode cX3_isAtEdge 13 = .ok (.iload_n 1, 1) := by decide +kernel
theorem dX3_isAtEdge_14 : decode cX3_isAtEdge 14 = .ok (.iaload, 1) := by decide +kernel
theorem dX3_isAtEdge_15 : decode cX3_isAtEdge 15 = .ok (.aload_n 0, 1) := by decide +kernel
theorem dX3_isAtEdge_16 : decode cX3_isAtEdge 16 = .ok (.getfield 69, 3) := by decide +kernel
theorem dX3_isAtEdge_19 : decode cX3_isAtEdge 19 = .ok (.iconst 1, 1) := by decide +kernel
theorem dX3_isAtEdge_20 : decode cX3_isAtEdge 20 = .ok (.isub, 1) := by decide +kernel
theorem dX3_isAtEdge_21 : decode cX3_isAtEdge 21 = .ok (.if_icmp .eq 27, 3) := by decide +kernel
theorem dX3_isAtEdge_24 : decode cX3_isAtEdge 24 = .ok (.aload_n 0, 1) := by decide +kernel
theorem dX3_isAtEdge_25 : decode cX3_isAtEdge 25 = .ok (.getfield 37, 3) := by decide +kernel
theorem dX3_isAtEdge_28 : decode cX3_isAtEdge 28 = .ok (.iload_n 1, 1) := by decide +kernel
theorem dX3_isAtEdge_29 : decode cX3_isAtEdge 29 = .ok (.iaload, 1) := by decide +kernel
theorem dX3_isAtEdge_30 : decode cX3_isAtEdge 30 = .ok (.ifCond .eq 18, 3) := by decide +kernel
theorem dX3_isAtEdge_33 : decode cX3_isAtEdge 33 = .ok (.aload_n 0, 1) := by decide +kernel
theorem dX3_isAtEdge_34 : decode cX3_isAtEdge 34 = .ok (.getfield 37, 3) := by decide +kernel
theorem dX3_isAtEdge_37 : decode cX3_isAtEdge 37 = .ok (.iload_n 1, 1) := by decide +kernel
theorem dX3_isAtEdge_38 : decode cX3_isAtEdge 38 = .ok (.iaload, 1) := by decide +kernel
theorem dX3_isAtEdge_39 : decode cX3_isAtEdge 39 = .ok (.aload_n 0, 1) := by decide +kernel
theorem dX3_isAtEdge_40 : decode cX3_isAtEdge 40 = .ok (.getfield 73, 3) := by decide +kernel
theorem dX3_isAtEdge_43 : decode cX3_isAtEdge 43 = .ok (.iconst 1, 1) := by decide +kernel
theorem dX3_isAtEdge_44 : decode cX3_isAtEdge 44 = .ok (.isub, 1) := by decide +kernel
theorem dX3_isAtEdge_45 : decode cX3_isAtEdge 45 = .ok (.if_icmp .ne 7, 3) := by decide +kernel
theorem dX3_isAtEdge_48 : decode cX3_isAtEdge 48 = .ok (.iconst 1, 1) := by decide +kernel
theorem dX3_isAtEdge_49 : decode cX3_isAtEdge 49 = .ok (.goto 4, 3) := by decide +kernel
theorem dX3_isAtEdge_52 : decode cX3_isAtEdge 52 = .ok (.iconst 0, 1) := by decide +kernel
theorem dX3_isAtEdge_53 : decode cX3_isAtEdge 53 = .ok (.ireturn, 1) := by decide +kernel
theorem dX3_neighbour_0 : decode cX3_neighbour 0 = .ok (.iload_n 2, 1) := by decide +kernel
theorem dX3_neighbour_1 : decode cX3_neighbour 1 = .ok (.tableswitch 90 0 2 #[27, 48, 66], 27) := by decide +kernel
theorem dX3_neighbour_28 : decode cX3_neighbour 28 = .ok (.aload_n 0, 1) := by decide +kernel
theorem dX3_neighbour_29 : decode cX3_neighbour 29 = .ok (.getfield 34, 3) := by decide +kernel
theorem dX3_neighbour_32 : decode cX3_neighbour 32 = .ok (.iload_n 1, 1) := by decide +kernel
theorem dX3_neighbour_33 : decode cX3_neighbour 33 = .ok (.iaload, 1) := by decide +kernel
theorem dX3_neighbour_34 : decode cX3_neighbour 34 = .ok (.ifCond .le 12, 3) := by decide +kernel
theorem dX3_neighbour_37 : decode cX3_neighbour 37 = .ok (.iload_n 1, 1) := by decide +kernel
theorem dX3_neighbour_38 : decode cX3_neighbour 38 = .ok (.aload_n 0, 1) := by decide +kernel
theorem dX3_neighbour_39 : decode cX3_neighbour 39 = .ok (.getfield 73, 3) := by decide +kernel
theorem dX3_neighbour_42 : decode cX3_neighbour 42 = .ok (.isub, 1) := by decide +kernel
theorem dX3_neighbour_43 : decode cX3_neighbour 43 = .ok (.goto 5, 3) := by decide +kernel
theorem dX3_neighbour_46 : decode cX3_neighbour 46 = .ok (.bipush (-9), 2) := by decide +kernel
theorem dX3_neighbour_48 : decode cX3_neighbour 48 = .ok (.ireturn, 1) := by decide +kernel
theorem dX3_neighbour_49 : decode cX3_neighbour 49 = .ok (.aload_n 0, 1) := by decide +kernel
theorem dX3_neighbour_50 : decode cX3_neighbour 50 = .ok (.getfield 37, 3) := by decide +kernel
theorem dX3_neighbour_53 : decode cX3_neighbour 53 = .ok (.iload_n 1, 1) := by decide +kernel
theorem dX3_neighbour_54 : decode cX3_neighbour 54 = .ok (.iaload, 1) := by decide +kernel
theorem dX3_neighbour_55 : decode cX3_neighbour 55 = .ok (.ifCond .le 9, 3) := by decide +kernel
theorem dX3_neighbour_58 : decode cX3_neighbour 58 = .ok (.iload_n 1, 1) := by decide +kernel
theorem dX3_neighbour_59 : decode cX3_neighbour 59 = .ok (.iconst 1, 1) := by decide +kernel
theorem dX3_neighbour_60 : decode cX3_neighbour 60 = .ok (.isub, 1) := by decide +kernel
theorem dX3_neighbour_61 : decode cX3_neighbour 61 = .ok (.goto 5, 3) := by decide +kernel
theorem dX3_neighbour_64 : decode cX3_neighbour 64 = .ok (.bipush (-9), 2) := by decide +kernel
theorem dX3_neighbour_66 : decode cX3_neighbour 66 = .ok (.ireturn, 1) := by decide +kernel
theorem dX3_neighbour_67 : decode cX3_neighbour 67 = .ok (.aload_n 0, 1) := by decide +kernel
theorem dX3_neighbour_68 : decode cX3_neighbour 68 = .ok (.getfield 37, 3) := by decide +kernel
theorem dX3_neighbour_71 : decode cX3_neighbour 71 = .ok (.iload_n 1, 1) := by decide +kernel
theorem dX3_neighbour_72 : decode cX3_neighbour 72 = .ok (.iaload, 1) := by decide +kernel
theorem dX3_neighbour_73 : decode cX3_neighbour 73 = .ok (.aload_n 0, 1) := by decide +kernel
theorem dX3_neighbour_74 : decode cX3_neighbour 74 = .ok (.getfield 73, 3) := by decide +kernel
theorem dX3_neighbour_77 : decode cX3_neighbour 77 = .ok (.iconst 1, 1) := by decide +kernel
theorem dX3_neighbour_78 : decode cX3_neighbour 78 = .ok (.isub, 1) := by decide +kernel
theorem dX3_neighbour_79 : decode cX3_neighbour 79 = .ok (.if_icmp .ge 9, 3) := by decide +kernel
theorem dX3_neighbour_82 : decode cX3_neighbour 82 = .ok (.iload_n 1, 1) := by decide +kernel
theorem dX3_neighbour_83 : decode cX3_neighbour 83 = .ok (.iconst 1, 1) := by decide +kernel
theorem dX3_neighbour_84 : decode cX3_neighbour 84 = .ok (.iadd, 1) := by decide +kernel
theorem dX3_neighbour_85 : decode cX3_neighbour 85 = .ok (.goto 5, 3) := by decide +kernel
theorem dX3_neighbour_88 : decode cX3_neighbour 88 = .ok (.bipush (-9), 2) := by decide +kernel
theorem dX3_neighbour_90 : decode cX3_neighbour 90 = .ok (.ireturn, 1) := by decide +kernel
theorem dX3_neighbour_91 : decode cX3_neighbour 91 = .ok (.aload_n 0, 1) := by decide +kernel
theorem dX3_neighbour_92 : decode cX3_neighbour 92 = .ok (.getfield 34, 3) := by decide +kernel
theorem dX3_neighbour_95 : decode cX3_neighbour 95 = .ok (.iload_n 1, 1) := by decide +kernel
theorem dX3_neighbour_96 : decode cX3_neighbour 96 = .ok (.iaload, 1) := by decide +kernel
theorem dX3_neighbour_97 : decode cX3_neighbour 97 = .ok (.aload_n 0, 1) := by decide +kernel
theorem dX3_neighbour_98 : decode cX3_neighbour 98 = .ok (.getfield 69, 3) := by decide +kernel
theorem dX3_neighbour_101 : decode cX3_neighbour 101 = .ok (.iconst 1, 1) := by decide +kernel
theorem dX3_neighbour_102 : decode cX3_neighbour 102 = .ok (.isub, 1) := by decide +kernel
theorem dX3_neighbour_103 : decode cX3_neighbour 103 = .ok (.if_icmp .ge 12, 3) := by decide +kernel
theorem dX3_neighbour_106 : decode cX3_neighbour 106 = .ok (.iload_n 1, 1) := by decide +kernel
theorem dX3_neighbour_107 : decode cX3_neighbour 107 = .ok (.aload_n 0, 1) := by decide +kernel
theorem dX3_neighbour_108 : decode cX3_neighbour 108 = .ok (.getfield 73, 3) := by decide +kernel
theorem dX3_neighbour_111 : decode cX3_neighbour 111 = .ok (.iadd, 1) := by decide +kernel
theorem dX3_neighbour_112 : decode cX3_neighbour 112 = .ok (.goto 5, 3) := by decide +kernel
theorem dX3_neighbour_115 : decode cX3_neighbour 115 = .ok (.bipush (-9), 2) := by decide +kernel
theorem dX3_neighbour_117 : decode cX3_neighbour 117 = .ok (.ireturn, 1) := by decide +kernel
theorem dX3_areBeside_0 : decode cX3_areBeside 0 = .ok (.aload_n 0, 1) := by decide +kernel
theorem dX3_areBeside_1 : decode cX3_areBeside 1 = .ok (.getfield 34, 3) := by decide +kernel
theorem dX3_areBeside_4 : decode cX3_areBeside 4 = .ok (.iload_n 1, 1) := by decide +kernel
theorem dX3_areBeside_5 : decode cX3_areBeside 5 = .ok (.iaload, 1) := by decide +kernel
theorem dX3_areBeside_6 : decode cX3_areBeside 6 = .ok (.aload_n 0, 1) := by decide +kernel
theorem dX3_areBeside_7 : decode cX3_areBeside 7 = .ok (.getfield 34, 3) := by decide +kernel
theorem dX3_areBeside_10 : decode cX3_areBeside 10 = .ok (.iload_n 2, 1) := by decide +kernel
theorem dX3_areBeside_11 : decode cX3_areBeside 11 = .ok (.iaload, 1) := by decide +kernel
theorem dX3_areBeside_12 : decode cX3_areBeside 12 = .ok (.isub, 1) := by decide +kernel
theorem dX3_areBeside_13 : decode cX3_areBeside 13 = .ok (.invokestatic 80, 3) := by decide +kernel
theorem dX3_areBeside_16 : decode cX3_areBeside 16 = .ok (.aload_n 0, 1) := by decide +kernel
theorem dX3_areBeside_17 : decode cX3_areBeside 17 = .ok (.getfield 37, 3) := by decide +kernel
theorem dX3_areBeside_20 : decode cX3_areBeside 20 = .ok (.iload_n 1, 1) := by decide +kernel
theorem dX3_areBeside_21 : decode cX3_areBeside 21 = .ok (.iaload, 1) := by decide +kernel
theorem dX3_areBeside_22 : decode cX3_areBeside 22 = .ok (.aload_n 0, 1) := by decide +kernel
theorem dX3_areBeside_23 : decode cX3_areBeside 23 = .ok (.getfield 37, 3) := by decide +kernel
theorem dX3_areBeside_26 : decode cX3_areBeside 26 = .ok (.iload_n 2, 1) := by decide +kernel
theorem dX3_areBeside_27 : decode cX3_areBeside 27 = .ok (.iaload, 1) := by decide +kernel
theorem dX3_areBeside_28 : decode cX3_areBeside 28 = .ok (.isub, 1) := by decide +kernel
theorem dX3_areBeside_29 : decode cX3_areBeside 29 = .ok (.invokestatic 80, 3) := by decide +kernel
theorem dX3_areBeside_32 : decode cX3_areBeside 32 = .ok (.iadd, 1) := by decide +kernel
theorem dX3_areBeside_33 : decode cX3_areBeside 33 = .ok (.iconst 1, 1) := by decide +kernel
theorem dX3_areBeside_34 : decode cX3_areBeside 34 = .ok (.if_icmp .ne 7, 3) := by decide +kernel
theorem dX3_areBeside_37 : decode cX3_areBeside 37 = .ok (.iconst 1, 1) := by decide +kernel
theorem dX3_areBeside_38 : decode cX3_areBeside 38 = .ok (.goto 4, 3) := by decide +kernel
theorem dX3_areBeside_41 : decode cX3_areBeside 41 = .ok (.iconst 0, 1) := by decide +kernel
theorem dX3_areBeside_42 : decode cX3_areBeside 42 = .ok (.ireturn, 1) := by decide +kernel
theorem dX3_bodyOf_0 : decode cX3_bodyOf 0 = .ok (.aload_n 0, 1) := by decide +kernel
theorem dX3_bodyOf_1 : decode cX3_bodyOf 1 = .ok (.getfield 18, 3) := by decide +kernel
theorem dX3_bodyOf_4 : decode cX3_bodyOf 4 = .ok (.aload_n 0, 1) := by decide +kernel
theorem dX3_bodyOf_5 : decode cX3_bodyOf 5 = .ok (.getfield 24, 3) := by decide +kernel
theorem dX3_bodyOf_8 : decode cX3_bodyOf 8 = .ok (.iload_n 1, 1) := by decide +kernel
theorem dX3_bodyOf_9 : decode cX3_bodyOf 9 = .ok (.iaload, 1) := by decide +kernel
theorem dX3_bodyOf_10 : decode cX3_bodyOf 10 = .ok (.aaload, 1) := by decide +kernel
theorem dX3_bodyOf_11 : decode cX3_bodyOf 11 = .ok (.areturn, 1) := by decide +kernel
theorem dX3_heightOf_0 : decode cX3_heightOf 0 = .ok (.aload_n 0, 1) := by decide +kernel
theorem dX3_heightOf_1 : decode cX3_heightOf 1 = .ok (.aload_n 0, 1) := by decide +kernel
theorem dX3_heightOf_2 : decode cX3_heightOf 2 = .ok (.getfield 24, 3) := by decide +kernel
theorem dX3_heightOf_5 : decode cX3_heightOf 5 = .ok (.iload_n 1, 1) := by decide +kernel
theorem dX3_heightOf_6 : decode cX3_heightOf 6 = .ok (.iaload, 1) := by decide +kernel
theorem dX3_heightOf_7 : decode cX3_heightOf 7 = .ok (.iload_n 1, 1) := by decide +kernel
theorem dX3_heightOf_8 : decode cX3_heightOf 8 = .ok (.iload_n 2, 1) := by decide +kernel
theorem dX3_heightOf_9 : decode cX3_heightOf 9 = .ok (.invokevirtual 85, 3) := by decide +kernel
theorem dX3_heightOf_12 : decode cX3_heightOf 12 = .ok (.ireturn, 1) := by decide +kernel
theorem dX3_heightAs_0 : decode cX3_heightAs 0 = .ok (.bipush 10, 2) := by decide +kernel
theorem dX3_heightAs_2 : decode cX3_heightAs 2 = .ok (.aload_n 0, 1) := by decide +kernel
theorem dX3_heightAs_3 : decode cX3_heightAs 3 = .ok (.getfield 28, 3) := by decide +kernel
theorem dX3_heightAs_6 : decode cX3_heightAs 6 = .ok (.iload_n 2, 1) := by decide +kernel
theorem dX3_heightAs_7 : decode cX3_heightAs 7 = .ok (.iaload, 1) := by decide +kernel
theorem dX3_heightAs_8 : decode cX3_heightAs 8 = .ok (.imul, 1) := by decide +kernel
theorem dX3_heightAs_9 : decode cX3_heightAs 9 = .ok (.aload_n 0, 1) := by decide +kernel
theorem dX3_heightAs_10 : decode cX3_heightAs 10 = .ok (.getfield 31, 3) := by decide +kernel
theorem dX3_heightAs_13 : decode cX3_heightAs 13 = .ok (.iload_n 2, 1) := by decide +kernel
theorem dX3_heightAs_14 : decode cX3_heightAs 14 = .ok (.iaload, 1) := by decide +kernel
theorem dX3_heightAs_15 : decode cX3_heightAs 15 = .ok (.iadd, 1) := by decide +kernel
theorem dX3_heightAs_16 : decode cX3_heightAs 16 = .ok (.aload_n 0, 1) := by decide +kernel
theorem dX3_heightAs_17 : decode cX3_heightAs 17 = .ok (.getfield 18, 3) := by decide +kernel
theorem dX3_heightAs_20 : decode cX3_heightAs 20 = .ok (.iload_n 1, 1) := by decide +kernel
theorem dX3_heightAs_21 : decode cX3_heightAs 21 = .ok (.aaload, 1) := by decide +kernel
theorem dX3_heightAs_22 : decode cX3_heightAs 22 = .ok (.aload_n 0, 1) := by decide +kernel
theorem dX3_heightAs_23 : decode cX3_heightAs 23 = .ok (.getfield 40, 3) := by decide +kernel
theorem dX3_heightAs_26 : decode cX3_heightAs 26 = .ok (.iload_n 3, 1) := by decide +kernel
theorem dX3_heightAs_27 : decode cX3_heightAs 27 = .ok (.iaload, 1) := by decide +kernel
theorem dX3_heightAs_28 : decode cX3_heightAs 28 = .ok (.aload_n 0, 1) := by decide +kernel
theorem dX3_heightAs_29 : decode cX3_heightAs 29 = .ok (.getfield 43, 3) := by decide +kernel
theorem dX3_heightAs_32 : decode cX3_heightAs 32 = .ok (.iload_n 3, 1) := by decide +kernel
theorem dX3_heightAs_33 : decode cX3_heightAs 33 = .ok (.iaload, 1) := by decide +kernel
theorem dX3_heightAs_34 : decode cX3_heightAs 34 = .ok (.invokevirtual 89, 3) := by decide +kernel
theorem dX3_heightAs_37 : decode cX3_heightAs 37 = .ok (.iadd, 1) := by decide +kernel
theorem dX3_heightAs_38 : decode cX3_heightAs 38 = .ok (.ireturn, 1) := by decide +kernel
theorem dX3_writeHeights_0 : decode cX3_writeHeights 0 = .ok (.iconst 0, 1) := by decide +kernel
theorem dX3_writeHeights_1 : decode cX3_writeHeights 1 = .ok (.istore_n 3, 1) := by decide +kernel
theorem dX3_writeHeights_2 : decode cX3_writeHeights 2 = .ok (.iload_n 3, 1) := by decide +kernel
theorem dX3_writeHeights_3 : decode cX3_writeHeights 3 = .ok (.aload_n 0, 1) := by decide +kernel
theorem dX3_writeHeights_4 : decode cX3_writeHeights 4 = .ok (.invokevirtual 93, 3) := by decide +kernel
theorem dX3_writeHeights_7 : decode cX3_writeHeights 7 = .ok (.if_icmp .ge 18, 3) := by decide +kernel
theorem dX3_writeHeights_10 : decode cX3_writeHeights 10 = .ok (.aload_n 2, 1) := by decide +kernel
theorem dX3_writeHeights_11 : decode cX3_writeHeights 11 = .ok (.iload_n 3, 1) := by decide +kernel
theorem dX3_writeHeights_12 : decode cX3_writeHeights 12 = .ok (.aload_n 0, 1) := by decide +kernel
theorem dX3_writeHeights_13 : decode cX3_writeHeights 13 = .ok (.iload_n 3, 1) := by decide +kernel
theorem dX3_writeHeights_14 : decode cX3_writeHeights 14 = .ok (.iload_n 1, 1) := by decide +kernel
theorem dX3_writeHeights_15 : decode cX3_writeHeights 15 = .ok (.invokevirtual 97, 3) := by decide +kernel
theorem dX3_writeHeights_18 : decode cX3_writeHeights 18 = .ok (.iastore, 1) := by decide +kernel
theorem dX3_writeHeights_19 : decode cX3_writeHeights 19 = .ok (.iinc 3 1, 3) := by decide +kernel
theorem dX3_writeHeights_22 : decode cX3_writeHeights 22 = .ok (.goto (-20), 3) := by decide +kernel
theorem dX3_writeHeights_25 : decode cX3_writeHeights 25 = .ok (.return_, 1) := by decide +kernel
theorem dX3_highestMonth_0 : decode cX3_highestMonth 0 = .ok (.iconst 0, 1) := by decide +kernel
theorem dX3_highestMonth_1 : decode cX3_highestMonth 1 = .ok (.istore_n 2, 1) := by decide +kernel
theorem dX3_highestMonth_2 : decode cX3_highestMonth 2 = .ok (.iconst 1, 1) := by decide +kernel
theorem dX3_highestMonth_3 : decode cX3_highestMonth 3 = .ok (.istore_n 3, 1) := by decide +kernel
theorem dX3_highestMonth_4 : decode cX3_highestMonth 4 = .ok (.iload_n 3, 1) := by decide +kernel
theorem dX3_highestMonth_5 : decode cX3_highestMonth 5 = .ok (.bipush 12, 2) := by decide +kernel
theorem dX3_highestMonth_7 : decode cX3_highestMonth 7 = .ok (.if_icmp .ge 26, 3) := by decide +kernel
theorem dX3_highestMonth_10 : decode cX3_highestMonth 10 = .ok (.aload_n 0, 1) := by decide +kernel
theorem dX3_highestMonth_11 : decode cX3_highestMonth 11 = .ok (.iload_n 1, 1) := by decide +kernel
theorem dX3_highestMonth_12 : decode cX3_highestMonth 12 = .ok (.iload_n 3, 1) := by decide +kernel
theorem dX3_highestMonth_13 : decode cX3_highestMonth 13 = .ok (.invokevirtual 97, 3) := by decide +kernel
theorem dX3_highestMonth_16 : decode cX3_highestMonth 16 = .ok (.aload_n 0, 1) := by decide +kernel
theorem dX3_highestMonth_17 : decode cX3_highestMonth 17 = .ok (.iload_n 1, 1) := by decide +kernel
theorem dX3_highestMonth_18 : decode cX3_highestMonth 18 = .ok (.iload_n 2, 1) := by decide +kernel
theorem dX3_highestMonth_19 : decode cX3_highestMonth 19 = .ok (.invokevirtual 97, 3) := by decide +kernel
theorem dX3_highestMonth_22 : decode cX3_highestMonth 22 = .ok (.if_icmp .le 5, 3) := by decide +kernel
theorem dX3_highestMonth_25 : decode cX3_highestMonth 25 = .ok (.iload_n 3, 1) := by decide +kernel
theorem dX3_highestMonth_26 : decode cX3_highestMonth 26 = .ok (.istore_n 2, 1) := by decide +kernel
theorem dX3_highestMonth_27 : decode cX3_highestMonth 27 = .ok (.iinc 3 1, 3) := by decide +kernel
theorem dX3_highestMonth_30 : decode cX3_highestMonth 30 = .ok (.goto (-26), 3) := by decide +kernel
theorem dX3_highestMonth_33 : decode cX3_highestMonth 33 = .ok (.iload_n 2, 1) := by decide +kernel
theorem dX3_highestMonth_34 : decode cX3_highestMonth 34 = .ok (.ireturn, 1) := by decide +kernel
theorem dX3_lowestMonth_0 : decode cX3_lowestMonth 0 = .ok (.iconst 0, 1) := by decide +kernel
theorem dX3_lowestMonth_1 : decode cX3_lowestMonth 1 = .ok (.istore_n 2, 1) := by decide +kernel
theorem dX3_lowestMonth_2 : decode cX3_lowestMonth 2 = .ok (.iconst 1, 1) := by decide +kernel
theorem dX3_lowestMonth_3 : decode cX3_lowestMonth 3 = .ok (.istore_n 3, 1) := by decide +kernel
theorem dX3_lowestMonth_4 : decode cX3_lowestMonth 4 = .ok (.iload_n 3, 1) := by decide +kernel
theorem dX3_lowestMonth_5 : decode cX3_lowestMonth 5 = .ok (.bipush 12, 2) := by decide +kernel
theorem dX3_lowestMonth_7 : decode cX3_lowestMonth 7 = .ok (.if_icmp .ge 26, 3) := by decide +kernel
theorem dX3_lowestMonth_10 : decode cX3_lowestMonth 10 = .ok (.aload_n 0, 1) := by decide +kernel
theorem dX3_lowestMonth_11 : decode cX3_lowestMonth 11 = .ok (.iload_n 1, 1) := by decide +kernel
theorem dX3_lowestMonth_12 : decode cX3_lowestMonth 12 = .ok (.iload_n 3, 1) := by decide +kernel
theorem dX3_lowestMonth_13 : decode cX3_lowestMonth 13 = .ok (.invokevirtual 97, 3) := by decide +kernel
theorem dX3_lowestMonth_16 : decode cX3_lowestMonth 16 = .ok (.aload_n 0, 1) := by decide +kernel
theorem dX3_lowestMonth_17 : decode cX3_lowestMonth 17 = .ok (.iload_n 1, 1) := by decide +kernel
theorem dX3_lowestMonth_18 : decode cX3_lowestMonth 18 = .ok (.iload_n 2, 1) := by decide +kernel
theorem dX3_lowestMonth_19 : decode cX3_lowestMonth 19 = .ok (.invokevirtual 97, 3) := by decide +kernel
theorem dX3_lowestMonth_22 : decode cX3_lowestMonth 22 = .ok (.if_icmp .ge 5, 3) := by decide +kernel
theorem dX3_lowestMonth_25 : decode cX3_lowestMonth 25 = .ok (.iload_n 3, 1) := by decide +kernel
theorem dX3_lowestMonth_26 : decode cX3_lowestMonth 26 = .ok (.istore_n 2, 1) := by decide +kernel
theorem dX3_lowestMonth_27 : decode cX3_lowestMonth 27 = .ok (.iinc 3 1, 3) := by decide +kernel
theorem dX3_lowestMonth_30 : decode cX3_lowestMonth 30 = .ok (.goto (-26), 3) := by decide +kernel
theorem dX3_lowestMonth_33 : decode cX3_lowestMonth 33 = .ok (.iload_n 2, 1) := by decide +kernel
theorem dX3_lowestMonth_34 : decode cX3_lowestMonth 34 = .ok (.ireturn, 1) := by decide +kernel
theorem dX4_init_0 : decode cX4_init 0 = .ok (.aload_n 0, 1) := by decide +kernel
theorem dX4_init_1 : decode cX4_init 1 = .ok (.invokespecial 3, 3) := by decide +kernel
theorem dX4_init_4 : decode cX4_init 4 = .ok (.aload_n 0, 1) := by decide +kernel
theorem dX4_init_5 : decode cX4_init 5 = .ok (.bipush 30, 2) := by decide +kernel
theorem dX4_init_7 : decode cX4_init 7 = .ok (.newarray .int, 2) := by decide +kernel
theorem dX4_init_9 : decode cX4_init 9 = .ok (.putfield 9, 3) := by decide +kernel
theorem dX4_init_12 : decode cX4_init 12 = .ok (.aload_n 0, 1) := by decide +kernel
theorem dX4_init_13 : decode cX4_init 13 = .ok (.bipush 30, 2) := by decide +kernel
theorem dX4_init_15 : decode cX4_init 15 = .ok (.newarray .int, 2) := by decide +kernel
theorem dX4_init_17 : decode cX4_init 17 = .ok (.putfield 15, 3) := by decide +kernel
theorem dX4_init_20 : decode cX4_init 20 = .ok (.aload_n 0, 1) := by decide +kernel
theorem dX4_init_21 : decode cX4_init 21 = .ok (.aload_n 1, 1) := by decide +kernel
theorem dX4_init_22 : decode cX4_init 22 = .ok (.putfield 18, 3) := by decide +kernel
theorem dX4_init_25 : decode cX4_init 25 = .ok (.return_, 1) := by decide +kernel
theorem dX4_measure_0 : decode cX4_measure 0 = .ok (.aload_n 0, 1) := by decide +kernel
theorem dX4_measure_1 : decode cX4_measure 1 = .ok (.getfield 18, 3) := by decide +kernel
theorem dX4_measure_4 : decode cX4_measure 4 = .ok (.iload_n 1, 1) := by decide +kernel
theorem dX4_measure_5 : decode cX4_measure 5 = .ok (.aload_n 0, 1) := by decide +kernel
theorem dX4_measure_6 : decode cX4_measure 6 = .ok (.getfield 9, 3) := by decide +kernel
theorem dX4_measure_9 : decode cX4_measure 9 = .ok (.invokevirtual 22, 3) := by decide +kernel
theorem dX4_measure_12 : decode cX4_measure 12 = .ok (.return_, 1) := by decide +kernel
theorem dX4_wedgesAt_0 : decode cX4_wedgesAt 0 = .ok (.iload_n 1, 1) := by decide +kernel
theorem dX4_wedgesAt_1 : decode cX4_wedgesAt 1 = .ok (.aload_n 0, 1) := by decide +kernel
theorem dX4_wedgesAt_2 : decode cX4_wedgesAt 2 = .ok (.getfield 18, 3) := by decide +kernel
theorem dX4_wedgesAt_5 : decode cX4_wedgesAt 5 = .ok (.getfield 28, 3) := by decide +kernel
theorem dX4_wedgesAt_8 : decode cX4_wedgesAt 8 = .ok (.iadd, 1) := by decide +kernel
theorem dX4_wedgesAt_9 : decode cX4_wedgesAt 9 = .ok (.istore_n 2, 1) := by decide +kernel
theorem dX4_wedgesAt_10 : decode cX4_wedgesAt 10 = .ok (.aload_n 0, 1) := by decide +kernel
theorem dX4_wedgesAt_11 : decode cX4_wedgesAt 11 = .ok (.getfield 9, 3) := by decide +kernel
theorem dX4_wedgesAt_14 : decode cX4_wedgesAt 14 = .ok (.iload_n 1, 1) := by decide +kernel
theorem dX4_wedgesAt_15 : decode cX4_wedgesAt 15 = .ok (.iaload, 1) := by decide +kernel
theorem dX4_wedgesAt_16 : decode cX4_wedgesAt 16 = .ok (.aload_n 0, 1) := by decide +kernel
theorem dX4_wedgesAt_17 : decode cX4_wedgesAt 17 = .ok (.getfield 9, 3) := by decide +kernel
theorem dX4_wedgesAt_20 : decode cX4_wedgesAt 20 = .ok (.iload_n 1, 1) := by decide +kernel
theorem dX4_wedgesAt_21 : decode cX4_wedgesAt 21 = .ok (.iconst 1, 1) := by decide +kernel
theorem dX4_wedgesAt_22 : decode cX4_wedgesAt 22 = .ok (.iadd, 1) := by decide +kernel
theorem dX4_wedgesAt_23 : decode cX4_wedgesAt 23 = .ok (.iaload, 1) := by decide +kernel
theorem dX4_wedgesAt_24 : decode cX4_wedgesAt 24 = .ok (.invokestatic 32, 3) := by decide +kernel
theorem dX4_wedgesAt_27 : decode cX4_wedgesAt 27 = .ok (.istore_n 3, 1) := by decide +kernel
theorem dX4_wedgesAt_28 : decode cX4_wedgesAt 28 = .ok (.aload_n 0, 1) := by decide +kernel
theorem dX4_wedgesAt_29 : decode cX4_wedgesAt 29 = .ok (.getfield 9, 3) := by decide +kernel
theorem dX4_wedgesAt_32 : decode cX4_wedgesAt 32 = .ok (.iload_n 2, 1) := by decide +kernel
theorem dX4_wedgesAt_33 : decode cX4_wedgesAt 33 = .ok (.iaload, 1) := by decide +kernel
theorem dX4_wedgesAt_34 : decode cX4_wedgesAt 34 = .ok (.aload_n 0, 1) := by decide +kernel
theorem dX4_wedgesAt_35 : decode cX4_wedgesAt 35 = .ok (.getfield 9, 3) := by decide +kernel
theorem dX4_wedgesAt_38 : decode cX4_wedgesAt 38 = .ok (.iload_n 2, 1) := by decide +kernel
theorem dX4_wedgesAt_39 : decode cX4_wedgesAt 39 = .ok (.iconst 1, 1) := by decide +kernel
theorem dX4_wedgesAt_40 : decode cX4_wedgesAt 40 = .ok (.iadd, 1) := by decide +kernel
theorem dX4_wedgesAt_41 : decode cX4_wedgesAt 41 = .ok (.iaload, 1) := by decide +kernel
theorem dX4_wedgesAt_42 : decode cX4_wedgesAt 42 = .ok (.invokestatic 32, 3) := by decide +kernel
theorem dX4_wedgesAt_45 : decode cX4_wedgesAt 45 = .ok (.istore 4, 2) := by decide +kernel
theorem dX4_wedgesAt_47 : decode cX4_wedgesAt 47 = .ok (.aload_n 0, 1) := by decide +kernel
theorem dX4_wedgesAt_48 : decode cX4_wedgesAt 48 = .ok (.getfield 9, 3) := by decide +kernel
theorem dX4_wedgesAt_51 : decode cX4_wedgesAt 51 = .ok (.iload_n 1, 1) := by decide +kernel
theorem dX4_wedgesAt_52 : decode cX4_wedgesAt 52 = .ok (.iaload, 1) := by decide +kernel
theorem dX4_wedgesAt_53 : decode cX4_wedgesAt 53 = .ok (.aload_n 0, 1) := by decide +kernel
theorem dX4_wedgesAt_54 : decode cX4_wedgesAt 54 = .ok (.getfield 9, 3) := by decide +kernel
theorem dX4_wedgesAt_57 : decode cX4_wedgesAt 57 = .ok (.iload_n 1, 1) := by decide +kernel
theorem dX4_wedgesAt_58 : decode cX4_wedgesAt 58 = .ok (.iconst 1, 1) := by decide +kernel
theorem dX4_wedgesAt_59 : decode cX4_wedgesAt 59 = .ok (.iadd, 1) := by decide +kernel
theorem dX4_wedgesAt_60 : decode cX4_wedgesAt 60 = .ok (.iaload, 1) := by decide +kernel
theorem dX4_wedgesAt_61 : decode cX4_wedgesAt 61 = .ok (.iadd, 1) := by decide +kernel
theorem dX4_wedgesAt_62 : decode cX4_wedgesAt 62 = .ok (.aload_n 0, 1) := by decide +kernel
theorem dX4_wedgesAt_63 : decode cX4_wedgesAt 63 = .ok (.getfield 9, 3) := by decide +kernel
theorem dX4_wedgesAt_66 : decode cX4_wedgesAt 66 = .ok (.iload_n 2, 1) := by decide +kernel
theorem dX4_wedgesAt_67 : decode cX4_wedgesAt 67 = .ok (.iaload, 1) := by decide +kernel
theorem dX4_wedgesAt_68 : decode cX4_wedgesAt 68 = .ok (.iadd, 1) := by decide +kernel
theorem dX4_wedgesAt_69 : decode cX4_wedgesAt 69 = .ok (.aload_n 0, 1) := by decide +kernel
theorem dX4_wedgesAt_70 : decode cX4_wedgesAt 70 = .ok (.getfield 9, 3) := by decide +kernel
theorem dX4_wedgesAt_73 : decode cX4_wedgesAt 73 = .ok (.iload_n 2, 1) := by decide +kernel
theorem dX4_wedgesAt_74 : decode cX4_wedgesAt 74 = .ok (.iconst 1, 1) := by decide +kernel
theorem dX4_wedgesAt_75 : decode cX4_wedgesAt 75 = .ok (.iadd, 1) := by decide +kernel
theorem dX4_wedgesAt_76 : decode cX4_wedgesAt 76 = .ok (.iaload, 1) := by decide +kernel
theorem dX4_wedgesAt_77 : decode cX4_wedgesAt 77 = .ok (.iadd, 1) := by decide +kernel
theorem dX4_wedgesAt_78 : decode cX4_wedgesAt 78 = .ok (.istore 5, 2) := by decide +kernel
theorem dX4_wedgesAt_80 : decode cX4_wedgesAt 80 = .ok (.iconst 4, 1) := by decide +kernel
theorem dX4_wedgesAt_81 : decode cX4_wedgesAt 81 = .ok (.iload_n 3, 1) := by decide +kernel
theorem dX4_wedgesAt_82 : decode cX4_wedgesAt 82 = .ok (.iload 4, 2) := by decide +kernel
theorem dX4_wedgesAt_84 : decode cX4_wedgesAt 84 = .ok (.invokestatic 32, 3) := by decide +kernel
theorem dX4_wedgesAt_87 : decode cX4_wedgesAt 87 = .ok (.imul, 1) := by decide +kernel
theorem dX4_wedgesAt_88 : decode cX4_wedgesAt 88 = .ok (.iload 5, 2) := by decide +kernel
theorem dX4_wedgesAt_90 : decode cX4_wedgesAt 90 = .ok (.isub, 1) := by decide +kernel
theorem dX4_wedgesAt_91 : decode cX4_wedgesAt 91 = .ok (.ireturn, 1) := by decide +kernel
theorem dX4_bestPlace_0 : decode cX4_bestPlace 0 = .ok (.iconst 0, 1) := by decide +kernel
theorem dX4_bestPlace_1 : decode cX4_bestPlace 1 = .ok (.istore_n 1, 1) := by decide +kernel
theorem dX4_bestPlace_2 : decode cX4_bestPlace 2 = .ok (.iconst 1, 1) := by decide +kernel
theorem dX4_bestPlace_3 : decode cX4_bestPlace 3 = .ok (.istore_n 2, 1) := by decide +kernel
theorem dX4_bestPlace_4 : decode cX4_bestPlace 4 = .ok (.iload_n 2, 1) := by decide +kernel
theorem dX4_bestPlace_5 : decode cX4_bestPlace 5 = .ok (.aload_n 0, 1) := by decide +kernel
theorem dX4_bestPlace_6 : decode cX4_bestPlace 6 = .ok (.getfield 18, 3) := by decide +kernel
theorem dX4_bestPlace_9 : decode cX4_bestPlace 9 = .ok (.invokevirtual 38, 3) := by decide +kernel
theorem dX4_bestPlace_12 : decode cX4_bestPlace 12 = .ok (.if_icmp .ge 35, 3) := by decide +kernel
theorem dX4_bestPlace_15 : decode cX4_bestPlace 15 = .ok (.aload_n 0, 1) := by decide +kernel
theorem dX4_bestPlace_16 : decode cX4_bestPlace 16 = .ok (.getfield 18, 3) := by decide +kernel
theorem dX4_bestPlace_19 : decode cX4_bestPlace 19 = .ok (.iload_n 2, 1) := by decide +kernel
theorem dX4_bestPlace_20 : decode cX4_bestPlace 20 = .ok (.invokevirtual 42, 3) := by decide +kernel
theorem dX4_bestPlace_23 : decode cX4_bestPlace 23 = .ok (.ifCond .eq 18, 3) := by decide +kernel
theorem dX4_bestPlace_26 : decode cX4_bestPlace 26 = .ok (.aload_n 0, 1) := by decide +kernel
theorem dX4_bestPlace_27 : decode cX4_bestPlace 27 = .ok (.iload_n 2, 1) := by decide +kernel
theorem dX4_bestPlace_28 : decode cX4_bestPlace 28 = .ok (.invokevirtual 46, 3) := by decide +kernel
theorem dX4_bestPlace_31 : decode cX4_bestPlace 31 = .ok (.aload_n 0, 1) := by decide +kernel
theorem dX4_bestPlace_32 : decode cX4_bestPlace 32 = .ok (.iload_n 1, 1) := by decide +kernel
theorem dX4_bestPlace_33 : decode cX4_bestPlace 33 = .ok (.invokevirtual 46, 3) := by decide +kernel
theorem dX4_bestPlace_36 : decode cX4_bestPlace 36 = .ok (.if_icmp .ge 5, 3) := by decide +kernel
theorem dX4_bestPlace_39 : decode cX4_bestPlace 39 = .ok (.iload_n 2, 1) := by decide +kernel
theorem dX4_bestPlace_40 : decode cX4_bestPlace 40 = .ok (.istore_n 1, 1) := by decide +kernel
theorem dX4_bestPlace_41 : decode cX4_bestPlace 41 = .ok (.iinc 2 1, 3) := by decide +kernel
theorem dX4_bestPlace_44 : decode cX4_bestPlace 44 = .ok (.goto (-40), 3) := by decide +kernel
theorem dX4_bestPlace_47 : decode cX4_bestPlace 47 = .ok (.iload_n 1, 1) := by decide +kernel
theorem dX4_bestPlace_48 : decode cX4_bestPlace 48 = .ok (.ireturn, 1) := by decide +kernel
theorem dX4_findPair_0 : decode cX4_findPair 0 = .ok (.aload_n 0, 1) := by decide +kernel
theorem dX4_findPair_1 : decode cX4_findPair 1 = .ok (.bipush (-9), 2) := by decide +kernel
theorem dX4_findPair_3 : decode cX4_findPair 3 = .ok (.putfield 50, 3) := by decide +kernel
theorem dX4_findPair_6 : decode cX4_findPair 6 = .ok (.aload_n 0, 1) := by decide +kernel
theorem dX4_findPair_7 : decode cX4_findPair 7 = .ok (.bipush (-9), 2) := by decide +kernel
theorem dX4_findPair_9 : decode cX4_findPair 9 = .ok (.putfield 53, 3) := by decide +kernel
theorem dX4_findPair_12 : decode cX4_findPair 12 = .ok (.aload_n 0, 1) := by decide +kernel
theorem dX4_findPair_13 : decode cX4_findPair 13 = .ok (.bipush (-9), 2) := by decide +kernel
theorem dX4_findPair_15 : decode cX4_findPair 15 = .ok (.putfield 56, 3) := by decide +kernel
theorem dX4_findPair_18 : decode cX4_findPair 18 = .ok (.iconst 0, 1) := by decide +kernel
theorem dX4_findPair_19 : decode cX4_findPair 19 = .ok (.istore_n 1, 1) := by decide +kernel
theorem dX4_findPair_20 : decode cX4_findPair 20 = .ok (.iload_n 1, 1) := by decide +kernel
theorem dX4_findPair_21 : decode cX4_findPair 21 = .ok (.aload_n 0, 1) := by decide +kernel
theorem dX4_findPair_22 : decode cX4_findPair 22 = .ok (.getfield 18, 3) := by decide +kernel
theorem dX4_findPair_25 : decode cX4_findPair 25 = .ok (.invokevirtual 38, 3) := by decide +kernel
theorem dX4_findPair_28 : decode cX4_findPair 28 = .ok (.if_icmp .ge 36, 3) := by decide +kernel
theorem dX4_findPair_31 : decode cX4_findPair 31 = .ok (.aload_n 0, 1) := by decide +kernel
theorem dX4_findPair_32 : decode cX4_findPair 32 = .ok (.getfield 15, 3) := by decide +kernel
theorem dX4_findPair_35 : decode cX4_findPair 35 = .ok (.iload_n 1, 1) := by decide +kernel
theorem dX4_findPair_36 : decode cX4_findPair 36 = .ok (.aload_n 0, 1) := by decide +kernel
theorem dX4_findPair_37 : decode cX4_findPair 37 = .ok (.getfield 18, 3) := by decide +kernel
theorem dX4_findPair_40 : decode cX4_findPair 40 = .ok (.iload_n 1, 1) := by decide +kernel
theorem dX4_findPair_41 : decode cX4_findPair 41 = .ok (.invokevirtual 42, 3) := by decide +kernel
theorem dX4_findPair_44 : decode cX4_findPair 44 = .ok (.ifCond .eq 11, 3) := by decide +kernel
theorem dX4_findPair_47 : decode cX4_findPair 47 = .ok (.aload_n 0, 1) := by decide +kernel
theorem dX4_findPair_48 : decode cX4_findPair 48 = .ok (.iload_n 1, 1) := by decide +kernel
theorem dX4_findPair_49 : decode cX4_findPair 49 = .ok (.invokevirtual 46, 3) := by decide +kernel
theorem dX4_findPair_52 : decode cX4_findPair 52 = .ok (.goto 5, 3) := by decide +kernel
theorem dX4_findPair_55 : decode cX4_findPair 55 = .ok (.bipush (-9), 2) := by decide +kernel
theorem dX4_findPair_57 : decode cX4_findPair 57 = .ok (.iastore, 1) := by decide +kernel
theorem dX4_findPair_58 : decode cX4_findPair 58 = .ok (.iinc 1 1, 3) := by decide +kernel
theorem dX4_findPair_61 : decode cX4_findPair 61 = .ok (.goto (-41), 3) := by decide +kernel
theorem dX4_findPair_64 : decode cX4_findPair 64 = .ok (.iconst 0, 1) := by decide +kernel
theorem dX4_findPair_65 : decode cX4_findPair 65 = .ok (.istore_n 1, 1) := by decide +kernel
theorem dX4_findPair_66 : decode cX4_findPair 66 = .ok (.iload_n 1, 1) := by decide +kernel
theorem dX4_findPair_67 : decode cX4_findPair 67 = .ok (.aload_n 0, 1) := by decide +kernel
theorem dX4_findPair_68 : decode cX4_findPair 68 = .ok (.getfield 18, 3) := by decide +kernel
theorem dX4_findPair_71 : decode cX4_findPair 71 = .ok (.invokevirtual 38, 3) := by decide +kernel
theorem dX4_findPair_74 : decode cX4_findPair 74 = .ok (.if_icmp .ge 80, 3) := by decide +kernel
theorem dX4_findPair_77 : decode cX4_findPair 77 = .ok (.iload_n 1, 1) := by decide +kernel
theorem dX4_findPair_78 : decode cX4_findPair 78 = .ok (.iconst 1, 1) := by decide +kernel
theorem dX4_findPair_79 : decode cX4_findPair 79 = .ok (.iadd, 1) := by decide +kernel
theorem dX4_findPair_80 : decode cX4_findPair 80 = .ok (.istore_n 2, 1) := by decide +kernel
theorem dX4_findPair_81 : decode cX4_findPair 81 = .ok (.iload_n 2, 1) := by decide +kernel
theorem dX4_findPair_82 : decode cX4_findPair 82 = .ok (.aload_n 0, 1) := by decide +kernel
theorem dX4_findPair_83 : decode cX4_findPair 83 = .ok (.getfield 18, 3) := by decide +kernel
theorem dX4_findPair_86 : decode cX4_findPair 86 = .ok (.invokevirtual 38, 3) := by decide +kernel
theorem dX4_findPair_89 : decode cX4_findPair 89 = .ok (.if_icmp .ge 59, 3) := by decide +kernel
theorem dX4_findPair_92 : decode cX4_findPair 92 = .ok (.aload_n 0, 1) := by decide +kernel
theorem dX4_findPair_93 : decode cX4_findPair 93 = .ok (.getfield 15, 3) := by decide +kernel
theorem dX4_findPair_96 : decode cX4_findPair 96 = .ok (.iload_n 1, 1) := by decide +kernel
theorem dX4_findPair_97 : decode cX4_findPair 97 = .ok (.iaload, 1) := by decide +kernel
theorem dX4_findPair_98 : decode cX4_findPair 98 = .ok (.bipush (-9), 2) := by decide +kernel
theorem dX4_findPair_100 : decode cX4_findPair 100 = .ok (.if_icmp .eq 42, 3) := by decide +kernel
theorem dX4_findPair_103 : decode cX4_findPair 103 = .ok (.aload_n 0, 1) := by decide +kernel
theorem dX4_findPair_104 : decode cX4_findPair 104 = .ok (.getfield 15, 3) := by decide +kernel
theorem dX4_findPair_107 : decode cX4_findPair 107 = .ok (.iload_n 2, 1) := by decide +kernel
theorem dX4_findPair_108 : decode cX4_findPair 108 = .ok (.iaload, 1) := by decide +kernel
theorem dX4_findPair_109 : decode cX4_findPair 109 = .ok (.bipush (-9), 2) := by decide +kernel
theorem dX4_findPair_111 : decode cX4_findPair 111 = .ok (.if_icmp .eq 31, 3) := by decide +kernel
theorem dX4_findPair_114 : decode cX4_findPair 114 = .ok (.aload_n 0, 1) := by decide +kernel
theorem dX4_findPair_115 : decode cX4_findPair 115 = .ok (.iload_n 1, 1) := by decide +kernel
theorem dX4_findPair_116 : decode cX4_findPair 116 = .ok (.iload_n 2, 1) := by decide +kernel
theorem dX4_findPair_117 : decode cX4_findPair 117 = .ok (.invokevirtual 59, 3) := by decide +kernel
theorem dX4_findPair_120 : decode cX4_findPair 120 = .ok (.ifCond .eq 22, 3) := by decide +kernel
theorem dX4_findPair_123 : decode cX4_findPair 123 = .ok (.aload_n 0, 1) := by decide +kernel
theorem dX4_findPair_124 : decode cX4_findPair 124 = .ok (.iload_n 1, 1) := by decide +kernel
theorem dX4_findPair_125 : decode cX4_findPair 125 = .ok (.iload_n 2, 1) := by decide +kernel
theorem dX4_findPair_126 : decode cX4_findPair 126 = .ok (.aload_n 0, 1) := by decide +kernel
theorem dX4_findPair_127 : decode cX4_findPair 127 = .ok (.getfield 15, 3) := by decide +kernel
theorem dX4_findPair_130 : decode cX4_findPair 130 = .ok (.iload_n 1, 1) := by decide +kernel
theorem dX4_findPair_131 : decode cX4_findPair 131 = .ok (.iaload, 1) := by decide +kernel
theorem dX4_findPair_132 : decode cX4_findPair 132 = .ok (.aload_n 0, 1) := by decide +kernel
theorem dX4_findPair_133 : decode cX4_findPair 133 = .ok (.getfield 15, 3) := by decide +kernel
theorem dX4_findPair_136 : decode cX4_findPair 136 = .ok (.iload_n 2, 1) := by decide +kernel
theorem dX4_findPair_137 : decode cX4_findPair 137 = .ok (.iaload, 1) := by decide +kernel
theorem dX4_findPair_138 : decode cX4_findPair 138 = .ok (.iadd, 1) := by decide +kernel
theorem dX4_findPair_139 : decode cX4_findPair 139 = .ok (.invokevirtual 63, 3) := by decide +kernel
theorem dX4_findPair_142 : decode cX4_findPair 142 = .ok (.iinc 2 1, 3) := by decide +kernel
theorem dX4_findPair_145 : decode cX4_findPair 145 = .ok (.goto (-64), 3) := by decide +kernel
theorem dX4_findPair_148 : decode cX4_findPair 148 = .ok (.iinc 1 1, 3) := by decide +kernel
theorem dX4_findPair_151 : decode cX4_findPair 151 = .ok (.goto (-85), 3) := by decide +kernel
theorem dX4_findPair_154 : decode cX4_findPair 154 = .ok (.return_, 1) := by decide +kernel
theorem dX4_areClear_0 : decode cX4_areClear 0 = .ok (.aload_n 0, 1) := by decide +kernel
theorem dX4_areClear_1 : decode cX4_areClear 1 = .ok (.getfield 18, 3) := by decide +kernel
theorem dX4_areClear_4 : decode cX4_areClear 4 = .ok (.getfield 67, 3) := by decide +kernel
theorem dX4_areClear_7 : decode cX4_areClear 7 = .ok (.iload_n 1, 1) := by decide +kernel
theorem dX4_areClear_8 : decode cX4_areClear 8 = .ok (.iaload, 1) := by decide +kernel
theorem dX4_areClear_9 : decode cX4_areClear 9 = .ok (.aload_n 0, 1) := by decide +kernel
theorem dX4_areClear_10 : decode cX4_areClear 10 = .ok (.getfield 18, 3) := by decide +kernel
theorem dX4_areClear_13 : decode cX4_areClear 13 = .ok (.getfield 67, 3) := by decide +kernel
theorem dX4_areClear_16 : decode cX4_areClear 16 = .ok (.iload_n 2, 1) := by decide +kernel
theorem dX4_areClear_17 : decode cX4_areClear 17 = .ok (.iaload, 1) := by decide +kernel
theorem dX4_areClear_18 : decode cX4_areClear 18 = .ok (.isub, 1) := by decide +kernel
theorem dX4_areClear_19 : decode cX4_areClear 19 = .ok (.invokestatic 70, 3) := by decide +kernel
theorem dX4_areClear_22 : decode cX4_areClear 22 = .ok (.iconst 1, 1) := by decide +kernel
theorem dX4_areClear_23 : decode cX4_areClear 23 = .ok (.if_icmp .gt 29, 3) := by decide +kernel
theorem dX4_areClear_26 : decode cX4_areClear 26 = .ok (.aload_n 0, 1) := by decide +kernel
theorem dX4_areClear_27 : decode cX4_areClear 27 = .ok (.getfield 18, 3) := by decide +kernel
theorem dX4_areClear_30 : decode cX4_areClear 30 = .ok (.getfield 73, 3) := by decide +kernel
theorem dX4_areClear_33 : decode cX4_areClear 33 = .ok (.iload_n 1, 1) := by decide +kernel
theorem dX4_areClear_34 : decode cX4_areClear 34 = .ok (.iaload, 1) := by decide +kernel
theorem dX4_areClear_35 : decode cX4_areClear 35 = .ok (.aload_n 0, 1) := by decide +kernel
theorem dX4_areClear_36 : decode cX4_areClear 36 = .ok (.getfield 18, 3) := by decide +kernel
theorem dX4_areClear_39 : decode cX4_areClear 39 = .ok (.getfield 73, 3) := by decide +kernel
theorem dX4_areClear_42 : decode cX4_areClear 42 = .ok (.iload_n 2, 1) := by decide +kernel
theorem dX4_areClear_43 : decode cX4_areClear 43 = .ok (.iaload, 1) := by decide +kernel
theorem dX4_areClear_44 : decode cX4_areClear 44 = .ok (.isub, 1) := by decide +kernel
theorem dX4_areClear_45 : decode cX4_areClear 45 = .ok (.invokestatic 70, 3) := by decide +kernel
theorem dX4_areClear_48 : decode cX4_areClear 48 = .ok (.iconst 1, 1) := by decide +kernel
theorem dX4_areClear_49 : decode cX4_areClear 49 = .ok (.if_icmp .le 7, 3) := by decide +kernel
theorem dX4_areClear_52 : decode cX4_areClear 52 = .ok (.iconst 1, 1) := by decide +kernel
theorem dX4_areClear_53 : decode cX4_areClear 53 = .ok (.goto 4, 3) := by decide +kernel
theorem dX4_areClear_56 : decode cX4_areClear 56 = .ok (.iconst 0, 1) := by decide +kernel
theorem dX4_areClear_57 : decode cX4_areClear 57 = .ok (.ireturn, 1) := by decide +kernel
theorem dX4_takePair_0 : decode cX4_takePair 0 = .ok (.aload_n 0, 1) := by decide +kernel
theorem dX4_takePair_1 : decode cX4_takePair 1 = .ok (.getfield 56, 3) := by decide +kernel
theorem dX4_takePair_4 : decode cX4_takePair 4 = .ok (.bipush (-9), 2) := by decide +kernel
theorem dX4_takePair_6 : decode cX4_takePair 6 = .ok (.if_icmp .eq 11, 3) := by decide +kernel
theorem dX4_takePair_9 : decode cX4_takePair 9 = .ok (.iload_n 3, 1) := by decide +kernel
theorem dX4_takePair_10 : decode cX4_takePair 10 = .ok (.aload_n 0, 1) := by decide +kernel
theorem dX4_takePair_11 : decode cX4_takePair 11 = .ok (.getfield 56, 3) := by decide +kernel
theorem dX4_takePair_14 : decode cX4_takePair 14 = .ok (.if_icmp .ge 18, 3) := by decide +kernel
theorem dX4_takePair_17 : decode cX4_takePair 17 = .ok (.aload_n 0, 1) := by decide +kernel
theorem dX4_takePair_18 : decode cX4_takePair 18 = .ok (.iload_n 1, 1) := by decide +kernel
theorem dX4_takePair_19 : decode cX4_takePair 19 = .ok (.putfield 50, 3) := by decide +kernel
theorem dX4_takePair_22 : decode cX4_takePair 22 = .ok (.aload_n 0, 1) := by decide +kernel
theorem dX4_takePair_23 : decode cX4_takePair 23 = .ok (.iload_n 2, 1) := by decide +kernel
theorem dX4_takePair_24 : decode cX4_takePair 24 = .ok (.putfield 53, 3) := by decide +kernel
theorem dX4_takePair_27 : decode cX4_takePair 27 = .ok (.aload_n 0, 1) := by decide +kernel
theorem dX4_takePair_28 : decode cX4_takePair 28 = .ok (.iload_n 3, 1) := by decide +kernel
theorem dX4_takePair_29 : decode cX4_takePair 29 = .ok (.putfield 56, 3) := by decide +kernel
theorem dX4_takePair_32 : decode cX4_takePair 32 = .ok (.return_, 1) := by decide +kernel
theorem dX4_findOval_0 : decode cX4_findOval 0 = .ok (.aload_n 0, 1) := by decide +kernel
theorem dX4_findOval_1 : decode cX4_findOval 1 = .ok (.iconst 0, 1) := by decide +kernel
theorem dX4_findOval_2 : decode cX4_findOval 2 = .ok (.putfield 50, 3) := by decide +kernel
theorem dX4_findOval_5 : decode cX4_findOval 5 = .ok (.aload_n 0, 1) := by decide +kernel
theorem dX4_findOval_6 : decode cX4_findOval 6 = .ok (.iconst 0, 1) := by decide +kernel
theorem dX4_findOval_7 : decode cX4_findOval 7 = .ok (.putfield 53, 3) := by decide +kernel
theorem dX4_findOval_10 : decode cX4_findOval 10 = .ok (.aload_n 0, 1) := by decide +kernel
theorem dX4_findOval_11 : decode cX4_findOval 11 = .ok (.iconst 1, 1) := by decide +kernel
theorem dX4_findOval_12 : decode cX4_findOval 12 = .ok (.putfield 56, 3) := by decide +kernel
theorem dX4_findOval_15 : decode cX4_findOval 15 = .ok (.iconst 0, 1) := by decide +kernel
theorem dX4_findOval_16 : decode cX4_findOval 16 = .ok (.istore_n 2, 1) := by decide +kernel
theorem dX4_findOval_17 : decode cX4_findOval 17 = .ok (.iload_n 2, 1) := by decide +kernel
theorem dX4_findOval_18 : decode cX4_findOval 18 = .ok (.aload_n 0, 1) := by decide +kernel
theorem dX4_findOval_19 : decode cX4_findOval 19 = .ok (.getfield 18, 3) := by decide +kernel
theorem dX4_findOval_22 : decode cX4_findOval 22 = .ok (.invokevirtual 38, 3) := by decide +kernel
theorem dX4_findOval_25 : decode cX4_findOval 25 = .ok (.if_icmp .ge 71, 3) := by decide +kernel
theorem dX4_findOval_28 : decode cX4_findOval 28 = .ok (.iload_n 2, 1) := by decide +kernel
theorem dX4_findOval_29 : decode cX4_findOval 29 = .ok (.istore_n 3, 1) := by decide +kernel
theorem dX4_findOval_30 : decode cX4_findOval 30 = .ok (.iload_n 3, 1) := by decide +kernel
theorem dX4_findOval_31 : decode cX4_findOval 31 = .ok (.aload_n 0, 1) := by decide +kernel
theorem dX4_findOval_32 : decode cX4_findOval 32 = .ok (.getfield 18, 3) := by decide +kernel
theorem dX4_findOval_35 : decode cX4_findOval 35 = .ok (.invokevirtual 38, 3) := by decide +kernel
theorem dX4_findOval_38 : decode cX4_findOval 38 = .ok (.if_icmp .ge 52, 3) := by decide +kernel
theorem dX4_findOval_41 : decode cX4_findOval 41 = .ok (.aload_n 0, 1) := by decide +kernel
theorem dX4_findOval_42 : decode cX4_findOval 42 = .ok (.iload_n 2, 1) := by decide +kernel
theorem dX4_findOval_43 : decode cX4_findOval 43 = .ok (.iload_n 3, 1) := by decide +kernel
theorem dX4_findOval_44 : decode cX4_findOval 44 = .ok (.invokevirtual 76, 3) := by decide +kernel
theorem dX4_findOval_47 : decode cX4_findOval 47 = .ok (.istore 4, 2) := by decide +kernel
theorem dX4_findOval_49 : decode cX4_findOval 49 = .ok (.iload 4, 2) := by decide +kernel
theorem dX4_findOval_51 : decode cX4_findOval 51 = .ok (.aload_n 0, 1) := by decide +kernel
theorem dX4_findOval_52 : decode cX4_findOval 52 = .ok (.getfield 56, 3) := by decide +kernel
theorem dX4_findOval_55 : decode cX4_findOval 55 = .ok (.if_icmp .le 29, 3) := by decide +kernel
theorem dX4_findOval_58 : decode cX4_findOval 58 = .ok (.aload_n 0, 1) := by decide +kernel
theorem dX4_findOval_59 : decode cX4_findOval 59 = .ok (.iload_n 2, 1) := by decide +kernel
theorem dX4_findOval_60 : decode cX4_findOval 60 = .ok (.iload_n 3, 1) := by decide +kernel
theorem dX4_findOval_61 : decode cX4_findOval 61 = .ok (.invokevirtual 79, 3) := by decide +kernel
theorem dX4_findOval_64 : decode cX4_findOval 64 = .ok (.iload_n 1, 1) := by decide +kernel
theorem dX4_findOval_65 : decode cX4_findOval 65 = .ok (.if_icmp .gt 19, 3) := by decide +kernel
theorem dX4_findOval_68 : decode cX4_findOval 68 = .ok (.aload_n 0, 1) := by decide +kernel
theorem dX4_findOval_69 : decode cX4_findOval 69 = .ok (.iload_n 2, 1) := by decide +kernel
theorem dX4_findOval_70 : decode cX4_findOval 70 = .ok (.putfield 50, 3) := by decide +kernel
theorem dX4_findOval_73 : decode cX4_findOval 73 = .ok (.aload_n 0, 1) := by decide +kernel
theorem dX4_findOval_74 : decode cX4_findOval 74 = .ok (.iload_n 3, 1) := by decide +kernel
theorem dX4_findOval_75 : decode cX4_findOval 75 = .ok (.putfield 53, 3) := by decide +kernel
theorem dX4_findOval_78 : decode cX4_findOval 78 = .ok (.aload_n 0, 1) := by decide +kernel
theorem dX4_findOval_79 : decode cX4_findOval 79 = .ok (.iload 4, 2) := by decide +kernel
theorem dX4_findOval_81 : decode cX4_findOval 81 = .ok (.putfield 56, 3) := by decide +kernel
theorem dX4_findOval_84 : decode cX4_findOval 84 = .ok (.iinc 3 1, 3) := by decide +kernel
theorem dX4_findOval_87 : decode cX4_findOval 87 = .ok (.goto (-57), 3) := by decide +kernel
theorem dX4_findOval_90 : decode cX4_findOval 90 = .ok (.iinc 2 1, 3) := by decide +kernel
theorem dX4_findOval_93 : decode cX4_findOval 93 = .ok (.goto (-76), 3) := by decide +kernel
theorem dX4_findOval_96 : decode cX4_findOval 96 = .ok (.return_, 1) := by decide +kernel
theorem dX4_sizeOf_0 : decode cX4_sizeOf 0 = .ok (.aload_n 0, 1) := by decide +kernel
theorem dX4_sizeOf_1 : decode cX4_sizeOf 1 = .ok (.getfield 18, 3) := by decide +kernel
theorem dX4_sizeOf_4 : decode cX4_sizeOf 4 = .ok (.getfield 73, 3) := by decide +kernel
theorem dX4_sizeOf_7 : decode cX4_sizeOf 7 = .ok (.iload_n 2, 1) := by decide +kernel
theorem dX4_sizeOf_8 : decode cX4_sizeOf 8 = .ok (.iaload, 1) := by decide +kernel
theorem dX4_sizeOf_9 : decode cX4_sizeOf 9 = .ok (.aload_n 0, 1) := by decide +kernel
theorem dX4_sizeOf_10 : decode cX4_sizeOf 10 = .ok (.getfield 18, 3) := by decide +kernel
theorem dX4_sizeOf_13 : decode cX4_sizeOf 13 = .ok (.getfield 73, 3) := by decide +kernel
theorem dX4_sizeOf_16 : decode cX4_sizeOf 16 = .ok (.iload_n 1, 1) := by decide +kernel
theorem dX4_sizeOf_17 : decode cX4_sizeOf 17 = .ok (.iaload, 1) := by decide +kernel
theorem dX4_sizeOf_18 : decode cX4_sizeOf 18 = .ok (.isub, 1) := by decide +kernel
theorem dX4_sizeOf_19 : decode cX4_sizeOf 19 = .ok (.iconst 1, 1) := by decide +kernel
theorem dX4_sizeOf_20 : decode cX4_sizeOf 20 = .ok (.iadd, 1) := by decide +kernel
theorem dX4_sizeOf_21 : decode cX4_sizeOf 21 = .ok (.istore_n 3, 1) := by decide +kernel
theorem dX4_sizeOf_22 : decode cX4_sizeOf 22 = .ok (.iload_n 3, 1) := by decide +kernel
theorem dX4_sizeOf_23 : decode cX4_sizeOf 23 = .ok (.aload_n 0, 1) := by decide +kernel
theorem dX4_sizeOf_24 : decode cX4_sizeOf 24 = .ok (.getfield 18, 3) := by decide +kernel
theorem dX4_sizeOf_27 : decode cX4_sizeOf 27 = .ok (.getfield 67, 3) := by decide +kernel
theorem dX4_sizeOf_30 : decode cX4_sizeOf 30 = .ok (.iload_n 2, 1) := by decide +kernel
theorem dX4_sizeOf_31 : decode cX4_sizeOf 31 = .ok (.iaload, 1) := by decide +kernel
theorem dX4_sizeOf_32 : decode cX4_sizeOf 32 = .ok (.aload_n 0, 1) := by decide +kernel
theorem dX4_sizeOf_33 : decode cX4_sizeOf 33 = .ok (.getfield 18, 3) := by decide +kernel
theorem dX4_sizeOf_36 : decode cX4_sizeOf 36 = .ok (.getfield 67, 3) := by decide +kernel
theorem dX4_sizeOf_39 : decode cX4_sizeOf 39 = .ok (.iload_n 1, 1) := by decide +kernel
theorem dX4_sizeOf_40 : decode cX4_sizeOf 40 = .ok (.iaload, 1) := by decide +kernel
theorem dX4_sizeOf_41 : decode cX4_sizeOf 41 = .ok (.isub, 1) := by decide +kernel
theorem dX4_sizeOf_42 : decode cX4_sizeOf 42 = .ok (.iconst 1, 1) := by decide +kernel
theorem dX4_sizeOf_43 : decode cX4_sizeOf 43 = .ok (.iadd, 1) := by decide +kernel
theorem dX4_sizeOf_44 : decode cX4_sizeOf 44 = .ok (.imul, 1) := by decide +kernel
theorem dX4_sizeOf_45 : decode cX4_sizeOf 45 = .ok (.ireturn, 1) := by decide +kernel
theorem dX4_spread_0 : decode cX4_spread 0 = .ok (.aload_n 0, 1) := by decide +kernel
theorem dX4_spread_1 : decode cX4_spread 1 = .ok (.getfield 9, 3) := by decide +kernel
theorem dX4_spread_4 : decode cX4_spread 4 = .ok (.iload_n 1, 1) := by decide +kernel
theorem dX4_spread_5 : decode cX4_spread 5 = .ok (.iaload, 1) := by decide +kernel
theorem dX4_spread_6 : decode cX4_spread 6 = .ok (.istore_n 3, 1) := by decide +kernel
theorem dX4_spread_7 : decode cX4_spread 7 = .ok (.aload_n 0, 1) := by decide +kernel
theorem dX4_spread_8 : decode cX4_spread 8 = .ok (.getfield 9, 3) := by decide +kernel
theorem dX4_spread_11 : decode cX4_spread 11 = .ok (.iload_n 1, 1) := by decide +kernel
theorem dX4_spread_12 : decode cX4_spread 12 = .ok (.iaload, 1) := by decide +kernel
theorem dX4_spread_13 : decode cX4_spread 13 = .ok (.istore 4, 2) := by decide +kernel
theorem dX4_spread_15 : decode cX4_spread 15 = .ok (.iload_n 1, 1) := by decide +kernel
theorem dX4_spread_16 : decode cX4_spread 16 = .ok (.istore 5, 2) := by decide +kernel
theorem dX4_spread_18 : decode cX4_spread 18 = .ok (.iload 5, 2) := by decide +kernel
theorem dX4_spread_20 : decode cX4_spread 20 = .ok (.iload_n 2, 1) := by decide +kernel
theorem dX4_spread_21 : decode cX4_spread 21 = .ok (.if_icmp .gt 79, 3) := by decide +kernel
theorem dX4_spread_24 : decode cX4_spread 24 = .ok (.aload_n 0, 1) := by decide +kernel
theorem dX4_spread_25 : decode cX4_spread 25 = .ok (.getfield 18, 3) := by decide +kernel
theorem dX4_spread_28 : decode cX4_spread 28 = .ok (.getfield 73, 3) := by decide +kernel
theorem dX4_spread_31 : decode cX4_spread 31 = .ok (.iload 5, 2) := by decide +kernel
theorem dX4_spread_33 : decode cX4_spread 33 = .ok (.iaload, 1) := by decide +kernel
theorem dX4_spread_34 : decode cX4_spread 34 = .ok (.aload_n 0, 1) := by decide +kernel
theorem dX4_spread_35 : decode cX4_spread 35 = .ok (.getfield 18, 3) := by decide +kernel
theorem dX4_spread_38 : decode cX4_spread 38 = .ok (.getfield 73, 3) := by decide +kernel
theorem dX4_spread_41 : decode cX4_spread 41 = .ok (.iload_n 1, 1) := by decide +kernel
theorem dX4_spread_42 : decode cX4_spread 42 = .ok (.iaload, 1) := by decide +kernel
theorem dX4_spread_43 : decode cX4_spread 43 = .ok (.if_icmp .lt 51, 3) := by decide +kernel
theorem dX4_spread_46 : decode cX4_spread 46 = .ok (.aload_n 0, 1) := by decide +kernel
theorem dX4_spread_47 : decode cX4_spread 47 = .ok (.getfield 18, 3) := by decide +kernel
theorem dX4_spread_50 : decode cX4_spread 50 = .ok (.getfield 73, 3) := by decide +kernel
theorem dX4_spread_53 : decode cX4_spread 53 = .ok (.iload 5, 2) := by decide +kernel
theorem dX4_spread_55 : decode cX4_spread 55 = .ok (.iaload, 1) := by decide +kernel
theorem dX4_spread_56 : decode cX4_spread 56 = .ok (.aload_n 0, 1) := by decide +kernel
theorem dX4_spread_57 : decode cX4_spread 57 = .ok (.getfield 18, 3) := by decide +kernel
theorem dX4_spread_60 : decode cX4_spread 60 = .ok (.getfield 73, 3) := by decide +kernel
theorem dX4_spread_63 : decode cX4_spread 63 = .ok (.iload_n 2, 1) := by decide +kernel
theorem dX4_spread_64 : decode cX4_spread 64 = .ok (.iaload, 1) := by decide +kernel
theorem dX4_spread_65 : decode cX4_spread 65 = .ok (.if_icmp .gt 29, 3) := by decide +kernel
theorem dX4_spread_68 : decode cX4_spread 68 = .ok (.iload_n 3, 1) := by decide +kernel
theorem dX4_spread_69 : decode cX4_spread 69 = .ok (.aload_n 0, 1) := by decide +kernel
theorem dX4_spread_70 : decode cX4_spread 70 = .ok (.getfield 9, 3) := by decide +kernel
theorem dX4_spread_73 : decode cX4_spread 73 = .ok (.iload 5, 2) := by decide +kernel
theorem dX4_spread_75 : decode cX4_spread 75 = .ok (.iaload, 1) := by decide +kernel
theorem dX4_spread_76 : decode cX4_spread 76 = .ok (.invokestatic 82, 3) := by decide +kernel
theorem dX4_spread_79 : decode cX4_spread 79 = .ok (.istore_n 3, 1) := by decide +kernel
theorem dX4_spread_80 : decode cX4_spread 80 = .ok (.iload 4, 2) := by decide +kernel
theorem dX4_spread_82 : decode cX4_spread 82 = .ok (.aload_n 0, 1) := by decide +kernel
theorem dX4_spread_83 : decode cX4_spread 83 = .ok (.getfield 9, 3) := by decide +kernel
theorem dX4_spread_86 : decode cX4_spread 86 = .ok (.iload 5, 2) := by decide +kernel
theorem dX4_spread_88 : decode cX4_spread 88 = .ok (.iaload, 1) := by decide +kernel
theorem dX4_spread_89 : decode cX4_spread 89 = .ok (.invokestatic 32, 3) := by decide +kernel
theorem dX4_spread_92 : decode cX4_spread 92 = .ok (.istore 4, 2) := by decide +kernel
theorem dX4_spread_94 : decode cX4_spread 94 = .ok (.iinc 5 1, 3) := by decide +kernel
theorem dX4_spread_97 : decode cX4_spread 97 = .ok (.goto (-79), 3) := by decide +kernel
theorem dX4_spread_100 : decode cX4_spread 100 = .ok (.iload 4, 2) := by decide +kernel
theorem dX4_spread_102 : decode cX4_spread 102 = .ok (.iload_n 3, 1) := by decide +kernel
theorem dX4_spread_103 : decode cX4_spread 103 = .ok (.isub, 1) := by decide +kernel
theorem dX4_spread_104 : decode cX4_spread 104 = .ok (.ireturn, 1) := by decide +kernel
theorem dX5_init_0 : decode cX5_init 0 = .ok (.aload_n 0, 1) := by decide +kernel
theorem dX5_init_1 : decode cX5_init 1 = .ok (.invokespecial 3, 3) := by decide +kernel
theorem dX5_init_4 : decode cX5_init 4 = .ok (.aload_n 0, 1) := by decide +kernel
theorem dX5_init_5 : decode cX5_init 5 = .ok (.bipush 10, 2) := by decide +kernel
theorem dX5_init_7 : decode cX5_init 7 = .ok (.newarray .int, 2) := by decide +kernel
theorem dX5_init_9 : decode cX5_init 9 = .ok (.putfield 9, 3) := by decide +kernel
theorem dX5_init_12 : decode cX5_init 12 = .ok (.aload_n 0, 1) := by decide +kernel
theorem dX5_init_13 : decode cX5_init 13 = .ok (.bipush 10, 2) := by decide +kernel
theorem dX5_init_15 : decode cX5_init 15 = .ok (.newarray .int, 2) := by decide +kernel
theorem dX5_init_17 : decode cX5_init 17 = .ok (.putfield 15, 3) := by decide +kernel
theorem dX5_init_20 : decode cX5_init 20 = .ok (.aload_n 0, 1) := by decide +kernel
theorem dX5_init_21 : decode cX5_init 21 = .ok (.bipush 10, 2) := by decide +kernel
theorem dX5_init_23 : decode cX5_init 23 = .ok (.newarray .int, 2) := by decide +kernel
theorem dX5_init_25 : decode cX5_init 25 = .ok (.putfield 18, 3) := by decide +kernel
theorem dX5_init_28 : decode cX5_init 28 = .ok (.aload_n 0, 1) := by decide +kernel
theorem dX5_init_29 : decode cX5_init 29 = .ok (.aload_n 1, 1) := by decide +kernel
theorem dX5_init_30 : decode cX5_init 30 = .ok (.putfield 21, 3) := by decide +kernel
theorem dX5_init_33 : decode cX5_init 33 = .ok (.return_, 1) := by decide +kernel
theorem dX5_forgetAll_0 : decode cX5_forgetAll 0 = .ok (.aload_n 0, 1) := by decide +kernel
theorem dX5_forgetAll_1 : decode cX5_forgetAll 1 = .ok (.iconst 0, 1) := by decide +kernel
theorem dX5_forgetAll_2 : decode cX5_forgetAll 2 = .ok (.putfield 25, 3) := by decide +kernel
theorem dX5_forgetAll_5 : decode cX5_forgetAll 5 = .ok (.return_, 1) := by decide +kernel
theorem dX5_isFull_0 : decode cX5_isFull 0 = .ok (.aload_n 0, 1) := by decide +kernel
theorem dX5_isFull_1 : decode cX5_isFull 1 = .ok (.getfield 25, 3) := by decide +kernel
theorem dX5_isFull_4 : decode cX5_isFull 4 = .ok (.bipush 10, 2) := by decide +kernel
theorem dX5_isFull_6 : decode cX5_isFull 6 = .ok (.if_icmp .lt 7, 3) := by decide +kernel
theorem dX5_isFull_9 : decode cX5_isFull 9 = .ok (.iconst 1, 1) := by decide +kernel
theorem dX5_isFull_10 : decode cX5_isFull 10 = .ok (.goto 4, 3) := by decide +kernel
theorem dX5_isFull_13 : decode cX5_isFull 13 = .ok (.iconst 0, 1) := by decide +kernel
theorem dX5_isFull_14 : decode cX5_isFull 14 = .ok (.ireturn, 1) := by decide +kernel
theorem dX5_take_0 : decode cX5_take 0 = .ok (.aload_n 0, 1) := by decide +kernel
theorem dX5_take_1 : decode cX5_take 1 = .ok (.getfield 9, 3) := by decide +kernel
theorem dX5_take_4 : decode cX5_take 4 = .ok (.aload_n 0, 1) := by decide +kernel
theorem dX5_take_5 : decode cX5_take 5 = .ok (.getfield 25, 3) := by decide +kernel
theorem dX5_take_8 : decode cX5_take 8 = .ok (.iload_n 1, 1) := by decide +kernel
theorem dX5_take_9 : decode cX5_take 9 = .ok (.iastore, 1) := by decide +kernel
theorem dX5_take_10 : decode cX5_take 10 = .ok (.aload_n 0, 1) := by decide +kernel
theorem dX5_take_11 : decode cX5_take 11 = .ok (.getfield 15, 3) := by decide +kernel
theorem dX5_take_14 : decode cX5_take 14 = .ok (.aload_n 0, 1) := by decide +kernel
theorem dX5_take_15 : decode cX5_take 15 = .ok (.getfield 25, 3) := by decide +kernel
theorem dX5_take_18 : decode cX5_take 18 = .ok (.iload_n 2, 1) := by decide +kernel
theorem dX5_take_19 : decode cX5_take 19 = .ok (.iastore, 1) := by decide +kernel
theorem dX5_take_20 : decode cX5_take 20 = .ok (.aload_n 0, 1) := by decide +kernel
theorem dX5_take_21 : decode cX5_take 21 = .ok (.getfield 18, 3) := by decide +kernel
theorem dX5_take_24 : decode cX5_take 24 = .ok (.aload_n 0, 1) := by decide +kernel
theorem dX5_take_25 : decode cX5_take 25 = .ok (.getfield 25, 3) := by decide +kernel
theorem dX5_take_28 : decode cX5_take 28 = .ok (.iload_n 3, 1) := by decide +kernel
theorem dX5_take_29 : decode cX5_take 29 = .ok (.iastore, 1) := by decide +kernel
theorem dX5_take_30 : decode cX5_take 30 = .ok (.aload_n 0, 1) := by decide +kernel
theorem dX5_take_31 : decode cX5_take 31 = .ok (.dup, 1) := by decide +kernel
theorem dX5_take_32 : decode cX5_take 32 = .ok (.getfield 25, 3) := by decide +kernel
theorem dX5_take_35 : decode cX5_take 35 = .ok (.iconst 1, 1) := by decide +kernel
theorem dX5_take_36 : decode cX5_take 36 = .ok (.iadd, 1) := by decide +kernel
theorem dX5_take_37 : decode cX5_take 37 = .ok (.putfield 25, 3) := by decide +kernel
theorem dX5_take_40 : decode cX5_take 40 = .ok (.aload_n 0, 1) := by decide +kernel
theorem dX5_take_41 : decode cX5_take 41 = .ok (.getfield 25, 3) := by decide +kernel
theorem dX5_take_44 : decode cX5_take 44 = .ok (.iconst 1, 1) := by decide +kernel
theorem dX5_take_45 : decode cX5_take 45 = .ok (.isub, 1) := by decide +kernel
theorem dX5_take_46 : decode cX5_take 46 = .ok (.ireturn, 1) := by decide +kernel
theorem dX5_takeBack_0 : decode cX5_takeBack 0 = .ok (.aload_n 0, 1) := by decide +kernel
theorem dX5_takeBack_1 : decode cX5_takeBack 1 = .ok (.dup, 1) := by decide +kernel
theorem dX5_takeBack_2 : decode cX5_takeBack 2 = .ok (.getfield 25, 3) := by decide +kernel
theorem dX5_takeBack_5 : decode cX5_takeBack 5 = .ok (.iload_n 1, 1) := by decide +kernel
theorem dX5_takeBack_6 : decode cX5_takeBack 6 = .ok (.isub, 1) := by decide +kernel
theorem dX5_takeBack_7 : decode cX5_takeBack 7 = .ok (.putfield 25, 3) := by decide +kernel
theorem dX5_takeBack_10 : decode cX5_takeBack 10 = .ok (.aload_n 0, 1) := by decide +kernel
theorem dX5_takeBack_11 : decode cX5_takeBack 11 = .ok (.getfield 25, 3) := by decide +kernel
theorem dX5_takeBack_14 : decode cX5_takeBack 14 = .ok (.ireturn, 1) := by decide +kernel
theorem dX5_kindsOf_0 : decode cX5_kindsOf 0 = .ok (.iconst 0, 1) := by decide +kernel
theorem dX5_kindsOf_1 : decode cX5_kindsOf 1 = .ok (.istore_n 2, 1) := by decide +kernel
theorem dX5_kindsOf_2 : decode cX5_kindsOf 2 = .ok (.iconst 0, 1) := by decide +kernel
theorem dX5_kindsOf_3 : decode cX5_kindsOf 3 = .ok (.istore_n 3, 1) := by decide +kernel
theorem dX5_kindsOf_4 : decode cX5_kindsOf 4 = .ok (.iload_n 3, 1) := by decide +kernel
theorem dX5_kindsOf_5 : decode cX5_kindsOf 5 = .ok (.iconst 3, 1) := by decide +kernel
theorem dX5_kindsOf_6 : decode cX5_kindsOf 6 = .ok (.if_icmp .ge 24, 3) := by decide +kernel
theorem dX5_kindsOf_9 : decode cX5_kindsOf 9 = .ok (.aload_n 0, 1) := by decide +kernel
theorem dX5_kindsOf_10 : decode cX5_kindsOf 10 = .ok (.iload_n 1, 1) := by decide +kernel
theorem dX5_kindsOf_11 : decode cX5_kindsOf 11 = .ok (.iload_n 3, 1) := by decide +kernel
theorem dX5_kindsOf_12 : decode cX5_kindsOf 12 = .ok (.invokevirtual 29, 3) := by decide +kernel
theorem dX5_kindsOf_15 : decode cX5_kindsOf 15 = .ok (.ifCond .eq 9, 3) := by decide +kernel
theorem dX5_kindsOf_18 : decode cX5_kindsOf 18 = .ok (.iload_n 2, 1) := by decide +kernel
theorem dX5_kindsOf_19 : decode cX5_kindsOf 19 = .ok (.iconst 1, 1) := by decide +kernel
theorem dX5_kindsOf_20 : decode cX5_kindsOf 20 = .ok (.iload_n 3, 1) := by decide +kernel
theorem dX5_kindsOf_21 : decode cX5_kindsOf 21 = .ok (.ishl, 1) := by decide +kernel
theorem dX5_kindsOf_22 : decode cX5_kindsOf 22 = .ok (.ior, 1) := by decide +kernel
theorem dX5_kindsOf_23 : decode cX5_kindsOf 23 = .ok (.istore_n 2, 1) := by decide +kernel
theorem dX5_kindsOf_24 : decode cX5_kindsOf 24 = .ok (.iinc 3 1, 3) := by decide +kernel
theorem dX5_kindsOf_27 : decode cX5_kindsOf 27 = .ok (.goto (-23), 3) := by decide +kernel
theorem dX5_kindsOf_30 : decode cX5_kindsOf 30 = .ok (.iload_n 2, 1) := by decide +kernel
theorem dX5_kindsOf_31 : decode cX5_kindsOf 31 = .ok (.ireturn, 1) := by decide +kernel
theorem dX5_areAllSo_0 : decode cX5_areAllSo 0 = .ok (.iconst 0, 1) := by decide +kernel
theorem dX5_areAllSo_1 : decode cX5_areAllSo 1 = .ok (.istore_n 3, 1) := by decide +kernel
theorem dX5_areAllSo_2 : decode cX5_areAllSo 2 = .ok (.iload_n 3, 1) := by decide +kernel
theorem dX5_areAllSo_3 : decode cX5_areAllSo 3 = .ok (.aload_n 0, 1) := by decide +kernel
theorem dX5_areAllSo_4 : decode cX5_areAllSo 4 = .ok (.getfield 25, 3) := by decide +kernel
theorem dX5_areAllSo_7 : decode cX5_areAllSo 7 = .ok (.if_icmp .ge 45, 3) := by decide +kernel
theorem dX5_areAllSo_10 : decode cX5_areAllSo 10 = .ok (.aload_n 0, 1) := by decide +kernel
theorem dX5_areAllSo_11 : decode cX5_areAllSo 11 = .ok (.getfield 9, 3) := by decide +kernel
theorem dX5_areAllSo_14 : decode cX5_areAllSo 14 = .ok (.iload_n 3, 1) := by decide +kernel
theorem dX5_areAllSo_15 : decode cX5_areAllSo 15 = .ok (.iaload, 1) := by decide +kernel
theorem dX5_areAllSo_16 : decode cX5_areAllSo 16 = .ok (.iload_n 1, 1) := by decide +kernel
theorem dX5_areAllSo_17 : decode cX5_areAllSo 17 = .ok (.if_icmp .ne 29, 3) := by decide +kernel
theorem dX5_areAllSo_20 : decode cX5_areAllSo 20 = .ok (.aload_n 0, 1) := by decide +kernel
theorem dX5_areAllSo_21 : decode cX5_areAllSo 21 = .ok (.getfield 21, 3) := by decide +kernel
theorem dX5_areAllSo_24 : decode cX5_areAllSo 24 = .ok (.iload_n 2, 1) := by decide +kernel
theorem dX5_areAllSo_25 : decode cX5_areAllSo 25 = .ok (.iload_n 1, 1) := by decide +kernel
theorem dX5_areAllSo_26 : decode cX5_areAllSo 26 = .ok (.aload_n 0, 1) := by decide +kernel
theorem dX5_areAllSo_27 : decode cX5_areAllSo 27 = .ok (.getfield 15, 3) := by decide +kernel
theorem dX5_areAllSo_30 : decode cX5_areAllSo 30 = .ok (.iload_n 3, 1) := by decide +kernel
theorem dX5_areAllSo_31 : decode cX5_areAllSo 31 = .ok (.iaload, 1) := by decide +kernel
theorem dX5_areAllSo_32 : decode cX5_areAllSo 32 = .ok (.invokevirtual 33, 3) := by decide +kernel
theorem dX5_areAllSo_35 : decode cX5_areAllSo 35 = .ok (.aload_n 0, 1) := by decide +kernel
theorem dX5_areAllSo_36 : decode cX5_areAllSo 36 = .ok (.getfield 18, 3) := by decide +kernel
theorem dX5_areAllSo_39 : decode cX5_areAllSo 39 = .ok (.iload_n 3, 1) := by decide +kernel
theorem dX5_areAllSo_40 : decode cX5_areAllSo 40 = .ok (.iaload, 1) := by decide +kernel
theorem dX5_areAllSo_41 : decode cX5_areAllSo 41 = .ok (.if_icmp .eq 5, 3) := by decide +kernel
theorem dX5_areAllSo_44 : decode cX5_areAllSo 44 = .ok (.iconst 0, 1) := by decide +kernel
theorem dX5_areAllSo_45 : decode cX5_areAllSo 45 = .ok (.ireturn, 1) := by decide +kernel
theorem dX5_areAllSo_46 : decode cX5_areAllSo 46 = .ok (.iinc 3 1, 3) := by decide +kernel
theorem dX5_areAllSo_49 : decode cX5_areAllSo 49 = .ok (.goto (-47), 3) := by decide +kernel
theorem dX5_areAllSo_52 : decode cX5_areAllSo 52 = .ok (.iconst 1, 1) := by decide +kernel
theorem dX5_areAllSo_53 : decode cX5_areAllSo 53 = .ok (.ireturn, 1) := by decide +kernel
theorem dX6_init_0 : decode cX6_init 0 = .ok (.aload_n 0, 1) := by decide +kernel
theorem dX6_init_1 : decode cX6_init 1 = .ok (.invokespecial 3, 3) := by decide +kernel
theorem dX6_init_4 : decode cX6_init 4 = .ok (.aload_n 0, 1) := by decide +kernel
theorem dX6_init_5 : decode cX6_init 5 = .ok (.bipush 80, 2) := by decide +kernel
theorem dX6_init_7 : decode cX6_init 7 = .ok (.newarray .int, 2) := by decide +kernel
theorem dX6_init_9 : decode cX6_init 9 = .ok (.putfield 9, 3) := by decide +kernel
theorem dX6_init_12 : decode cX6_init 12 = .ok (.aload_n 0, 1) := by decide +kernel
theorem dX6_init_13 : decode cX6_init 13 = .ok (.iconst (-1), 1) := by decide +kernel
theorem dX6_init_14 : decode cX6_init 14 = .ok (.putfield 15, 3) := by decide +kernel
theorem dX6_init_17 : decode cX6_init 17 = .ok (.return_, 1) := by decide +kernel
theorem dX6_isNothing_0 : decode cX6_isNothing 0 = .ok (.aload_n 0, 1) := by decide +kernel
theorem dX6_isNothing_1 : decode cX6_isNothing 1 = .ok (.getfield 15, 3) := by decide +kernel
theorem dX6_isNothing_4 : decode cX6_isNothing 4 = .ok (.iconst (-1), 1) := by decide +kernel
theorem dX6_isNothing_5 : decode cX6_isNothing 5 = .ok (.if_icmp .ne 7, 3) := by decide +kernel
theorem dX6_isNothing_8 : decode cX6_isNothing 8 = .ok (.iconst 1, 1) := by decide +kernel
theorem dX6_isNothing_9 : decode cX6_isNothing 9 = .ok (.goto 4, 3) := by decide +kernel
theorem dX6_isNothing_12 : decode cX6_isNothing 12 = .ok (.iconst 0, 1) := by decide +kernel
theorem dX6_isNothing_13 : decode cX6_isNothing 13 = .ok (.ireturn, 1) := by decide +kernel
theorem dX6_faultAs_0 : decode cX6_faultAs 0 = .ok (.aload_n 0, 1) := by decide +kernel
theorem dX6_faultAs_1 : decode cX6_faultAs 1 = .ok (.invokevirtual 19, 3) := by decide +kernel
theorem dX6_faultAs_4 : decode cX6_faultAs 4 = .ok (.ifCond .eq 5, 3) := by decide +kernel
theorem dX6_faultAs_7 : decode cX6_faultAs 7 = .ok (.iconst 1, 1) := by decide +kernel
theorem dX6_faultAs_8 : decode cX6_faultAs 8 = .ok (.ireturn, 1) := by decide +kernel
theorem dX6_faultAs_9 : decode cX6_faultAs 9 = .ok (.aload_n 0, 1) := by decide +kernel
theorem dX6_faultAs_10 : decode cX6_faultAs 10 = .ok (.getfield 15, 3) := by decide +kernel
theorem dX6_faultAs_13 : decode cX6_faultAs 13 = .ok (.iload_n 1, 1) := by decide +kernel
theorem dX6_faultAs_14 : decode cX6_faultAs 14 = .ok (.if_icmp .ne 7, 3) := by decide +kernel
theorem dX6_faultAs_17 : decode cX6_faultAs 17 = .ok (.iconst 0, 1) := by decide +kernel
theorem dX6_faultAs_18 : decode cX6_faultAs 18 = .ok (.goto 4, 3) := by decide +kernel
theorem dX6_faultAs_21 : decode cX6_faultAs 21 = .ok (.iconst 2, 1) := by decide +kernel
theorem dX6_faultAs_22 : decode cX6_faultAs 22 = .ok (.ireturn, 1) := by decide +kernel
theorem dX6_hasCell_0 : decode cX6_hasCell 0 = .ok (.iload_n 1, 1) := by decide +kernel
theorem dX6_hasCell_1 : decode cX6_hasCell 1 = .ok (.ifCond .lt 15, 3) := by decide +kernel
theorem dX6_hasCell_4 : decode cX6_hasCell 4 = .ok (.iload_n 1, 1) := by decide +kernel
theorem dX6_hasCell_5 : decode cX6_hasCell 5 = .ok (.aload_n 0, 1) := by decide +kernel
theorem dX6_hasCell_6 : decode cX6_hasCell 6 = .ok (.getfield 23, 3) := by decide +kernel
theorem dX6_hasCell_9 : decode cX6_hasCell 9 = .ok (.if_icmp .ge 7, 3) := by decide +kernel
theorem dX6_hasCell_12 : decode cX6_hasCell 12 = .ok (.iconst 1, 1) := by decide +kernel
theorem dX6_hasCell_13 : decode cX6_hasCell 13 = .ok (.goto 4, 3) := by decide +kernel
theorem dX6_hasCell_16 : decode cX6_hasCell 16 = .ok (.iconst 0, 1) := by decide +kernel
theorem dX6_hasCell_17 : decode cX6_hasCell 17 = .ok (.ireturn, 1) := by decide +kernel
theorem dX6_hasCells_0 : decode cX6_hasCells 0 = .ok (.iload_n 1, 1) := by decide +kernel
theorem dX6_hasCells_1 : decode cX6_hasCells 1 = .ok (.ifCond .lt 25, 3) := by decide +kernel
theorem dX6_hasCells_4 : decode cX6_hasCells 4 = .ok (.iload_n 1, 1) := by decide +kernel
theorem dX6_hasCells_5 : decode cX6_hasCells 5 = .ok (.aload_n 0, 1) := by decide +kernel
theorem dX6_hasCells_6 : decode cX6_hasCells 6 = .ok (.getfield 23, 3) := by decide +kernel
theorem dX6_hasCells_9 : decode cX6_hasCells 9 = .ok (.if_icmp .gt 17, 3) := by decide +kernel
theorem dX6_hasCells_12 : decode cX6_hasCells 12 = .ok (.iload_n 2, 1) := by decide +kernel
theorem dX6_hasCells_13 : decode cX6_hasCells 13 = .ok (.aload_n 0, 1) := by decide +kernel
theorem dX6_hasCells_14 : decode cX6_hasCells 14 = .ok (.getfield 23, 3) := by decide +kernel
theorem dX6_hasCells_17 : decode cX6_hasCells 17 = .ok (.iload_n 1, 1) := by decide +kernel
theorem dX6_hasCells_18 : decode cX6_hasCells 18 = .ok (.isub, 1) := by decide +kernel
theorem dX6_hasCells_19 : decode cX6_hasCells 19 = .ok (.if_icmp .gt 7, 3) := by decide +kernel
theorem dX6_hasCells_22 : decode cX6_hasCells 22 = .ok (.iconst 1, 1) := by decide +kernel
theorem dX6_hasCells_23 : decode cX6_hasCells 23 = .ok (.goto 4, 3) := by decide +kernel
theorem dX6_hasCells_26 : decode cX6_hasCells 26 = .ok (.iconst 0, 1) := by decide +kernel
theorem dX6_hasCells_27 : decode cX6_hasCells 27 = .ok (.ireturn, 1) := by decide +kernel
theorem dX6_renew_0 : decode cX6_renew 0 = .ok (.iconst 0, 1) := by decide +kernel
theorem dX6_renew_1 : decode cX6_renew 1 = .ok (.istore_n 3, 1) := by decide +kernel
theorem dX6_renew_2 : decode cX6_renew 2 = .ok (.iload_n 3, 1) := by decide +kernel
theorem dX6_renew_3 : decode cX6_renew 3 = .ok (.iload_n 2, 1) := by decide +kernel
theorem dX6_renew_4 : decode cX6_renew 4 = .ok (.if_icmp .ge 16, 3) := by decide +kernel
theorem dX6_renew_7 : decode cX6_renew 7 = .ok (.aload_n 0, 1) := by decide +kernel
theorem dX6_renew_8 : decode cX6_renew 8 = .ok (.getfield 9, 3) := by decide +kernel
theorem dX6_renew_11 : decode cX6_renew 11 = .ok (.iload_n 3, 1) := by decide +kernel
theorem dX6_renew_12 : decode cX6_renew 12 = .ok (.iconst 0, 1) := by decide +kernel
theorem dX6_renew_13 : decode cX6_renew 13 = .ok (.iastore, 1) := by decide +kernel
theorem dX6_renew_14 : decode cX6_renew 14 = .ok (.iinc 3 1, 3) := by decide +kernel
theorem dX6_renew_17 : decode cX6_renew 17 = .ok (.goto (-15), 3) := by decide +kernel
theorem dX6_renew_20 : decode cX6_renew 20 = .ok (.aload_n 0, 1) := by decide +kernel
theorem dX6_renew_21 : decode cX6_renew 21 = .ok (.iload_n 1, 1) := by decide +kernel
theorem dX6_renew_22 : decode cX6_renew 22 = .ok (.putfield 15, 3) := by decide +kernel
theorem dX6_renew_25 : decode cX6_renew 25 = .ok (.aload_n 0, 1) := by decide +kernel
theorem dX6_renew_26 : decode cX6_renew 26 = .ok (.iload_n 2, 1) := by decide +kernel
theorem dX6_renew_27 : decode cX6_renew 27 = .ok (.putfield 23, 3) := by decide +kernel
theorem dX6_renew_30 : decode cX6_renew 30 = .ok (.return_, 1) := by decide +kernel
theorem dX6_clear_0 : decode cX6_clear 0 = .ok (.aload_n 0, 1) := by decide +kernel
theorem dX6_clear_1 : decode cX6_clear 1 = .ok (.invokevirtual 19, 3) := by decide +kernel
theorem dX6_clear_4 : decode cX6_clear 4 = .ok (.ifCond .ne 7, 3) := by decide +kernel
theorem dX6_clear_7 : decode cX6_clear 7 = .ok (.iconst 1, 1) := by decide +kernel
theorem dX6_clear_8 : decode cX6_clear 8 = .ok (.goto 4, 3) := by decide +kernel
theorem dX6_clear_11 : decode cX6_clear 11 = .ok (.iconst 0, 1) := by decide +kernel
theorem dX6_clear_12 : decode cX6_clear 12 = .ok (.istore_n 1, 1) := by decide +kernel
theorem dX6_clear_13 : decode cX6_clear 13 = .ok (.aload_n 0, 1) := by decide +kernel
theorem dX6_clear_14 : decode cX6_clear 14 = .ok (.iconst (-1), 1) := by decide +kernel
theorem dX6_clear_15 : decode cX6_clear 15 = .ok (.putfield 15, 3) := by decide +kernel
theorem dX6_clear_18 : decode cX6_clear 18 = .ok (.aload_n 0, 1) := by decide +kernel
theorem dX6_clear_19 : decode cX6_clear 19 = .ok (.iconst 0, 1) := by decide +kernel
theorem dX6_clear_20 : decode cX6_clear 20 = .ok (.putfield 23, 3) := by decide +kernel
theorem dX6_clear_23 : decode cX6_clear 23 = .ok (.iload_n 1, 1) := by decide +kernel
theorem dX6_clear_24 : decode cX6_clear 24 = .ok (.ireturn, 1) := by decide +kernel
theorem dX6_write_0 : decode cX6_write 0 = .ok (.aload_n 0, 1) := by decide +kernel
theorem dX6_write_1 : decode cX6_write 1 = .ok (.getfield 15, 3) := by decide +kernel
theorem dX6_write_4 : decode cX6_write 4 = .ok (.lookupswitch 50 #[(0, 28), (1, 39)], 28) := by decide +kernel
theorem dX6_write_32 : decode cX6_write 32 = .ok (.aload_n 0, 1) := by decide +kernel
theorem dX6_write_33 : decode cX6_write 33 = .ok (.getfield 9, 3) := by decide +kernel
theorem dX6_write_36 : decode cX6_write 36 = .ok (.iload_n 1, 1) := by decide +kernel
theorem dX6_write_37 : decode cX6_write 37 = .ok (.iload_n 2, 1) := by decide +kernel
theorem dX6_write_38 : decode cX6_write 38 = .ok (.i2b, 1) := by decide +kernel
theorem dX6_write_39 : decode cX6_write 39 = .ok (.iastore, 1) := by decide +kernel
theorem dX6_write_40 : decode cX6_write 40 = .ok (.goto 21, 3) := by decide +kernel
theorem dX6_write_43 : decode cX6_write 43 = .ok (.aload_n 0, 1) := by decide +kernel
theorem dX6_write_44 : decode cX6_write 44 = .ok (.getfield 9, 3) := by decide +kernel
theorem dX6_write_47 : decode cX6_write 47 = .ok (.iload_n 1, 1) := by decide +kernel
theorem dX6_write_48 : decode cX6_write 48 = .ok (.iload_n 2, 1) := by decide +kernel
theorem dX6_write_49 : decode cX6_write 49 = .ok (.i2s, 1) := by decide +kernel
theorem dX6_write_50 : decode cX6_write 50 = .ok (.iastore, 1) := by decide +kernel
theorem dX6_write_51 : decode cX6_write 51 = .ok (.goto 10, 3) := by decide +kernel
theorem dX6_write_54 : decode cX6_write 54 = .ok (.aload_n 0, 1) := by decide +kernel
theorem dX6_write_55 : decode cX6_write 55 = .ok (.getfield 9, 3) := by decide +kernel
theorem dX6_write_58 : decode cX6_write 58 = .ok (.iload_n 1, 1) := by decide +kernel
theorem dX6_write_59 : decode cX6_write 59 = .ok (.iload_n 2, 1) := by decide +kernel
theorem dX6_write_60 : decode cX6_write 60 = .ok (.iastore, 1) := by decide +kernel
theorem dX6_write_61 : decode cX6_write 61 = .ok (.return_, 1) := by decide +kernel
theorem dX7_init_0 : decode cX7_init 0 = .ok (.aload_n 0, 1) := by decide +kernel
theorem dX7_init_1 : decode cX7_init 1 = .ok (.invokespecial 1, 3) := by decide +kernel
theorem dX7_init_4 : decode cX7_init 4 = .ok (.return_, 1) := by decide +kernel
theorem dX7_swell_0 : decode cX7_swell 0 = .ok (.iconst 0, 1) := by decide +kernel
theorem dX7_swell_1 : decode cX7_swell 1 = .ok (.ireturn, 1) := by decide +kernel
theorem dX7_telling_0 : decode cX7_telling 0 = .ok (.aload_n 0, 1) := by decide +kernel
theorem dX7_telling_1 : decode cX7_telling 1 = .ok (.iload_n 1, 1) := by decide +kernel
theorem dX7_telling_2 : decode cX7_telling 2 = .ok (.aload_n 2, 1) := by decide +kernel
theorem dX7_telling_3 : decode cX7_telling 3 = .ok (.invokevirtual 7, 3) := by decide +kernel
theorem dX7_telling_6 : decode cX7_telling 6 = .ok (.ireturn, 1) := by decide +kernel
theorem dX7_stoneTelling_0 : decode cX7_stoneTelling 0 = .ok (.aload_n 2, 1) := by decide +kernel
theorem dX7_stoneTelling_1 : decode cX7_stoneTelling 1 = .ok (.iconst 1, 1) := by decide +kernel
theorem dX7_stoneTelling_2 : decode cX7_stoneTelling 2 = .ok (.invokevirtual 13, 3) := by decide +kernel
theorem dX7_stoneTelling_5 : decode cX7_stoneTelling 5 = .ok (.iload_n 1, 1) := by decide +kernel
theorem dX7_stoneTelling_6 : decode cX7_stoneTelling 6 = .ok (.ireturn, 1) := by decide +kernel
theorem dX7_trodden_0 : decode cX7_trodden 0 = .ok (.aload_n 2, 1) := by decide +kernel
theorem dX7_trodden_1 : decode cX7_trodden 1 = .ok (.iconst 4, 1) := by decide +kernel
theorem dX7_trodden_2 : decode cX7_trodden 2 = .ok (.invokevirtual 13, 3) := by decide +kernel
theorem dX7_trodden_5 : decode cX7_trodden 5 = .ok (.iload_n 1, 1) := by decide +kernel
theorem dX7_trodden_6 : decode cX7_trodden 6 = .ok (.ireturn, 1) := by decide +kernel
theorem dX8_init_0 : decode cX8_init 0 = .ok (.aload_n 0, 1) := by decide +kernel
theorem dX8_init_1 : decode cX8_init 1 = .ok (.invokespecial 1, 3) := by decide +kernel
theorem dX8_init_4 : decode cX8_init 4 = .ok (.return_, 1) := by decide +kernel
theorem dX8_leave_0 : decode cX8_leave 0 = .ok (.aload_n 0, 1) := by decide +kernel
theorem dX8_leave_1 : decode cX8_leave 1 = .ok (.bipush 31, 2) := by decide +kernel
theorem dX8_leave_3 : decode cX8_leave 3 = .ok (.aload_n 0, 1) := by decide +kernel
theorem dX8_leave_4 : decode cX8_leave 4 = .ok (.getfield 7, 3) := by decide +kernel
theorem dX8_leave_7 : decode cX8_leave 7 = .ok (.imul, 1) := by decide +kernel
theorem dX8_leave_8 : decode cX8_leave 8 = .ok (.iload_n 1, 1) := by decide +kernel
theorem dX8_leave_9 : decode cX8_leave 9 = .ok (.iadd, 1) := by decide +kernel
theorem dX8_leave_10 : decode cX8_leave 10 = .ok (.putfield 7, 3) := by decide +kernel
theorem dX8_leave_13 : decode cX8_leave 13 = .ok (.return_, 1) := by decide +kernel
theorem dX9_init_0 : decode cX9_init 0 = .ok (.aload_n 0, 1) := by decide +kernel
theorem dX9_init_1 : decode cX9_init 1 = .ok (.invokespecial 3, 3) := by decide +kernel
theorem dX9_init_4 : decode cX9_init 4 = .ok (.aload_n 0, 1) := by decide +kernel
theorem dX9_init_5 : decode cX9_init 5 = .ok (.bipush 30, 2) := by decide +kernel
theorem dX9_init_7 : decode cX9_init 7 = .ok (.newarray .int, 2) := by decide +kernel
theorem dX9_init_9 : decode cX9_init 9 = .ok (.putfield 9, 3) := by decide +kernel
theorem dX9_init_12 : decode cX9_init 12 = .ok (.aload_n 0, 1) := by decide +kernel
theorem dX9_init_13 : decode cX9_init 13 = .ok (.bipush 30, 2) := by decide +kernel
theorem dX9_init_15 : decode cX9_init 15 = .ok (.newarray .int, 2) := by decide +kernel
theorem dX9_init_17 : decode cX9_init 17 = .ok (.putfield 15, 3) := by decide +kernel
theorem dX9_init_20 : decode cX9_init 20 = .ok (.aload_n 0, 1) := by decide +kernel
theorem dX9_init_21 : decode cX9_init 21 = .ok (.aload_n 1, 1) := by decide +kernel
theorem dX9_init_22 : decode cX9_init 22 = .ok (.putfield 18, 3) := by decide +kernel
theorem dX9_init_25 : decode cX9_init 25 = .ok (.return_, 1) := by decide +kernel
theorem dX9_measure_0 : decode cX9_measure 0 = .ok (.aload_n 0, 1) := by decide +kernel
theorem dX9_measure_1 : decode cX9_measure 1 = .ok (.getfield 18, 3) := by decide +kernel
theorem dX9_measure_4 : decode cX9_measure 4 = .ok (.iload_n 1, 1) := by decide +kernel
theorem dX9_measure_5 : decode cX9_measure 5 = .ok (.aload_n 0, 1) := by decide +kernel
theorem dX9_measure_6 : decode cX9_measure 6 = .ok (.getfield 9, 3) := by decide +kernel
theorem dX9_measure_9 : decode cX9_measure 9 = .ok (.invokevirtual 22, 3) := by decide +kernel
theorem dX9_measure_12 : decode cX9_measure 12 = .ok (.return_, 1) := by decide +kernel
theorem dX9_settle_0 : decode cX9_settle 0 = .ok (.iconst 0, 1) := by decide +kernel
theorem dX9_settle_1 : decode cX9_settle 1 = .ok (.istore_n 1, 1) := by decide +kernel
theorem dX9_settle_2 : decode cX9_settle 2 = .ok (.iload_n 1, 1) := by decide +kernel
theorem dX9_settle_3 : decode cX9_settle 3 = .ok (.aload_n 0, 1) := by decide +kernel
theorem dX9_settle_4 : decode cX9_settle 4 = .ok (.getfield 18, 3) := by decide +kernel
theorem dX9_settle_7 : decode cX9_settle 7 = .ok (.invokevirtual 28, 3) := by decide +kernel
theorem dX9_settle_10 : decode cX9_settle 10 = .ok (.if_icmp .ge 37, 3) := by decide +kernel
theorem dX9_settle_13 : decode cX9_settle 13 = .ok (.aload_n 0, 1) := by decide +kernel
theorem dX9_settle_14 : decode cX9_settle 14 = .ok (.getfield 15, 3) := by decide +kernel
theorem dX9_settle_17 : decode cX9_settle 17 = .ok (.iload_n 1, 1) := by decide +kernel
theorem dX9_settle_18 : decode cX9_settle 18 = .ok (.aload_n 0, 1) := by decide +kernel
theorem dX9_settle_19 : decode cX9_settle 19 = .ok (.getfield 18, 3) := by decide +kernel
theorem dX9_settle_22 : decode cX9_settle 22 = .ok (.iload_n 1, 1) := by decide +kernel
theorem dX9_settle_23 : decode cX9_settle 23 = .ok (.invokevirtual 32, 3) := by decide +kernel
theorem dX9_settle_26 : decode cX9_settle 26 = .ok (.ifCond .eq 12, 3) := by decide +kernel
theorem dX9_settle_29 : decode cX9_settle 29 = .ok (.aload_n 0, 1) := by decide +kernel
theorem dX9_settle_30 : decode cX9_settle 30 = .ok (.getfield 9, 3) := by decide +kernel
theorem dX9_settle_33 : decode cX9_settle 33 = .ok (.iload_n 1, 1) := by decide +kernel
theorem dX9_settle_34 : decode cX9_settle 34 = .ok (.iaload, 1) := by decide +kernel
theorem dX9_settle_35 : decode cX9_settle 35 = .ok (.goto 5, 3) := by decide +kernel
theorem dX9_settle_38 : decode cX9_settle 38 = .ok (.ldc 36, 2) := by decide +kernel
theorem dX9_settle_40 : decode cX9_settle 40 = .ok (.iastore, 1) := by decide +kernel
theorem dX9_settle_41 : decode cX9_settle 41 = .ok (.iinc 1 1, 3) := by decide +kernel
theorem dX9_settle_44 : decode cX9_settle 44 = .ok (.goto (-42), 3) := by decide +kernel
theorem dX9_settle_47 : decode cX9_settle 47 = .ok (.iconst 1, 1) := by decide +kernel
theorem dX9_settle_48 : decode cX9_settle 48 = .ok (.istore_n 1, 1) := by decide +kernel
theorem dX9_settle_49 : decode cX9_settle 49 = .ok (.iconst 0, 1) := by decide +kernel
theorem dX9_settle_50 : decode cX9_settle 50 = .ok (.istore_n 2, 1) := by decide +kernel
theorem dX9_settle_51 : decode cX9_settle 51 = .ok (.iload_n 1, 1) := by decide +kernel
theorem dX9_settle_52 : decode cX9_settle 52 = .ok (.ifCond .eq 92, 3) := by decide +kernel
theorem dX9_settle_55 : decode cX9_settle 55 = .ok (.iload_n 2, 1) := by decide +kernel
theorem dX9_settle_56 : decode cX9_settle 56 = .ok (.bipush 30, 2) := by decide +kernel
theorem dX9_settle_58 : decode cX9_settle 58 = .ok (.if_icmp .ge 86, 3) := by decide +kernel
theorem dX9_settle_61 : decode cX9_settle 61 = .ok (.iconst 0, 1) := by decide +kernel
theorem dX9_settle_62 : decode cX9_settle 62 = .ok (.istore_n 1, 1) := by decide +kernel
theorem dX9_settle_63 : decode cX9_settle 63 = .ok (.iconst 0, 1) := by decide +kernel
theorem dX9_settle_64 : decode cX9_settle 64 = .ok (.istore_n 3, 1) := by decide +kernel
theorem dX9_settle_65 : decode cX9_settle 65 = .ok (.iload_n 3, 1) := by decide +kernel
theorem dX9_settle_66 : decode cX9_settle 66 = .ok (.aload_n 0, 1) := by decide +kernel
theorem dX9_settle_67 : decode cX9_settle 67 = .ok (.getfield 18, 3) := by decide +kernel
theorem dX9_settle_70 : decode cX9_settle 70 = .ok (.invokevirtual 28, 3) := by decide +kernel
theorem dX9_settle_73 : decode cX9_settle 73 = .ok (.if_icmp .ge 65, 3) := by decide +kernel
theorem dX9_settle_76 : decode cX9_settle 76 = .ok (.aload_n 0, 1) := by decide +kernel
theorem dX9_settle_77 : decode cX9_settle 77 = .ok (.getfield 18, 3) := by decide +kernel
theorem dX9_settle_80 : decode cX9_settle 80 = .ok (.iload_n 3, 1) := by decide +kernel
theorem dX9_settle_81 : decode cX9_settle 81 = .ok (.invokevirtual 32, 3) := by decide +kernel
theorem dX9_settle_84 : decode cX9_settle 84 = .ok (.ifCond .ne 48, 3) := by decide +kernel
theorem dX9_settle_87 : decode cX9_settle 87 = .ok (.aload_n 0, 1) := by decide +kernel
theorem dX9_settle_88 : decode cX9_settle 88 = .ok (.getfield 9, 3) := by decide +kernel
theorem dX9_settle_91 : decode cX9_settle 91 = .ok (.iload_n 3, 1) := by decide +kernel
theorem dX9_settle_92 : decode cX9_settle 92 = .ok (.iaload, 1) := by decide +kernel
theorem dX9_settle_93 : decode cX9_settle 93 = .ok (.aload_n 0, 1) := by decide +kernel
theorem dX9_settle_94 : decode cX9_settle 94 = .ok (.iload_n 3, 1) := by decide +kernel
theorem dX9_settle_95 : decode cX9_settle 95 = .ok (.invokevirtual 37, 3) := by decide +kernel
theorem dX9_settle_98 : decode cX9_settle 98 = .ok (.invokestatic 41, 3) := by decide +kernel
theorem dX9_settle_101 : decode cX9_settle 101 = .ok (.istore 4, 2) := by decide +kernel
theorem dX9_settle_103 : decode cX9_settle 103 = .ok (.iload_n 1, 1) := by decide +kernel
theorem dX9_settle_104 : decode cX9_settle 104 = .ok (.ifCond .ne 14, 3) := by decide +kernel
theorem dX9_settle_107 : decode cX9_settle 107 = .ok (.iload 4, 2) := by decide +kernel
theorem dX9_settle_109 : decode cX9_settle 109 = .ok (.aload_n 0, 1) := by decide +kernel
theorem dX9_settle_110 : decode cX9_settle 110 = .ok (.getfield 15, 3) := by decide +kernel
theorem dX9_settle_113 : decode cX9_settle 113 = .ok (.iload_n 3, 1) := by decide +kernel
theorem dX9_settle_114 : decode cX9_settle 114 = .ok (.iaload, 1) := by decide +kernel
theorem dX9_settle_115 : decode cX9_settle 115 = .ok (.if_icmp .ge 7, 3) := by decide +kernel
theorem dX9_settle_118 : decode cX9_settle 118 = .ok (.iconst 1, 1) := by decide +kernel
theorem dX9_settle_119 : decode cX9_settle 119 = .ok (.goto 4, 3) := by decide +kernel
theorem dX9_settle_122 : decode cX9_settle 122 = .ok (.iconst 0, 1) := by decide +kernel
theorem dX9_settle_123 : decode cX9_settle 123 = .ok (.istore_n 1, 1) := by decide +kernel
theorem dX9_settle_124 : decode cX9_settle 124 = .ok (.aload_n 0, 1) := by decide +kernel
theorem dX9_settle_125 : decode cX9_settle 125 = .ok (.getfield 15, 3) := by decide +kernel
theorem dX9_settle_128 : decode cX9_settle 128 = .ok (.iload_n 3, 1) := by decide +kernel
theorem dX9_settle_129 : decode cX9_settle 129 = .ok (.iload 4, 2) := by decide +kernel
theorem dX9_settle_131 : decode cX9_settle 131 = .ok (.iastore, 1) := by decide +kernel
theorem dX9_settle_132 : decode cX9_settle 132 = .ok (.iinc 3 1, 3) := by decide +kernel
theorem dX9_settle_135 : decode cX9_settle 135 = .ok (.goto (-70), 3) := by decide +kernel
theorem dX9_settle_138 : decode cX9_settle 138 = .ok (.iinc 2 1, 3) := by decide +kernel
theorem dX9_settle_141 : decode cX9_settle 141 = .ok (.goto (-90), 3) := by decide +kernel
theorem dX9_settle_144 : decode cX9_settle 144 = .ok (.return_, 1) := by decide +kernel
theorem dX9_lowestBeside_0 : decode cX9_lowestBeside 0 = .ok (.ldc 36, 2) := by decide +kernel
theorem dX9_lowestBeside_2 : decode cX9_lowestBeside 2 = .ok (.istore_n 2, 1) := by decide +kernel
theorem dX9_lowestBeside_3 : decode cX9_lowestBeside 3 = .ok (.iconst 0, 1) := by decide +kernel
theorem dX9_lowestBeside_4 : decode cX9_lowestBeside 4 = .ok (.istore_n 3, 1) := by decide +kernel
theorem dX9_lowestBeside_5 : decode cX9_lowestBeside 5 = .ok (.iload_n 3, 1) := by decide +kernel
theorem dX9_lowestBeside_6 : decode cX9_lowestBeside 6 = .ok (.iconst 4, 1) := by decide +kernel
theorem dX9_lowestBeside_7 : decode cX9_lowestBeside 7 = .ok (.if_icmp .ge 39, 3) := by decide +kernel
theorem dX9_lowestBeside_10 : decode cX9_lowestBeside 10 = .ok (.aload_n 0, 1) := by decide +kernel
theorem dX9_lowestBeside_11 : decode cX9_lowestBeside 11 = .ok (.getfield 18, 3) := by decide +kernel
theorem dX9_lowestBeside_14 : decode cX9_lowestBeside 14 = .ok (.iload_n 1, 1) := by decide +kernel
theorem dX9_lowestBeside_15 : decode cX9_lowestBeside 15 = .ok (.iload_n 3, 1) := by decide +kernel
theorem dX9_lowestBeside_16 : decode cX9_lowestBeside 16 = .ok (.invokevirtual 47, 3) := by decide +kernel
theorem dX9_lowestBeside_19 : decode cX9_lowestBeside 19 = .ok (.istore 4, 2) := by decide +kernel
theorem dX9_lowestBeside_21 : decode cX9_lowestBeside 21 = .ok (.iload 4, 2) := by decide +kernel
theorem dX9_lowestBeside_23 : decode cX9_lowestBeside 23 = .ok (.bipush (-9), 2) := by decide +kernel
theorem dX9_lowestBeside_25 : decode cX9_lowestBeside 25 = .ok (.if_icmp .eq 15, 3) := by decide +kernel
theorem dX9_lowestBeside_28 : decode cX9_lowestBeside 28 = .ok (.iload_n 2, 1) := by decide +kernel
theorem dX9_lowestBeside_29 : decode cX9_lowestBeside 29 = .ok (.aload_n 0, 1) := by decide +kernel
theorem dX9_lowestBeside_30 : decode cX9_lowestBeside 30 = .ok (.getfield 15, 3) := by decide +kernel
theorem dX9_lowestBeside_33 : decode cX9_lowestBeside 33 = .ok (.iload 4, 2) := by decide +kernel
theorem dX9_lowestBeside_35 : decode cX9_lowestBeside 35 = .ok (.iaload, 1) := by decide +kernel
theorem dX9_lowestBeside_36 : decode cX9_lowestBeside 36 = .ok (.invokestatic 50, 3) := by decide +kernel
theorem dX9_lowestBeside_39 : decode cX9_lowestBeside 39 = .ok (.istore_n 2, 1) := by decide +kernel
theorem dX9_lowestBeside_40 : decode cX9_lowestBeside 40 = .ok (.iinc 3 1, 3) := by decide +kernel
theorem dX9_lowestBeside_43 : decode cX9_lowestBeside 43 = .ok (.goto (-38), 3) := by decide +kernel
theorem dX9_lowestBeside_46 : decode cX9_lowestBeside 46 = .ok (.iload_n 2, 1) := by decide +kernel
theorem dX9_lowestBeside_47 : decode cX9_lowestBeside 47 = .ok (.ireturn, 1) := by decide +kernel
theorem dX9_depthAt_0 : decode cX9_depthAt 0 = .ok (.aload_n 0, 1) := by decide +kernel
theorem dX9_depthAt_1 : decode cX9_depthAt 1 = .ok (.getfield 15, 3) := by decide +kernel
theorem dX9_depthAt_4 : decode cX9_depthAt 4 = .ok (.iload_n 1, 1) := by decide +kernel
theorem dX9_depthAt_5 : decode cX9_depthAt 5 = .ok (.iaload, 1) := by decide +kernel
theorem dX9_depthAt_6 : decode cX9_depthAt 6 = .ok (.aload_n 0, 1) := by decide +kernel
theorem dX9_depthAt_7 : decode cX9_depthAt 7 = .ok (.getfield 9, 3) := by decide +kernel
theorem dX9_depthAt_10 : decode cX9_depthAt 10 = .ok (.iload_n 1, 1) := by decide +kernel
theorem dX9_depthAt_11 : decode cX9_depthAt 11 = .ok (.iaload, 1) := by decide +kernel
theorem dX9_depthAt_12 : decode cX9_depthAt 12 = .ok (.isub, 1) := by decide +kernel
theorem dX9_depthAt_13 : decode cX9_depthAt 13 = .ok (.ireturn, 1) := by decide +kernel
theorem dX9_allDepths_0 : decode cX9_allDepths 0 = .ok (.aload_n 0, 1) := by decide +kernel
theorem dX9_allDepths_1 : decode cX9_allDepths 1 = .ok (.invokevirtual 53, 3) := by decide +kernel
theorem dX9_allDepths_4 : decode cX9_allDepths 4 = .ok (.iconst 0, 1) := by decide +kernel
theorem dX9_allDepths_5 : decode cX9_allDepths 5 = .ok (.istore_n 1, 1) := by decide +kernel
theorem dX9_allDepths_6 : decode cX9_allDepths 6 = .ok (.iconst 0, 1) := by decide +kernel
theorem dX9_allDepths_7 : decode cX9_allDepths 7 = .ok (.istore_n 2, 1) := by decide +kernel
theorem dX9_allDepths_8 : decode cX9_allDepths 8 = .ok (.iload_n 2, 1) := by decide +kernel
theorem dX9_allDepths_9 : decode cX9_allDepths 9 = .ok (.aload_n 0, 1) := by decide +kernel
theorem dX9_allDepths_10 : decode cX9_allDepths 10 = .ok (.getfield 18, 3) := by decide +kernel
theorem dX9_allDepths_13 : decode cX9_allDepths 13 = .ok (.invokevirtual 28, 3) := by decide +kernel
theorem dX9_allDepths_16 : decode cX9_allDepths 16 = .ok (.if_icmp .ge 17, 3) := by decide +kernel
theorem dX9_allDepths_19 : decode cX9_allDepths 19 = .ok (.iload_n 1, 1) := by decide +kernel
theorem dX9_allDepths_20 : decode cX9_allDepths 20 = .ok (.aload_n 0, 1) := by decide +kernel
theorem dX9_allDepths_21 : decode cX9_allDepths 21 = .ok (.iload_n 2, 1) := by decide +kernel
theorem dX9_allDepths_22 : decode cX9_allDepths 22 = .ok (.invokevirtual 56, 3) := by decide +kernel
theorem dX9_allDepths_25 : decode cX9_allDepths 25 = .ok (.iadd, 1) := by decide +kernel
theorem dX9_allDepths_26 : decode cX9_allDepths 26 = .ok (.istore_n 1, 1) := by decide +kernel
theorem dX9_allDepths_27 : decode cX9_allDepths 27 = .ok (.iinc 2 1, 3) := by decide +kernel
theorem dX9_allDepths_30 : decode cX9_allDepths 30 = .ok (.goto (-22), 3) := by decide +kernel
theorem dX9_allDepths_33 : decode cX9_allDepths 33 = .ok (.iload_n 1, 1) := by decide +kernel
theorem dX9_allDepths_34 : decode cX9_allDepths 34 = .ok (.ireturn, 1) := by decide +kernel
theorem dX9_poolIfLifted_0 : decode cX9_poolIfLifted 0 = .ok (.aload_n 0, 1) := by decide +kernel
theorem dX9_poolIfLifted_1 : decode cX9_poolIfLifted 1 = .ok (.getfield 9, 3) := by decide +kernel
theorem dX9_poolIfLifted_4 : decode cX9_poolIfLifted 4 = .ok (.iload_n 1, 1) := by decide +kernel
theorem dX9_poolIfLifted_5 : decode cX9_poolIfLifted 5 = .ok (.dup2, 1) := by decide +kernel
theorem dX9_poolIfLifted_6 : decode cX9_poolIfLifted 6 = .ok (.iaload, 1) := by decide +kernel
theorem dX9_poolIfLifted_7 : decode cX9_poolIfLifted 7 = .ok (.iload_n 2, 1) := by decide +kernel
theorem dX9_poolIfLifted_8 : decode cX9_poolIfLifted 8 = .ok (.iadd, 1) := by decide +kernel
theorem dX9_poolIfLifted_9 : decode cX9_poolIfLifted 9 = .ok (.iastore, 1) := by decide +kernel
theorem dX9_poolIfLifted_10 : decode cX9_poolIfLifted 10 = .ok (.aload_n 0, 1) := by decide +kernel
theorem dX9_poolIfLifted_11 : decode cX9_poolIfLifted 11 = .ok (.invokevirtual 59, 3) := by decide +kernel
theorem dX9_poolIfLifted_14 : decode cX9_poolIfLifted 14 = .ok (.istore_n 3, 1) := by decide +kernel
theorem dX9_poolIfLifted_15 : decode cX9_poolIfLifted 15 = .ok (.aload_n 0, 1) := by decide +kernel
theorem dX9_poolIfLifted_16 : decode cX9_poolIfLifted 16 = .ok (.getfield 9, 3) := by decide +kernel
theorem dX9_poolIfLifted_19 : decode cX9_poolIfLifted 19 = .ok (.iload_n 1, 1) := by decide +kernel
theorem dX9_poolIfLifted_20 : decode cX9_poolIfLifted 20 = .ok (.dup2, 1) := by decide +kernel
theorem dX9_poolIfLifted_21 : decode cX9_poolIfLifted 21 = .ok (.iaload, 1) := by decide +kernel
theorem dX9_poolIfLifted_22 : decode cX9_poolIfLifted 22 = .ok (.iload_n 2, 1) := by decide +kernel
theorem dX9_poolIfLifted_23 : decode cX9_poolIfLifted 23 = .ok (.isub, 1) := by decide +kernel
theorem dX9_poolIfLifted_24 : decode cX9_poolIfLifted 24 = .ok (.iastore, 1) := by decide +kernel
theorem dX9_poolIfLifted_25 : decode cX9_poolIfLifted 25 = .ok (.iload_n 3, 1) := by decide +kernel
theorem dX9_poolIfLifted_26 : decode cX9_poolIfLifted 26 = .ok (.ireturn, 1) := by decide +kernel
theorem dX9_bestLifted_0 : decode cX9_bestLifted 0 = .ok (.iconst 0, 1) := by decide +kernel
theorem dX9_bestLifted_1 : decode cX9_bestLifted 1 = .ok (.istore_n 2, 1) := by decide +kernel
theorem dX9_bestLifted_2 : decode cX9_bestLifted 2 = .ok (.aload_n 0, 1) := by decide +kernel
theorem dX9_bestLifted_3 : decode cX9_bestLifted 3 = .ok (.iconst 0, 1) := by decide +kernel
theorem dX9_bestLifted_4 : decode cX9_bestLifted 4 = .ok (.iload_n 1, 1) := by decide +kernel
theorem dX9_bestLifted_5 : decode cX9_bestLifted 5 = .ok (.invokevirtual 62, 3) := by decide +kernel
theorem dX9_bestLifted_8 : decode cX9_bestLifted 8 = .ok (.istore_n 3, 1) := by decide +kernel
theorem dX9_bestLifted_9 : decode cX9_bestLifted 9 = .ok (.iconst 1, 1) := by decide +kernel
theorem dX9_bestLifted_10 : decode cX9_bestLifted 10 = .ok (.istore 4, 2) := by decide +kernel
theorem dX9_bestLifted_12 : decode cX9_bestLifted 12 = .ok (.iload 4, 2) := by decide +kernel
theorem dX9_bestLifted_14 : decode cX9_bestLifted 14 = .ok (.aload_n 0, 1) := by decide +kernel
theorem dX9_bestLifted_15 : decode cX9_bestLifted 15 = .ok (.getfield 18, 3) := by decide +kernel
theorem dX9_bestLifted_18 : decode cX9_bestLifted 18 = .ok (.invokevirtual 28, 3) := by decide +kernel
theorem dX9_bestLifted_21 : decode cX9_bestLifted 21 = .ok (.if_icmp .ge 30, 3) := by decide +kernel
theorem dX9_bestLifted_24 : decode cX9_bestLifted 24 = .ok (.aload_n 0, 1) := by decide +kernel
theorem dX9_bestLifted_25 : decode cX9_bestLifted 25 = .ok (.iload 4, 2) := by decide +kernel
theorem dX9_bestLifted_27 : decode cX9_bestLifted 27 = .ok (.iload_n 1, 1) := by decide +kernel
theorem dX9_bestLifted_28 : decode cX9_bestLifted 28 = .ok (.invokevirtual 62, 3) := by decide +kernel
theorem dX9_bestLifted_31 : decode cX9_bestLifted 31 = .ok (.istore 5, 2) := by decide +kernel
theorem dX9_bestLifted_33 : decode cX9_bestLifted 33 = .ok (.iload 5, 2) := by decide +kernel
theorem dX9_bestLifted_35 : decode cX9_bestLifted 35 = .ok (.iload_n 3, 1) := by decide +kernel
theorem dX9_bestLifted_36 : decode cX9_bestLifted 36 = .ok (.if_icmp .ge 9, 3) := by decide +kernel
theorem dX9_bestLifted_39 : decode cX9_bestLifted 39 = .ok (.iload 4, 2) := by decide +kernel
theorem dX9_bestLifted_41 : decode cX9_bestLifted 41 = .ok (.istore_n 2, 1) := by decide +kernel
theorem dX9_bestLifted_42 : decode cX9_bestLifted 42 = .ok (.iload 5, 2) := by decide +kernel
theorem dX9_bestLifted_44 : decode cX9_bestLifted 44 = .ok (.istore_n 3, 1) := by decide +kernel
theorem dX9_bestLifted_45 : decode cX9_bestLifted 45 = .ok (.iinc 4 1, 3) := by decide +kernel
theorem dX9_bestLifted_48 : decode cX9_bestLifted 48 = .ok (.goto (-36), 3) := by decide +kernel
theorem dX9_bestLifted_51 : decode cX9_bestLifted 51 = .ok (.iload_n 2, 1) := by decide +kernel
theorem dX9_bestLifted_52 : decode cX9_bestLifted 52 = .ok (.ireturn, 1) := by decide +kernel
theorem dX10_init_0 : decode cX10_init 0 = .ok (.aload_n 0, 1) := by decide +kernel
theorem dX10_init_1 : decode cX10_init 1 = .ok (.invokespecial 3, 3) := by decide +kernel
theorem dX10_init_4 : decode cX10_init 4 = .ok (.aload_n 0, 1) := by decide +kernel
theorem dX10_init_5 : decode cX10_init 5 = .ok (.bipush 30, 2) := by decide +kernel
theorem dX10_init_7 : decode cX10_init 7 = .ok (.newarray .int, 2) := by decide +kernel
theorem dX10_init_9 : decode cX10_init 9 = .ok (.putfield 9, 3) := by decide +kernel
theorem dX10_init_12 : decode cX10_init 12 = .ok (.aload_n 0, 1) := by decide +kernel
theorem dX10_init_13 : decode cX10_init 13 = .ok (.bipush 30, 2) := by decide +kernel
theorem dX10_init_15 : decode cX10_init 15 = .ok (.newarray .int, 2) := by decide +kernel
theorem dX10_init_17 : decode cX10_init 17 = .ok (.putfield 15, 3) := by decide +kernel
theorem dX10_init_20 : decode cX10_init 20 = .ok (.aload_n 0, 1) := by decide +kernel
theorem dX10_init_21 : decode cX10_init 21 = .ok (.bipush 30, 2) := by decide +kernel
theorem dX10_init_23 : decode cX10_init 23 = .ok (.newarray .int, 2) := by decide +kernel
theorem dX10_init_25 : decode cX10_init 25 = .ok (.putfield 18, 3) := by decide +kernel
theorem dX10_init_28 : decode cX10_init 28 = .ok (.aload_n 0, 1) := by decide +kernel
theorem dX10_init_29 : decode cX10_init 29 = .ok (.bipush 30, 2) := by decide +kernel
theorem dX10_init_31 : decode cX10_init 31 = .ok (.newarray .int, 2) := by decide +kernel
theorem dX10_init_33 : decode cX10_init 33 = .ok (.putfield 21, 3) := by decide +kernel
theorem dX10_init_36 : decode cX10_init 36 = .ok (.aload_n 0, 1) := by decide +kernel
theorem dX10_init_37 : decode cX10_init 37 = .ok (.bipush 30, 2) := by decide +kernel
theorem dX10_init_39 : decode cX10_init 39 = .ok (.newarray .int, 2) := by decide +kernel
theorem dX10_init_41 : decode cX10_init 41 = .ok (.putfield 24, 3) := by decide +kernel
theorem dX10_init_44 : decode cX10_init 44 = .ok (.aload_n 0, 1) := by decide +kernel
theorem dX10_init_45 : decode cX10_init 45 = .ok (.aload_n 1, 1) := by decide +kernel
theorem dX10_init_46 : decode cX10_init 46 = .ok (.putfield 27, 3) := by decide +kernel
theorem dX10_init_49 : decode cX10_init 49 = .ok (.return_, 1) := by decide +kernel
theorem dX10_measure_0 : decode cX10_measure 0 = .ok (.iconst 0, 1) := by decide +kernel
theorem dX10_measure_1 : decode cX10_measure 1 = .ok (.istore_n 3, 1) := by decide +kernel
theorem dX10_measure_2 : decode cX10_measure 2 = .ok (.iload_n 3, 1) := by decide +kernel
theorem dX10_measure_3 : decode cX10_measure 3 = .ok (.aload_n 0, 1) := by decide +kernel
theorem dX10_measure_4 : decode cX10_measure 4 = .ok (.getfield 27, 3) := by decide +kernel
theorem dX10_measure_7 : decode cX10_measure 7 = .ok (.invokevirtual 31, 3) := by decide +kernel
theorem dX10_measure_10 : decode cX10_measure 10 = .ok (.if_icmp .ge 23, 3) := by decide +kernel
theorem dX10_measure_13 : decode cX10_measure 13 = .ok (.aload_n 0, 1) := by decide +kernel
theorem dX10_measure_14 : decode cX10_measure 14 = .ok (.getfield 15, 3) := by decide +kernel
theorem dX10_measure_17 : decode cX10_measure 17 = .ok (.iload_n 3, 1) := by decide +kernel
theorem dX10_measure_18 : decode cX10_measure 18 = .ok (.iconst 0, 1) := by decide +kernel
theorem dX10_measure_19 : decode cX10_measure 19 = .ok (.iastore, 1) := by decide +kernel
theorem dX10_measure_20 : decode cX10_measure 20 = .ok (.aload_n 0, 1) := by decide +kernel
theorem dX10_measure_21 : decode cX10_measure 21 = .ok (.getfield 18, 3) := by decide +kernel
theorem dX10_measure_24 : decode cX10_measure 24 = .ok (.iload_n 3, 1) := by decide +kernel
theorem dX10_measure_25 : decode cX10_measure 25 = .ok (.iconst 0, 1) := by decide +kernel
theorem dX10_measure_26 : decode cX10_measure 26 = .ok (.iastore, 1) := by decide +kernel
theorem dX10_measure_27 : decode cX10_measure 27 = .ok (.iinc 3 1, 3) := by decide +kernel
theorem dX10_measure_30 : decode cX10_measure 30 = .ok (.goto (-28), 3) := by decide +kernel
theorem dX10_measure_33 : decode cX10_measure 33 = .ok (.iload_n 1, 1) := by decide +kernel
theorem dX10_measure_34 : decode cX10_measure 34 = .ok (.istore_n 3, 1) := by decide +kernel
theorem dX10_measure_35 : decode cX10_measure 35 = .ok (.iload_n 3, 1) := by decide +kernel
theorem dX10_measure_36 : decode cX10_measure 36 = .ok (.iload_n 2, 1) := by decide +kernel
theorem dX10_measure_37 : decode cX10_measure 37 = .ok (.if_icmp .gt 108, 3) := by decide +kernel
theorem dX10_measure_40 : decode cX10_measure 40 = .ok (.aload_n 0, 1) := by decide +kernel
theorem dX10_measure_41 : decode cX10_measure 41 = .ok (.getfield 27, 3) := by decide +kernel
theorem dX10_measure_44 : decode cX10_measure 44 = .ok (.iload_n 3, 1) := by decide +kernel
theorem dX10_measure_45 : decode cX10_measure 45 = .ok (.aload_n 0, 1) := by decide +kernel
theorem dX10_measure_46 : decode cX10_measure 46 = .ok (.getfield 9, 3) := by decide +kernel
theorem dX10_measure_49 : decode cX10_measure 49 = .ok (.invokevirtual 37, 3) := by decide +kernel
theorem dX10_measure_52 : decode cX10_measure 52 = .ok (.iconst 0, 1) := by decide +kernel
theorem dX10_measure_53 : decode cX10_measure 53 = .ok (.istore 4, 2) := by decide +kernel
theorem dX10_measure_55 : decode cX10_measure 55 = .ok (.iload 4, 2) := by decide +kernel
theorem dX10_measure_57 : decode cX10_measure 57 = .ok (.aload_n 0, 1) := by decide +kernel
theorem dX10_measure_58 : decode cX10_measure 58 = .ok (.getfield 27, 3) := by decide +kernel
theorem dX10_measure_61 : decode cX10_measure 61 = .ok (.invokevirtual 31, 3) := by decide +kernel
theorem dX10_measure_64 : decode cX10_measure 64 = .ok (.if_icmp .ge 75, 3) := by decide +kernel
theorem dX10_measure_67 : decode cX10_measure 67 = .ok (.aload_n 0, 1) := by decide +kernel
theorem dX10_measure_68 : decode cX10_measure 68 = .ok (.getfield 15, 3) := by decide +kernel
theorem dX10_measure_71 : decode cX10_measure 71 = .ok (.iload 4, 2) := by decide +kernel
theorem dX10_measure_73 : decode cX10_measure 73 = .ok (.aload_n 0, 1) := by decide +kernel
theorem dX10_measure_74 : decode cX10_measure 74 = .ok (.getfield 15, 3) := by decide +kernel
theorem dX10_measure_77 : decode cX10_measure 77 = .ok (.iload 4, 2) := by decide +kernel
theorem dX10_measure_79 : decode cX10_measure 79 = .ok (.iaload, 1) := by decide +kernel
theorem dX10_measure_80 : decode cX10_measure 80 = .ok (.aload_n 0, 1) := by decide +kernel
theorem dX10_measure_81 : decode cX10_measure 81 = .ok (.iload 4, 2) := by decide +kernel
theorem dX10_measure_83 : decode cX10_measure 83 = .ok (.aload_n 0, 1) := by decide +kernel
theorem dX10_measure_84 : decode cX10_measure 84 = .ok (.getfield 27, 3) := by decide +kernel
theorem dX10_measure_87 : decode cX10_measure 87 = .ok (.iload 4, 2) := by decide +kernel
theorem dX10_measure_89 : decode cX10_measure 89 = .ok (.iconst 2, 1) := by decide +kernel
theorem dX10_measure_90 : decode cX10_measure 90 = .ok (.invokevirtual 41, 3) := by decide +kernel
theorem dX10_measure_93 : decode cX10_measure 93 = .ok (.invokevirtual 45, 3) := by decide +kernel
theorem dX10_measure_96 : decode cX10_measure 96 = .ok (.invokestatic 48, 3) := by decide +kernel
theorem dX10_measure_99 : decode cX10_measure 99 = .ok (.iastore, 1) := by decide +kernel
theorem dX10_measure_100 : decode cX10_measure 100 = .ok (.aload_n 0, 1) := by decide +kernel
theorem dX10_measure_101 : decode cX10_measure 101 = .ok (.getfield 18, 3) := by decide +kernel
theorem dX10_measure_104 : decode cX10_measure 104 = .ok (.iload 4, 2) := by decide +kernel
theorem dX10_measure_106 : decode cX10_measure 106 = .ok (.aload_n 0, 1) := by decide +kernel
theorem dX10_measure_107 : decode cX10_measure 107 = .ok (.getfield 18, 3) := by decide +kernel
theorem dX10_measure_110 : decode cX10_measure 110 = .ok (.iload 4, 2) := by decide +kernel
theorem dX10_measure_112 : decode cX10_measure 112 = .ok (.iaload, 1) := by decide +kernel
theorem dX10_measure_113 : decode cX10_measure 113 = .ok (.aload_n 0, 1) := by decide +kernel
theorem dX10_measure_114 : decode cX10_measure 114 = .ok (.iload 4, 2) := by decide +kernel
theorem dX10_measure_116 : decode cX10_measure 116 = .ok (.aload_n 0, 1) := by decide +kernel
theorem dX10_measure_117 : decode cX10_measure 117 = .ok (.getfield 27, 3) := by decide +kernel
theorem dX10_measure_120 : decode cX10_measure 120 = .ok (.iload 4, 2) := by decide +kernel
theorem dX10_measure_122 : decode cX10_measure 122 = .ok (.iconst 3, 1) := by decide +kernel
theorem dX10_measure_123 : decode cX10_measure 123 = .ok (.invokevirtual 41, 3) := by decide +kernel
theorem dX10_measure_126 : decode cX10_measure 126 = .ok (.invokevirtual 45, 3) := by decide +kernel
theorem dX10_measure_129 : decode cX10_measure 129 = .ok (.invokestatic 48, 3) := by decide +kernel
theorem dX10_measure_132 : decode cX10_measure 132 = .ok (.iastore, 1) := by decide +kernel
theorem dX10_measure_133 : decode cX10_measure 133 = .ok (.iinc 4 1, 3) := by decide +kernel
theorem dX10_measure_136 : decode cX10_measure 136 = .ok (.goto (-81), 3) := by decide +kernel
theorem dX10_measure_139 : decode cX10_measure 139 = .ok (.iinc 3 1, 3) := by decide +kernel
theorem dX10_measure_142 : decode cX10_measure 142 = .ok (.goto (-107), 3) := by decide +kernel
theorem dX10_measure_145 : decode cX10_measure 145 = .ok (.return_, 1) := by decide +kernel
theorem dX10_apartTo_0 : decode cX10_apartTo 0 = .ok (.iload_n 2, 1) := by decide +kernel
theorem dX10_apartTo_1 : decode cX10_apartTo 1 = .ok (.bipush (-9), 2) := by decide +kernel
theorem dX10_apartTo_3 : decode cX10_apartTo 3 = .ok (.if_icmp .ne 7, 3) := by decide +kernel
theorem dX10_apartTo_6 : decode cX10_apartTo 6 = .ok (.iconst 0, 1) := by decide +kernel
theorem dX10_apartTo_7 : decode cX10_apartTo 7 = .ok (.goto 19, 3) := by decide +kernel
theorem dX10_apartTo_10 : decode cX10_apartTo 10 = .ok (.aload_n 0, 1) := by decide +kernel
theorem dX10_apartTo_11 : decode cX10_apartTo 11 = .ok (.getfield 9, 3) := by decide +kernel
theorem dX10_apartTo_14 : decode cX10_apartTo 14 = .ok (.iload_n 1, 1) := by decide +kernel
theorem dX10_apartTo_15 : decode cX10_apartTo 15 = .ok (.iaload, 1) := by decide +kernel
theorem dX10_apartTo_16 : decode cX10_apartTo 16 = .ok (.aload_n 0, 1) := by decide +kernel
theorem dX10_apartTo_17 : decode cX10_apartTo 17 = .ok (.getfield 9, 3) := by decide +kernel
theorem dX10_apartTo_20 : decode cX10_apartTo 20 = .ok (.iload_n 2, 1) := by decide +kernel
theorem dX10_apartTo_21 : decode cX10_apartTo 21 = .ok (.iaload, 1) := by decide +kernel
theorem dX10_apartTo_22 : decode cX10_apartTo 22 = .ok (.isub, 1) := by decide +kernel
theorem dX10_apartTo_23 : decode cX10_apartTo 23 = .ok (.invokestatic 53, 3) := by decide +kernel
theorem dX10_apartTo_26 : decode cX10_apartTo 26 = .ok (.ireturn, 1) := by decide +kernel
theorem dX10_stepAt_0 : decode cX10_stepAt 0 = .ok (.iload_n 2, 1) := by decide +kernel
theorem dX10_stepAt_1 : decode cX10_stepAt 1 = .ok (.ifCond .ne 10, 3) := by decide +kernel
theorem dX10_stepAt_4 : decode cX10_stepAt 4 = .ok (.aload_n 0, 1) := by decide +kernel
theorem dX10_stepAt_5 : decode cX10_stepAt 5 = .ok (.getfield 18, 3) := by decide +kernel
theorem dX10_stepAt_8 : decode cX10_stepAt 8 = .ok (.iload_n 3, 1) := by decide +kernel
theorem dX10_stepAt_9 : decode cX10_stepAt 9 = .ok (.iaload, 1) := by decide +kernel
theorem dX10_stepAt_10 : decode cX10_stepAt 10 = .ok (.ireturn, 1) := by decide +kernel
theorem dX10_stepAt_11 : decode cX10_stepAt 11 = .ok (.iload_n 2, 1) := by decide +kernel
theorem dX10_stepAt_12 : decode cX10_stepAt 12 = .ok (.iconst 1, 1) := by decide +kernel
theorem dX10_stepAt_13 : decode cX10_stepAt 13 = .ok (.if_icmp .ne 10, 3) := by decide +kernel
theorem dX10_stepAt_16 : decode cX10_stepAt 16 = .ok (.aload_n 0, 1) := by decide +kernel
theorem dX10_stepAt_17 : decode cX10_stepAt 17 = .ok (.getfield 15, 3) := by decide +kernel
theorem dX10_stepAt_20 : decode cX10_stepAt 20 = .ok (.iload_n 3, 1) := by decide +kernel
theorem dX10_stepAt_21 : decode cX10_stepAt 21 = .ok (.iaload, 1) := by decide +kernel
theorem dX10_stepAt_22 : decode cX10_stepAt 22 = .ok (.ireturn, 1) := by decide +kernel
theorem dX10_stepAt_23 : decode cX10_stepAt 23 = .ok (.iload_n 2, 1) := by decide +kernel
theorem dX10_stepAt_24 : decode cX10_stepAt 24 = .ok (.iconst 2, 1) := by decide +kernel
theorem dX10_stepAt_25 : decode cX10_stepAt 25 = .ok (.if_icmp .ne 12, 3) := by decide +kernel
theorem dX10_stepAt_28 : decode cX10_stepAt 28 = .ok (.aload_n 0, 1) := by decide +kernel
theorem dX10_stepAt_29 : decode cX10_stepAt 29 = .ok (.getfield 15, 3) := by decide +kernel
theorem dX10_stepAt_32 : decode cX10_stepAt 32 = .ok (.iload_n 1, 1) := by decide +kernel
theorem dX10_stepAt_33 : decode cX10_stepAt 33 = .ok (.iaload, 1) := by decide +kernel
theorem dX10_stepAt_34 : decode cX10_stepAt 34 = .ok (.goto 9, 3) := by decide +kernel
theorem dX10_stepAt_37 : decode cX10_stepAt 37 = .ok (.aload_n 0, 1) := by decide +kernel
theorem dX10_stepAt_38 : decode cX10_stepAt 38 = .ok (.getfield 18, 3) := by decide +kernel
theorem dX10_stepAt_41 : decode cX10_stepAt 41 = .ok (.iload_n 1, 1) := by decide +kernel
theorem dX10_stepAt_42 : decode cX10_stepAt 42 = .ok (.iaload, 1) := by decide +kernel
theorem dX10_stepAt_43 : decode cX10_stepAt 43 = .ok (.ireturn, 1) := by decide +kernel
theorem dX10_countStepsTo_0 : decode cX10_countStepsTo 0 = .ok (.iconst 0, 1) := by decide +kernel
theorem dX10_countStepsTo_1 : decode cX10_countStepsTo 1 = .ok (.istore_n 3, 1) := by decide +kernel
theorem dX10_countStepsTo_2 : decode cX10_countStepsTo 2 = .ok (.iload_n 3, 1) := by decide +kernel
theorem dX10_countStepsTo_3 : decode cX10_countStepsTo 3 = .ok (.aload_n 0, 1) := by decide +kernel
theorem dX10_countStepsTo_4 : decode cX10_countStepsTo 4 = .ok (.getfield 27, 3) := by decide +kernel
theorem dX10_countStepsTo_7 : decode cX10_countStepsTo 7 = .ok (.invokevirtual 31, 3) := by decide +kernel
theorem dX10_countStepsTo_10 : decode cX10_countStepsTo 10 = .ok (.if_icmp .ge 17, 3) := by decide +kernel
theorem dX10_countStepsTo_13 : decode cX10_countStepsTo 13 = .ok (.aload_n 0, 1) := by decide +kernel
theorem dX10_countStepsTo_14 : decode cX10_countStepsTo 14 = .ok (.getfield 21, 3) := by decide +kernel
theorem dX10_countStepsTo_17 : decode cX10_countStepsTo 17 = .ok (.iload_n 3, 1) := by decide +kernel
theorem dX10_countStepsTo_18 : decode cX10_countStepsTo 18 = .ok (.bipush (-9), 2) := by decide +kernel
theorem dX10_countStepsTo_20 : decode cX10_countStepsTo 20 = .ok (.iastore, 1) := by decide +kernel
theorem dX10_countStepsTo_21 : decode cX10_countStepsTo 21 = .ok (.iinc 3 1, 3) := by decide +kernel
theorem dX10_countStepsTo_24 : decode cX10_countStepsTo 24 = .ok (.goto (-22), 3) := by decide +kernel
theorem dX10_countStepsTo_27 : decode cX10_countStepsTo 27 = .ok (.aload_n 0, 1) := by decide +kernel
theorem dX10_countStepsTo_28 : decode cX10_countStepsTo 28 = .ok (.getfield 21, 3) := by decide +kernel
theorem dX10_countStepsTo_31 : decode cX10_countStepsTo 31 = .ok (.iload_n 1, 1) := by decide +kernel
theorem dX10_countStepsTo_32 : decode cX10_countStepsTo 32 = .ok (.iconst 0, 1) := by decide +kernel
theorem dX10_countStepsTo_33 : decode cX10_countStepsTo 33 = .ok (.iastore, 1) := by decide +kernel
theorem dX10_countStepsTo_34 : decode cX10_countStepsTo 34 = .ok (.aload_n 0, 1) := by decide +kernel
theorem dX10_countStepsTo_35 : decode cX10_countStepsTo 35 = .ok (.getfield 24, 3) := by decide +kernel
theorem dX10_countStepsTo_38 : decode cX10_countStepsTo 38 = .ok (.iconst 0, 1) := by decide +kernel
theorem dX10_countStepsTo_39 : decode cX10_countStepsTo 39 = .ok (.iload_n 1, 1) := by decide +kernel
theorem dX10_countStepsTo_40 : decode cX10_countStepsTo 40 = .ok (.iastore, 1) := by decide +kernel
theorem dX10_countStepsTo_41 : decode cX10_countStepsTo 41 = .ok (.iconst 1, 1) := by decide +kernel
theorem dX10_countStepsTo_42 : decode cX10_countStepsTo 42 = .ok (.istore_n 3, 1) := by decide +kernel
theorem dX10_countStepsTo_43 : decode cX10_countStepsTo 43 = .ok (.iconst 0, 1) := by decide +kernel
theorem dX10_countStepsTo_44 : decode cX10_countStepsTo 44 = .ok (.istore 4, 2) := by decide +kernel
theorem dX10_countStepsTo_46 : decode cX10_countStepsTo 46 = .ok (.iload 4, 2) := by decide +kernel
theorem dX10_countStepsTo_48 : decode cX10_countStepsTo 48 = .ok (.iload_n 3, 1) := by decide +kernel
theorem dX10_countStepsTo_49 : decode cX10_countStepsTo 49 = .ok (.if_icmp .ge 113, 3) := by decide +kernel
theorem dX10_countStepsTo_52 : decode cX10_countStepsTo 52 = .ok (.iload 4, 2) := by decide +kernel
theorem dX10_countStepsTo_54 : decode cX10_countStepsTo 54 = .ok (.bipush 30, 2) := by decide +kernel
theorem dX10_countStepsTo_56 : decode cX10_countStepsTo 56 = .ok (.if_icmp .ge 106, 3) := by decide +kernel
theorem dX10_countStepsTo_59 : decode cX10_countStepsTo 59 = .ok (.aload_n 0, 1) := by decide +kernel
theorem dX10_countStepsTo_60 : decode cX10_countStepsTo 60 = .ok (.getfield 24, 3) := by decide +kernel
theorem dX10_countStepsTo_63 : decode cX10_countStepsTo 63 = .ok (.iload 4, 2) := by decide +kernel
theorem dX10_countStepsTo_65 : decode cX10_countStepsTo 65 = .ok (.iaload, 1) := by decide +kernel
theorem dX10_countStepsTo_66 : decode cX10_countStepsTo 66 = .ok (.istore 5, 2) := by decide +kernel
theorem dX10_countStepsTo_68 : decode cX10_countStepsTo 68 = .ok (.iconst 0, 1) := by decide +kernel
theorem dX10_countStepsTo_69 : decode cX10_countStepsTo 69 = .ok (.istore 6, 2) := by decide +kernel
theorem dX10_countStepsTo_71 : decode cX10_countStepsTo 71 = .ok (.iload 6, 2) := by decide +kernel
theorem dX10_countStepsTo_73 : decode cX10_countStepsTo 73 = .ok (.iconst 4, 1) := by decide +kernel
theorem dX10_countStepsTo_74 : decode cX10_countStepsTo 74 = .ok (.if_icmp .ge 82, 3) := by decide +kernel
theorem dX10_countStepsTo_77 : decode cX10_countStepsTo 77 = .ok (.aload_n 0, 1) := by decide +kernel
theorem dX10_countStepsTo_78 : decode cX10_countStepsTo 78 = .ok (.getfield 27, 3) := by decide +kernel
theorem dX10_countStepsTo_81 : decode cX10_countStepsTo 81 = .ok (.iload 5, 2) := by decide +kernel
theorem dX10_countStepsTo_83 : decode cX10_countStepsTo 83 = .ok (.iload 6, 2) := by decide +kernel
theorem dX10_countStepsTo_85 : decode cX10_countStepsTo 85 = .ok (.invokevirtual 41, 3) := by decide +kernel
theorem dX10_countStepsTo_88 : decode cX10_countStepsTo 88 = .ok (.istore 7, 2) := by decide +kernel
theorem dX10_countStepsTo_90 : decode cX10_countStepsTo 90 = .ok (.iload 7, 2) := by decide +kernel
theorem dX10_countStepsTo_92 : decode cX10_countStepsTo 92 = .ok (.bipush (-9), 2) := by decide +kernel
theorem dX10_countStepsTo_94 : decode cX10_countStepsTo 94 = .ok (.if_icmp .eq 56, 3) := by decide +kernel
theorem dX10_countStepsTo_97 : decode cX10_countStepsTo 97 = .ok (.aload_n 0, 1) := by decide +kernel
theorem dX10_countStepsTo_98 : decode cX10_countStepsTo 98 = .ok (.getfield 21, 3) := by decide +kernel
theorem dX10_countStepsTo_101 : decode cX10_countStepsTo 101 = .ok (.iload 7, 2) := by decide +kernel
theorem dX10_countStepsTo_103 : decode cX10_countStepsTo 103 = .ok (.iaload, 1) := by decide +kernel
theorem dX10_countStepsTo_104 : decode cX10_countStepsTo 104 = .ok (.bipush (-9), 2) := by decide +kernel
theorem dX10_countStepsTo_106 : decode cX10_countStepsTo 106 = .ok (.if_icmp .ne 44, 3) := by decide +kernel
theorem dX10_countStepsTo_109 : decode cX10_countStepsTo 109 = .ok (.aload_n 0, 1) := by decide +kernel
theorem dX10_countStepsTo_110 : decode cX10_countStepsTo 110 = .ok (.iload 5, 2) := by decide +kernel
theorem dX10_countStepsTo_112 : decode cX10_countStepsTo 112 = .ok (.iload 6, 2) := by decide +kernel
theorem dX10_countStepsTo_114 : decode cX10_countStepsTo 114 = .ok (.iload 7, 2) := by decide +kernel
theorem dX10_countStepsTo_116 : decode cX10_countStepsTo 116 = .ok (.invokevirtual 57, 3) := by decide +kernel
theorem dX10_countStepsTo_119 : decode cX10_countStepsTo 119 = .ok (.iload_n 2, 1) := by decide +kernel
theorem dX10_countStepsTo_120 : decode cX10_countStepsTo 120 = .ok (.if_icmp .gt 30, 3) := by decide +kernel
theorem dX10_countStepsTo_123 : decode cX10_countStepsTo 123 = .ok (.aload_n 0, 1) := by decide +kernel
theorem dX10_countStepsTo_124 : decode cX10_countStepsTo 124 = .ok (.getfield 21, 3) := by decide +kernel
theorem dX10_countStepsTo_127 : decode cX10_countStepsTo 127 = .ok (.iload 7, 2) := by decide +kernel
theorem dX10_countStepsTo_129 : decode cX10_countStepsTo 129 = .ok (.aload_n 0, 1) := by decide +kernel
theorem dX10_countStepsTo_130 : decode cX10_countStepsTo 130 = .ok (.getfield 21, 3) := by decide +kernel
theorem dX10_countStepsTo_133 : decode cX10_countStepsTo 133 = .ok (.iload 5, 2) := by decide +kernel
theorem dX10_countStepsTo_135 : decode cX10_countStepsTo 135 = .ok (.iaload, 1) := by decide +kernel
theorem dX10_countStepsTo_136 : decode cX10_countStepsTo 136 = .ok (.iconst 1, 1) := by decide +kernel
theorem dX10_countStepsTo_137 : decode cX10_countStepsTo 137 = .ok (.iadd, 1) := by decide +kernel
theorem dX10_countStepsTo_138 : decode cX10_countStepsTo 138 = .ok (.iastore, 1) := by decide +kernel
theorem dX10_countStepsTo_139 : decode cX10_countStepsTo 139 = .ok (.aload_n 0, 1) := by decide +kernel
theorem dX10_countStepsTo_140 : decode cX10_countStepsTo 140 = .ok (.getfield 24, 3) := by decide +kernel
theorem dX10_countStepsTo_143 : decode cX10_countStepsTo 143 = .ok (.iload_n 3, 1) := by decide +kernel
theorem dX10_countStepsTo_144 : decode cX10_countStepsTo 144 = .ok (.iload 7, 2) := by decide +kernel
theorem dX10_countStepsTo_146 : decode cX10_countStepsTo 146 = .ok (.iastore, 1) := by decide +kernel
theorem dX10_countStepsTo_147 : decode cX10_countStepsTo 147 = .ok (.iinc 3 1, 3) := by decide +kernel
theorem dX10_countStepsTo_150 : decode cX10_countStepsTo 150 = .ok (.iinc 6 1, 3) := by decide +kernel
theorem dX10_countStepsTo_153 : decode cX10_countStepsTo 153 = .ok (.goto (-82), 3) := by decide +kernel
theorem dX10_countStepsTo_156 : decode cX10_countStepsTo 156 = .ok (.iinc 4 1, 3) := by decide +kernel
theorem dX10_countStepsTo_159 : decode cX10_countStepsTo 159 = .ok (.goto (-113), 3) := by decide +kernel
theorem dX10_countStepsTo_162 : decode cX10_countStepsTo 162 = .ok (.return_, 1) := by decide +kernel
theorem dX10_stoneBehind_0 : decode cX10_stoneBehind 0 = .ok (.iload_n 3, 1) := by decide +kernel
theorem dX10_stoneBehind_1 : decode cX10_stoneBehind 1 = .ok (.aload_n 0, 1) := by decide +kernel
theorem dX10_stoneBehind_2 : decode cX10_stoneBehind 2 = .ok (.getfield 21, 3) := by decide +kernel
theorem dX10_stoneBehind_5 : decode cX10_stoneBehind 5 = .ok (.iload_n 1, 1) := by decide +kernel
theorem dX10_stoneBehind_6 : decode cX10_stoneBehind 6 = .ok (.iaload, 1) := by decide +kernel
theorem dX10_stoneBehind_7 : decode cX10_stoneBehind 7 = .ok (.if_icmp .le 6, 3) := by decide +kernel
theorem dX10_stoneBehind_10 : decode cX10_stoneBehind 10 = .ok (.bipush (-9), 2) := by decide +kernel
theorem dX10_stoneBehind_12 : decode cX10_stoneBehind 12 = .ok (.ireturn, 1) := by decide +kernel
theorem dX10_stoneBehind_13 : decode cX10_stoneBehind 13 = .ok (.iload_n 1, 1) := by decide +kernel
theorem dX10_stoneBehind_14 : decode cX10_stoneBehind 14 = .ok (.istore 4, 2) := by decide +kernel
theorem dX10_stoneBehind_16 : decode cX10_stoneBehind 16 = .ok (.iconst 0, 1) := by decide +kernel
theorem dX10_stoneBehind_17 : decode cX10_stoneBehind 17 = .ok (.istore 5, 2) := by decide +kernel
theorem dX10_stoneBehind_19 : decode cX10_stoneBehind 19 = .ok (.iload 5, 2) := by decide +kernel
theorem dX10_stoneBehind_21 : decode cX10_stoneBehind 21 = .ok (.iload_n 3, 1) := by decide +kernel
theorem dX10_stoneBehind_22 : decode cX10_stoneBehind 22 = .ok (.if_icmp .ge 18, 3) := by decide +kernel
theorem dX10_stoneBehind_25 : decode cX10_stoneBehind 25 = .ok (.aload_n 0, 1) := by decide +kernel
theorem dX10_stoneBehind_26 : decode cX10_stoneBehind 26 = .ok (.iload 4, 2) := by decide +kernel
theorem dX10_stoneBehind_28 : decode cX10_stoneBehind 28 = .ok (.iload_n 2, 1) := by decide +kernel
theorem dX10_stoneBehind_29 : decode cX10_stoneBehind 29 = .ok (.invokevirtual 61, 3) := by decide +kernel
theorem dX10_stoneBehind_32 : decode cX10_stoneBehind 32 = .ok (.istore 4, 2) := by decide +kernel
theorem dX10_stoneBehind_34 : decode cX10_stoneBehind 34 = .ok (.iinc 5 1, 3) := by decide +kernel
theorem dX10_stoneBehind_37 : decode cX10_stoneBehind 37 = .ok (.goto (-18), 3) := by decide +kernel
theorem dX10_stoneBehind_40 : decode cX10_stoneBehind 40 = .ok (.iload 4, 2) := by decide +kernel
theorem dX10_stoneBehind_42 : decode cX10_stoneBehind 42 = .ok (.ireturn, 1) := by decide +kernel
theorem dX10_nextOnWay_0 : decode cX10_nextOnWay 0 = .ok (.iconst 0, 1) := by decide +kernel
theorem dX10_nextOnWay_1 : decode cX10_nextOnWay 1 = .ok (.istore_n 3, 1) := by decide +kernel
theorem dX10_nextOnWay_2 : decode cX10_nextOnWay 2 = .ok (.iload_n 3, 1) := by decide +kernel
theorem dX10_nextOnWay_3 : decode cX10_nextOnWay 3 = .ok (.iconst 4, 1) := by decide +kernel
theorem dX10_nextOnWay_4 : decode cX10_nextOnWay 4 = .ok (.if_icmp .ge 60, 3) := by decide +kernel
theorem dX10_nextOnWay_7 : decode cX10_nextOnWay 7 = .ok (.aload_n 0, 1) := by decide +kernel
theorem dX10_nextOnWay_8 : decode cX10_nextOnWay 8 = .ok (.getfield 27, 3) := by decide +kernel
theorem dX10_nextOnWay_11 : decode cX10_nextOnWay 11 = .ok (.iload_n 1, 1) := by decide +kernel
theorem dX10_nextOnWay_12 : decode cX10_nextOnWay 12 = .ok (.iload_n 3, 1) := by decide +kernel
theorem dX10_nextOnWay_13 : decode cX10_nextOnWay 13 = .ok (.invokevirtual 41, 3) := by decide +kernel
theorem dX10_nextOnWay_16 : decode cX10_nextOnWay 16 = .ok (.istore 4, 2) := by decide +kernel
theorem dX10_nextOnWay_18 : decode cX10_nextOnWay 18 = .ok (.iload 4, 2) := by decide +kernel
theorem dX10_nextOnWay_20 : decode cX10_nextOnWay 20 = .ok (.bipush (-9), 2) := by decide +kernel
theorem dX10_nextOnWay_22 : decode cX10_nextOnWay 22 = .ok (.if_icmp .eq 36, 3) := by decide +kernel
theorem dX10_nextOnWay_25 : decode cX10_nextOnWay 25 = .ok (.aload_n 0, 1) := by decide +kernel
theorem dX10_nextOnWay_26 : decode cX10_nextOnWay 26 = .ok (.getfield 21, 3) := by decide +kernel
theorem dX10_nextOnWay_29 : decode cX10_nextOnWay 29 = .ok (.iload 4, 2) := by decide +kernel
theorem dX10_nextOnWay_31 : decode cX10_nextOnWay 31 = .ok (.iaload, 1) := by decide +kernel
theorem dX10_nextOnWay_32 : decode cX10_nextOnWay 32 = .ok (.aload_n 0, 1) := by decide +kernel
theorem dX10_nextOnWay_33 : decode cX10_nextOnWay 33 = .ok (.getfield 21, 3) := by decide +kernel
theorem dX10_nextOnWay_36 : decode cX10_nextOnWay 36 = .ok (.iload_n 1, 1) := by decide +kernel
theorem dX10_nextOnWay_37 : decode cX10_nextOnWay 37 = .ok (.iaload, 1) := by decide +kernel
theorem dX10_nextOnWay_38 : decode cX10_nextOnWay 38 = .ok (.iconst 1, 1) := by decide +kernel
theorem dX10_nextOnWay_39 : decode cX10_nextOnWay 39 = .ok (.isub, 1) := by decide +kernel
theorem dX10_nextOnWay_40 : decode cX10_nextOnWay 40 = .ok (.if_icmp .ne 18, 3) := by decide +kernel
theorem dX10_nextOnWay_43 : decode cX10_nextOnWay 43 = .ok (.aload_n 0, 1) := by decide +kernel
theorem dX10_nextOnWay_44 : decode cX10_nextOnWay 44 = .ok (.iload_n 1, 1) := by decide +kernel
theorem dX10_nextOnWay_45 : decode cX10_nextOnWay 45 = .ok (.iload_n 3, 1) := by decide +kernel
theorem dX10_nextOnWay_46 : decode cX10_nextOnWay 46 = .ok (.iload 4, 2) := by decide +kernel
theorem dX10_nextOnWay_48 : decode cX10_nextOnWay 48 = .ok (.invokevirtual 57, 3) := by decide +kernel
theorem dX10_nextOnWay_51 : decode cX10_nextOnWay 51 = .ok (.iload_n 2, 1) := by decide +kernel
theorem dX10_nextOnWay_52 : decode cX10_nextOnWay 52 = .ok (.if_icmp .gt 6, 3) := by decide +kernel
theorem dX10_nextOnWay_55 : decode cX10_nextOnWay 55 = .ok (.iload 4, 2) := by decide +kernel
theorem dX10_nextOnWay_57 : decode cX10_nextOnWay 57 = .ok (.ireturn, 1) := by decide +kernel
theorem dX10_nextOnWay_58 : decode cX10_nextOnWay 58 = .ok (.iinc 3 1, 3) := by decide +kernel
theorem dX10_nextOnWay_61 : decode cX10_nextOnWay 61 = .ok (.goto (-59), 3) := by decide +kernel
theorem dX10_nextOnWay_64 : decode cX10_nextOnWay 64 = .ok (.iload_n 1, 1) := by decide +kernel
theorem dX10_nextOnWay_65 : decode cX10_nextOnWay 65 = .ok (.ireturn, 1) := by decide +kernel
theorem dX10_leastBetween_0 : decode cX10_leastBetween 0 = .ok (.iconst 0, 1) := by decide +kernel
theorem dX10_leastBetween_1 : decode cX10_leastBetween 1 = .ok (.istore_n 3, 1) := by decide +kernel
theorem dX10_leastBetween_2 : decode cX10_leastBetween 2 = .ok (.iload_n 3, 1) := by decide +kernel
theorem dX10_leastBetween_3 : decode cX10_leastBetween 3 = .ok (.aload_n 0, 1) := by decide +kernel
theorem dX10_leastBetween_4 : decode cX10_leastBetween 4 = .ok (.getfield 27, 3) := by decide +kernel
theorem dX10_leastBetween_7 : decode cX10_leastBetween 7 = .ok (.invokevirtual 31, 3) := by decide +kernel
theorem dX10_leastBetween_10 : decode cX10_leastBetween 10 = .ok (.if_icmp .ge 17, 3) := by decide +kernel
theorem dX10_leastBetween_13 : decode cX10_leastBetween 13 = .ok (.aload_n 0, 1) := by decide +kernel
theorem dX10_leastBetween_14 : decode cX10_leastBetween 14 = .ok (.getfield 21, 3) := by decide +kernel
theorem dX10_leastBetween_17 : decode cX10_leastBetween 17 = .ok (.iload_n 3, 1) := by decide +kernel
theorem dX10_leastBetween_18 : decode cX10_leastBetween 18 = .ok (.ldc 64, 2) := by decide +kernel
theorem dX10_leastBetween_20 : decode cX10_leastBetween 20 = .ok (.iastore, 1) := by decide +kernel
theorem dX10_leastBetween_21 : decode cX10_leastBetween 21 = .ok (.iinc 3 1, 3) := by decide +kernel
theorem dX10_leastBetween_24 : decode cX10_leastBetween 24 = .ok (.goto (-22), 3) := by decide +kernel
theorem dX10_leastBetween_27 : decode cX10_leastBetween 27 = .ok (.aload_n 0, 1) := by decide +kernel
theorem dX10_leastBetween_28 : decode cX10_leastBetween 28 = .ok (.getfield 21, 3) := by decide +kernel
theorem dX10_leastBetween_31 : decode cX10_leastBetween 31 = .ok (.iload_n 1, 1) := by decide +kernel
theorem dX10_leastBetween_32 : decode cX10_leastBetween 32 = .ok (.iconst 0, 1) := by decide +kernel
theorem dX10_leastBetween_33 : decode cX10_leastBetween 33 = .ok (.iastore, 1) := by decide +kernel
theorem dX10_leastBetween_34 : decode cX10_leastBetween 34 = .ok (.iconst 1, 1) := by decide +kernel
theorem dX10_leastBetween_35 : decode cX10_leastBetween 35 = .ok (.istore_n 3, 1) := by decide +kernel
theorem dX10_leastBetween_36 : decode cX10_leastBetween 36 = .ok (.iconst 0, 1) := by decide +kernel
theorem dX10_leastBetween_37 : decode cX10_leastBetween 37 = .ok (.istore 4, 2) := by decide +kernel
theorem dX10_leastBetween_39 : decode cX10_leastBetween 39 = .ok (.iload_n 3, 1) := by decide +kernel
theorem dX10_leastBetween_40 : decode cX10_leastBetween 40 = .ok (.ifCond .eq 78, 3) := by decide +kernel
theorem dX10_leastBetween_43 : decode cX10_leastBetween 43 = .ok (.iload 4, 2) := by decide +kernel
theorem dX10_leastBetween_45 : decode cX10_leastBetween 45 = .ok (.bipush 30, 2) := by decide +kernel
theorem dX10_leastBetween_47 : decode cX10_leastBetween 47 = .ok (.if_icmp .ge 71, 3) := by decide +kernel
theorem dX10_leastBetween_50 : decode cX10_leastBetween 50 = .ok (.iconst 0, 1) := by decide +kernel
theorem dX10_leastBetween_51 : decode cX10_leastBetween 51 = .ok (.istore_n 3, 1) := by decide +kernel
theorem dX10_leastBetween_52 : decode cX10_leastBetween 52 = .ok (.iconst 0, 1) := by decide +kernel
theorem dX10_leastBetween_53 : decode cX10_leastBetween 53 = .ok (.istore 5, 2) := by decide +kernel
theorem dX10_leastBetween_55 : decode cX10_leastBetween 55 = .ok (.iload 5, 2) := by decide +kernel
theorem dX10_leastBetween_57 : decode cX10_leastBetween 57 = .ok (.aload_n 0, 1) := by decide +kernel
theorem dX10_leastBetween_58 : decode cX10_leastBetween 58 = .ok (.getfield 27, 3) := by decide +kernel
theorem dX10_leastBetween_61 : decode cX10_leastBetween 61 = .ok (.invokevirtual 31, 3) := by decide +kernel
theorem dX10_leastBetween_64 : decode cX10_leastBetween 64 = .ok (.if_icmp .ge 48, 3) := by decide +kernel
theorem dX10_leastBetween_67 : decode cX10_leastBetween 67 = .ok (.aload_n 0, 1) := by decide +kernel
theorem dX10_leastBetween_68 : decode cX10_leastBetween 68 = .ok (.iload 5, 2) := by decide +kernel
theorem dX10_leastBetween_70 : decode cX10_leastBetween 70 = .ok (.invokevirtual 65, 3) := by decide +kernel
theorem dX10_leastBetween_73 : decode cX10_leastBetween 73 = .ok (.istore 6, 2) := by decide +kernel
theorem dX10_leastBetween_75 : decode cX10_leastBetween 75 = .ok (.iload_n 3, 1) := by decide +kernel
theorem dX10_leastBetween_76 : decode cX10_leastBetween 76 = .ok (.ifCond .ne 15, 3) := by decide +kernel
theorem dX10_leastBetween_79 : decode cX10_leastBetween 79 = .ok (.iload 6, 2) := by decide +kernel
theorem dX10_leastBetween_81 : decode cX10_leastBetween 81 = .ok (.aload_n 0, 1) := by decide +kernel
theorem dX10_leastBetween_82 : decode cX10_leastBetween 82 = .ok (.getfield 21, 3) := by decide +kernel
theorem dX10_leastBetween_85 : decode cX10_leastBetween 85 = .ok (.iload 5, 2) := by decide +kernel
theorem dX10_leastBetween_87 : decode cX10_leastBetween 87 = .ok (.iaload, 1) := by decide +kernel
theorem dX10_leastBetween_88 : decode cX10_leastBetween 88 = .ok (.if_icmp .ge 7, 3) := by decide +kernel
theorem dX10_leastBetween_91 : decode cX10_leastBetween 91 = .ok (.iconst 1, 1) := by decide +kernel
theorem dX10_leastBetween_92 : decode cX10_leastBetween 92 = .ok (.goto 4, 3) := by decide +kernel
theorem dX10_leastBetween_95 : decode cX10_leastBetween 95 = .ok (.iconst 0, 1) := by decide +kernel
theorem dX10_leastBetween_96 : decode cX10_leastBetween 96 = .ok (.istore_n 3, 1) := by decide +kernel
theorem dX10_leastBetween_97 : decode cX10_leastBetween 97 = .ok (.aload_n 0, 1) := by decide +kernel
theorem dX10_leastBetween_98 : decode cX10_leastBetween 98 = .ok (.getfield 21, 3) := by decide +kernel
theorem dX10_leastBetween_101 : decode cX10_leastBetween 101 = .ok (.iload 5, 2) := by decide +kernel
theorem dX10_leastBetween_103 : decode cX10_leastBetween 103 = .ok (.iload 6, 2) := by decide +kernel
theorem dX10_leastBetween_105 : decode cX10_leastBetween 105 = .ok (.iastore, 1) := by decide +kernel
theorem dX10_leastBetween_106 : decode cX10_leastBetween 106 = .ok (.iinc 5 1, 3) := by decide +kernel
theorem dX10_leastBetween_109 : decode cX10_leastBetween 109 = .ok (.goto (-54), 3) := by decide +kernel
theorem dX10_leastBetween_112 : decode cX10_leastBetween 112 = .ok (.iinc 4 1, 3) := by decide +kernel
theorem dX10_leastBetween_115 : decode cX10_leastBetween 115 = .ok (.goto (-76), 3) := by decide +kernel
theorem dX10_leastBetween_118 : decode cX10_leastBetween 118 = .ok (.aload_n 0, 1) := by decide +kernel
theorem dX10_leastBetween_119 : decode cX10_leastBetween 119 = .ok (.getfield 21, 3) := by decide +kernel
theorem dX10_leastBetween_122 : decode cX10_leastBetween 122 = .ok (.iload_n 2, 1) := by decide +kernel
theorem dX10_leastBetween_123 : decode cX10_leastBetween 123 = .ok (.iaload, 1) := by decide +kernel
theorem dX10_leastBetween_124 : decode cX10_leastBetween 124 = .ok (.ireturn, 1) := by decide +kernel
theorem dX10_leastByNeighbours_0 : decode cX10_leastByNeighbours 0 = .ok (.aload_n 0, 1) := by decide +kernel
theorem dX10_leastByNeighbours_1 : decode cX10_leastByNeighbours 1 = .ok (.getfield 21, 3) := by decide +kernel
theorem dX10_leastByNeighbours_4 : decode cX10_leastByNeighbours 4 = .ok (.iload_n 1, 1) := by decide +kernel
theorem dX10_leastByNeighbours_5 : decode cX10_leastByNeighbours 5 = .ok (.iaload, 1) := by decide +kernel
theorem dX10_leastByNeighbours_6 : decode cX10_leastByNeighbours 6 = .ok (.istore_n 2, 1) := by decide +kernel
theorem dX10_leastByNeighbours_7 : decode cX10_leastByNeighbours 7 = .ok (.iconst 0, 1) := by decide +kernel
theorem dX10_leastByNeighbours_8 : decode cX10_leastByNeighbours 8 = .ok (.istore_n 3, 1) := by decide +kernel
theorem dX10_leastByNeighbours_9 : decode cX10_leastByNeighbours 9 = .ok (.iload_n 3, 1) := by decide +kernel
theorem dX10_leastByNeighbours_10 : decode cX10_leastByNeighbours 10 = .ok (.iconst 4, 1) := by decide +kernel
theorem dX10_leastByNeighbours_11 : decode cX10_leastByNeighbours 11 = .ok (.if_icmp .ge 50, 3) := by decide +kernel
theorem dX10_leastByNeighbours_14 : decode cX10_leastByNeighbours 14 = .ok (.aload_n 0, 1) := by decide +kernel
theorem dX10_leastByNeighbours_15 : decode cX10_leastByNeighbours 15 = .ok (.getfield 27, 3) := by decide +kernel
theorem dX10_leastByNeighbours_18 : decode cX10_leastByNeighbours 18 = .ok (.iload_n 1, 1) := by decide +kernel
theorem dX10_leastByNeighbours_19 : decode cX10_leastByNeighbours 19 = .ok (.iload_n 3, 1) := by decide +kernel
theorem dX10_leastByNeighbours_20 : decode cX10_leastByNeighbours 20 = .ok (.invokevirtual 41, 3) := by decide +kernel
theorem dX10_leastByNeighbours_23 : decode cX10_leastByNeighbours 23 = .ok (.istore 4, 2) := by decide +kernel
theorem dX10_leastByNeighbours_25 : decode cX10_leastByNeighbours 25 = .ok (.iload 4, 2) := by decide +kernel
theorem dX10_leastByNeighbours_27 : decode cX10_leastByNeighbours 27 = .ok (.bipush (-9), 2) := by decide +kernel
theorem dX10_leastByNeighbours_29 : decode cX10_leastByNeighbours 29 = .ok (.if_icmp .eq 26, 3) := by decide +kernel
theorem dX10_leastByNeighbours_32 : decode cX10_leastByNeighbours 32 = .ok (.iload_n 2, 1) := by decide +kernel
theorem dX10_leastByNeighbours_33 : decode cX10_leastByNeighbours 33 = .ok (.aload_n 0, 1) := by decide +kernel
theorem dX10_leastByNeighbours_34 : decode cX10_leastByNeighbours 34 = .ok (.getfield 21, 3) := by decide +kernel
theorem dX10_leastByNeighbours_37 : decode cX10_leastByNeighbours 37 = .ok (.iload 4, 2) := by decide +kernel
theorem dX10_leastByNeighbours_39 : decode cX10_leastByNeighbours 39 = .ok (.iaload, 1) := by decide +kernel
theorem dX10_leastByNeighbours_40 : decode cX10_leastByNeighbours 40 = .ok (.aload_n 0, 1) := by decide +kernel
theorem dX10_leastByNeighbours_41 : decode cX10_leastByNeighbours 41 = .ok (.iload_n 1, 1) := by decide +kernel
theorem dX10_leastByNeighbours_42 : decode cX10_leastByNeighbours 42 = .ok (.iload_n 3, 1) := by decide +kernel
theorem dX10_leastByNeighbours_43 : decode cX10_leastByNeighbours 43 = .ok (.iload 4, 2) := by decide +kernel
theorem dX10_leastByNeighbours_45 : decode cX10_leastByNeighbours 45 = .ok (.invokevirtual 57, 3) := by decide +kernel
theorem dX10_leastByNeighbours_48 : decode cX10_leastByNeighbours 48 = .ok (.invokestatic 48, 3) := by decide +kernel
theorem dX10_leastByNeighbours_51 : decode cX10_leastByNeighbours 51 = .ok (.invokestatic 68, 3) := by decide +kernel
theorem dX10_leastByNeighbours_54 : decode cX10_leastByNeighbours 54 = .ok (.istore_n 2, 1) := by decide +kernel
theorem dX10_leastByNeighbours_55 : decode cX10_leastByNeighbours 55 = .ok (.iinc 3 1, 3) := by decide +kernel
theorem dX10_leastByNeighbours_58 : decode cX10_leastByNeighbours 58 = .ok (.goto (-49), 3) := by decide +kernel
theorem dX10_leastByNeighbours_61 : decode cX10_leastByNeighbours 61 = .ok (.iload_n 2, 1) := by decide +kernel
theorem dX10_leastByNeighbours_62 : decode cX10_leastByNeighbours 62 = .ok (.ireturn, 1) := by decide +kernel
theorem dX11_init_0 : decode cX11_init 0 = .ok (.aload_n 0, 1) := by decide +kernel
theorem dX11_init_1 : decode cX11_init 1 = .ok (.invokespecial 3, 3) := by decide +kernel
theorem dX11_init_4 : decode cX11_init 4 = .ok (.aload_n 0, 1) := by decide +kernel
theorem dX11_init_5 : decode cX11_init 5 = .ok (.new 9, 3) := by decide +kernel
theorem dX11_init_8 : decode cX11_init 8 = .ok (.dup, 1) := by decide +kernel
theorem dX11_init_9 : decode cX11_init 9 = .ok (.invokespecial 11, 3) := by decide +kernel
theorem dX11_init_12 : decode cX11_init 12 = .ok (.putfield 12, 3) := by decide +kernel
theorem dX11_init_15 : decode cX11_init 15 = .ok (.aload_n 0, 1) := by decide +kernel
theorem dX11_init_16 : decode cX11_init 16 = .ok (.new 18, 3) := by decide +kernel
theorem dX11_init_19 : decode cX11_init 19 = .ok (.dup, 1) := by decide +kernel
theorem dX11_init_20 : decode cX11_init 20 = .ok (.invokespecial 20, 3) := by decide +kernel
theorem dX11_init_23 : decode cX11_init 23 = .ok (.putfield 21, 3) := by decide +kernel
theorem dX11_init_26 : decode cX11_init 26 = .ok (.aload_n 0, 1) := by decide +kernel
theorem dX11_init_27 : decode cX11_init 27 = .ok (.new 25, 3) := by decide +kernel
theorem dX11_init_30 : decode cX11_init 30 = .ok (.dup, 1) := by decide +kernel
theorem dX11_init_31 : decode cX11_init 31 = .ok (.aload_n 0, 1) := by decide +kernel
theorem dX11_init_32 : decode cX11_init 32 = .ok (.getfield 21, 3) := by decide +kernel
theorem dX11_init_35 : decode cX11_init 35 = .ok (.invokespecial 27, 3) := by decide +kernel
theorem dX11_init_38 : decode cX11_init 38 = .ok (.putfield 30, 3) := by decide +kernel
theorem dX11_init_41 : decode cX11_init 41 = .ok (.aload_n 0, 1) := by decide +kernel
theorem dX11_init_42 : decode cX11_init 42 = .ok (.new 34, 3) := by decide +kernel
theorem dX11_init_45 : decode cX11_init 45 = .ok (.dup, 1) := by decide +kernel
theorem dX11_init_46 : decode cX11_init 46 = .ok (.aload_n 0, 1) := by decide +kernel
theorem dX11_init_47 : decode cX11_init 47 = .ok (.getfield 21, 3) := by decide +kernel
theorem dX11_init_50 : decode cX11_init 50 = .ok (.invokespecial 36, 3) := by decide +kernel
theorem dX11_init_53 : decode cX11_init 53 = .ok (.putfield 37, 3) := by decide +kernel
theorem dX11_init_56 : decode cX11_init 56 = .ok (.aload_n 0, 1) := by decide +kernel
theorem dX11_init_57 : decode cX11_init 57 = .ok (.new 41, 3) := by decide +kernel
theorem dX11_init_60 : decode cX11_init 60 = .ok (.dup, 1) := by decide +kernel
theorem dX11_init_61 : decode cX11_init 61 = .ok (.aload_n 0, 1) := by decide +kernel
theorem dX11_init_62 : decode cX11_init 62 = .ok (.getfield 21, 3) := by decide +kernel
theorem dX11_init_65 : decode cX11_init 65 = .ok (.invokespecial 43, 3) := by decide +kernel
theorem dX11_init_68 : decode cX11_init 68 = .ok (.putfield 44, 3) := by decide +kernel
theorem dX11_init_71 : decode cX11_init 71 = .ok (.aload_n 0, 1) := by decide +kernel
theorem dX11_init_72 : decode cX11_init 72 = .ok (.new 48, 3) := by decide +kernel
theorem dX11_init_75 : decode cX11_init 75 = .ok (.dup, 1) := by decide +kernel
theorem dX11_init_76 : decode cX11_init 76 = .ok (.aload_n 0, 1) := by decide +kernel
theorem dX11_init_77 : decode cX11_init 77 = .ok (.getfield 21, 3) := by decide +kernel
theorem dX11_init_80 : decode cX11_init 80 = .ok (.invokespecial 50, 3) := by decide +kernel
theorem dX11_init_83 : decode cX11_init 83 = .ok (.putfield 51, 3) := by decide +kernel
theorem dX11_init_86 : decode cX11_init 86 = .ok (.aload_n 0, 1) := by decide +kernel
theorem dX11_init_87 : decode cX11_init 87 = .ok (.new 55, 3) := by decide +kernel
theorem dX11_init_90 : decode cX11_init 90 = .ok (.dup, 1) := by decide +kernel
theorem dX11_init_91 : decode cX11_init 91 = .ok (.aload_n 0, 1) := by decide +kernel
theorem dX11_init_92 : decode cX11_init 92 = .ok (.getfield 21, 3) := by decide +kernel
theorem dX11_init_95 : decode cX11_init 95 = .ok (.invokespecial 57, 3) := by decide +kernel
theorem dX11_init_98 : decode cX11_init 98 = .ok (.putfield 58, 3) := by decide +kernel
theorem dX11_init_101 : decode cX11_init 101 = .ok (.aload_n 0, 1) := by decide +kernel
theorem dX11_init_102 : decode cX11_init 102 = .ok (.iconst 4, 1) := by decide +kernel
theorem dX11_init_103 : decode cX11_init 103 = .ok (.anewarray 62, 3) := by decide +kernel
theorem dX11_init_106 : decode cX11_init 106 = .ok (.dup, 1) := by decide +kernel
theorem dX11_init_107 : decode cX11_init 107 = .ok (.iconst 0, 1) := by decide +kernel
theorem dX11_init_108 : decode cX11_init 108 = .ok (.new 62, 3) := by decide +kernel
theorem dX11_init_111 : decode cX11_init 111 = .ok (.dup, 1) := by decide +kernel
theorem dX11_init_112 : decode cX11_init 112 = .ok (.invokespecial 64, 3) := by decide +kernel
theorem dX11_init_115 : decode cX11_init 115 = .ok (.aastore, 1) := by decide +kernel
theorem dX11_init_116 : decode cX11_init 116 = .ok (.dup, 1) := by decide +kernel
theorem dX11_init_117 : decode cX11_init 117 = .ok (.iconst 1, 1) := by decide +kernel
theorem dX11_init_118 : decode cX11_init 118 = .ok (.new 62, 3) := by decide +kernel
theorem dX11_init_121 : decode cX11_init 121 = .ok (.dup, 1) := by decide +kernel
theorem dX11_init_122 : decode cX11_init 122 = .ok (.invokespecial 64, 3) := by decide +kernel
theorem dX11_init_125 : decode cX11_init 125 = .ok (.aastore, 1) := by decide +kernel
theorem dX11_init_126 : decode cX11_init 126 = .ok (.dup, 1) := by decide +kernel
theorem dX11_init_127 : decode cX11_init 127 = .ok (.iconst 2, 1) := by decide +kernel
theorem dX11_init_128 : decode cX11_init 128 = .ok (.new 62, 3) := by decide +kernel
theorem dX11_init_131 : decode cX11_init 131 = .ok (.dup, 1) := by decide +kernel
theorem dX11_init_132 : decode cX11_init 132 = .ok (.invokespecial 64, 3) := by decide +kernel
theorem dX11_init_135 : decode cX11_init 135 = .ok (.aastore, 1) := by decide +kernel
theorem dX11_init_136 : decode cX11_init 136 = .ok (.dup, 1) := by decide +kernel
theorem dX11_init_137 : decode cX11_init 137 = .ok (.iconst 3, 1) := by decide +kernel
theorem dX11_init_138 : decode cX11_init 138 = .ok (.new 62, 3) := by decide +kernel
theorem dX11_init_141 : decode cX11_init 141 = .ok (.dup, 1) := by decide +kernel
theorem dX11_init_142 : decode cX11_init 142 = .ok (.invokespecial 64, 3) := by decide +kernel
theorem dX11_init_145 : decode cX11_init 145 = .ok (.aastore, 1) := by decide +kernel
theorem dX11_init_146 : decode cX11_init 146 = .ok (.putfield 65, 3) := by decide +kernel
theorem dX11_init_149 : decode cX11_init 149 = .ok (.return_, 1) := by decide +kernel
theorem dX11_square_0 : decode cX11_square 0 = .ok (.aload_n 0, 1) := by decide +kernel
theorem dX11_square_1 : decode cX11_square 1 = .ok (.iconst 0, 1) := by decide +kernel
theorem dX11_square_2 : decode cX11_square 2 = .ok (.putfield 69, 3) := by decide +kernel
theorem dX11_square_5 : decode cX11_square 5 = .ok (.iload_n 1, 1) := by decide +kernel
theorem dX11_square_6 : decode cX11_square 6 = .ok (.invokestatic 73, 3) := by decide +kernel
theorem dX11_square_9 : decode cX11_square 9 = .ok (.ifCond .ne 5, 3) := by decide +kernel
theorem dX11_square_12 : decode cX11_square 12 = .ok (.iconst (-1), 1) := by decide +kernel
theorem dX11_square_13 : decode cX11_square 13 = .ok (.ireturn, 1) := by decide +kernel
theorem dX11_square_14 : decode cX11_square 14 = .ok (.iload_n 2, 1) := by decide +kernel
theorem dX11_square_15 : decode cX11_square 15 = .ok (.invokestatic 77, 3) := by decide +kernel
theorem dX11_square_18 : decode cX11_square 18 = .ok (.ifCond .ne 6, 3) := by decide +kernel
theorem dX11_square_21 : decode cX11_square 21 = .ok (.bipush (-2), 2) := by decide +kernel
theorem dX11_square_23 : decode cX11_square 23 = .ok (.ireturn, 1) := by decide +kernel
theorem dX11_square_24 : decode cX11_square 24 = .ok (.aload_n 0, 1) := by decide +kernel
theorem dX11_square_25 : decode cX11_square 25 = .ok (.getfield 65, 3) := by decide +kernel
theorem dX11_square_28 : decode cX11_square 28 = .ok (.iload_n 1, 1) := by decide +kernel
theorem dX11_square_29 : decode cX11_square 29 = .ok (.aaload, 1) := by decide +kernel
theorem dX11_square_30 : decode cX11_square 30 = .ok (.astore 5, 2) := by decide +kernel
theorem dX11_square_32 : decode cX11_square 32 = .ok (.aload 5, 2) := by decide +kernel
theorem dX11_square_34 : decode cX11_square 34 = .ok (.iload_n 2, 1) := by decide +kernel
theorem dX11_square_35 : decode cX11_square 35 = .ok (.invokevirtual 80, 3) := by decide +kernel
theorem dX11_square_38 : decode cX11_square 38 = .ok (.istore 6, 2) := by decide +kernel
theorem dX11_square_40 : decode cX11_square 40 = .ok (.iload 6, 2) := by decide +kernel
theorem dX11_square_42 : decode cX11_square 42 = .ok (.ifCond .eq 10, 3) := by decide +kernel
theorem dX11_square_45 : decode cX11_square 45 = .ok (.aload_n 0, 1) := by decide +kernel
theorem dX11_square_46 : decode cX11_square 46 = .ok (.iload 6, 2) := by decide +kernel
theorem dX11_square_48 : decode cX11_square 48 = .ok (.invokevirtual 84, 3) := by decide +kernel
theorem dX11_square_51 : decode cX11_square 51 = .ok (.ireturn, 1) := by decide +kernel
theorem dX11_square_52 : decode cX11_square 52 = .ok (.iload 4, 2) := by decide +kernel
theorem dX11_square_54 : decode cX11_square 54 = .ok (.ifCond .ge 9, 3) := by decide +kernel
theorem dX11_square_57 : decode cX11_square 57 = .ok (.aload_n 0, 1) := by decide +kernel
theorem dX11_square_58 : decode cX11_square 58 = .ok (.iconst 4, 1) := by decide +kernel
theorem dX11_square_59 : decode cX11_square 59 = .ok (.invokevirtual 84, 3) := by decide +kernel
theorem dX11_square_62 : decode cX11_square 62 = .ok (.ireturn, 1) := by decide +kernel
theorem dX11_square_63 : decode cX11_square 63 = .ok (.aload 5, 2) := by decide +kernel
theorem dX11_square_65 : decode cX11_square 65 = .ok (.iload_n 3, 1) := by decide +kernel
theorem dX11_square_66 : decode cX11_square 66 = .ok (.iload 4, 2) := by decide +kernel
theorem dX11_square_68 : decode cX11_square 68 = .ok (.invokevirtual 87, 3) := by decide +kernel
theorem dX11_square_71 : decode cX11_square 71 = .ok (.ifCond .ne 9, 3) := by decide +kernel
theorem dX11_square_74 : decode cX11_square 74 = .ok (.aload_n 0, 1) := by decide +kernel
theorem dX11_square_75 : decode cX11_square 75 = .ok (.iconst 3, 1) := by decide +kernel
theorem dX11_square_76 : decode cX11_square 76 = .ok (.invokevirtual 84, 3) := by decide +kernel
theorem dX11_square_79 : decode cX11_square 79 = .ok (.ireturn, 1) := by decide +kernel
theorem dX11_square_80 : decode cX11_square 80 = .ok (.aload 5, 2) := by decide +kernel
theorem dX11_square_82 : decode cX11_square 82 = .ok (.iload_n 3, 1) := by decide +kernel
theorem dX11_square_83 : decode cX11_square 83 = .ok (.iload 4, 2) := by decide +kernel
theorem dX11_square_85 : decode cX11_square 85 = .ok (.invokestatic 91, 3) := by decide +kernel
theorem dX11_square_88 : decode cX11_square 88 = .ok (.istore 7, 2) := by decide +kernel
theorem dX11_square_90 : decode cX11_square 90 = .ok (.iload 7, 2) := by decide +kernel
theorem dX11_square_92 : decode cX11_square 92 = .ok (.bipush (-9), 2) := by decide +kernel
theorem dX11_square_94 : decode cX11_square 94 = .ok (.if_icmp .eq 9, 3) := by decide +kernel
theorem dX11_square_97 : decode cX11_square 97 = .ok (.bipush (-100), 2) := by decide +kernel
theorem dX11_square_99 : decode cX11_square 99 = .ok (.iload 7, 2) := by decide +kernel
theorem dX11_square_101 : decode cX11_square 101 = .ok (.isub, 1) := by decide +kernel
theorem dX11_square_102 : decode cX11_square 102 = .ok (.ireturn, 1) := by decide +kernel
theorem dX11_square_103 : decode cX11_square 103 = .ok (.aload_n 0, 1) := by decide +kernel
theorem dX11_square_104 : decode cX11_square 104 = .ok (.getfield 21, 3) := by decide +kernel
theorem dX11_square_107 : decode cX11_square 107 = .ok (.aload 5, 2) := by decide +kernel
theorem dX11_square_109 : decode cX11_square 109 = .ok (.iload_n 3, 1) := by decide +kernel
theorem dX11_square_110 : decode cX11_square 110 = .ok (.invokevirtual 95, 3) := by decide +kernel
theorem dX11_square_113 : decode cX11_square 113 = .ok (.aload_n 0, 1) := by decide +kernel
theorem dX11_square_114 : decode cX11_square 114 = .ok (.getfield 58, 3) := by decide +kernel
theorem dX11_square_117 : decode cX11_square 117 = .ok (.invokevirtual 99, 3) := by decide +kernel
theorem dX11_square_120 : decode cX11_square 120 = .ok (.aload_n 0, 1) := by decide +kernel
theorem dX11_square_121 : decode cX11_square 121 = .ok (.getfield 21, 3) := by decide +kernel
theorem dX11_square_124 : decode cX11_square 124 = .ok (.invokevirtual 102, 3) := by decide +kernel
theorem dX11_square_127 : decode cX11_square 127 = .ok (.ireturn, 1) := by decide +kernel
theorem dX11_ofStone_0 : decode cX11_ofStone 0 = .ok (.aload_n 0, 1) := by decide +kernel
theorem dX11_ofStone_1 : decode cX11_ofStone 1 = .ok (.getfield 21, 3) := by decide +kernel
theorem dX11_ofStone_4 : decode cX11_ofStone 4 = .ok (.iload_n 1, 1) := by decide +kernel
theorem dX11_ofStone_5 : decode cX11_ofStone 5 = .ok (.invokevirtual 106, 3) := by decide +kernel
theorem dX11_ofStone_8 : decode cX11_ofStone 8 = .ok (.ifCond .ne 5, 3) := by decide +kernel
theorem dX11_ofStone_11 : decode cX11_ofStone 11 = .ok (.iconst (-1), 1) := by decide +kernel
theorem dX11_ofStone_12 : decode cX11_ofStone 12 = .ok (.ireturn, 1) := by decide +kernel
theorem dX11_ofStone_13 : decode cX11_ofStone 13 = .ok (.iload_n 2, 1) := by decide +kernel
theorem dX11_ofStone_14 : decode cX11_ofStone 14 = .ok (.tableswitch 56 0 2 #[26, 36, 46], 26) := by decide +kernel
theorem dX11_ofStone_40 : decode cX11_ofStone 40 = .ok (.aload_n 0, 1) := by decide +kernel
theorem dX11_ofStone_41 : decode cX11_ofStone 41 = .ok (.getfield 21, 3) := by decide +kernel
theorem dX11_ofStone_44 : decode cX11_ofStone 44 = .ok (.getfield 109, 3) := by decide +kernel
theorem dX11_ofStone_47 : decode cX11_ofStone 47 = .ok (.iload_n 1, 1) := by decide +kernel
theorem dX11_ofStone_48 : decode cX11_ofStone 48 = .ok (.iaload, 1) := by decide +kernel
theorem dX11_ofStone_49 : decode cX11_ofStone 49 = .ok (.ireturn, 1) := by decide +kernel
theorem dX11_ofStone_50 : decode cX11_ofStone 50 = .ok (.aload_n 0, 1) := by decide +kernel
theorem dX11_ofStone_51 : decode cX11_ofStone 51 = .ok (.getfield 21, 3) := by decide +kernel
theorem dX11_ofStone_54 : decode cX11_ofStone 54 = .ok (.getfield 113, 3) := by decide +kernel
theorem dX11_ofStone_57 : decode cX11_ofStone 57 = .ok (.iload_n 1, 1) := by decide +kernel
theorem dX11_ofStone_58 : decode cX11_ofStone 58 = .ok (.iaload, 1) := by decide +kernel
theorem dX11_ofStone_59 : decode cX11_ofStone 59 = .ok (.ireturn, 1) := by decide +kernel
theorem dX11_ofStone_60 : decode cX11_ofStone 60 = .ok (.aload_n 0, 1) := by decide +kernel
theorem dX11_ofStone_61 : decode cX11_ofStone 61 = .ok (.getfield 21, 3) := by decide +kernel
theorem dX11_ofStone_64 : decode cX11_ofStone 64 = .ok (.getfield 116, 3) := by decide +kernel
theorem dX11_ofStone_67 : decode cX11_ofStone 67 = .ok (.iload_n 1, 1) := by decide +kernel
theorem dX11_ofStone_68 : decode cX11_ofStone 68 = .ok (.iaload, 1) := by decide +kernel
theorem dX11_ofStone_69 : decode cX11_ofStone 69 = .ok (.ireturn, 1) := by decide +kernel
theorem dX11_ofStone_70 : decode cX11_ofStone 70 = .ok (.bipush (-2), 2) := by decide +kernel
theorem dX11_ofStone_72 : decode cX11_ofStone 72 = .ok (.ireturn, 1) := by decide +kernel
theorem dX11_month_0 : decode cX11_month 0 = .ok (.iload_n 1, 1) := by decide +kernel
theorem dX11_month_1 : decode cX11_month 1 = .ok (.invokestatic 119, 3) := by decide +kernel
theorem dX11_month_4 : decode cX11_month 4 = .ok (.ifCond .ne 5, 3) := by decide +kernel
theorem dX11_month_7 : decode cX11_month 7 = .ok (.iconst (-1), 1) := by decide +kernel
theorem dX11_month_8 : decode cX11_month 8 = .ok (.ireturn, 1) := by decide +kernel
theorem dX11_month_9 : decode cX11_month 9 = .ok (.iload_n 2, 1) := by decide +kernel
theorem dX11_month_10 : decode cX11_month 10 = .ok (.iconst 0, 1) := by decide +kernel
theorem dX11_month_11 : decode cX11_month 11 = .ok (.bipush 9, 2) := by decide +kernel
theorem dX11_month_13 : decode cX11_month 13 = .ok (.invokestatic 122, 3) := by decide +kernel
theorem dX11_month_16 : decode cX11_month 16 = .ok (.ifCond .eq 13, 3) := by decide +kernel
theorem dX11_month_19 : decode cX11_month 19 = .ok (.iload_n 3, 1) := by decide +kernel
theorem dX11_month_20 : decode cX11_month 20 = .ok (.iconst 0, 1) := by decide +kernel
theorem dX11_month_21 : decode cX11_month 21 = .ok (.bipush 9, 2) := by decide +kernel
theorem dX11_month_23 : decode cX11_month 23 = .ok (.invokestatic 122, 3) := by decide +kernel
theorem dX11_month_26 : decode cX11_month 26 = .ok (.ifCond .ne 6, 3) := by decide +kernel
theorem dX11_month_29 : decode cX11_month 29 = .ok (.bipush (-2), 2) := by decide +kernel
theorem dX11_month_31 : decode cX11_month 31 = .ok (.ireturn, 1) := by decide +kernel
theorem dX11_month_32 : decode cX11_month 32 = .ok (.aload_n 0, 1) := by decide +kernel
theorem dX11_month_33 : decode cX11_month 33 = .ok (.getfield 21, 3) := by decide +kernel
theorem dX11_month_36 : decode cX11_month 36 = .ok (.invokevirtual 126, 3) := by decide +kernel
theorem dX11_month_39 : decode cX11_month 39 = .ok (.ifCond .eq 6, 3) := by decide +kernel
theorem dX11_month_42 : decode cX11_month 42 = .ok (.bipush (-3), 2) := by decide +kernel
theorem dX11_month_44 : decode cX11_month 44 = .ok (.ireturn, 1) := by decide +kernel
theorem dX11_month_45 : decode cX11_month 45 = .ok (.bipush 10, 2) := by decide +kernel
theorem dX11_month_47 : decode cX11_month 47 = .ok (.aload_n 0, 1) := by decide +kernel
theorem dX11_month_48 : decode cX11_month 48 = .ok (.getfield 21, 3) := by decide +kernel
theorem dX11_month_51 : decode cX11_month 51 = .ok (.getfield 130, 3) := by decide +kernel
theorem dX11_month_54 : decode cX11_month 54 = .ok (.iload_n 1, 1) := by decide +kernel
theorem dX11_month_55 : decode cX11_month 55 = .ok (.iaload, 1) := by decide +kernel
theorem dX11_month_56 : decode cX11_month 56 = .ok (.imul, 1) := by decide +kernel
theorem dX11_month_57 : decode cX11_month 57 = .ok (.aload_n 0, 1) := by decide +kernel
theorem dX11_month_58 : decode cX11_month 58 = .ok (.getfield 21, 3) := by decide +kernel
theorem dX11_month_61 : decode cX11_month 61 = .ok (.getfield 133, 3) := by decide +kernel
theorem dX11_month_64 : decode cX11_month 64 = .ok (.iload_n 1, 1) := by decide +kernel
theorem dX11_month_65 : decode cX11_month 65 = .ok (.iaload, 1) := by decide +kernel
theorem dX11_month_66 : decode cX11_month 66 = .ok (.iadd, 1) := by decide +kernel
theorem dX11_month_67 : decode cX11_month 67 = .ok (.istore 4, 2) := by decide +kernel
theorem dX11_month_69 : decode cX11_month 69 = .ok (.aload_n 0, 1) := by decide +kernel
theorem dX11_month_70 : decode cX11_month 70 = .ok (.getfield 21, 3) := by decide +kernel
theorem dX11_month_73 : decode cX11_month 73 = .ok (.getfield 130, 3) := by decide +kernel
theorem dX11_month_76 : decode cX11_month 76 = .ok (.iload_n 1, 1) := by decide +kernel
theorem dX11_month_77 : decode cX11_month 77 = .ok (.iload_n 2, 1) := by decide +kernel
theorem dX11_month_78 : decode cX11_month 78 = .ok (.iastore, 1) := by decide +kernel
theorem dX11_month_79 : decode cX11_month 79 = .ok (.aload_n 0, 1) := by decide +kernel
theorem dX11_month_80 : decode cX11_month 80 = .ok (.getfield 21, 3) := by decide +kernel
theorem dX11_month_83 : decode cX11_month 83 = .ok (.getfield 133, 3) := by decide +kernel
theorem dX11_month_86 : decode cX11_month 86 = .ok (.iload_n 1, 1) := by decide +kernel
theorem dX11_month_87 : decode cX11_month 87 = .ok (.iload_n 3, 1) := by decide +kernel
theorem dX11_month_88 : decode cX11_month 88 = .ok (.iastore, 1) := by decide +kernel
theorem dX11_month_89 : decode cX11_month 89 = .ok (.iload 4, 2) := by decide +kernel
theorem dX11_month_91 : decode cX11_month 91 = .ok (.ireturn, 1) := by decide +kernel
theorem dX11_lift_0 : decode cX11_lift 0 = .ok (.aload_n 0, 1) := by decide +kernel
theorem dX11_lift_1 : decode cX11_lift 1 = .ok (.getfield 21, 3) := by decide +kernel
theorem dX11_lift_4 : decode cX11_lift 4 = .ok (.iload_n 1, 1) := by decide +kernel
theorem dX11_lift_5 : decode cX11_lift 5 = .ok (.invokevirtual 106, 3) := by decide +kernel
theorem dX11_lift_8 : decode cX11_lift 8 = .ok (.ifCond .ne 5, 3) := by decide +kernel
theorem dX11_lift_11 : decode cX11_lift 11 = .ok (.iconst (-1), 1) := by decide +kernel
theorem dX11_lift_12 : decode cX11_lift 12 = .ok (.ireturn, 1) := by decide +kernel
theorem dX11_lift_13 : decode cX11_lift 13 = .ok (.iload_n 2, 1) := by decide +kernel
theorem dX11_lift_14 : decode cX11_lift 14 = .ok (.iconst 0, 1) := by decide +kernel
theorem dX11_lift_15 : decode cX11_lift 15 = .ok (.bipush 99, 2) := by decide +kernel
theorem dX11_lift_17 : decode cX11_lift 17 = .ok (.invokestatic 122, 3) := by decide +kernel
theorem dX11_lift_20 : decode cX11_lift 20 = .ok (.ifCond .ne 6, 3) := by decide +kernel
theorem dX11_lift_23 : decode cX11_lift 23 = .ok (.bipush (-2), 2) := by decide +kernel
theorem dX11_lift_25 : decode cX11_lift 25 = .ok (.ireturn, 1) := by decide +kernel
theorem dX11_lift_26 : decode cX11_lift 26 = .ok (.aload_n 0, 1) := by decide +kernel
theorem dX11_lift_27 : decode cX11_lift 27 = .ok (.getfield 21, 3) := by decide +kernel
theorem dX11_lift_30 : decode cX11_lift 30 = .ok (.getfield 116, 3) := by decide +kernel
theorem dX11_lift_33 : decode cX11_lift 33 = .ok (.iload_n 1, 1) := by decide +kernel
theorem dX11_lift_34 : decode cX11_lift 34 = .ok (.iaload, 1) := by decide +kernel
theorem dX11_lift_35 : decode cX11_lift 35 = .ok (.istore_n 3, 1) := by decide +kernel
theorem dX11_lift_36 : decode cX11_lift 36 = .ok (.aload_n 0, 1) := by decide +kernel
theorem dX11_lift_37 : decode cX11_lift 37 = .ok (.getfield 21, 3) := by decide +kernel
theorem dX11_lift_40 : decode cX11_lift 40 = .ok (.getfield 116, 3) := by decide +kernel
theorem dX11_lift_43 : decode cX11_lift 43 = .ok (.iload_n 1, 1) := by decide +kernel
theorem dX11_lift_44 : decode cX11_lift 44 = .ok (.iload_n 2, 1) := by decide +kernel
theorem dX11_lift_45 : decode cX11_lift 45 = .ok (.iastore, 1) := by decide +kernel
theorem dX11_lift_46 : decode cX11_lift 46 = .ok (.iload_n 3, 1) := by decide +kernel
theorem dX11_lift_47 : decode cX11_lift 47 = .ok (.ireturn, 1) := by decide +kernel
theorem dX11_height_0 : decode cX11_height 0 = .ok (.aload_n 0, 1) := by decide +kernel
theorem dX11_height_1 : decode cX11_height 1 = .ok (.getfield 21, 3) := by decide +kernel
theorem dX11_height_4 : decode cX11_height 4 = .ok (.iload_n 1, 1) := by decide +kernel
theorem dX11_height_5 : decode cX11_height 5 = .ok (.invokevirtual 106, 3) := by decide +kernel
theorem dX11_height_8 : decode cX11_height 8 = .ok (.ifCond .eq 10, 3) := by decide +kernel
theorem dX11_height_11 : decode cX11_height 11 = .ok (.iload_n 2, 1) := by decide +kernel
theorem dX11_height_12 : decode cX11_height 12 = .ok (.invokestatic 119, 3) := by decide +kernel
theorem dX11_height_15 : decode cX11_height 15 = .ok (.ifCond .ne 5, 3) := by decide +kernel
theorem dX11_height_18 : decode cX11_height 18 = .ok (.iconst (-1), 1) := by decide +kernel
theorem dX11_height_19 : decode cX11_height 19 = .ok (.ireturn, 1) := by decide +kernel
theorem dX11_height_20 : decode cX11_height 20 = .ok (.aload_n 0, 1) := by decide +kernel
theorem dX11_height_21 : decode cX11_height 21 = .ok (.getfield 21, 3) := by decide +kernel
theorem dX11_height_24 : decode cX11_height 24 = .ok (.iload_n 1, 1) := by decide +kernel
theorem dX11_height_25 : decode cX11_height 25 = .ok (.iload_n 2, 1) := by decide +kernel
theorem dX11_height_26 : decode cX11_height 26 = .ok (.invokevirtual 136, 3) := by decide +kernel
theorem dX11_height_29 : decode cX11_height 29 = .ok (.ireturn, 1) := by decide +kernel
theorem dX11_rises_0 : decode cX11_rises 0 = .ok (.aload_n 0, 1) := by decide +kernel
theorem dX11_rises_1 : decode cX11_rises 1 = .ok (.getfield 21, 3) := by decide +kernel
theorem dX11_rises_4 : decode cX11_rises 4 = .ok (.iload_n 1, 1) := by decide +kernel
theorem dX11_rises_5 : decode cX11_rises 5 = .ok (.invokevirtual 106, 3) := by decide +kernel
theorem dX11_rises_8 : decode cX11_rises 8 = .ok (.ifCond .ne 5, 3) := by decide +kernel
theorem dX11_rises_11 : decode cX11_rises 11 = .ok (.iconst (-1), 1) := by decide +kernel
theorem dX11_rises_12 : decode cX11_rises 12 = .ok (.ireturn, 1) := by decide +kernel
theorem dX11_rises_13 : decode cX11_rises 13 = .ok (.iload_n 2, 1) := by decide +kernel
theorem dX11_rises_14 : decode cX11_rises 14 = .ok (.iconst 0, 1) := by decide +kernel
theorem dX11_rises_15 : decode cX11_rises 15 = .ok (.iconst 1, 1) := by decide +kernel
theorem dX11_rises_16 : decode cX11_rises 16 = .ok (.invokestatic 122, 3) := by decide +kernel
theorem dX11_rises_19 : decode cX11_rises 19 = .ok (.ifCond .ne 6, 3) := by decide +kernel
theorem dX11_rises_22 : decode cX11_rises 22 = .ok (.bipush (-2), 2) := by decide +kernel
theorem dX11_rises_24 : decode cX11_rises 24 = .ok (.ireturn, 1) := by decide +kernel
theorem dX11_rises_25 : decode cX11_rises 25 = .ok (.iload_n 2, 1) := by decide +kernel
theorem dX11_rises_26 : decode cX11_rises 26 = .ok (.ifCond .ne 14, 3) := by decide +kernel
theorem dX11_rises_29 : decode cX11_rises 29 = .ok (.aload_n 0, 1) := by decide +kernel
theorem dX11_rises_30 : decode cX11_rises 30 = .ok (.getfield 21, 3) := by decide +kernel
theorem dX11_rises_33 : decode cX11_rises 33 = .ok (.iload_n 1, 1) := by decide +kernel
theorem dX11_rises_34 : decode cX11_rises 34 = .ok (.invokevirtual 140, 3) := by decide +kernel
theorem dX11_rises_37 : decode cX11_rises 37 = .ok (.goto 11, 3) := by decide +kernel
theorem dX11_rises_40 : decode cX11_rises 40 = .ok (.aload_n 0, 1) := by decide +kernel
theorem dX11_rises_41 : decode cX11_rises 41 = .ok (.getfield 21, 3) := by decide +kernel
theorem dX11_rises_44 : decode cX11_rises 44 = .ok (.iload_n 1, 1) := by decide +kernel
theorem dX11_rises_45 : decode cX11_rises 45 = .ok (.invokevirtual 143, 3) := by decide +kernel
theorem dX11_rises_48 : decode cX11_rises 48 = .ok (.ireturn, 1) := by decide +kernel
theorem dX11_way_0 : decode cX11_way 0 = .ok (.aload_n 0, 1) := by decide +kernel
theorem dX11_way_1 : decode cX11_way 1 = .ok (.getfield 21, 3) := by decide +kernel
theorem dX11_way_4 : decode cX11_way 4 = .ok (.iload_n 1, 1) := by decide +kernel
theorem dX11_way_5 : decode cX11_way 5 = .ok (.invokevirtual 106, 3) := by decide +kernel
theorem dX11_way_8 : decode cX11_way 8 = .ok (.ifCond .eq 27, 3) := by decide +kernel
theorem dX11_way_11 : decode cX11_way 11 = .ok (.aload_n 0, 1) := by decide +kernel
theorem dX11_way_12 : decode cX11_way 12 = .ok (.getfield 21, 3) := by decide +kernel
theorem dX11_way_15 : decode cX11_way 15 = .ok (.iload_n 2, 1) := by decide +kernel
theorem dX11_way_16 : decode cX11_way 16 = .ok (.invokevirtual 106, 3) := by decide +kernel
theorem dX11_way_19 : decode cX11_way 19 = .ok (.ifCond .eq 16, 3) := by decide +kernel
theorem dX11_way_22 : decode cX11_way 22 = .ok (.iload_n 3, 1) := by decide +kernel
theorem dX11_way_23 : decode cX11_way 23 = .ok (.invokestatic 119, 3) := by decide +kernel
theorem dX11_way_26 : decode cX11_way 26 = .ok (.ifCond .eq 9, 3) := by decide +kernel
theorem dX11_way_29 : decode cX11_way 29 = .ok (.iload 5, 2) := by decide +kernel
theorem dX11_way_31 : decode cX11_way 31 = .ok (.iconst (-1), 1) := by decide +kernel
theorem dX11_way_32 : decode cX11_way 32 = .ok (.if_icmp .ge 5, 3) := by decide +kernel
theorem dX11_way_35 : decode cX11_way 35 = .ok (.iconst (-1), 1) := by decide +kernel
theorem dX11_way_36 : decode cX11_way 36 = .ok (.ireturn, 1) := by decide +kernel
theorem dX11_way_37 : decode cX11_way 37 = .ok (.iload 4, 2) := by decide +kernel
theorem dX11_way_39 : decode cX11_way 39 = .ok (.invokestatic 146, 3) := by decide +kernel
theorem dX11_way_42 : decode cX11_way 42 = .ok (.ifCond .ne 6, 3) := by decide +kernel
theorem dX11_way_45 : decode cX11_way 45 = .ok (.bipush (-2), 2) := by decide +kernel
theorem dX11_way_47 : decode cX11_way 47 = .ok (.ireturn, 1) := by decide +kernel
theorem dX11_way_48 : decode cX11_way 48 = .ok (.aload_n 0, 1) := by decide +kernel
theorem dX11_way_49 : decode cX11_way 49 = .ok (.getfield 30, 3) := by decide +kernel
theorem dX11_way_52 : decode cX11_way 52 = .ok (.iload_n 3, 1) := by decide +kernel
theorem dX11_way_53 : decode cX11_way 53 = .ok (.iload_n 3, 1) := by decide +kernel
theorem dX11_way_54 : decode cX11_way 54 = .ok (.invokevirtual 149, 3) := by decide +kernel
theorem dX11_way_57 : decode cX11_way 57 = .ok (.aload_n 0, 1) := by decide +kernel
theorem dX11_way_58 : decode cX11_way 58 = .ok (.getfield 30, 3) := by decide +kernel
theorem dX11_way_61 : decode cX11_way 61 = .ok (.iload_n 2, 1) := by decide +kernel
theorem dX11_way_62 : decode cX11_way 62 = .ok (.iload 4, 2) := by decide +kernel
theorem dX11_way_64 : decode cX11_way 64 = .ok (.invokevirtual 153, 3) := by decide +kernel
theorem dX11_way_67 : decode cX11_way 67 = .ok (.iload 5, 2) := by decide +kernel
theorem dX11_way_69 : decode cX11_way 69 = .ok (.iconst (-1), 1) := by decide +kernel
theorem dX11_way_70 : decode cX11_way 70 = .ok (.if_icmp .ne 15, 3) := by decide +kernel
theorem dX11_way_73 : decode cX11_way 73 = .ok (.aload_n 0, 1) := by decide +kernel
theorem dX11_way_74 : decode cX11_way 74 = .ok (.getfield 30, 3) := by decide +kernel
theorem dX11_way_77 : decode cX11_way 77 = .ok (.getfield 156, 3) := by decide +kernel
theorem dX11_way_80 : decode cX11_way 80 = .ok (.iload_n 1, 1) := by decide +kernel
theorem dX11_way_81 : decode cX11_way 81 = .ok (.iaload, 1) := by decide +kernel
theorem dX11_way_82 : decode cX11_way 82 = .ok (.goto 15, 3) := by decide +kernel
theorem dX11_way_85 : decode cX11_way 85 = .ok (.aload_n 0, 1) := by decide +kernel
theorem dX11_way_86 : decode cX11_way 86 = .ok (.getfield 30, 3) := by decide +kernel
theorem dX11_way_89 : decode cX11_way 89 = .ok (.iload_n 1, 1) := by decide +kernel
theorem dX11_way_90 : decode cX11_way 90 = .ok (.iload 4, 2) := by decide +kernel
theorem dX11_way_92 : decode cX11_way 92 = .ok (.iload 5, 2) := by decide +kernel
theorem dX11_way_94 : decode cX11_way 94 = .ok (.invokevirtual 159, 3) := by decide +kernel
theorem dX11_way_97 : decode cX11_way 97 = .ok (.ireturn, 1) := by decide +kernel
theorem dX11_holds_0 : decode cX11_holds 0 = .ok (.aload_n 0, 1) := by decide +kernel
theorem dX11_holds_1 : decode cX11_holds 1 = .ok (.getfield 21, 3) := by decide +kernel
theorem dX11_holds_4 : decode cX11_holds 4 = .ok (.iload_n 1, 1) := by decide +kernel
theorem dX11_holds_5 : decode cX11_holds 5 = .ok (.invokevirtual 106, 3) := by decide +kernel
theorem dX11_holds_8 : decode cX11_holds 8 = .ok (.ifCond .eq 14, 3) := by decide +kernel
theorem dX11_holds_11 : decode cX11_holds 11 = .ok (.aload_n 0, 1) := by decide +kernel
theorem dX11_holds_12 : decode cX11_holds 12 = .ok (.getfield 21, 3) := by decide +kernel
theorem dX11_holds_15 : decode cX11_holds 15 = .ok (.iload_n 2, 1) := by decide +kernel
theorem dX11_holds_16 : decode cX11_holds 16 = .ok (.invokevirtual 106, 3) := by decide +kernel
theorem dX11_holds_19 : decode cX11_holds 19 = .ok (.ifCond .ne 5, 3) := by decide +kernel
theorem dX11_holds_22 : decode cX11_holds 22 = .ok (.iconst (-1), 1) := by decide +kernel
theorem dX11_holds_23 : decode cX11_holds 23 = .ok (.ireturn, 1) := by decide +kernel
theorem dX11_holds_24 : decode cX11_holds 24 = .ok (.iload_n 3, 1) := by decide +kernel
theorem dX11_holds_25 : decode cX11_holds 25 = .ok (.invokestatic 119, 3) := by decide +kernel
theorem dX11_holds_28 : decode cX11_holds 28 = .ok (.ifCond .eq 17, 3) := by decide +kernel
theorem dX11_holds_31 : decode cX11_holds 31 = .ok (.iload 4, 2) := by decide +kernel
theorem dX11_holds_33 : decode cX11_holds 33 = .ok (.invokestatic 119, 3) := by decide +kernel
theorem dX11_holds_36 : decode cX11_holds 36 = .ok (.ifCond .eq 9, 3) := by decide +kernel
theorem dX11_holds_39 : decode cX11_holds 39 = .ok (.iload 4, 2) := by decide +kernel
theorem dX11_holds_41 : decode cX11_holds 41 = .ok (.iload_n 3, 1) := by decide +kernel
theorem dX11_holds_42 : decode cX11_holds 42 = .ok (.if_icmp .ge 5, 3) := by decide +kernel
theorem dX11_holds_45 : decode cX11_holds 45 = .ok (.iconst (-1), 1) := by decide +kernel
theorem dX11_holds_46 : decode cX11_holds 46 = .ok (.ireturn, 1) := by decide +kernel
theorem dX11_holds_47 : decode cX11_holds 47 = .ok (.iload 5, 2) := by decide +kernel
theorem dX11_holds_49 : decode cX11_holds 49 = .ok (.invokestatic 146, 3) := by decide +kernel
theorem dX11_holds_52 : decode cX11_holds 52 = .ok (.ifCond .ne 6, 3) := by decide +kernel
theorem dX11_holds_55 : decode cX11_holds 55 = .ok (.bipush (-2), 2) := by decide +kernel
theorem dX11_holds_57 : decode cX11_holds 57 = .ok (.ireturn, 1) := by decide +kernel
theorem dX11_holds_58 : decode cX11_holds 58 = .ok (.aload_n 0, 1) := by decide +kernel
theorem dX11_holds_59 : decode cX11_holds 59 = .ok (.getfield 30, 3) := by decide +kernel
theorem dX11_holds_62 : decode cX11_holds 62 = .ok (.iload_n 3, 1) := by decide +kernel
theorem dX11_holds_63 : decode cX11_holds 63 = .ok (.iload 4, 2) := by decide +kernel
theorem dX11_holds_65 : decode cX11_holds 65 = .ok (.invokevirtual 149, 3) := by decide +kernel
theorem dX11_holds_68 : decode cX11_holds 68 = .ok (.aload_n 0, 1) := by decide +kernel
theorem dX11_holds_69 : decode cX11_holds 69 = .ok (.getfield 30, 3) := by decide +kernel
theorem dX11_holds_72 : decode cX11_holds 72 = .ok (.iload_n 2, 1) := by decide +kernel
theorem dX11_holds_73 : decode cX11_holds 73 = .ok (.iload 5, 2) := by decide +kernel
theorem dX11_holds_75 : decode cX11_holds 75 = .ok (.invokevirtual 153, 3) := by decide +kernel
theorem dX11_holds_78 : decode cX11_holds 78 = .ok (.aload_n 0, 1) := by decide +kernel
theorem dX11_holds_79 : decode cX11_holds 79 = .ok (.getfield 30, 3) := by decide +kernel
theorem dX11_holds_82 : decode cX11_holds 82 = .ok (.getfield 156, 3) := by decide +kernel
theorem dX11_holds_85 : decode cX11_holds 85 = .ok (.iload_n 1, 1) := by decide +kernel
theorem dX11_holds_86 : decode cX11_holds 86 = .ok (.iaload, 1) := by decide +kernel
theorem dX11_holds_87 : decode cX11_holds 87 = .ok (.ireturn, 1) := by decide +kernel
theorem dX11_leastStep_0 : decode cX11_leastStep 0 = .ok (.aload_n 0, 1) := by decide +kernel
theorem dX11_leastStep_1 : decode cX11_leastStep 1 = .ok (.getfield 21, 3) := by decide +kernel
theorem dX11_leastStep_4 : decode cX11_leastStep 4 = .ok (.iload_n 1, 1) := by decide +kernel
theorem dX11_leastStep_5 : decode cX11_leastStep 5 = .ok (.invokevirtual 106, 3) := by decide +kernel
theorem dX11_leastStep_8 : decode cX11_leastStep 8 = .ok (.ifCond .eq 21, 3) := by decide +kernel
theorem dX11_leastStep_11 : decode cX11_leastStep 11 = .ok (.aload_n 0, 1) := by decide +kernel
theorem dX11_leastStep_12 : decode cX11_leastStep 12 = .ok (.getfield 21, 3) := by decide +kernel
theorem dX11_leastStep_15 : decode cX11_leastStep 15 = .ok (.iload_n 2, 1) := by decide +kernel
theorem dX11_leastStep_16 : decode cX11_leastStep 16 = .ok (.invokevirtual 106, 3) := by decide +kernel
theorem dX11_leastStep_19 : decode cX11_leastStep 19 = .ok (.ifCond .eq 10, 3) := by decide +kernel
theorem dX11_leastStep_22 : decode cX11_leastStep 22 = .ok (.iload_n 3, 1) := by decide +kernel
theorem dX11_leastStep_23 : decode cX11_leastStep 23 = .ok (.invokestatic 119, 3) := by decide +kernel
theorem dX11_leastStep_26 : decode cX11_leastStep 26 = .ok (.ifCond .ne 5, 3) := by decide +kernel
theorem dX11_leastStep_29 : decode cX11_leastStep 29 = .ok (.iconst (-1), 1) := by decide +kernel
theorem dX11_leastStep_30 : decode cX11_leastStep 30 = .ok (.ireturn, 1) := by decide +kernel
theorem dX11_leastStep_31 : decode cX11_leastStep 31 = .ok (.aload_n 0, 1) := by decide +kernel
theorem dX11_leastStep_32 : decode cX11_leastStep 32 = .ok (.getfield 30, 3) := by decide +kernel
theorem dX11_leastStep_35 : decode cX11_leastStep 35 = .ok (.iload_n 3, 1) := by decide +kernel
theorem dX11_leastStep_36 : decode cX11_leastStep 36 = .ok (.iload_n 3, 1) := by decide +kernel
theorem dX11_leastStep_37 : decode cX11_leastStep 37 = .ok (.invokevirtual 149, 3) := by decide +kernel
theorem dX11_leastStep_40 : decode cX11_leastStep 40 = .ok (.aload_n 0, 1) := by decide +kernel
theorem dX11_leastStep_41 : decode cX11_leastStep 41 = .ok (.getfield 30, 3) := by decide +kernel
theorem dX11_leastStep_44 : decode cX11_leastStep 44 = .ok (.iload_n 1, 1) := by decide +kernel
theorem dX11_leastStep_45 : decode cX11_leastStep 45 = .ok (.iload_n 2, 1) := by decide +kernel
theorem dX11_leastStep_46 : decode cX11_leastStep 46 = .ok (.invokevirtual 163, 3) := by decide +kernel
theorem dX11_leastStep_49 : decode cX11_leastStep 49 = .ok (.ireturn, 1) := by decide +kernel
theorem dX11_wedges_0 : decode cX11_wedges 0 = .ok (.aload_n 0, 1) := by decide +kernel
theorem dX11_wedges_1 : decode cX11_wedges 1 = .ok (.getfield 21, 3) := by decide +kernel
theorem dX11_wedges_4 : decode cX11_wedges 4 = .ok (.iload_n 1, 1) := by decide +kernel
theorem dX11_wedges_5 : decode cX11_wedges 5 = .ok (.invokevirtual 166, 3) := by decide +kernel
theorem dX11_wedges_8 : decode cX11_wedges 8 = .ok (.ifCond .eq 10, 3) := by decide +kernel
theorem dX11_wedges_11 : decode cX11_wedges 11 = .ok (.iload_n 2, 1) := by decide +kernel
theorem dX11_wedges_12 : decode cX11_wedges 12 = .ok (.invokestatic 119, 3) := by decide +kernel
theorem dX11_wedges_15 : decode cX11_wedges 15 = .ok (.ifCond .ne 5, 3) := by decide +kernel
theorem dX11_wedges_18 : decode cX11_wedges 18 = .ok (.iconst (-1), 1) := by decide +kernel
theorem dX11_wedges_19 : decode cX11_wedges 19 = .ok (.ireturn, 1) := by decide +kernel
theorem dX11_wedges_20 : decode cX11_wedges 20 = .ok (.aload_n 0, 1) := by decide +kernel
theorem dX11_wedges_21 : decode cX11_wedges 21 = .ok (.getfield 37, 3) := by decide +kernel
theorem dX11_wedges_24 : decode cX11_wedges 24 = .ok (.iload_n 2, 1) := by decide +kernel
theorem dX11_wedges_25 : decode cX11_wedges 25 = .ok (.invokevirtual 169, 3) := by decide +kernel
theorem dX11_wedges_28 : decode cX11_wedges 28 = .ok (.aload_n 0, 1) := by decide +kernel
theorem dX11_wedges_29 : decode cX11_wedges 29 = .ok (.getfield 37, 3) := by decide +kernel
theorem dX11_wedges_32 : decode cX11_wedges 32 = .ok (.iload_n 1, 1) := by decide +kernel
theorem dX11_wedges_33 : decode cX11_wedges 33 = .ok (.invokevirtual 172, 3) := by decide +kernel
theorem dX11_wedges_36 : decode cX11_wedges 36 = .ok (.ireturn, 1) := by decide +kernel
theorem dX11_best_0 : decode cX11_best 0 = .ok (.aload_n 0, 1) := by decide +kernel
theorem dX11_best_1 : decode cX11_best 1 = .ok (.iload_n 1, 1) := by decide +kernel
theorem dX11_best_2 : decode cX11_best 2 = .ok (.iload_n 2, 1) := by decide +kernel
theorem dX11_best_3 : decode cX11_best 3 = .ok (.iconst 0, 1) := by decide +kernel
theorem dX11_best_4 : decode cX11_best 4 = .ok (.iconst 1, 1) := by decide +kernel
theorem dX11_best_5 : decode cX11_best 5 = .ok (.invokestatic 122, 3) := by decide +kernel
theorem dX11_best_8 : decode cX11_best 8 = .ok (.invokevirtual 175, 3) := by decide +kernel
theorem dX11_best_11 : decode cX11_best 11 = .ok (.istore_n 3, 1) := by decide +kernel
theorem dX11_best_12 : decode cX11_best 12 = .ok (.iload_n 3, 1) := by decide +kernel
theorem dX11_best_13 : decode cX11_best 13 = .ok (.ifCond .eq 5, 3) := by decide +kernel
theorem dX11_best_16 : decode cX11_best 16 = .ok (.iload_n 3, 1) := by decide +kernel
theorem dX11_best_17 : decode cX11_best 17 = .ok (.ireturn, 1) := by decide +kernel
theorem dX11_best_18 : decode cX11_best 18 = .ok (.aload_n 0, 1) := by decide +kernel
theorem dX11_best_19 : decode cX11_best 19 = .ok (.getfield 37, 3) := by decide +kernel
theorem dX11_best_22 : decode cX11_best 22 = .ok (.iload_n 1, 1) := by decide +kernel
theorem dX11_best_23 : decode cX11_best 23 = .ok (.invokevirtual 169, 3) := by decide +kernel
theorem dX11_best_26 : decode cX11_best 26 = .ok (.aload_n 0, 1) := by decide +kernel
theorem dX11_best_27 : decode cX11_best 27 = .ok (.getfield 37, 3) := by decide +kernel
theorem dX11_best_30 : decode cX11_best 30 = .ok (.invokevirtual 179, 3) := by decide +kernel
theorem dX11_best_33 : decode cX11_best 33 = .ok (.istore 4, 2) := by decide +kernel
theorem dX11_best_35 : decode cX11_best 35 = .ok (.iload_n 2, 1) := by decide +kernel
theorem dX11_best_36 : decode cX11_best 36 = .ok (.ifCond .ne 8, 3) := by decide +kernel
theorem dX11_best_39 : decode cX11_best 39 = .ok (.iload 4, 2) := by decide +kernel
theorem dX11_best_41 : decode cX11_best 41 = .ok (.goto 12, 3) := by decide +kernel
theorem dX11_best_44 : decode cX11_best 44 = .ok (.aload_n 0, 1) := by decide +kernel
theorem dX11_best_45 : decode cX11_best 45 = .ok (.getfield 37, 3) := by decide +kernel
theorem dX11_best_48 : decode cX11_best 48 = .ok (.iload 4, 2) := by decide +kernel
theorem dX11_best_50 : decode cX11_best 50 = .ok (.invokevirtual 172, 3) := by decide +kernel
theorem dX11_best_53 : decode cX11_best 53 = .ok (.ireturn, 1) := by decide +kernel
theorem dX11_two_0 : decode cX11_two 0 = .ok (.aload_n 0, 1) := by decide +kernel
theorem dX11_two_1 : decode cX11_two 1 = .ok (.iload_n 1, 1) := by decide +kernel
theorem dX11_two_2 : decode cX11_two 2 = .ok (.iload_n 2, 1) := by decide +kernel
theorem dX11_two_3 : decode cX11_two 3 = .ok (.iconst 0, 1) := by decide +kernel
theorem dX11_two_4 : decode cX11_two 4 = .ok (.iconst 2, 1) := by decide +kernel
theorem dX11_two_5 : decode cX11_two 5 = .ok (.invokestatic 122, 3) := by decide +kernel
theorem dX11_two_8 : decode cX11_two 8 = .ok (.invokevirtual 175, 3) := by decide +kernel
theorem dX11_two_11 : decode cX11_two 11 = .ok (.istore_n 3, 1) := by decide +kernel
theorem dX11_two_12 : decode cX11_two 12 = .ok (.iload_n 3, 1) := by decide +kernel
theorem dX11_two_13 : decode cX11_two 13 = .ok (.ifCond .eq 5, 3) := by decide +kernel
theorem dX11_two_16 : decode cX11_two 16 = .ok (.iload_n 3, 1) := by decide +kernel
theorem dX11_two_17 : decode cX11_two 17 = .ok (.ireturn, 1) := by decide +kernel
theorem dX11_two_18 : decode cX11_two 18 = .ok (.aload_n 0, 1) := by decide +kernel
theorem dX11_two_19 : decode cX11_two 19 = .ok (.getfield 37, 3) := by decide +kernel
theorem dX11_two_22 : decode cX11_two 22 = .ok (.iload_n 1, 1) := by decide +kernel
theorem dX11_two_23 : decode cX11_two 23 = .ok (.invokevirtual 169, 3) := by decide +kernel
theorem dX11_two_26 : decode cX11_two 26 = .ok (.aload_n 0, 1) := by decide +kernel
theorem dX11_two_27 : decode cX11_two 27 = .ok (.getfield 37, 3) := by decide +kernel
theorem dX11_two_30 : decode cX11_two 30 = .ok (.invokevirtual 182, 3) := by decide +kernel
theorem dX11_two_33 : decode cX11_two 33 = .ok (.iload_n 2, 1) := by decide +kernel
theorem dX11_two_34 : decode cX11_two 34 = .ok (.iconst 2, 1) := by decide +kernel
theorem dX11_two_35 : decode cX11_two 35 = .ok (.if_icmp .ne 11, 3) := by decide +kernel
theorem dX11_two_38 : decode cX11_two 38 = .ok (.aload_n 0, 1) := by decide +kernel
theorem dX11_two_39 : decode cX11_two 39 = .ok (.getfield 37, 3) := by decide +kernel
theorem dX11_two_42 : decode cX11_two 42 = .ok (.getfield 185, 3) := by decide +kernel
theorem dX11_two_45 : decode cX11_two 45 = .ok (.ireturn, 1) := by decide +kernel
theorem dX11_two_46 : decode cX11_two 46 = .ok (.iload_n 2, 1) := by decide +kernel
theorem dX11_two_47 : decode cX11_two 47 = .ok (.ifCond .ne 13, 3) := by decide +kernel
theorem dX11_two_50 : decode cX11_two 50 = .ok (.aload_n 0, 1) := by decide +kernel
theorem dX11_two_51 : decode cX11_two 51 = .ok (.getfield 37, 3) := by decide +kernel
theorem dX11_two_54 : decode cX11_two 54 = .ok (.getfield 188, 3) := by decide +kernel
theorem dX11_two_57 : decode cX11_two 57 = .ok (.goto 10, 3) := by decide +kernel
theorem dX11_two_60 : decode cX11_two 60 = .ok (.aload_n 0, 1) := by decide +kernel
theorem dX11_two_61 : decode cX11_two 61 = .ok (.getfield 37, 3) := by decide +kernel
theorem dX11_two_64 : decode cX11_two 64 = .ok (.getfield 191, 3) := by decide +kernel
theorem dX11_two_67 : decode cX11_two 67 = .ok (.ireturn, 1) := by decide +kernel
theorem dX11_oval_0 : decode cX11_oval 0 = .ok (.aload_n 0, 1) := by decide +kernel
theorem dX11_oval_1 : decode cX11_oval 1 = .ok (.iload_n 1, 1) := by decide +kernel
theorem dX11_oval_2 : decode cX11_oval 2 = .ok (.iload_n 2, 1) := by decide +kernel
theorem dX11_oval_3 : decode cX11_oval 3 = .ok (.invokestatic 146, 3) := by decide +kernel
theorem dX11_oval_6 : decode cX11_oval 6 = .ok (.ifCond .eq 16, 3) := by decide +kernel
theorem dX11_oval_9 : decode cX11_oval 9 = .ok (.iload_n 3, 1) := by decide +kernel
theorem dX11_oval_10 : decode cX11_oval 10 = .ok (.iconst 0, 1) := by decide +kernel
theorem dX11_oval_11 : decode cX11_oval 11 = .ok (.iconst 2, 1) := by decide +kernel
theorem dX11_oval_12 : decode cX11_oval 12 = .ok (.invokestatic 122, 3) := by decide +kernel
theorem dX11_oval_15 : decode cX11_oval 15 = .ok (.ifCond .eq 7, 3) := by decide +kernel
theorem dX11_oval_18 : decode cX11_oval 18 = .ok (.iconst 1, 1) := by decide +kernel
theorem dX11_oval_19 : decode cX11_oval 19 = .ok (.goto 4, 3) := by decide +kernel
theorem dX11_oval_22 : decode cX11_oval 22 = .ok (.iconst 0, 1) := by decide +kernel
theorem dX11_oval_23 : decode cX11_oval 23 = .ok (.invokevirtual 175, 3) := by decide +kernel
theorem dX11_oval_26 : decode cX11_oval 26 = .ok (.istore 4, 2) := by decide +kernel
theorem dX11_oval_28 : decode cX11_oval 28 = .ok (.iload 4, 2) := by decide +kernel
theorem dX11_oval_30 : decode cX11_oval 30 = .ok (.ifCond .eq 6, 3) := by decide +kernel
theorem dX11_oval_33 : decode cX11_oval 33 = .ok (.iload 4, 2) := by decide +kernel
theorem dX11_oval_35 : decode cX11_oval 35 = .ok (.ireturn, 1) := by decide +kernel
theorem dX11_oval_36 : decode cX11_oval 36 = .ok (.aload_n 0, 1) := by decide +kernel
theorem dX11_oval_37 : decode cX11_oval 37 = .ok (.getfield 37, 3) := by decide +kernel
theorem dX11_oval_40 : decode cX11_oval 40 = .ok (.iload_n 1, 1) := by decide +kernel
theorem dX11_oval_41 : decode cX11_oval 41 = .ok (.invokevirtual 169, 3) := by decide +kernel
theorem dX11_oval_44 : decode cX11_oval 44 = .ok (.aload_n 0, 1) := by decide +kernel
theorem dX11_oval_45 : decode cX11_oval 45 = .ok (.getfield 37, 3) := by decide +kernel
theorem dX11_oval_48 : decode cX11_oval 48 = .ok (.iload_n 2, 1) := by decide +kernel
theorem dX11_oval_49 : decode cX11_oval 49 = .ok (.invokevirtual 194, 3) := by decide +kernel
theorem dX11_oval_52 : decode cX11_oval 52 = .ok (.iload_n 3, 1) := by decide +kernel
theorem dX11_oval_53 : decode cX11_oval 53 = .ok (.ifCond .ne 11, 3) := by decide +kernel
theorem dX11_oval_56 : decode cX11_oval 56 = .ok (.aload_n 0, 1) := by decide +kernel
theorem dX11_oval_57 : decode cX11_oval 57 = .ok (.getfield 37, 3) := by decide +kernel
theorem dX11_oval_60 : decode cX11_oval 60 = .ok (.getfield 185, 3) := by decide +kernel
theorem dX11_oval_63 : decode cX11_oval 63 = .ok (.ireturn, 1) := by decide +kernel
theorem dX11_oval_64 : decode cX11_oval 64 = .ok (.iload_n 3, 1) := by decide +kernel
theorem dX11_oval_65 : decode cX11_oval 65 = .ok (.iconst 1, 1) := by decide +kernel
theorem dX11_oval_66 : decode cX11_oval 66 = .ok (.if_icmp .ne 13, 3) := by decide +kernel
theorem dX11_oval_69 : decode cX11_oval 69 = .ok (.aload_n 0, 1) := by decide +kernel
theorem dX11_oval_70 : decode cX11_oval 70 = .ok (.getfield 37, 3) := by decide +kernel
theorem dX11_oval_73 : decode cX11_oval 73 = .ok (.getfield 188, 3) := by decide +kernel
theorem dX11_oval_76 : decode cX11_oval 76 = .ok (.goto 10, 3) := by decide +kernel
theorem dX11_oval_79 : decode cX11_oval 79 = .ok (.aload_n 0, 1) := by decide +kernel
theorem dX11_oval_80 : decode cX11_oval 80 = .ok (.getfield 37, 3) := by decide +kernel
theorem dX11_oval_83 : decode cX11_oval 83 = .ok (.getfield 191, 3) := by decide +kernel
theorem dX11_oval_86 : decode cX11_oval 86 = .ok (.ireturn, 1) := by decide +kernel
theorem dX11_depth_0 : decode cX11_depth 0 = .ok (.aload_n 0, 1) := by decide +kernel
theorem dX11_depth_1 : decode cX11_depth 1 = .ok (.getfield 21, 3) := by decide +kernel
theorem dX11_depth_4 : decode cX11_depth 4 = .ok (.iload_n 1, 1) := by decide +kernel
theorem dX11_depth_5 : decode cX11_depth 5 = .ok (.invokevirtual 106, 3) := by decide +kernel
theorem dX11_depth_8 : decode cX11_depth 8 = .ok (.ifCond .eq 10, 3) := by decide +kernel
theorem dX11_depth_11 : decode cX11_depth 11 = .ok (.iload_n 2, 1) := by decide +kernel
theorem dX11_depth_12 : decode cX11_depth 12 = .ok (.invokestatic 119, 3) := by decide +kernel
theorem dX11_depth_15 : decode cX11_depth 15 = .ok (.ifCond .ne 5, 3) := by decide +kernel
theorem dX11_depth_18 : decode cX11_depth 18 = .ok (.iconst (-1), 1) := by decide +kernel
theorem dX11_depth_19 : decode cX11_depth 19 = .ok (.ireturn, 1) := by decide +kernel
theorem dX11_depth_20 : decode cX11_depth 20 = .ok (.aload_n 0, 1) := by decide +kernel
theorem dX11_depth_21 : decode cX11_depth 21 = .ok (.getfield 44, 3) := by decide +kernel
theorem dX11_depth_24 : decode cX11_depth 24 = .ok (.iload_n 2, 1) := by decide +kernel
theorem dX11_depth_25 : decode cX11_depth 25 = .ok (.invokevirtual 197, 3) := by decide +kernel
theorem dX11_depth_28 : decode cX11_depth 28 = .ok (.aload_n 0, 1) := by decide +kernel
theorem dX11_depth_29 : decode cX11_depth 29 = .ok (.getfield 44, 3) := by decide +kernel
theorem dX11_depth_32 : decode cX11_depth 32 = .ok (.invokevirtual 198, 3) := by decide +kernel
theorem dX11_depth_35 : decode cX11_depth 35 = .ok (.aload_n 0, 1) := by decide +kernel
theorem dX11_depth_36 : decode cX11_depth 36 = .ok (.getfield 44, 3) := by decide +kernel
theorem dX11_depth_39 : decode cX11_depth 39 = .ok (.iload_n 1, 1) := by decide +kernel
theorem dX11_depth_40 : decode cX11_depth 40 = .ok (.invokevirtual 201, 3) := by decide +kernel
theorem dX11_depth_43 : decode cX11_depth 43 = .ok (.ireturn, 1) := by decide +kernel
theorem dX11_pool_0 : decode cX11_pool 0 = .ok (.aload_n 0, 1) := by decide +kernel
theorem dX11_pool_1 : decode cX11_pool 1 = .ok (.iload_n 1, 1) := by decide +kernel
theorem dX11_pool_2 : decode cX11_pool 2 = .ok (.iconst 1, 1) := by decide +kernel
theorem dX11_pool_3 : decode cX11_pool 3 = .ok (.invokevirtual 175, 3) := by decide +kernel
theorem dX11_pool_6 : decode cX11_pool 6 = .ok (.istore_n 2, 1) := by decide +kernel
theorem dX11_pool_7 : decode cX11_pool 7 = .ok (.iload_n 2, 1) := by decide +kernel
theorem dX11_pool_8 : decode cX11_pool 8 = .ok (.ifCond .eq 5, 3) := by decide +kernel
theorem dX11_pool_11 : decode cX11_pool 11 = .ok (.iload_n 2, 1) := by decide +kernel
theorem dX11_pool_12 : decode cX11_pool 12 = .ok (.ireturn, 1) := by decide +kernel
theorem dX11_pool_13 : decode cX11_pool 13 = .ok (.aload_n 0, 1) := by decide +kernel
theorem dX11_pool_14 : decode cX11_pool 14 = .ok (.getfield 44, 3) := by decide +kernel
theorem dX11_pool_17 : decode cX11_pool 17 = .ok (.iload_n 1, 1) := by decide +kernel
theorem dX11_pool_18 : decode cX11_pool 18 = .ok (.invokevirtual 197, 3) := by decide +kernel
theorem dX11_pool_21 : decode cX11_pool 21 = .ok (.aload_n 0, 1) := by decide +kernel
theorem dX11_pool_22 : decode cX11_pool 22 = .ok (.getfield 44, 3) := by decide +kernel
theorem dX11_pool_25 : decode cX11_pool 25 = .ok (.invokevirtual 204, 3) := by decide +kernel
theorem dX11_pool_28 : decode cX11_pool 28 = .ok (.ireturn, 1) := by decide +kernel
theorem dX11_drain_0 : decode cX11_drain 0 = .ok (.aload_n 0, 1) := by decide +kernel
theorem dX11_drain_1 : decode cX11_drain 1 = .ok (.iload_n 1, 1) := by decide +kernel
theorem dX11_drain_2 : decode cX11_drain 2 = .ok (.iload_n 2, 1) := by decide +kernel
theorem dX11_drain_3 : decode cX11_drain 3 = .ok (.iconst 1, 1) := by decide +kernel
theorem dX11_drain_4 : decode cX11_drain 4 = .ok (.bipush 99, 2) := by decide +kernel
theorem dX11_drain_6 : decode cX11_drain 6 = .ok (.invokestatic 122, 3) := by decide +kernel
theorem dX11_drain_9 : decode cX11_drain 9 = .ok (.ifCond .eq 16, 3) := by decide +kernel
theorem dX11_drain_12 : decode cX11_drain 12 = .ok (.iload_n 3, 1) := by decide +kernel
theorem dX11_drain_13 : decode cX11_drain 13 = .ok (.iconst 0, 1) := by decide +kernel
theorem dX11_drain_14 : decode cX11_drain 14 = .ok (.iconst 1, 1) := by decide +kernel
theorem dX11_drain_15 : decode cX11_drain 15 = .ok (.invokestatic 122, 3) := by decide +kernel
theorem dX11_drain_18 : decode cX11_drain 18 = .ok (.ifCond .eq 7, 3) := by decide +kernel
theorem dX11_drain_21 : decode cX11_drain 21 = .ok (.iconst 1, 1) := by decide +kernel
theorem dX11_drain_22 : decode cX11_drain 22 = .ok (.goto 4, 3) := by decide +kernel
theorem dX11_drain_25 : decode cX11_drain 25 = .ok (.iconst 0, 1) := by decide +kernel
theorem dX11_drain_26 : decode cX11_drain 26 = .ok (.invokevirtual 175, 3) := by decide +kernel
theorem dX11_drain_29 : decode cX11_drain 29 = .ok (.istore 4, 2) := by decide +kernel
theorem dX11_drain_31 : decode cX11_drain 31 = .ok (.iload 4, 2) := by decide +kernel
theorem dX11_drain_33 : decode cX11_drain 33 = .ok (.ifCond .eq 6, 3) := by decide +kernel
theorem dX11_drain_36 : decode cX11_drain 36 = .ok (.iload 4, 2) := by decide +kernel
theorem dX11_drain_38 : decode cX11_drain 38 = .ok (.ireturn, 1) := by decide +kernel
theorem dX11_drain_39 : decode cX11_drain 39 = .ok (.aload_n 0, 1) := by decide +kernel
theorem dX11_drain_40 : decode cX11_drain 40 = .ok (.getfield 44, 3) := by decide +kernel
theorem dX11_drain_43 : decode cX11_drain 43 = .ok (.iload_n 1, 1) := by decide +kernel
theorem dX11_drain_44 : decode cX11_drain 44 = .ok (.invokevirtual 197, 3) := by decide +kernel
theorem dX11_drain_47 : decode cX11_drain 47 = .ok (.aload_n 0, 1) := by decide +kernel
theorem dX11_drain_48 : decode cX11_drain 48 = .ok (.getfield 44, 3) := by decide +kernel
theorem dX11_drain_51 : decode cX11_drain 51 = .ok (.iload_n 2, 1) := by decide +kernel
theorem dX11_drain_52 : decode cX11_drain 52 = .ok (.invokevirtual 207, 3) := by decide +kernel
theorem dX11_drain_55 : decode cX11_drain 55 = .ok (.istore 5, 2) := by decide +kernel
theorem dX11_drain_57 : decode cX11_drain 57 = .ok (.iload_n 3, 1) := by decide +kernel
theorem dX11_drain_58 : decode cX11_drain 58 = .ok (.ifCond .ne 8, 3) := by decide +kernel
theorem dX11_drain_61 : decode cX11_drain 61 = .ok (.iload 5, 2) := by decide +kernel
theorem dX11_drain_63 : decode cX11_drain 63 = .ok (.goto 13, 3) := by decide +kernel
theorem dX11_drain_66 : decode cX11_drain 66 = .ok (.aload_n 0, 1) := by decide +kernel
theorem dX11_drain_67 : decode cX11_drain 67 = .ok (.getfield 44, 3) := by decide +kernel
theorem dX11_drain_70 : decode cX11_drain 70 = .ok (.iload 5, 2) := by decide +kernel
theorem dX11_drain_72 : decode cX11_drain 72 = .ok (.iload_n 2, 1) := by decide +kernel
theorem dX11_drain_73 : decode cX11_drain 73 = .ok (.invokevirtual 210, 3) := by decide +kernel
theorem dX11_drain_76 : decode cX11_drain 76 = .ok (.ireturn, 1) := by decide +kernel
theorem dX11_statue_0 : decode cX11_statue 0 = .ok (.aload_n 0, 1) := by decide +kernel
theorem dX11_statue_1 : decode cX11_statue 1 = .ok (.getfield 21, 3) := by decide +kernel
theorem dX11_statue_4 : decode cX11_statue 4 = .ok (.iload_n 1, 1) := by decide +kernel
theorem dX11_statue_5 : decode cX11_statue 5 = .ok (.invokevirtual 106, 3) := by decide +kernel
theorem dX11_statue_8 : decode cX11_statue 8 = .ok (.ifCond .eq 14, 3) := by decide +kernel
theorem dX11_statue_11 : decode cX11_statue 11 = .ok (.aload_n 0, 1) := by decide +kernel
theorem dX11_statue_12 : decode cX11_statue 12 = .ok (.getfield 21, 3) := by decide +kernel
theorem dX11_statue_15 : decode cX11_statue 15 = .ok (.iload_n 2, 1) := by decide +kernel
theorem dX11_statue_16 : decode cX11_statue 16 = .ok (.invokevirtual 106, 3) := by decide +kernel
theorem dX11_statue_19 : decode cX11_statue 19 = .ok (.ifCond .ne 5, 3) := by decide +kernel
theorem dX11_statue_22 : decode cX11_statue 22 = .ok (.iconst (-1), 1) := by decide +kernel
theorem dX11_statue_23 : decode cX11_statue 23 = .ok (.ireturn, 1) := by decide +kernel
theorem dX11_statue_24 : decode cX11_statue 24 = .ok (.iload_n 3, 1) := by decide +kernel
theorem dX11_statue_25 : decode cX11_statue 25 = .ok (.invokestatic 146, 3) := by decide +kernel
theorem dX11_statue_28 : decode cX11_statue 28 = .ok (.ifCond .ne 6, 3) := by decide +kernel
theorem dX11_statue_31 : decode cX11_statue 31 = .ok (.bipush (-2), 2) := by decide +kernel
theorem dX11_statue_33 : decode cX11_statue 33 = .ok (.ireturn, 1) := by decide +kernel
theorem dX11_statue_34 : decode cX11_statue 34 = .ok (.aload_n 0, 1) := by decide +kernel
theorem dX11_statue_35 : decode cX11_statue 35 = .ok (.getfield 21, 3) := by decide +kernel
theorem dX11_statue_38 : decode cX11_statue 38 = .ok (.iload_n 1, 1) := by decide +kernel
theorem dX11_statue_39 : decode cX11_statue 39 = .ok (.iload_n 2, 1) := by decide +kernel
theorem dX11_statue_40 : decode cX11_statue 40 = .ok (.invokevirtual 213, 3) := by decide +kernel
theorem dX11_statue_43 : decode cX11_statue 43 = .ok (.ifCond .ne 6, 3) := by decide +kernel
theorem dX11_statue_46 : decode cX11_statue 46 = .ok (.bipush (-3), 2) := by decide +kernel
theorem dX11_statue_48 : decode cX11_statue 48 = .ok (.ireturn, 1) := by decide +kernel
theorem dX11_statue_49 : decode cX11_statue 49 = .ok (.iconst 0, 1) := by decide +kernel
theorem dX11_statue_50 : decode cX11_statue 50 = .ok (.istore 4, 2) := by decide +kernel
theorem dX11_statue_52 : decode cX11_statue 52 = .ok (.iload 4, 2) := by decide +kernel
theorem dX11_statue_54 : decode cX11_statue 54 = .ok (.bipush 12, 2) := by decide +kernel
theorem dX11_statue_56 : decode cX11_statue 56 = .ok (.if_icmp .ge 40, 3) := by decide +kernel
theorem dX11_statue_59 : decode cX11_statue 59 = .ok (.aload_n 0, 1) := by decide +kernel
theorem dX11_statue_60 : decode cX11_statue 60 = .ok (.getfield 21, 3) := by decide +kernel
theorem dX11_statue_63 : decode cX11_statue 63 = .ok (.iload_n 1, 1) := by decide +kernel
theorem dX11_statue_64 : decode cX11_statue 64 = .ok (.iload 4, 2) := by decide +kernel
theorem dX11_statue_66 : decode cX11_statue 66 = .ok (.invokevirtual 136, 3) := by decide +kernel
theorem dX11_statue_69 : decode cX11_statue 69 = .ok (.aload_n 0, 1) := by decide +kernel
theorem dX11_statue_70 : decode cX11_statue 70 = .ok (.getfield 21, 3) := by decide +kernel
theorem dX11_statue_73 : decode cX11_statue 73 = .ok (.iload_n 2, 1) := by decide +kernel
theorem dX11_statue_74 : decode cX11_statue 74 = .ok (.iload 4, 2) := by decide +kernel
theorem dX11_statue_76 : decode cX11_statue 76 = .ok (.invokevirtual 136, 3) := by decide +kernel
theorem dX11_statue_79 : decode cX11_statue 79 = .ok (.isub, 1) := by decide +kernel
theorem dX11_statue_80 : decode cX11_statue 80 = .ok (.invokestatic 216, 3) := by decide +kernel
theorem dX11_statue_83 : decode cX11_statue 83 = .ok (.iload_n 3, 1) := by decide +kernel
theorem dX11_statue_84 : decode cX11_statue 84 = .ok (.if_icmp .le 6, 3) := by decide +kernel
theorem dX11_statue_87 : decode cX11_statue 87 = .ok (.iload 4, 2) := by decide +kernel
theorem dX11_statue_89 : decode cX11_statue 89 = .ok (.ireturn, 1) := by decide +kernel
theorem dX11_statue_90 : decode cX11_statue 90 = .ok (.iinc 4 1, 3) := by decide +kernel
theorem dX11_statue_93 : decode cX11_statue 93 = .ok (.goto (-41), 3) := by decide +kernel
theorem dX11_statue_96 : decode cX11_statue 96 = .ok (.bipush (-9), 2) := by decide +kernel
theorem dX11_statue_98 : decode cX11_statue 98 = .ok (.ireturn, 1) := by decide +kernel
theorem dX11_nights_0 : decode cX11_nights 0 = .ok (.aload_n 0, 1) := by decide +kernel
theorem dX11_nights_1 : decode cX11_nights 1 = .ok (.iload_n 1, 1) := by decide +kernel
theorem dX11_nights_2 : decode cX11_nights 2 = .ok (.iload_n 2, 1) := by decide +kernel
theorem dX11_nights_3 : decode cX11_nights 3 = .ok (.iconst 1, 1) := by decide +kernel
theorem dX11_nights_4 : decode cX11_nights 4 = .ok (.bipush 9, 2) := by decide +kernel
theorem dX11_nights_6 : decode cX11_nights 6 = .ok (.invokestatic 122, 3) := by decide +kernel
theorem dX11_nights_9 : decode cX11_nights 9 = .ok (.ifCond .eq 14, 3) := by decide +kernel
theorem dX11_nights_12 : decode cX11_nights 12 = .ok (.iload_n 3, 1) := by decide +kernel
theorem dX11_nights_13 : decode cX11_nights 13 = .ok (.invokestatic 146, 3) := by decide +kernel
theorem dX11_nights_16 : decode cX11_nights 16 = .ok (.ifCond .eq 7, 3) := by decide +kernel
theorem dX11_nights_19 : decode cX11_nights 19 = .ok (.iconst 1, 1) := by decide +kernel
theorem dX11_nights_20 : decode cX11_nights 20 = .ok (.goto 4, 3) := by decide +kernel
theorem dX11_nights_23 : decode cX11_nights 23 = .ok (.iconst 0, 1) := by decide +kernel
theorem dX11_nights_24 : decode cX11_nights 24 = .ok (.invokevirtual 175, 3) := by decide +kernel
theorem dX11_nights_27 : decode cX11_nights 27 = .ok (.istore 4, 2) := by decide +kernel
theorem dX11_nights_29 : decode cX11_nights 29 = .ok (.iload 4, 2) := by decide +kernel
theorem dX11_nights_31 : decode cX11_nights 31 = .ok (.ifCond .eq 8, 3) := by decide +kernel
theorem dX11_nights_34 : decode cX11_nights 34 = .ok (.iload 4, 2) := by decide +kernel
theorem dX11_nights_36 : decode cX11_nights 36 = .ok (.goto 13, 3) := by decide +kernel
theorem dX11_nights_39 : decode cX11_nights 39 = .ok (.aload_n 0, 1) := by decide +kernel
theorem dX11_nights_40 : decode cX11_nights 40 = .ok (.getfield 51, 3) := by decide +kernel
theorem dX11_nights_43 : decode cX11_nights 43 = .ok (.iload_n 1, 1) := by decide +kernel
theorem dX11_nights_44 : decode cX11_nights 44 = .ok (.iload_n 2, 1) := by decide +kernel
theorem dX11_nights_45 : decode cX11_nights 45 = .ok (.iload_n 3, 1) := by decide +kernel
theorem dX11_nights_46 : decode cX11_nights 46 = .ok (.invokevirtual 221, 3) := by decide +kernel
theorem dX11_nights_49 : decode cX11_nights 49 = .ok (.ireturn, 1) := by decide +kernel
theorem dX11_reading_0 : decode cX11_reading 0 = .ok (.aload_n 0, 1) := by decide +kernel
theorem dX11_reading_1 : decode cX11_reading 1 = .ok (.getfield 21, 3) := by decide +kernel
theorem dX11_reading_4 : decode cX11_reading 4 = .ok (.iload_n 1, 1) := by decide +kernel
theorem dX11_reading_5 : decode cX11_reading 5 = .ok (.invokevirtual 106, 3) := by decide +kernel
theorem dX11_reading_8 : decode cX11_reading 8 = .ok (.ifCond .eq 10, 3) := by decide +kernel
theorem dX11_reading_11 : decode cX11_reading 11 = .ok (.iload_n 2, 1) := by decide +kernel
theorem dX11_reading_12 : decode cX11_reading 12 = .ok (.invokestatic 119, 3) := by decide +kernel
theorem dX11_reading_15 : decode cX11_reading 15 = .ok (.ifCond .ne 5, 3) := by decide +kernel
theorem dX11_reading_18 : decode cX11_reading 18 = .ok (.iconst (-1), 1) := by decide +kernel
theorem dX11_reading_19 : decode cX11_reading 19 = .ok (.ireturn, 1) := by decide +kernel
theorem dX11_reading_20 : decode cX11_reading 20 = .ok (.iload_n 3, 1) := by decide +kernel
theorem dX11_reading_21 : decode cX11_reading 21 = .ok (.invokestatic 146, 3) := by decide +kernel
theorem dX11_reading_24 : decode cX11_reading 24 = .ok (.ifCond .ne 6, 3) := by decide +kernel
theorem dX11_reading_27 : decode cX11_reading 27 = .ok (.bipush (-2), 2) := by decide +kernel
theorem dX11_reading_29 : decode cX11_reading 29 = .ok (.ireturn, 1) := by decide +kernel
theorem dX11_reading_30 : decode cX11_reading 30 = .ok (.aload_n 0, 1) := by decide +kernel
theorem dX11_reading_31 : decode cX11_reading 31 = .ok (.getfield 58, 3) := by decide +kernel
theorem dX11_reading_34 : decode cX11_reading 34 = .ok (.invokevirtual 224, 3) := by decide +kernel
theorem dX11_reading_37 : decode cX11_reading 37 = .ok (.ifCond .eq 8, 3) := by decide +kernel
theorem dX11_reading_40 : decode cX11_reading 40 = .ok (.bipush (-4), 2) := by decide +kernel
theorem dX11_reading_42 : decode cX11_reading 42 = .ok (.goto 13, 3) := by decide +kernel
theorem dX11_reading_45 : decode cX11_reading 45 = .ok (.aload_n 0, 1) := by decide +kernel
theorem dX11_reading_46 : decode cX11_reading 46 = .ok (.getfield 58, 3) := by decide +kernel
theorem dX11_reading_49 : decode cX11_reading 49 = .ok (.iload_n 1, 1) := by decide +kernel
theorem dX11_reading_50 : decode cX11_reading 50 = .ok (.iload_n 2, 1) := by decide +kernel
theorem dX11_reading_51 : decode cX11_reading 51 = .ok (.iload_n 3, 1) := by decide +kernel
theorem dX11_reading_52 : decode cX11_reading 52 = .ok (.invokevirtual 227, 3) := by decide +kernel
theorem dX11_reading_55 : decode cX11_reading 55 = .ok (.ireturn, 1) := by decide +kernel
theorem dX11_back_0 : decode cX11_back 0 = .ok (.iload_n 1, 1) := by decide +kernel
theorem dX11_back_1 : decode cX11_back 1 = .ok (.iconst 0, 1) := by decide +kernel
theorem dX11_back_2 : decode cX11_back 2 = .ok (.aload_n 0, 1) := by decide +kernel
theorem dX11_back_3 : decode cX11_back 3 = .ok (.getfield 58, 3) := by decide +kernel
theorem dX11_back_6 : decode cX11_back 6 = .ok (.getfield 230, 3) := by decide +kernel
theorem dX11_back_9 : decode cX11_back 9 = .ok (.invokestatic 122, 3) := by decide +kernel
theorem dX11_back_12 : decode cX11_back 12 = .ok (.ifCond .ne 6, 3) := by decide +kernel
theorem dX11_back_15 : decode cX11_back 15 = .ok (.bipush (-2), 2) := by decide +kernel
theorem dX11_back_17 : decode cX11_back 17 = .ok (.ireturn, 1) := by decide +kernel
theorem dX11_back_18 : decode cX11_back 18 = .ok (.aload_n 0, 1) := by decide +kernel
theorem dX11_back_19 : decode cX11_back 19 = .ok (.getfield 58, 3) := by decide +kernel
theorem dX11_back_22 : decode cX11_back 22 = .ok (.iload_n 1, 1) := by decide +kernel
theorem dX11_back_23 : decode cX11_back 23 = .ok (.invokevirtual 233, 3) := by decide +kernel
theorem dX11_back_26 : decode cX11_back 26 = .ok (.ireturn, 1) := by decide +kernel
theorem dX11_kinds_0 : decode cX11_kinds 0 = .ok (.aload_n 0, 1) := by decide +kernel
theorem dX11_kinds_1 : decode cX11_kinds 1 = .ok (.getfield 21, 3) := by decide +kernel
theorem dX11_kinds_4 : decode cX11_kinds 4 = .ok (.iload_n 1, 1) := by decide +kernel
theorem dX11_kinds_5 : decode cX11_kinds 5 = .ok (.invokevirtual 106, 3) := by decide +kernel
theorem dX11_kinds_8 : decode cX11_kinds 8 = .ok (.ifCond .eq 14, 3) := by decide +kernel
theorem dX11_kinds_11 : decode cX11_kinds 11 = .ok (.aload_n 0, 1) := by decide +kernel
theorem dX11_kinds_12 : decode cX11_kinds 12 = .ok (.getfield 58, 3) := by decide +kernel
theorem dX11_kinds_15 : decode cX11_kinds 15 = .ok (.iload_n 1, 1) := by decide +kernel
theorem dX11_kinds_16 : decode cX11_kinds 16 = .ok (.invokevirtual 236, 3) := by decide +kernel
theorem dX11_kinds_19 : decode cX11_kinds 19 = .ok (.goto 4, 3) := by decide +kernel
theorem dX11_kinds_22 : decode cX11_kinds 22 = .ok (.iconst (-1), 1) := by decide +kernel
theorem dX11_kinds_23 : decode cX11_kinds 23 = .ok (.ireturn, 1) := by decide +kernel
theorem dX11_sheet_0 : decode cX11_sheet 0 = .ok (.aload_n 0, 1) := by decide +kernel
theorem dX11_sheet_1 : decode cX11_sheet 1 = .ok (.iconst 0, 1) := by decide +kernel
theorem dX11_sheet_2 : decode cX11_sheet 2 = .ok (.putfield 69, 3) := by decide +kernel
theorem dX11_sheet_5 : decode cX11_sheet 5 = .ok (.iload_n 1, 1) := by decide +kernel
theorem dX11_sheet_6 : decode cX11_sheet 6 = .ok (.invokestatic 73, 3) := by decide +kernel
theorem dX11_sheet_9 : decode cX11_sheet 9 = .ok (.ifCond .ne 5, 3) := by decide +kernel
theorem dX11_sheet_12 : decode cX11_sheet 12 = .ok (.iconst (-1), 1) := by decide +kernel
theorem dX11_sheet_13 : decode cX11_sheet 13 = .ok (.ireturn, 1) := by decide +kernel
theorem dX11_sheet_14 : decode cX11_sheet 14 = .ok (.iload_n 2, 1) := by decide +kernel
theorem dX11_sheet_15 : decode cX11_sheet 15 = .ok (.invokestatic 77, 3) := by decide +kernel
theorem dX11_sheet_18 : decode cX11_sheet 18 = .ok (.ifCond .eq 9, 3) := by decide +kernel
theorem dX11_sheet_21 : decode cX11_sheet 21 = .ok (.iload_n 3, 1) := by decide +kernel
theorem dX11_sheet_22 : decode cX11_sheet 22 = .ok (.bipush 80, 2) := by decide +kernel
theorem dX11_sheet_24 : decode cX11_sheet 24 = .ok (.if_icmp .le 6, 3) := by decide +kernel
theorem dX11_sheet_27 : decode cX11_sheet 27 = .ok (.bipush (-2), 2) := by decide +kernel
theorem dX11_sheet_29 : decode cX11_sheet 29 = .ok (.ireturn, 1) := by decide +kernel
theorem dX11_sheet_30 : decode cX11_sheet 30 = .ok (.iload_n 3, 1) := by decide +kernel
theorem dX11_sheet_31 : decode cX11_sheet 31 = .ok (.ifCond .ge 9, 3) := by decide +kernel
theorem dX11_sheet_34 : decode cX11_sheet 34 = .ok (.aload_n 0, 1) := by decide +kernel
theorem dX11_sheet_35 : decode cX11_sheet 35 = .ok (.iconst 4, 1) := by decide +kernel
theorem dX11_sheet_36 : decode cX11_sheet 36 = .ok (.invokevirtual 84, 3) := by decide +kernel
theorem dX11_sheet_39 : decode cX11_sheet 39 = .ok (.ireturn, 1) := by decide +kernel
theorem dX11_sheet_40 : decode cX11_sheet 40 = .ok (.aload_n 0, 1) := by decide +kernel
theorem dX11_sheet_41 : decode cX11_sheet 41 = .ok (.getfield 65, 3) := by decide +kernel
theorem dX11_sheet_44 : decode cX11_sheet 44 = .ok (.iload_n 1, 1) := by decide +kernel
theorem dX11_sheet_45 : decode cX11_sheet 45 = .ok (.aaload, 1) := by decide +kernel
theorem dX11_sheet_46 : decode cX11_sheet 46 = .ok (.iload_n 2, 1) := by decide +kernel
theorem dX11_sheet_47 : decode cX11_sheet 47 = .ok (.iload_n 3, 1) := by decide +kernel
theorem dX11_sheet_48 : decode cX11_sheet 48 = .ok (.invokevirtual 239, 3) := by decide +kernel
theorem dX11_sheet_51 : decode cX11_sheet 51 = .ok (.iconst 1, 1) := by decide +kernel
theorem dX11_sheet_52 : decode cX11_sheet 52 = .ok (.ireturn, 1) := by decide +kernel
theorem dX11_lose_0 : decode cX11_lose 0 = .ok (.iload_n 1, 1) := by decide +kernel
theorem dX11_lose_1 : decode cX11_lose 1 = .ok (.invokestatic 73, 3) := by decide +kernel
theorem dX11_lose_4 : decode cX11_lose 4 = .ok (.ifCond .ne 5, 3) := by decide +kernel
theorem dX11_lose_7 : decode cX11_lose 7 = .ok (.iconst (-1), 1) := by decide +kernel
theorem dX11_lose_8 : decode cX11_lose 8 = .ok (.ireturn, 1) := by decide +kernel
theorem dX11_lose_9 : decode cX11_lose 9 = .ok (.aload_n 0, 1) := by decide +kernel
theorem dX11_lose_10 : decode cX11_lose 10 = .ok (.getfield 65, 3) := by decide +kernel
theorem dX11_lose_13 : decode cX11_lose 13 = .ok (.iload_n 1, 1) := by decide +kernel
theorem dX11_lose_14 : decode cX11_lose 14 = .ok (.aaload, 1) := by decide +kernel
theorem dX11_lose_15 : decode cX11_lose 15 = .ok (.invokevirtual 242, 3) := by decide +kernel
theorem dX11_lose_18 : decode cX11_lose 18 = .ok (.ifCond .eq 7, 3) := by decide +kernel
theorem dX11_lose_21 : decode cX11_lose 21 = .ok (.iconst 1, 1) := by decide +kernel
theorem dX11_lose_22 : decode cX11_lose 22 = .ok (.goto 4, 3) := by decide +kernel
theorem dX11_lose_25 : decode cX11_lose 25 = .ok (.iconst 0, 1) := by decide +kernel
theorem dX11_lose_26 : decode cX11_lose 26 = .ok (.ireturn, 1) := by decide +kernel
theorem dX11_put_0 : decode cX11_put 0 = .ok (.aload_n 0, 1) := by decide +kernel
theorem dX11_put_1 : decode cX11_put 1 = .ok (.iconst 0, 1) := by decide +kernel
theorem dX11_put_2 : decode cX11_put 2 = .ok (.putfield 69, 3) := by decide +kernel
theorem dX11_put_5 : decode cX11_put 5 = .ok (.iload_n 1, 1) := by decide +kernel
theorem dX11_put_6 : decode cX11_put 6 = .ok (.invokestatic 73, 3) := by decide +kernel
theorem dX11_put_9 : decode cX11_put 9 = .ok (.ifCond .ne 5, 3) := by decide +kernel
theorem dX11_put_12 : decode cX11_put 12 = .ok (.iconst (-1), 1) := by decide +kernel
theorem dX11_put_13 : decode cX11_put 13 = .ok (.ireturn, 1) := by decide +kernel
theorem dX11_put_14 : decode cX11_put 14 = .ok (.aload_n 0, 1) := by decide +kernel
theorem dX11_put_15 : decode cX11_put 15 = .ok (.getfield 65, 3) := by decide +kernel
theorem dX11_put_18 : decode cX11_put 18 = .ok (.iload_n 1, 1) := by decide +kernel
theorem dX11_put_19 : decode cX11_put 19 = .ok (.aaload, 1) := by decide +kernel
theorem dX11_put_20 : decode cX11_put 20 = .ok (.astore 4, 2) := by decide +kernel
theorem dX11_put_22 : decode cX11_put 22 = .ok (.aload 4, 2) := by decide +kernel
theorem dX11_put_24 : decode cX11_put 24 = .ok (.invokevirtual 245, 3) := by decide +kernel
theorem dX11_put_27 : decode cX11_put 27 = .ok (.ifCond .eq 9, 3) := by decide +kernel
theorem dX11_put_30 : decode cX11_put 30 = .ok (.aload_n 0, 1) := by decide +kernel
theorem dX11_put_31 : decode cX11_put 31 = .ok (.iconst 1, 1) := by decide +kernel
theorem dX11_put_32 : decode cX11_put 32 = .ok (.invokevirtual 84, 3) := by decide +kernel
theorem dX11_put_35 : decode cX11_put 35 = .ok (.ireturn, 1) := by decide +kernel
theorem dX11_put_36 : decode cX11_put 36 = .ok (.aload 4, 2) := by decide +kernel
theorem dX11_put_38 : decode cX11_put 38 = .ok (.iload_n 2, 1) := by decide +kernel
theorem dX11_put_39 : decode cX11_put 39 = .ok (.invokevirtual 248, 3) := by decide +kernel
theorem dX11_put_42 : decode cX11_put 42 = .ok (.ifCond .ne 9, 3) := by decide +kernel
theorem dX11_put_45 : decode cX11_put 45 = .ok (.aload_n 0, 1) := by decide +kernel
theorem dX11_put_46 : decode cX11_put 46 = .ok (.iconst 3, 1) := by decide +kernel
theorem dX11_put_47 : decode cX11_put 47 = .ok (.invokevirtual 84, 3) := by decide +kernel
theorem dX11_put_50 : decode cX11_put 50 = .ok (.ireturn, 1) := by decide +kernel
theorem dX11_put_51 : decode cX11_put 51 = .ok (.aload 4, 2) := by decide +kernel
theorem dX11_put_53 : decode cX11_put 53 = .ok (.iload_n 2, 1) := by decide +kernel
theorem dX11_put_54 : decode cX11_put 54 = .ok (.iload_n 3, 1) := by decide +kernel
theorem dX11_put_55 : decode cX11_put 55 = .ok (.invokevirtual 251, 3) := by decide +kernel
theorem dX11_put_58 : decode cX11_put 58 = .ok (.iconst 1, 1) := by decide +kernel
theorem dX11_put_59 : decode cX11_put 59 = .ok (.ireturn, 1) := by decide +kernel
theorem dX11_cell_0 : decode cX11_cell 0 = .ok (.aload_n 0, 1) := by decide +kernel
theorem dX11_cell_1 : decode cX11_cell 1 = .ok (.iconst 0, 1) := by decide +kernel
theorem dX11_cell_2 : decode cX11_cell 2 = .ok (.putfield 69, 3) := by decide +kernel
theorem dX11_cell_5 : decode cX11_cell 5 = .ok (.iload_n 1, 1) := by decide +kernel
theorem dX11_cell_6 : decode cX11_cell 6 = .ok (.invokestatic 73, 3) := by decide +kernel
theorem dX11_cell_9 : decode cX11_cell 9 = .ok (.ifCond .eq 10, 3) := by decide +kernel
theorem dX11_cell_12 : decode cX11_cell 12 = .ok (.iload_n 3, 1) := by decide +kernel
theorem dX11_cell_13 : decode cX11_cell 13 = .ok (.invokestatic 77, 3) := by decide +kernel
theorem dX11_cell_16 : decode cX11_cell 16 = .ok (.ifCond .ne 7, 3) := by decide +kernel
theorem dX11_cell_19 : decode cX11_cell 19 = .ok (.ldc2_w 254, 3) := by decide +kernel
theorem dX11_cell_22 : decode cX11_cell 22 = .ok (.lreturn, 1) := by decide +kernel
theorem dX11_cell_23 : decode cX11_cell 23 = .ok (.aload_n 0, 1) := by decide +kernel
theorem dX11_cell_24 : decode cX11_cell 24 = .ok (.getfield 65, 3) := by decide +kernel
theorem dX11_cell_27 : decode cX11_cell 27 = .ok (.iload_n 1, 1) := by decide +kernel
theorem dX11_cell_28 : decode cX11_cell 28 = .ok (.aaload, 1) := by decide +kernel
theorem dX11_cell_29 : decode cX11_cell 29 = .ok (.astore 4, 2) := by decide +kernel
theorem dX11_cell_31 : decode cX11_cell 31 = .ok (.aload 4, 2) := by decide +kernel
theorem dX11_cell_33 : decode cX11_cell 33 = .ok (.iload_n 3, 1) := by decide +kernel
theorem dX11_cell_34 : decode cX11_cell 34 = .ok (.invokevirtual 80, 3) := by decide +kernel
theorem dX11_cell_37 : decode cX11_cell 37 = .ok (.istore 5, 2) := by decide +kernel
theorem dX11_cell_39 : decode cX11_cell 39 = .ok (.iload 5, 2) := by decide +kernel
theorem dX11_cell_41 : decode cX11_cell 41 = .ok (.ifCond .ne 15, 3) := by decide +kernel
theorem dX11_cell_44 : decode cX11_cell 44 = .ok (.aload 4, 2) := by decide +kernel
theorem dX11_cell_46 : decode cX11_cell 46 = .ok (.iload_n 2, 1) := by decide +kernel
theorem dX11_cell_47 : decode cX11_cell 47 = .ok (.invokevirtual 248, 3) := by decide +kernel
theorem dX11_cell_50 : decode cX11_cell 50 = .ok (.ifCond .ne 6, 3) := by decide +kernel
theorem dX11_cell_53 : decode cX11_cell 53 = .ok (.iconst 3, 1) := by decide +kernel
theorem dX11_cell_54 : decode cX11_cell 54 = .ok (.istore 5, 2) := by decide +kernel
theorem dX11_cell_56 : decode cX11_cell 56 = .ok (.aload_n 0, 1) := by decide +kernel
theorem dX11_cell_57 : decode cX11_cell 57 = .ok (.iload 5, 2) := by decide +kernel
theorem dX11_cell_59 : decode cX11_cell 59 = .ok (.putfield 69, 3) := by decide +kernel
theorem dX11_cell_62 : decode cX11_cell 62 = .ok (.iload 5, 2) := by decide +kernel
theorem dX11_cell_64 : decode cX11_cell 64 = .ok (.ifCond .eq 9, 3) := by decide +kernel
theorem dX11_cell_67 : decode cX11_cell 67 = .ok (.ldc2_w 254, 3) := by decide +kernel
theorem dX11_cell_70 : decode cX11_cell 70 = .ok (.goto 11, 3) := by decide +kernel
theorem dX11_cell_73 : decode cX11_cell 73 = .ok (.aload 4, 2) := by decide +kernel
theorem dX11_cell_75 : decode cX11_cell 75 = .ok (.getfield 256, 3) := by decide +kernel
theorem dX11_cell_78 : decode cX11_cell 78 = .ok (.iload_n 2, 1) := by decide +kernel
theorem dX11_cell_79 : decode cX11_cell 79 = .ok (.iaload, 1) := by decide +kernel
theorem dX11_cell_80 : decode cX11_cell 80 = .ok (.i2l, 1) := by decide +kernel
theorem dX11_cell_81 : decode cX11_cell 81 = .ok (.lreturn, 1) := by decide +kernel
theorem dX11_copy_0 : decode cX11_copy 0 = .ok (.aload_n 0, 1) := by decide +kernel
theorem dX11_copy_1 : decode cX11_copy 1 = .ok (.iconst 0, 1) := by decide +kernel
theorem dX11_copy_2 : decode cX11_copy 2 = .ok (.putfield 69, 3) := by decide +kernel
theorem dX11_copy_5 : decode cX11_copy 5 = .ok (.iload_n 1, 1) := by decide +kernel
theorem dX11_copy_6 : decode cX11_copy 6 = .ok (.invokestatic 73, 3) := by decide +kernel
theorem dX11_copy_9 : decode cX11_copy 9 = .ok (.ifCond .eq 10, 3) := by decide +kernel
theorem dX11_copy_12 : decode cX11_copy 12 = .ok (.iload_n 3, 1) := by decide +kernel
theorem dX11_copy_13 : decode cX11_copy 13 = .ok (.invokestatic 73, 3) := by decide +kernel
theorem dX11_copy_16 : decode cX11_copy 16 = .ok (.ifCond .ne 5, 3) := by decide +kernel
theorem dX11_copy_19 : decode cX11_copy 19 = .ok (.iconst (-1), 1) := by decide +kernel
theorem dX11_copy_20 : decode cX11_copy 20 = .ok (.ireturn, 1) := by decide +kernel
theorem dX11_copy_21 : decode cX11_copy 21 = .ok (.aload_n 0, 1) := by decide +kernel
theorem dX11_copy_22 : decode cX11_copy 22 = .ok (.getfield 65, 3) := by decide +kernel
theorem dX11_copy_25 : decode cX11_copy 25 = .ok (.iload_n 1, 1) := by decide +kernel
theorem dX11_copy_26 : decode cX11_copy 26 = .ok (.aaload, 1) := by decide +kernel
theorem dX11_copy_27 : decode cX11_copy 27 = .ok (.astore 6, 2) := by decide +kernel
theorem dX11_copy_29 : decode cX11_copy 29 = .ok (.aload_n 0, 1) := by decide +kernel
theorem dX11_copy_30 : decode cX11_copy 30 = .ok (.getfield 65, 3) := by decide +kernel
theorem dX11_copy_33 : decode cX11_copy 33 = .ok (.iload_n 3, 1) := by decide +kernel
theorem dX11_copy_34 : decode cX11_copy 34 = .ok (.aaload, 1) := by decide +kernel
theorem dX11_copy_35 : decode cX11_copy 35 = .ok (.astore 7, 2) := by decide +kernel
theorem dX11_copy_37 : decode cX11_copy 37 = .ok (.aload 6, 2) := by decide +kernel
theorem dX11_copy_39 : decode cX11_copy 39 = .ok (.invokevirtual 245, 3) := by decide +kernel
theorem dX11_copy_42 : decode cX11_copy 42 = .ok (.ifCond .ne 11, 3) := by decide +kernel
theorem dX11_copy_45 : decode cX11_copy 45 = .ok (.aload 7, 2) := by decide +kernel
theorem dX11_copy_47 : decode cX11_copy 47 = .ok (.invokevirtual 245, 3) := by decide +kernel
theorem dX11_copy_50 : decode cX11_copy 50 = .ok (.ifCond .eq 9, 3) := by decide +kernel
theorem dX11_copy_53 : decode cX11_copy 53 = .ok (.aload_n 0, 1) := by decide +kernel
theorem dX11_copy_54 : decode cX11_copy 54 = .ok (.iconst 1, 1) := by decide +kernel
theorem dX11_copy_55 : decode cX11_copy 55 = .ok (.invokevirtual 84, 3) := by decide +kernel
theorem dX11_copy_58 : decode cX11_copy 58 = .ok (.ireturn, 1) := by decide +kernel
theorem dX11_copy_59 : decode cX11_copy 59 = .ok (.aload 6, 2) := by decide +kernel
theorem dX11_copy_61 : decode cX11_copy 61 = .ok (.getfield 259, 3) := by decide +kernel
theorem dX11_copy_64 : decode cX11_copy 64 = .ok (.aload 7, 2) := by decide +kernel
theorem dX11_copy_66 : decode cX11_copy 66 = .ok (.getfield 259, 3) := by decide +kernel
theorem dX11_copy_69 : decode cX11_copy 69 = .ok (.if_icmp .eq 9, 3) := by decide +kernel
theorem dX11_copy_72 : decode cX11_copy 72 = .ok (.aload_n 0, 1) := by decide +kernel
theorem dX11_copy_73 : decode cX11_copy 73 = .ok (.iconst 2, 1) := by decide +kernel
theorem dX11_copy_74 : decode cX11_copy 74 = .ok (.invokevirtual 84, 3) := by decide +kernel
theorem dX11_copy_77 : decode cX11_copy 77 = .ok (.ireturn, 1) := by decide +kernel
theorem dX11_copy_78 : decode cX11_copy 78 = .ok (.iload 5, 2) := by decide +kernel
theorem dX11_copy_80 : decode cX11_copy 80 = .ok (.ifCond .lt 26, 3) := by decide +kernel
theorem dX11_copy_83 : decode cX11_copy 83 = .ok (.aload 6, 2) := by decide +kernel
theorem dX11_copy_85 : decode cX11_copy 85 = .ok (.iload_n 2, 1) := by decide +kernel
theorem dX11_copy_86 : decode cX11_copy 86 = .ok (.iload 5, 2) := by decide +kernel
theorem dX11_copy_88 : decode cX11_copy 88 = .ok (.invokevirtual 87, 3) := by decide +kernel
theorem dX11_copy_91 : decode cX11_copy 91 = .ok (.ifCond .eq 15, 3) := by decide +kernel
theorem dX11_copy_94 : decode cX11_copy 94 = .ok (.aload 7, 2) := by decide +kernel
theorem dX11_copy_96 : decode cX11_copy 96 = .ok (.iload 4, 2) := by decide +kernel
theorem dX11_copy_98 : decode cX11_copy 98 = .ok (.iload 5, 2) := by decide +kernel
theorem dX11_copy_100 : decode cX11_copy 100 = .ok (.invokevirtual 87, 3) := by decide +kernel
theorem dX11_copy_103 : decode cX11_copy 103 = .ok (.ifCond .ne 9, 3) := by decide +kernel
theorem dX11_copy_106 : decode cX11_copy 106 = .ok (.aload_n 0, 1) := by decide +kernel
theorem dX11_copy_107 : decode cX11_copy 107 = .ok (.iconst 3, 1) := by decide +kernel
theorem dX11_copy_108 : decode cX11_copy 108 = .ok (.invokevirtual 84, 3) := by decide +kernel
theorem dX11_copy_111 : decode cX11_copy 111 = .ok (.ireturn, 1) := by decide +kernel
theorem dX11_copy_112 : decode cX11_copy 112 = .ok (.aload 6, 2) := by decide +kernel
theorem dX11_copy_114 : decode cX11_copy 114 = .ok (.getfield 256, 3) := by decide +kernel
theorem dX11_copy_117 : decode cX11_copy 117 = .ok (.iload_n 2, 1) := by decide +kernel
theorem dX11_copy_118 : decode cX11_copy 118 = .ok (.aload 7, 2) := by decide +kernel
theorem dX11_copy_120 : decode cX11_copy 120 = .ok (.getfield 256, 3) := by decide +kernel
theorem dX11_copy_123 : decode cX11_copy 123 = .ok (.iload 4, 2) := by decide +kernel
theorem dX11_copy_125 : decode cX11_copy 125 = .ok (.iload 5, 2) := by decide +kernel
theorem dX11_copy_127 : decode cX11_copy 127 = .ok (.invokestatic 262, 3) := by decide +kernel
theorem dX11_copy_130 : decode cX11_copy 130 = .ok (.iload 5, 2) := by decide +kernel
theorem dX11_copy_132 : decode cX11_copy 132 = .ok (.ireturn, 1) := by decide +kernel
theorem dX11_tell_0 : decode cX11_tell 0 = .ok (.aload_n 0, 1) := by decide +kernel
theorem dX11_tell_1 : decode cX11_tell 1 = .ok (.getfield 21, 3) := by decide +kernel
theorem dX11_tell_4 : decode cX11_tell 4 = .ok (.iload_n 1, 1) := by decide +kernel
theorem dX11_tell_5 : decode cX11_tell 5 = .ok (.invokevirtual 106, 3) := by decide +kernel
theorem dX11_tell_8 : decode cX11_tell 8 = .ok (.ifCond .eq 30, 3) := by decide +kernel
theorem dX11_tell_11 : decode cX11_tell 11 = .ok (.aload_n 0, 1) := by decide +kernel
theorem dX11_tell_12 : decode cX11_tell 12 = .ok (.getfield 21, 3) := by decide +kernel
theorem dX11_tell_15 : decode cX11_tell 15 = .ok (.iload_n 1, 1) := by decide +kernel
theorem dX11_tell_16 : decode cX11_tell 16 = .ok (.invokevirtual 268, 3) := by decide +kernel
theorem dX11_tell_19 : decode cX11_tell 19 = .ok (.aload_n 0, 1) := by decide +kernel
theorem dX11_tell_20 : decode cX11_tell 20 = .ok (.getfield 21, 3) := by decide +kernel
theorem dX11_tell_23 : decode cX11_tell 23 = .ok (.getfield 113, 3) := by decide +kernel
theorem dX11_tell_26 : decode cX11_tell 26 = .ok (.iload_n 1, 1) := by decide +kernel
theorem dX11_tell_27 : decode cX11_tell 27 = .ok (.iaload, 1) := by decide +kernel
theorem dX11_tell_28 : decode cX11_tell 28 = .ok (.aload_n 0, 1) := by decide +kernel
theorem dX11_tell_29 : decode cX11_tell 29 = .ok (.getfield 12, 3) := by decide +kernel
theorem dX11_tell_32 : decode cX11_tell 32 = .ok (.invokevirtual 272, 3) := by decide +kernel
theorem dX11_tell_35 : decode cX11_tell 35 = .ok (.goto 4, 3) := by decide +kernel
theorem dX11_tell_38 : decode cX11_tell 38 = .ok (.iconst (-1), 1) := by decide +kernel
theorem dX11_tell_39 : decode cX11_tell 39 = .ok (.ireturn, 1) := by decide +kernel
theorem dX11_tread_0 : decode cX11_tread 0 = .ok (.aload_n 0, 1) := by decide +kernel
theorem dX11_tread_1 : decode cX11_tread 1 = .ok (.getfield 21, 3) := by decide +kernel
theorem dX11_tread_4 : decode cX11_tread 4 = .ok (.iload_n 1, 1) := by decide +kernel
theorem dX11_tread_5 : decode cX11_tread 5 = .ok (.invokevirtual 106, 3) := by decide +kernel
theorem dX11_tread_8 : decode cX11_tread 8 = .ok (.ifCond .eq 22, 3) := by decide +kernel
theorem dX11_tread_11 : decode cX11_tread 11 = .ok (.aload_n 0, 1) := by decide +kernel
theorem dX11_tread_12 : decode cX11_tread 12 = .ok (.getfield 21, 3) := by decide +kernel
theorem dX11_tread_15 : decode cX11_tread 15 = .ok (.iload_n 1, 1) := by decide +kernel
theorem dX11_tread_16 : decode cX11_tread 16 = .ok (.invokevirtual 268, 3) := by decide +kernel
theorem dX11_tread_19 : decode cX11_tread 19 = .ok (.iload_n 1, 1) := by decide +kernel
theorem dX11_tread_20 : decode cX11_tread 20 = .ok (.aload_n 0, 1) := by decide +kernel
theorem dX11_tread_21 : decode cX11_tread 21 = .ok (.getfield 12, 3) := by decide +kernel
theorem dX11_tread_24 : decode cX11_tread 24 = .ok (.invokevirtual 278, 3) := by decide +kernel
theorem dX11_tread_27 : decode cX11_tread 27 = .ok (.goto 4, 3) := by decide +kernel
theorem dX11_tread_30 : decode cX11_tread 30 = .ok (.iconst (-1), 1) := by decide +kernel
theorem dX11_tread_31 : decode cX11_tread 31 = .ok (.ireturn, 1) := by decide +kernel
theorem dX11_as_0 : decode cX11_as 0 = .ok (.aload_n 0, 1) := by decide +kernel
theorem dX11_as_1 : decode cX11_as 1 = .ok (.iconst 0, 1) := by decide +kernel
theorem dX11_as_2 : decode cX11_as 2 = .ok (.putfield 69, 3) := by decide +kernel
theorem dX11_as_5 : decode cX11_as 5 = .ok (.aload_n 0, 1) := by decide +kernel
theorem dX11_as_6 : decode cX11_as 6 = .ok (.getfield 21, 3) := by decide +kernel
theorem dX11_as_9 : decode cX11_as 9 = .ok (.iload_n 1, 1) := by decide +kernel
theorem dX11_as_10 : decode cX11_as 10 = .ok (.invokevirtual 106, 3) := by decide +kernel
theorem dX11_as_13 : decode cX11_as 13 = .ok (.ifCond .ne 5, 3) := by decide +kernel
theorem dX11_as_16 : decode cX11_as 16 = .ok (.iconst (-1), 1) := by decide +kernel
theorem dX11_as_17 : decode cX11_as 17 = .ok (.ireturn, 1) := by decide +kernel
theorem dX11_as_18 : decode cX11_as 18 = .ok (.iload_n 2, 1) := by decide +kernel
theorem dX11_as_19 : decode cX11_as 19 = .ok (.iconst 0, 1) := by decide +kernel
theorem dX11_as_20 : decode cX11_as 20 = .ok (.iconst 2, 1) := by decide +kernel
theorem dX11_as_21 : decode cX11_as 21 = .ok (.invokestatic 122, 3) := by decide +kernel
theorem dX11_as_24 : decode cX11_as 24 = .ok (.ifCond .ne 6, 3) := by decide +kernel
theorem dX11_as_27 : decode cX11_as 27 = .ok (.bipush (-2), 2) := by decide +kernel
theorem dX11_as_29 : decode cX11_as 29 = .ok (.ireturn, 1) := by decide +kernel
theorem dX11_as_30 : decode cX11_as 30 = .ok (.aload_n 0, 1) := by decide +kernel
theorem dX11_as_31 : decode cX11_as 31 = .ok (.getfield 21, 3) := by decide +kernel
theorem dX11_as_34 : decode cX11_as 34 = .ok (.getfield 109, 3) := by decide +kernel
theorem dX11_as_37 : decode cX11_as 37 = .ok (.iload_n 1, 1) := by decide +kernel
theorem dX11_as_38 : decode cX11_as 38 = .ok (.iaload, 1) := by decide +kernel
theorem dX11_as_39 : decode cX11_as 39 = .ok (.iload_n 2, 1) := by decide +kernel
theorem dX11_as_40 : decode cX11_as 40 = .ok (.if_icmp .ge 11, 3) := by decide +kernel
theorem dX11_as_43 : decode cX11_as 43 = .ok (.aload_n 0, 1) := by decide +kernel
theorem dX11_as_44 : decode cX11_as 44 = .ok (.iconst 2, 1) := by decide +kernel
theorem dX11_as_45 : decode cX11_as 45 = .ok (.invokevirtual 84, 3) := by decide +kernel
theorem dX11_as_48 : decode cX11_as 48 = .ok (.goto 4, 3) := by decide +kernel
theorem dX11_as_51 : decode cX11_as 51 = .ok (.iconst 1, 1) := by decide +kernel
theorem dX11_as_52 : decode cX11_as 52 = .ok (.ireturn, 1) := by decide +kernel
theorem dX11_trace_0 : decode cX11_trace 0 = .ok (.aload_n 0, 1) := by decide +kernel
theorem dX11_trace_1 : decode cX11_trace 1 = .ok (.getfield 12, 3) := by decide +kernel
theorem dX11_trace_4 : decode cX11_trace 4 = .ok (.getfield 281, 3) := by decide +kernel
theorem dX11_trace_7 : decode cX11_trace 7 = .ok (.ireturn, 1) := by decide +kernel
theorem dX11_fault_0 : decode cX11_fault 0 = .ok (.aload_n 0, 1) := by decide +kernel
theorem dX11_fault_1 : decode cX11_fault 1 = .ok (.getfield 69, 3) := by decide +kernel
theorem dX11_fault_4 : decode cX11_fault 4 = .ok (.ireturn, 1) := by decide +kernel
theorem dX11_many_0 : decode cX11_many 0 = .ok (.iload_n 1, 1) := by decide +kernel
theorem dX11_many_1 : decode cX11_many 1 = .ok (.tableswitch 51 0 2 #[27, 35, 43], 27) := by decide +kernel
theorem dX11_many_28 : decode cX11_many 28 = .ok (.aload_n 0, 1) := by decide +kernel
theorem dX11_many_29 : decode cX11_many 29 = .ok (.getfield 21, 3) := by decide +kernel
theorem dX11_many_32 : decode cX11_many 32 = .ok (.invokevirtual 102, 3) := by decide +kernel
theorem dX11_many_35 : decode cX11_many 35 = .ok (.ireturn, 1) := by decide +kernel
theorem dX11_many_36 : decode cX11_many 36 = .ok (.aload_n 0, 1) := by decide +kernel
theorem dX11_many_37 : decode cX11_many 37 = .ok (.getfield 21, 3) := by decide +kernel
theorem dX11_many_40 : decode cX11_many 40 = .ok (.getfield 284, 3) := by decide +kernel
theorem dX11_many_43 : decode cX11_many 43 = .ok (.ireturn, 1) := by decide +kernel
theorem dX11_many_44 : decode cX11_many 44 = .ok (.aload_n 0, 1) := by decide +kernel
theorem dX11_many_45 : decode cX11_many 45 = .ok (.getfield 58, 3) := by decide +kernel
theorem dX11_many_48 : decode cX11_many 48 = .ok (.getfield 230, 3) := by decide +kernel
theorem dX11_many_51 : decode cX11_many 51 = .ok (.ireturn, 1) := by decide +kernel
theorem dX11_many_52 : decode cX11_many 52 = .ok (.bipush (-2), 2) := by decide +kernel
theorem dX11_many_54 : decode cX11_many 54 = .ok (.ireturn, 1) := by decide +kernel
theorem dX11_refusalOf_0 : decode cX11_refusalOf 0 = .ok (.iload_n 1, 1) := by decide +kernel
theorem dX11_refusalOf_1 : decode cX11_refusalOf 1 = .ok (.invokestatic 119, 3) := by decide +kernel
theorem dX11_refusalOf_4 : decode cX11_refusalOf 4 = .ok (.ifCond .ne 5, 3) := by decide +kernel
theorem dX11_refusalOf_7 : decode cX11_refusalOf 7 = .ok (.iconst (-1), 1) := by decide +kernel
theorem dX11_refusalOf_8 : decode cX11_refusalOf 8 = .ok (.ireturn, 1) := by decide +kernel
theorem dX11_refusalOf_9 : decode cX11_refusalOf 9 = .ok (.iload_n 2, 1) := by decide +kernel
theorem dX11_refusalOf_10 : decode cX11_refusalOf 10 = .ok (.ifCond .ne 6, 3) := by decide +kernel
theorem dX11_refusalOf_13 : decode cX11_refusalOf 13 = .ok (.bipush (-2), 2) := by decide +kernel
theorem dX11_refusalOf_15 : decode cX11_refusalOf 15 = .ok (.ireturn, 1) := by decide +kernel
theorem dX11_refusalOf_16 : decode cX11_refusalOf 16 = .ok (.aload_n 0, 1) := by decide +kernel
theorem dX11_refusalOf_17 : decode cX11_refusalOf 17 = .ok (.getfield 21, 3) := by decide +kernel
theorem dX11_refusalOf_20 : decode cX11_refusalOf 20 = .ok (.invokevirtual 126, 3) := by decide +kernel
theorem dX11_refusalOf_23 : decode cX11_refusalOf 23 = .ok (.ifCond .eq 8, 3) := by decide +kernel
theorem dX11_refusalOf_26 : decode cX11_refusalOf 26 = .ok (.bipush (-3), 2) := by decide +kernel
theorem dX11_refusalOf_28 : decode cX11_refusalOf 28 = .ok (.goto 4, 3) := by decide +kernel
theorem dX11_refusalOf_31 : decode cX11_refusalOf 31 = .ok (.iconst 0, 1) := by decide +kernel
theorem dX11_refusalOf_32 : decode cX11_refusalOf 32 = .ok (.ireturn, 1) := by decide +kernel
theorem dX11_failed_0 : decode cX11_failed 0 = .ok (.aload_n 0, 1) := by decide +kernel
theorem dX11_failed_1 : decode cX11_failed 1 = .ok (.iload_n 1, 1) := by decide +kernel
theorem dX11_failed_2 : decode cX11_failed 2 = .ok (.putfield 69, 3) := by decide +kernel
theorem dX11_failed_5 : decode cX11_failed 5 = .ok (.bipush (-10), 2) := by decide +kernel
theorem dX11_failed_7 : decode cX11_failed 7 = .ok (.iload_n 1, 1) := by decide +kernel
theorem dX11_failed_8 : decode cX11_failed 8 = .ok (.isub, 1) := by decide +kernel
theorem dX11_failed_9 : decode cX11_failed 9 = .ok (.ireturn, 1) := by decide +kernel
theorem dX11_isWithin_0 : decode cX11_isWithin 0 = .ok (.iload_n 0, 1) := by decide +kernel
theorem dX11_isWithin_1 : decode cX11_isWithin 1 = .ok (.iload_n 1, 1) := by decide +kernel
theorem dX11_isWithin_2 : decode cX11_isWithin 2 = .ok (.if_icmp .lt 12, 3) := by decide +kernel
theorem dX11_isWithin_5 : decode cX11_isWithin 5 = .ok (.iload_n 0, 1) := by decide +kernel
theorem dX11_isWithin_6 : decode cX11_isWithin 6 = .ok (.iload_n 2, 1) := by decide +kernel
theorem dX11_isWithin_7 : decode cX11_isWithin 7 = .ok (.if_icmp .gt 7, 3) := by decide +kernel
theorem dX11_isWithin_10 : decode cX11_isWithin 10 = .ok (.iconst 1, 1) := by decide +kernel
theorem dX11_isWithin_11 : decode cX11_isWithin 11 = .ok (.goto 4, 3) := by decide +kernel
theorem dX11_isWithin_14 : decode cX11_isWithin 14 = .ok (.iconst 0, 1) := by decide +kernel
theorem dX11_isWithin_15 : decode cX11_isWithin 15 = .ok (.ireturn, 1) := by decide +kernel
theorem dX11_isMonth_0 : decode cX11_isMonth 0 = .ok (.iload_n 0, 1) := by decide +kernel
theorem dX11_isMonth_1 : decode cX11_isMonth 1 = .ok (.iconst 0, 1) := by decide +kernel
theorem dX11_isMonth_2 : decode cX11_isMonth 2 = .ok (.bipush 11, 2) := by decide +kernel
theorem dX11_isMonth_4 : decode cX11_isMonth 4 = .ok (.invokestatic 122, 3) := by decide +kernel
theorem dX11_isMonth_7 : decode cX11_isMonth 7 = .ok (.ireturn, 1) := by decide +kernel
theorem dX11_isSheet_0 : decode cX11_isSheet 0 = .ok (.iload_n 0, 1) := by decide +kernel
theorem dX11_isSheet_1 : decode cX11_isSheet 1 = .ok (.iconst 0, 1) := by decide +kernel
theorem dX11_isSheet_2 : decode cX11_isSheet 2 = .ok (.iconst 3, 1) := by decide +kernel
theorem dX11_isSheet_3 : decode cX11_isSheet 3 = .ok (.invokestatic 122, 3) := by decide +kernel
theorem dX11_isSheet_6 : decode cX11_isSheet 6 = .ok (.ireturn, 1) := by decide +kernel
theorem dX11_isSort_0 : decode cX11_isSort 0 = .ok (.iload_n 0, 1) := by decide +kernel
theorem dX11_isSort_1 : decode cX11_isSort 1 = .ok (.iconst 0, 1) := by decide +kernel
theorem dX11_isSort_2 : decode cX11_isSort 2 = .ok (.iconst 2, 1) := by decide +kernel
theorem dX11_isSort_3 : decode cX11_isSort 3 = .ok (.invokestatic 122, 3) := by decide +kernel
theorem dX11_isSort_6 : decode cX11_isSort 6 = .ok (.ireturn, 1) := by decide +kernel
theorem dX11_isApart_0 : decode cX11_isApart 0 = .ok (.iload_n 0, 1) := by decide +kernel
theorem dX11_isApart_1 : decode cX11_isApart 1 = .ok (.iconst 0, 1) := by decide +kernel
theorem dX11_isApart_2 : decode cX11_isApart 2 = .ok (.sipush 999, 3) := by decide +kernel
theorem dX11_isApart_5 : decode cX11_isApart 5 = .ok (.invokestatic 122, 3) := by decide +kernel
theorem dX11_isApart_8 : decode cX11_isApart 8 = .ok (.ireturn, 1) := by decide +kernel
