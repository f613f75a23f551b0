theorem dX12_init_0 : decode cX12_init 0 = .ok (.aload_n 0, 1) := by decide +kernel
theorem dX12_init_1 : decode cX12_init 1 = .ok (.invokespecial 1, 3) := by decide +kernel
theorem dX12_init_4 : decode cX12_init 4 = .ok (.aload_n 0, 1) := by decide +kernel
theorem dX12_init_5 : decode cX12_init 5 = .ok (.iconst 4, 1) := by decide +kernel
theorem dX12_init_6 : decode cX12_init 6 = .ok (.newarray .int, 2) := by decide +kernel
theorem dX12_init_8 : decode cX12_init 8 = .ok (.dup, 1) := by decide +kernel
theorem dX12_init_9 : decode cX12_init 9 = .ok (.iconst 0, 1) := by decide +kernel
theorem dX12_init_10 : decode cX12_init 10 = .ok (.bipush (-9), 2) := by decide +kernel
theorem dX12_init_12 : decode cX12_init 12 = .ok (.iastore, 1) := by decide +kernel
theorem dX12_init_13 : decode cX12_init 13 = .ok (.dup, 1) := by decide +kernel
theorem dX12_init_14 : decode cX12_init 14 = .ok (.iconst 1, 1) := by decide +kernel
theorem dX12_init_15 : decode cX12_init 15 = .ok (.bipush (-9), 2) := by decide +kernel
theorem dX12_init_17 : decode cX12_init 17 = .ok (.iastore, 1) := by decide +kernel
theorem dX12_init_18 : decode cX12_init 18 = .ok (.dup, 1) := by decide +kernel
theorem dX12_init_19 : decode cX12_init 19 = .ok (.iconst 2, 1) := by decide +kernel
theorem dX12_init_20 : decode cX12_init 20 = .ok (.bipush (-9), 2) := by decide +kernel
theorem dX12_init_22 : decode cX12_init 22 = .ok (.iastore, 1) := by decide +kernel
theorem dX12_init_23 : decode cX12_init 23 = .ok (.dup, 1) := by decide +kernel
theorem dX12_init_24 : decode cX12_init 24 = .ok (.iconst 3, 1) := by decide +kernel
theorem dX12_init_25 : decode cX12_init 25 = .ok (.bipush (-9), 2) := by decide +kernel
theorem dX12_init_27 : decode cX12_init 27 = .ok (.iastore, 1) := by decide +kernel
theorem dX12_init_28 : decode cX12_init 28 = .ok (.putfield 9, 3) := by decide +kernel
theorem dX12_init_31 : decode cX12_init 31 = .ok (.aload_n 0, 1) := by decide +kernel
theorem dX12_init_32 : decode cX12_init 32 = .ok (.iconst 4, 1) := by decide +kernel
theorem dX12_init_33 : decode cX12_init 33 = .ok (.newarray .int, 2) := by decide +kernel
theorem dX12_init_35 : decode cX12_init 35 = .ok (.putfield 13, 3) := by decide +kernel
theorem dX12_init_38 : decode cX12_init 38 = .ok (.aload_n 0, 1) := by decide +kernel
theorem dX12_init_39 : decode cX12_init 39 = .ok (.sipush 320, 3) := by decide +kernel
theorem dX12_init_42 : decode cX12_init 42 = .ok (.newarray .int, 2) := by decide +kernel
theorem dX12_init_44 : decode cX12_init 44 = .ok (.putfield 16, 3) := by decide +kernel
theorem dX12_init_47 : decode cX12_init 47 = .ok (.aload_n 0, 1) := by decide +kernel
theorem dX12_init_48 : decode cX12_init 48 = .ok (.bipush 30, 2) := by decide +kernel
theorem dX12_init_50 : decode cX12_init 50 = .ok (.newarray .int, 2) := by decide +kernel
theorem dX12_init_52 : decode cX12_init 52 = .ok (.putfield 19, 3) := by decide +kernel
theorem dX12_init_55 : decode cX12_init 55 = .ok (.aload_n 0, 1) := by decide +kernel
theorem dX12_init_56 : decode cX12_init 56 = .ok (.bipush 30, 2) := by decide +kernel
theorem dX12_init_58 : decode cX12_init 58 = .ok (.newarray .int, 2) := by decide +kernel
theorem dX12_init_60 : decode cX12_init 60 = .ok (.putfield 22, 3) := by decide +kernel
theorem dX12_init_63 : decode cX12_init 63 = .ok (.aload_n 0, 1) := by decide +kernel
theorem dX12_init_64 : decode cX12_init 64 = .ok (.bipush 30, 2) := by decide +kernel
theorem dX12_init_66 : decode cX12_init 66 = .ok (.newarray .int, 2) := by decide +kernel
theorem dX12_init_68 : decode cX12_init 68 = .ok (.putfield 25, 3) := by decide +kernel
theorem dX12_init_71 : decode cX12_init 71 = .ok (.aload_n 0, 1) := by decide +kernel
theorem dX12_init_72 : decode cX12_init 72 = .ok (.bipush 12, 2) := by decide +kernel
theorem dX12_init_74 : decode cX12_init 74 = .ok (.newarray .int, 2) := by decide +kernel
theorem dX12_init_76 : decode cX12_init 76 = .ok (.putfield 28, 3) := by decide +kernel
theorem dX12_init_79 : decode cX12_init 79 = .ok (.aload_n 0, 1) := by decide +kernel
theorem dX12_init_80 : decode cX12_init 80 = .ok (.bipush 12, 2) := by decide +kernel
theorem dX12_init_82 : decode cX12_init 82 = .ok (.newarray .int, 2) := by decide +kernel
theorem dX12_init_84 : decode cX12_init 84 = .ok (.putfield 31, 3) := by decide +kernel
theorem dX12_init_87 : decode cX12_init 87 = .ok (.aload_n 0, 1) := by decide +kernel
theorem dX12_init_88 : decode cX12_init 88 = .ok (.bipush 30, 2) := by decide +kernel
theorem dX12_init_90 : decode cX12_init 90 = .ok (.newarray .int, 2) := by decide +kernel
theorem dX12_init_92 : decode cX12_init 92 = .ok (.putfield 34, 3) := by decide +kernel
theorem dX12_init_95 : decode cX12_init 95 = .ok (.aload_n 0, 1) := by decide +kernel
theorem dX12_init_96 : decode cX12_init 96 = .ok (.bipush 30, 2) := by decide +kernel
theorem dX12_init_98 : decode cX12_init 98 = .ok (.newarray .int, 2) := by decide +kernel
theorem dX12_init_100 : decode cX12_init 100 = .ok (.putfield 37, 3) := by decide +kernel
theorem dX12_init_103 : decode cX12_init 103 = .ok (.aload_n 0, 1) := by decide +kernel
theorem dX12_init_104 : decode cX12_init 104 = .ok (.bipush 30, 2) := by decide +kernel
theorem dX12_init_106 : decode cX12_init 106 = .ok (.newarray .int, 2) := by decide +kernel
theorem dX12_init_108 : decode cX12_init 108 = .ok (.putfield 40, 3) := by decide +kernel
theorem dX12_init_111 : decode cX12_init 111 = .ok (.aload_n 0, 1) := by decide +kernel
theorem dX12_init_112 : decode cX12_init 112 = .ok (.bipush 30, 2) := by decide +kernel
theorem dX12_init_114 : decode cX12_init 114 = .ok (.newarray .int, 2) := by decide +kernel
theorem dX12_init_116 : decode cX12_init 116 = .ok (.putfield 43, 3) := by decide +kernel
theorem dX12_init_119 : decode cX12_init 119 = .ok (.aload_n 0, 1) := by decide +kernel
theorem dX12_init_120 : decode cX12_init 120 = .ok (.bipush 30, 2) := by decide +kernel
theorem dX12_init_122 : decode cX12_init 122 = .ok (.newarray .int, 2) := by decide +kernel
theorem dX12_init_124 : decode cX12_init 124 = .ok (.putfield 46, 3) := by decide +kernel
theorem dX12_init_127 : decode cX12_init 127 = .ok (.aload_n 0, 1) := by decide +kernel
theorem dX12_init_128 : decode cX12_init 128 = .ok (.bipush 30, 2) := by decide +kernel
theorem dX12_init_130 : decode cX12_init 130 = .ok (.newarray .boolean, 2) := by decide +kernel
theorem dX12_init_132 : decode cX12_init 132 = .ok (.putfield 49, 3) := by decide +kernel
theorem dX12_init_135 : decode cX12_init 135 = .ok (.aload_n 0, 1) := by decide +kernel
theorem dX12_init_136 : decode cX12_init 136 = .ok (.bipush 10, 2) := by decide +kernel
theorem dX12_init_138 : decode cX12_init 138 = .ok (.newarray .int, 2) := by decide +kernel
theorem dX12_init_140 : decode cX12_init 140 = .ok (.putfield 53, 3) := by decide +kernel
theorem dX12_init_143 : decode cX12_init 143 = .ok (.aload_n 0, 1) := by decide +kernel
theorem dX12_init_144 : decode cX12_init 144 = .ok (.bipush 10, 2) := by decide +kernel
theorem dX12_init_146 : decode cX12_init 146 = .ok (.newarray .int, 2) := by decide +kernel
theorem dX12_init_148 : decode cX12_init 148 = .ok (.putfield 56, 3) := by decide +kernel
theorem dX12_init_151 : decode cX12_init 151 = .ok (.aload_n 0, 1) := by decide +kernel
theorem dX12_init_152 : decode cX12_init 152 = .ok (.bipush 10, 2) := by decide +kernel
theorem dX12_init_154 : decode cX12_init 154 = .ok (.newarray .int, 2) := by decide +kernel
theorem dX12_init_156 : decode cX12_init 156 = .ok (.putfield 59, 3) := by decide +kernel
theorem dX12_init_159 : decode cX12_init 159 = .ok (.return_, 1) := by decide +kernel
theorem dX12_fails_0 : decode cX12_fails 0 = .ok (.aload_n 0, 1) := by decide +kernel
theorem dX12_fails_1 : decode cX12_fails 1 = .ok (.iload_n 1, 1) := by decide +kernel
theorem dX12_fails_2 : decode cX12_fails 2 = .ok (.putfield 62, 3) := by decide +kernel
theorem dX12_fails_5 : decode cX12_fails 5 = .ok (.bipush (-10), 2) := by decide +kernel
theorem dX12_fails_7 : decode cX12_fails 7 = .ok (.iload_n 1, 1) := by decide +kernel
theorem dX12_fails_8 : decode cX12_fails 8 = .ok (.isub, 1) := by decide +kernel
theorem dX12_fails_9 : decode cX12_fails 9 = .ok (.ireturn, 1) := by decide +kernel
theorem dX12_lost_0 : decode cX12_lost 0 = .ok (.aload_n 0, 1) := by decide +kernel
theorem dX12_lost_1 : decode cX12_lost 1 = .ok (.iload_n 1, 1) := by decide +kernel
theorem dX12_lost_2 : decode cX12_lost 2 = .ok (.putfield 62, 3) := by decide +kernel
theorem dX12_lost_5 : decode cX12_lost 5 = .ok (.ldc2_w 66, 3) := by decide +kernel
theorem dX12_lost_8 : decode cX12_lost 8 = .ok (.lreturn, 1) := by decide +kernel
theorem dX12_within_0 : decode cX12_within 0 = .ok (.iload_n 0, 1) := by decide +kernel
theorem dX12_within_1 : decode cX12_within 1 = .ok (.iload_n 1, 1) := by decide +kernel
theorem dX12_within_2 : decode cX12_within 2 = .ok (.if_icmp .lt 12, 3) := by decide +kernel
theorem dX12_within_5 : decode cX12_within 5 = .ok (.iload_n 0, 1) := by decide +kernel
theorem dX12_within_6 : decode cX12_within 6 = .ok (.iload_n 2, 1) := by decide +kernel
theorem dX12_within_7 : decode cX12_within 7 = .ok (.if_icmp .gt 7, 3) := by decide +kernel
theorem dX12_within_10 : decode cX12_within 10 = .ok (.iconst 1, 1) := by decide +kernel
theorem dX12_within_11 : decode cX12_within 11 = .ok (.goto 4, 3) := by decide +kernel
theorem dX12_within_14 : decode cX12_within 14 = .ok (.iconst 0, 1) := by decide +kernel
theorem dX12_within_15 : decode cX12_within 15 = .ok (.ireturn, 1) := by decide +kernel
theorem dX12_isSheet_0 : decode cX12_isSheet 0 = .ok (.iload_n 0, 1) := by decide +kernel
theorem dX12_isSheet_1 : decode cX12_isSheet 1 = .ok (.iconst 0, 1) := by decide +kernel
theorem dX12_isSheet_2 : decode cX12_isSheet 2 = .ok (.iconst 3, 1) := by decide +kernel
theorem dX12_isSheet_3 : decode cX12_isSheet 3 = .ok (.invokestatic 68, 3) := by decide +kernel
theorem dX12_isSheet_6 : decode cX12_isSheet 6 = .ok (.ireturn, 1) := by decide +kernel
theorem dX12_isSort_0 : decode cX12_isSort 0 = .ok (.iload_n 0, 1) := by decide +kernel
theorem dX12_isSort_1 : decode cX12_isSort 1 = .ok (.iconst 0, 1) := by decide +kernel
theorem dX12_isSort_2 : decode cX12_isSort 2 = .ok (.iconst 2, 1) := by decide +kernel
theorem dX12_isSort_3 : decode cX12_isSort 3 = .ok (.invokestatic 68, 3) := by decide +kernel
theorem dX12_isSort_6 : decode cX12_isSort 6 = .ok (.ireturn, 1) := by decide +kernel
theorem dX12_against_0 : decode cX12_against 0 = .ok (.aload_n 0, 1) := by decide +kernel
theorem dX12_against_1 : decode cX12_against 1 = .ok (.getfield 9, 3) := by decide +kernel
theorem dX12_against_4 : decode cX12_against 4 = .ok (.iload_n 1, 1) := by decide +kernel
theorem dX12_against_5 : decode cX12_against 5 = .ok (.iaload, 1) := by decide +kernel
theorem dX12_against_6 : decode cX12_against 6 = .ok (.bipush (-9), 2) := by decide +kernel
theorem dX12_against_8 : decode cX12_against 8 = .ok (.if_icmp .eq 15, 3) := by decide +kernel
theorem dX12_against_11 : decode cX12_against 11 = .ok (.aload_n 0, 1) := by decide +kernel
theorem dX12_against_12 : decode cX12_against 12 = .ok (.getfield 9, 3) := by decide +kernel
theorem dX12_against_15 : decode cX12_against 15 = .ok (.iload_n 1, 1) := by decide +kernel
theorem dX12_against_16 : decode cX12_against 16 = .ok (.iaload, 1) := by decide +kernel
theorem dX12_against_17 : decode cX12_against 17 = .ok (.iload_n 2, 1) := by decide +kernel
theorem dX12_against_18 : decode cX12_against 18 = .ok (.if_icmp .eq 5, 3) := by decide +kernel
theorem dX12_against_21 : decode cX12_against 21 = .ok (.iconst 2, 1) := by decide +kernel
theorem dX12_against_22 : decode cX12_against 22 = .ok (.ireturn, 1) := by decide +kernel
theorem dX12_against_23 : decode cX12_against 23 = .ok (.aload_n 0, 1) := by decide +kernel
theorem dX12_against_24 : decode cX12_against 24 = .ok (.getfield 9, 3) := by decide +kernel
theorem dX12_against_27 : decode cX12_against 27 = .ok (.iload_n 1, 1) := by decide +kernel
theorem dX12_against_28 : decode cX12_against 28 = .ok (.iaload, 1) := by decide +kernel
theorem dX12_against_29 : decode cX12_against 29 = .ok (.bipush (-9), 2) := by decide +kernel
theorem dX12_against_31 : decode cX12_against 31 = .ok (.if_icmp .ne 5, 3) := by decide +kernel
theorem dX12_against_34 : decode cX12_against 34 = .ok (.iconst 1, 1) := by decide +kernel
theorem dX12_against_35 : decode cX12_against 35 = .ok (.ireturn, 1) := by decide +kernel
theorem dX12_against_36 : decode cX12_against 36 = .ok (.iload 4, 2) := by decide +kernel
theorem dX12_against_38 : decode cX12_against 38 = .ok (.ifCond .ge 5, 3) := by decide +kernel
theorem dX12_against_41 : decode cX12_against 41 = .ok (.iconst 4, 1) := by decide +kernel
theorem dX12_against_42 : decode cX12_against 42 = .ok (.ireturn, 1) := by decide +kernel
theorem dX12_against_43 : decode cX12_against 43 = .ok (.iload_n 3, 1) := by decide +kernel
theorem dX12_against_44 : decode cX12_against 44 = .ok (.ifCond .lt 26, 3) := by decide +kernel
theorem dX12_against_47 : decode cX12_against 47 = .ok (.iload_n 3, 1) := by decide +kernel
theorem dX12_against_48 : decode cX12_against 48 = .ok (.aload_n 0, 1) := by decide +kernel
theorem dX12_against_49 : decode cX12_against 49 = .ok (.getfield 13, 3) := by decide +kernel
theorem dX12_against_52 : decode cX12_against 52 = .ok (.iload_n 1, 1) := by decide +kernel
theorem dX12_against_53 : decode cX12_against 53 = .ok (.iaload, 1) := by decide +kernel
theorem dX12_against_54 : decode cX12_against 54 = .ok (.if_icmp .gt 16, 3) := by decide +kernel
theorem dX12_against_57 : decode cX12_against 57 = .ok (.iload 4, 2) := by decide +kernel
theorem dX12_against_59 : decode cX12_against 59 = .ok (.aload_n 0, 1) := by decide +kernel
theorem dX12_against_60 : decode cX12_against 60 = .ok (.getfield 13, 3) := by decide +kernel
theorem dX12_against_63 : decode cX12_against 63 = .ok (.iload_n 1, 1) := by decide +kernel
theorem dX12_against_64 : decode cX12_against 64 = .ok (.iaload, 1) := by decide +kernel
theorem dX12_against_65 : decode cX12_against 65 = .ok (.iload_n 3, 1) := by decide +kernel
theorem dX12_against_66 : decode cX12_against 66 = .ok (.isub, 1) := by decide +kernel
theorem dX12_against_67 : decode cX12_against 67 = .ok (.if_icmp .le 7, 3) := by decide +kernel
theorem dX12_against_70 : decode cX12_against 70 = .ok (.iconst 3, 1) := by decide +kernel
theorem dX12_against_71 : decode cX12_against 71 = .ok (.goto 4, 3) := by decide +kernel
theorem dX12_against_74 : decode cX12_against 74 = .ok (.iconst 0, 1) := by decide +kernel
theorem dX12_against_75 : decode cX12_against 75 = .ok (.ireturn, 1) := by decide +kernel
theorem dX12_all_0 : decode cX12_all 0 = .ok (.aload_n 0, 1) := by decide +kernel
theorem dX12_all_1 : decode cX12_all 1 = .ok (.getfield 72, 3) := by decide +kernel
theorem dX12_all_4 : decode cX12_all 4 = .ok (.aload_n 0, 1) := by decide +kernel
theorem dX12_all_5 : decode cX12_all 5 = .ok (.getfield 75, 3) := by decide +kernel
theorem dX12_all_8 : decode cX12_all 8 = .ok (.imul, 1) := by decide +kernel
theorem dX12_all_9 : decode cX12_all 9 = .ok (.ireturn, 1) := by decide +kernel
theorem dX12_isStone_0 : decode cX12_isStone 0 = .ok (.iload_n 1, 1) := by decide +kernel
theorem dX12_isStone_1 : decode cX12_isStone 1 = .ok (.ifCond .lt 15, 3) := by decide +kernel
theorem dX12_isStone_4 : decode cX12_isStone 4 = .ok (.iload_n 1, 1) := by decide +kernel
theorem dX12_isStone_5 : decode cX12_isStone 5 = .ok (.aload_n 0, 1) := by decide +kernel
theorem dX12_isStone_6 : decode cX12_isStone 6 = .ok (.invokevirtual 78, 3) := by decide +kernel
theorem dX12_isStone_9 : decode cX12_isStone 9 = .ok (.if_icmp .ge 7, 3) := by decide +kernel
theorem dX12_isStone_12 : decode cX12_isStone 12 = .ok (.iconst 1, 1) := by decide +kernel
theorem dX12_isStone_13 : decode cX12_isStone 13 = .ok (.goto 4, 3) := by decide +kernel
theorem dX12_isStone_16 : decode cX12_isStone 16 = .ok (.iconst 0, 1) := by decide +kernel
theorem dX12_isStone_17 : decode cX12_isStone 17 = .ok (.ireturn, 1) := by decide +kernel
theorem dX12_isMonth_0 : decode cX12_isMonth 0 = .ok (.iload_n 0, 1) := by decide +kernel
theorem dX12_isMonth_1 : decode cX12_isMonth 1 = .ok (.iconst 0, 1) := by decide +kernel
theorem dX12_isMonth_2 : decode cX12_isMonth 2 = .ok (.bipush 11, 2) := by decide +kernel
theorem dX12_isMonth_4 : decode cX12_isMonth 4 = .ok (.invokestatic 68, 3) := by decide +kernel
theorem dX12_isMonth_7 : decode cX12_isMonth 7 = .ok (.ireturn, 1) := by decide +kernel
theorem dX12_digit_0 : decode cX12_digit 0 = .ok (.aload_n 0, 1) := by decide +kernel
theorem dX12_digit_1 : decode cX12_digit 1 = .ok (.getfield 82, 3) := by decide +kernel
theorem dX12_digit_4 : decode cX12_digit 4 = .ok (.iload_n 1, 1) := by decide +kernel
theorem dX12_digit_5 : decode cX12_digit 5 = .ok (.if_icmp .ge 26, 3) := by decide +kernel
theorem dX12_digit_8 : decode cX12_digit 8 = .ok (.aload_n 0, 1) := by decide +kernel
theorem dX12_digit_9 : decode cX12_digit 9 = .ok (.getfield 16, 3) := by decide +kernel
theorem dX12_digit_12 : decode cX12_digit 12 = .ok (.aload_n 0, 1) := by decide +kernel
theorem dX12_digit_13 : decode cX12_digit 13 = .ok (.getfield 82, 3) := by decide +kernel
theorem dX12_digit_16 : decode cX12_digit 16 = .ok (.iaload, 1) := by decide +kernel
theorem dX12_digit_17 : decode cX12_digit 17 = .ok (.bipush 48, 2) := by decide +kernel
theorem dX12_digit_19 : decode cX12_digit 19 = .ok (.iload_n 2, 1) := by decide +kernel
theorem dX12_digit_20 : decode cX12_digit 20 = .ok (.iadd, 1) := by decide +kernel
theorem dX12_digit_21 : decode cX12_digit 21 = .ok (.bipush 48, 2) := by decide +kernel
theorem dX12_digit_23 : decode cX12_digit 23 = .ok (.iload_n 3, 1) := by decide +kernel
theorem dX12_digit_24 : decode cX12_digit 24 = .ok (.iadd, 1) := by decide +kernel
theorem dX12_digit_25 : decode cX12_digit 25 = .ok (.invokestatic 68, 3) := by decide +kernel
theorem dX12_digit_28 : decode cX12_digit 28 = .ok (.ifCond .ne 6, 3) := by decide +kernel
theorem dX12_digit_31 : decode cX12_digit 31 = .ok (.bipush (-9), 2) := by decide +kernel
theorem dX12_digit_33 : decode cX12_digit 33 = .ok (.ireturn, 1) := by decide +kernel
theorem dX12_digit_34 : decode cX12_digit 34 = .ok (.aload_n 0, 1) := by decide +kernel
theorem dX12_digit_35 : decode cX12_digit 35 = .ok (.dup, 1) := by decide +kernel
theorem dX12_digit_36 : decode cX12_digit 36 = .ok (.getfield 82, 3) := by decide +kernel
theorem dX12_digit_39 : decode cX12_digit 39 = .ok (.iconst 1, 1) := by decide +kernel
theorem dX12_digit_40 : decode cX12_digit 40 = .ok (.iadd, 1) := by decide +kernel
theorem dX12_digit_41 : decode cX12_digit 41 = .ok (.putfield 82, 3) := by decide +kernel
theorem dX12_digit_44 : decode cX12_digit 44 = .ok (.aload_n 0, 1) := by decide +kernel
theorem dX12_digit_45 : decode cX12_digit 45 = .ok (.getfield 16, 3) := by decide +kernel
theorem dX12_digit_48 : decode cX12_digit 48 = .ok (.aload_n 0, 1) := by decide +kernel
theorem dX12_digit_49 : decode cX12_digit 49 = .ok (.getfield 82, 3) := by decide +kernel
theorem dX12_digit_52 : decode cX12_digit 52 = .ok (.iconst 1, 1) := by decide +kernel
theorem dX12_digit_53 : decode cX12_digit 53 = .ok (.isub, 1) := by decide +kernel
theorem dX12_digit_54 : decode cX12_digit 54 = .ok (.iaload, 1) := by decide +kernel
theorem dX12_digit_55 : decode cX12_digit 55 = .ok (.bipush 48, 2) := by decide +kernel
theorem dX12_digit_57 : decode cX12_digit 57 = .ok (.isub, 1) := by decide +kernel
theorem dX12_digit_58 : decode cX12_digit 58 = .ok (.ireturn, 1) := by decide +kernel
theorem dX12_square_0 : decode cX12_square 0 = .ok (.aload_n 0, 1) := by decide +kernel
theorem dX12_square_1 : decode cX12_square 1 = .ok (.iconst 0, 1) := by decide +kernel
theorem dX12_square_2 : decode cX12_square 2 = .ok (.putfield 62, 3) := by decide +kernel
theorem dX12_square_5 : decode cX12_square 5 = .ok (.iload_n 1, 1) := by decide +kernel
theorem dX12_square_6 : decode cX12_square 6 = .ok (.invokestatic 85, 3) := by decide +kernel
theorem dX12_square_9 : decode cX12_square 9 = .ok (.ifCond .ne 5, 3) := by decide +kernel
theorem dX12_square_12 : decode cX12_square 12 = .ok (.iconst (-1), 1) := by decide +kernel
theorem dX12_square_13 : decode cX12_square 13 = .ok (.ireturn, 1) := by decide +kernel
theorem dX12_square_14 : decode cX12_square 14 = .ok (.iload_n 2, 1) := by decide +kernel
theorem dX12_square_15 : decode cX12_square 15 = .ok (.invokestatic 89, 3) := by decide +kernel
theorem dX12_square_18 : decode cX12_square 18 = .ok (.ifCond .ne 6, 3) := by decide +kernel
theorem dX12_square_21 : decode cX12_square 21 = .ok (.bipush (-2), 2) := by decide +kernel
theorem dX12_square_23 : decode cX12_square 23 = .ok (.ireturn, 1) := by decide +kernel
theorem dX12_square_24 : decode cX12_square 24 = .ok (.aload_n 0, 1) := by decide +kernel
theorem dX12_square_25 : decode cX12_square 25 = .ok (.iload_n 1, 1) := by decide +kernel
theorem dX12_square_26 : decode cX12_square 26 = .ok (.iload_n 2, 1) := by decide +kernel
theorem dX12_square_27 : decode cX12_square 27 = .ok (.iload_n 3, 1) := by decide +kernel
theorem dX12_square_28 : decode cX12_square 28 = .ok (.iload 4, 2) := by decide +kernel
theorem dX12_square_30 : decode cX12_square 30 = .ok (.invokevirtual 92, 3) := by decide +kernel
theorem dX12_square_33 : decode cX12_square 33 = .ok (.istore 5, 2) := by decide +kernel
theorem dX12_square_35 : decode cX12_square 35 = .ok (.iload 5, 2) := by decide +kernel
theorem dX12_square_37 : decode cX12_square 37 = .ok (.ifCond .eq 10, 3) := by decide +kernel
theorem dX12_square_40 : decode cX12_square 40 = .ok (.aload_n 0, 1) := by decide +kernel
theorem dX12_square_41 : decode cX12_square 41 = .ok (.iload 5, 2) := by decide +kernel
theorem dX12_square_43 : decode cX12_square 43 = .ok (.invokevirtual 96, 3) := by decide +kernel
theorem dX12_square_46 : decode cX12_square 46 = .ok (.ireturn, 1) := by decide +kernel
theorem dX12_square_47 : decode cX12_square 47 = .ok (.bipush 80, 2) := by decide +kernel
theorem dX12_square_49 : decode cX12_square 49 = .ok (.iload_n 1, 1) := by decide +kernel
theorem dX12_square_50 : decode cX12_square 50 = .ok (.imul, 1) := by decide +kernel
theorem dX12_square_51 : decode cX12_square 51 = .ok (.iload_n 3, 1) := by decide +kernel
theorem dX12_square_52 : decode cX12_square 52 = .ok (.iadd, 1) := by decide +kernel
theorem dX12_square_53 : decode cX12_square 53 = .ok (.istore 6, 2) := by decide +kernel
theorem dX12_square_55 : decode cX12_square 55 = .ok (.aload_n 0, 1) := by decide +kernel
theorem dX12_square_56 : decode cX12_square 56 = .ok (.iload 6, 2) := by decide +kernel
theorem dX12_square_58 : decode cX12_square 58 = .ok (.putfield 82, 3) := by decide +kernel
theorem dX12_square_61 : decode cX12_square 61 = .ok (.aload_n 0, 1) := by decide +kernel
theorem dX12_square_62 : decode cX12_square 62 = .ok (.iload 6, 2) := by decide +kernel
theorem dX12_square_64 : decode cX12_square 64 = .ok (.iload 4, 2) := by decide +kernel
theorem dX12_square_66 : decode cX12_square 66 = .ok (.iadd, 1) := by decide +kernel
theorem dX12_square_67 : decode cX12_square 67 = .ok (.invokevirtual 100, 3) := by decide +kernel
theorem dX12_square_70 : decode cX12_square 70 = .ok (.ifCond .ne 14, 3) := by decide +kernel
theorem dX12_square_73 : decode cX12_square 73 = .ok (.bipush (-100), 2) := by decide +kernel
theorem dX12_square_75 : decode cX12_square 75 = .ok (.aload_n 0, 1) := by decide +kernel
theorem dX12_square_76 : decode cX12_square 76 = .ok (.getfield 82, 3) := by decide +kernel
theorem dX12_square_79 : decode cX12_square 79 = .ok (.iload 6, 2) := by decide +kernel
theorem dX12_square_81 : decode cX12_square 81 = .ok (.isub, 1) := by decide +kernel
theorem dX12_square_82 : decode cX12_square 82 = .ok (.isub, 1) := by decide +kernel
theorem dX12_square_83 : decode cX12_square 83 = .ok (.ireturn, 1) := by decide +kernel
theorem dX12_square_84 : decode cX12_square 84 = .ok (.aload_n 0, 1) := by decide +kernel
theorem dX12_square_85 : decode cX12_square 85 = .ok (.aload_n 0, 1) := by decide +kernel
theorem dX12_square_86 : decode cX12_square 86 = .ok (.getfield 103, 3) := by decide +kernel
theorem dX12_square_89 : decode cX12_square 89 = .ok (.putfield 72, 3) := by decide +kernel
theorem dX12_square_92 : decode cX12_square 92 = .ok (.aload_n 0, 1) := by decide +kernel
theorem dX12_square_93 : decode cX12_square 93 = .ok (.aload_n 0, 1) := by decide +kernel
theorem dX12_square_94 : decode cX12_square 94 = .ok (.getfield 106, 3) := by decide +kernel
theorem dX12_square_97 : decode cX12_square 97 = .ok (.putfield 75, 3) := by decide +kernel
theorem dX12_square_100 : decode cX12_square 100 = .ok (.iconst 0, 1) := by decide +kernel
theorem dX12_square_101 : decode cX12_square 101 = .ok (.istore 7, 2) := by decide +kernel
theorem dX12_square_103 : decode cX12_square 103 = .ok (.iload 7, 2) := by decide +kernel
theorem dX12_square_105 : decode cX12_square 105 = .ok (.aload_n 0, 1) := by decide +kernel
theorem dX12_square_106 : decode cX12_square 106 = .ok (.invokevirtual 78, 3) := by decide +kernel
theorem dX12_square_109 : decode cX12_square 109 = .ok (.if_icmp .ge 45, 3) := by decide +kernel
theorem dX12_square_112 : decode cX12_square 112 = .ok (.aload_n 0, 1) := by decide +kernel
theorem dX12_square_113 : decode cX12_square 113 = .ok (.getfield 19, 3) := by decide +kernel
theorem dX12_square_116 : decode cX12_square 116 = .ok (.iload 7, 2) := by decide +kernel
theorem dX12_square_118 : decode cX12_square 118 = .ok (.aload_n 0, 1) := by decide +kernel
theorem dX12_square_119 : decode cX12_square 119 = .ok (.getfield 34, 3) := by decide +kernel
theorem dX12_square_122 : decode cX12_square 122 = .ok (.iload 7, 2) := by decide +kernel
theorem dX12_square_124 : decode cX12_square 124 = .ok (.iaload, 1) := by decide +kernel
theorem dX12_square_125 : decode cX12_square 125 = .ok (.iastore, 1) := by decide +kernel
theorem dX12_square_126 : decode cX12_square 126 = .ok (.aload_n 0, 1) := by decide +kernel
theorem dX12_square_127 : decode cX12_square 127 = .ok (.getfield 22, 3) := by decide +kernel
theorem dX12_square_130 : decode cX12_square 130 = .ok (.iload 7, 2) := by decide +kernel
theorem dX12_square_132 : decode cX12_square 132 = .ok (.aload_n 0, 1) := by decide +kernel
theorem dX12_square_133 : decode cX12_square 133 = .ok (.getfield 37, 3) := by decide +kernel
theorem dX12_square_136 : decode cX12_square 136 = .ok (.iload 7, 2) := by decide +kernel
theorem dX12_square_138 : decode cX12_square 138 = .ok (.iaload, 1) := by decide +kernel
theorem dX12_square_139 : decode cX12_square 139 = .ok (.iastore, 1) := by decide +kernel
theorem dX12_square_140 : decode cX12_square 140 = .ok (.aload_n 0, 1) := by decide +kernel
theorem dX12_square_141 : decode cX12_square 141 = .ok (.getfield 25, 3) := by decide +kernel
theorem dX12_square_144 : decode cX12_square 144 = .ok (.iload 7, 2) := by decide +kernel
theorem dX12_square_146 : decode cX12_square 146 = .ok (.iconst 0, 1) := by decide +kernel
theorem dX12_square_147 : decode cX12_square 147 = .ok (.iastore, 1) := by decide +kernel
theorem dX12_square_148 : decode cX12_square 148 = .ok (.iinc 7 1, 3) := by decide +kernel
theorem dX12_square_151 : decode cX12_square 151 = .ok (.goto (-48), 3) := by decide +kernel
theorem dX12_square_154 : decode cX12_square 154 = .ok (.iconst 0, 1) := by decide +kernel
theorem dX12_square_155 : decode cX12_square 155 = .ok (.istore 7, 2) := by decide +kernel
theorem dX12_square_157 : decode cX12_square 157 = .ok (.iload 7, 2) := by decide +kernel
theorem dX12_square_159 : decode cX12_square 159 = .ok (.bipush 12, 2) := by decide +kernel
theorem dX12_square_161 : decode cX12_square 161 = .ok (.if_icmp .ge 25, 3) := by decide +kernel
theorem dX12_square_164 : decode cX12_square 164 = .ok (.aload_n 0, 1) := by decide +kernel
theorem dX12_square_165 : decode cX12_square 165 = .ok (.getfield 28, 3) := by decide +kernel
theorem dX12_square_168 : decode cX12_square 168 = .ok (.iload 7, 2) := by decide +kernel
theorem dX12_square_170 : decode cX12_square 170 = .ok (.iconst 0, 1) := by decide +kernel
theorem dX12_square_171 : decode cX12_square 171 = .ok (.iastore, 1) := by decide +kernel
theorem dX12_square_172 : decode cX12_square 172 = .ok (.aload_n 0, 1) := by decide +kernel
theorem dX12_square_173 : decode cX12_square 173 = .ok (.getfield 31, 3) := by decide +kernel
theorem dX12_square_176 : decode cX12_square 176 = .ok (.iload 7, 2) := by decide +kernel
theorem dX12_square_178 : decode cX12_square 178 = .ok (.iconst 0, 1) := by decide +kernel
theorem dX12_square_179 : decode cX12_square 179 = .ok (.iastore, 1) := by decide +kernel
theorem dX12_square_180 : decode cX12_square 180 = .ok (.iinc 7 1, 3) := by decide +kernel
theorem dX12_square_183 : decode cX12_square 183 = .ok (.goto (-26), 3) := by decide +kernel
theorem dX12_square_186 : decode cX12_square 186 = .ok (.aload_n 0, 1) := by decide +kernel
theorem dX12_square_187 : decode cX12_square 187 = .ok (.iconst 0, 1) := by decide +kernel
theorem dX12_square_188 : decode cX12_square 188 = .ok (.putfield 109, 3) := by decide +kernel
theorem dX12_square_191 : decode cX12_square 191 = .ok (.aload_n 0, 1) := by decide +kernel
theorem dX12_square_192 : decode cX12_square 192 = .ok (.invokevirtual 78, 3) := by decide +kernel
theorem dX12_square_195 : decode cX12_square 195 = .ok (.ireturn, 1) := by decide +kernel
theorem dX12_readSquare_0 : decode cX12_readSquare 0 = .ok (.aload_n 0, 1) := by decide +kernel
theorem dX12_readSquare_1 : decode cX12_readSquare 1 = .ok (.getfield 82, 3) := by decide +kernel
theorem dX12_readSquare_4 : decode cX12_readSquare 4 = .ok (.iload_n 1, 1) := by decide +kernel
theorem dX12_readSquare_5 : decode cX12_readSquare 5 = .ok (.if_icmp .ge 17, 3) := by decide +kernel
theorem dX12_readSquare_8 : decode cX12_readSquare 8 = .ok (.aload_n 0, 1) := by decide +kernel
theorem dX12_readSquare_9 : decode cX12_readSquare 9 = .ok (.getfield 16, 3) := by decide +kernel
theorem dX12_readSquare_12 : decode cX12_readSquare 12 = .ok (.aload_n 0, 1) := by decide +kernel
theorem dX12_readSquare_13 : decode cX12_readSquare 13 = .ok (.getfield 82, 3) := by decide +kernel
theorem dX12_readSquare_16 : decode cX12_readSquare 16 = .ok (.iaload, 1) := by decide +kernel
theorem dX12_readSquare_17 : decode cX12_readSquare 17 = .ok (.bipush 113, 2) := by decide +kernel
theorem dX12_readSquare_19 : decode cX12_readSquare 19 = .ok (.if_icmp .eq 5, 3) := by decide +kernel
theorem dX12_readSquare_22 : decode cX12_readSquare 22 = .ok (.iconst 0, 1) := by decide +kernel
theorem dX12_readSquare_23 : decode cX12_readSquare 23 = .ok (.ireturn, 1) := by decide +kernel
theorem dX12_readSquare_24 : decode cX12_readSquare 24 = .ok (.aload_n 0, 1) := by decide +kernel
theorem dX12_readSquare_25 : decode cX12_readSquare 25 = .ok (.dup, 1) := by decide +kernel
theorem dX12_readSquare_26 : decode cX12_readSquare 26 = .ok (.getfield 82, 3) := by decide +kernel
theorem dX12_readSquare_29 : decode cX12_readSquare 29 = .ok (.iconst 1, 1) := by decide +kernel
theorem dX12_readSquare_30 : decode cX12_readSquare 30 = .ok (.iadd, 1) := by decide +kernel
theorem dX12_readSquare_31 : decode cX12_readSquare 31 = .ok (.putfield 82, 3) := by decide +kernel
theorem dX12_readSquare_34 : decode cX12_readSquare 34 = .ok (.aload_n 0, 1) := by decide +kernel
theorem dX12_readSquare_35 : decode cX12_readSquare 35 = .ok (.aload_n 0, 1) := by decide +kernel
theorem dX12_readSquare_36 : decode cX12_readSquare 36 = .ok (.iload_n 1, 1) := by decide +kernel
theorem dX12_readSquare_37 : decode cX12_readSquare 37 = .ok (.iconst 2, 1) := by decide +kernel
theorem dX12_readSquare_38 : decode cX12_readSquare 38 = .ok (.iconst 5, 1) := by decide +kernel
theorem dX12_readSquare_39 : decode cX12_readSquare 39 = .ok (.invokevirtual 112, 3) := by decide +kernel
theorem dX12_readSquare_42 : decode cX12_readSquare 42 = .ok (.putfield 103, 3) := by decide +kernel
theorem dX12_readSquare_45 : decode cX12_readSquare 45 = .ok (.aload_n 0, 1) := by decide +kernel
theorem dX12_readSquare_46 : decode cX12_readSquare 46 = .ok (.getfield 103, 3) := by decide +kernel
theorem dX12_readSquare_49 : decode cX12_readSquare 49 = .ok (.bipush (-9), 2) := by decide +kernel
theorem dX12_readSquare_51 : decode cX12_readSquare 51 = .ok (.if_icmp .ne 5, 3) := by decide +kernel
theorem dX12_readSquare_54 : decode cX12_readSquare 54 = .ok (.iconst 0, 1) := by decide +kernel
theorem dX12_readSquare_55 : decode cX12_readSquare 55 = .ok (.ireturn, 1) := by decide +kernel
theorem dX12_readSquare_56 : decode cX12_readSquare 56 = .ok (.aload_n 0, 1) := by decide +kernel
theorem dX12_readSquare_57 : decode cX12_readSquare 57 = .ok (.aload_n 0, 1) := by decide +kernel
theorem dX12_readSquare_58 : decode cX12_readSquare 58 = .ok (.iload_n 1, 1) := by decide +kernel
theorem dX12_readSquare_59 : decode cX12_readSquare 59 = .ok (.iconst 2, 1) := by decide +kernel
theorem dX12_readSquare_60 : decode cX12_readSquare 60 = .ok (.bipush 6, 2) := by decide +kernel
theorem dX12_readSquare_62 : decode cX12_readSquare 62 = .ok (.invokevirtual 112, 3) := by decide +kernel
theorem dX12_readSquare_65 : decode cX12_readSquare 65 = .ok (.putfield 106, 3) := by decide +kernel
theorem dX12_readSquare_68 : decode cX12_readSquare 68 = .ok (.aload_n 0, 1) := by decide +kernel
theorem dX12_readSquare_69 : decode cX12_readSquare 69 = .ok (.getfield 106, 3) := by decide +kernel
theorem dX12_readSquare_72 : decode cX12_readSquare 72 = .ok (.bipush (-9), 2) := by decide +kernel
theorem dX12_readSquare_74 : decode cX12_readSquare 74 = .ok (.if_icmp .ne 5, 3) := by decide +kernel
theorem dX12_readSquare_77 : decode cX12_readSquare 77 = .ok (.iconst 0, 1) := by decide +kernel
theorem dX12_readSquare_78 : decode cX12_readSquare 78 = .ok (.ireturn, 1) := by decide +kernel
theorem dX12_readSquare_79 : decode cX12_readSquare 79 = .ok (.iconst 0, 1) := by decide +kernel
theorem dX12_readSquare_80 : decode cX12_readSquare 80 = .ok (.istore_n 2, 1) := by decide +kernel
theorem dX12_readSquare_81 : decode cX12_readSquare 81 = .ok (.iload_n 2, 1) := by decide +kernel
theorem dX12_readSquare_82 : decode cX12_readSquare 82 = .ok (.aload_n 0, 1) := by decide +kernel
theorem dX12_readSquare_83 : decode cX12_readSquare 83 = .ok (.getfield 103, 3) := by decide +kernel
theorem dX12_readSquare_86 : decode cX12_readSquare 86 = .ok (.if_icmp .ge 77, 3) := by decide +kernel
theorem dX12_readSquare_89 : decode cX12_readSquare 89 = .ok (.aload_n 0, 1) := by decide +kernel
theorem dX12_readSquare_90 : decode cX12_readSquare 90 = .ok (.getfield 82, 3) := by decide +kernel
theorem dX12_readSquare_93 : decode cX12_readSquare 93 = .ok (.iload_n 1, 1) := by decide +kernel
theorem dX12_readSquare_94 : decode cX12_readSquare 94 = .ok (.if_icmp .ge 17, 3) := by decide +kernel
theorem dX12_readSquare_97 : decode cX12_readSquare 97 = .ok (.aload_n 0, 1) := by decide +kernel
theorem dX12_readSquare_98 : decode cX12_readSquare 98 = .ok (.getfield 16, 3) := by decide +kernel
theorem dX12_readSquare_101 : decode cX12_readSquare 101 = .ok (.aload_n 0, 1) := by decide +kernel
theorem dX12_readSquare_102 : decode cX12_readSquare 102 = .ok (.getfield 82, 3) := by decide +kernel
theorem dX12_readSquare_105 : decode cX12_readSquare 105 = .ok (.iaload, 1) := by decide +kernel
theorem dX12_readSquare_106 : decode cX12_readSquare 106 = .ok (.bipush 59, 2) := by decide +kernel
theorem dX12_readSquare_108 : decode cX12_readSquare 108 = .ok (.if_icmp .eq 5, 3) := by decide +kernel
theorem dX12_readSquare_111 : decode cX12_readSquare 111 = .ok (.iconst 0, 1) := by decide +kernel
theorem dX12_readSquare_112 : decode cX12_readSquare 112 = .ok (.ireturn, 1) := by decide +kernel
theorem dX12_readSquare_113 : decode cX12_readSquare 113 = .ok (.aload_n 0, 1) := by decide +kernel
theorem dX12_readSquare_114 : decode cX12_readSquare 114 = .ok (.dup, 1) := by decide +kernel
theorem dX12_readSquare_115 : decode cX12_readSquare 115 = .ok (.getfield 82, 3) := by decide +kernel
theorem dX12_readSquare_118 : decode cX12_readSquare 118 = .ok (.iconst 1, 1) := by decide +kernel
theorem dX12_readSquare_119 : decode cX12_readSquare 119 = .ok (.iadd, 1) := by decide +kernel
theorem dX12_readSquare_120 : decode cX12_readSquare 120 = .ok (.putfield 82, 3) := by decide +kernel
theorem dX12_readSquare_123 : decode cX12_readSquare 123 = .ok (.iconst 0, 1) := by decide +kernel
theorem dX12_readSquare_124 : decode cX12_readSquare 124 = .ok (.istore_n 3, 1) := by decide +kernel
theorem dX12_readSquare_125 : decode cX12_readSquare 125 = .ok (.iload_n 3, 1) := by decide +kernel
theorem dX12_readSquare_126 : decode cX12_readSquare 126 = .ok (.aload_n 0, 1) := by decide +kernel
theorem dX12_readSquare_127 : decode cX12_readSquare 127 = .ok (.getfield 106, 3) := by decide +kernel
theorem dX12_readSquare_130 : decode cX12_readSquare 130 = .ok (.if_icmp .ge 27, 3) := by decide +kernel
theorem dX12_readSquare_133 : decode cX12_readSquare 133 = .ok (.aload_n 0, 1) := by decide +kernel
theorem dX12_readSquare_134 : decode cX12_readSquare 134 = .ok (.iload_n 1, 1) := by decide +kernel
theorem dX12_readSquare_135 : decode cX12_readSquare 135 = .ok (.aload_n 0, 1) := by decide +kernel
theorem dX12_readSquare_136 : decode cX12_readSquare 136 = .ok (.getfield 106, 3) := by decide +kernel
theorem dX12_readSquare_139 : decode cX12_readSquare 139 = .ok (.iload_n 2, 1) := by decide +kernel
theorem dX12_readSquare_140 : decode cX12_readSquare 140 = .ok (.imul, 1) := by decide +kernel
theorem dX12_readSquare_141 : decode cX12_readSquare 141 = .ok (.iload_n 3, 1) := by decide +kernel
theorem dX12_readSquare_142 : decode cX12_readSquare 142 = .ok (.iadd, 1) := by decide +kernel
theorem dX12_readSquare_143 : decode cX12_readSquare 143 = .ok (.invokevirtual 116, 3) := by decide +kernel
theorem dX12_readSquare_146 : decode cX12_readSquare 146 = .ok (.ifCond .ne 5, 3) := by decide +kernel
theorem dX12_readSquare_149 : decode cX12_readSquare 149 = .ok (.iconst 0, 1) := by decide +kernel
theorem dX12_readSquare_150 : decode cX12_readSquare 150 = .ok (.ireturn, 1) := by decide +kernel
theorem dX12_readSquare_151 : decode cX12_readSquare 151 = .ok (.iinc 3 1, 3) := by decide +kernel
theorem dX12_readSquare_154 : decode cX12_readSquare 154 = .ok (.goto (-29), 3) := by decide +kernel
theorem dX12_readSquare_157 : decode cX12_readSquare 157 = .ok (.iinc 2 1, 3) := by decide +kernel
theorem dX12_readSquare_160 : decode cX12_readSquare 160 = .ok (.goto (-79), 3) := by decide +kernel
theorem dX12_readSquare_163 : decode cX12_readSquare 163 = .ok (.aload_n 0, 1) := by decide +kernel
theorem dX12_readSquare_164 : decode cX12_readSquare 164 = .ok (.getfield 82, 3) := by decide +kernel
theorem dX12_readSquare_167 : decode cX12_readSquare 167 = .ok (.iload_n 1, 1) := by decide +kernel
theorem dX12_readSquare_168 : decode cX12_readSquare 168 = .ok (.if_icmp .ne 7, 3) := by decide +kernel
theorem dX12_readSquare_171 : decode cX12_readSquare 171 = .ok (.iconst 1, 1) := by decide +kernel
theorem dX12_readSquare_172 : decode cX12_readSquare 172 = .ok (.goto 4, 3) := by decide +kernel
theorem dX12_readSquare_175 : decode cX12_readSquare 175 = .ok (.iconst 0, 1) := by decide +kernel
theorem dX12_readSquare_176 : decode cX12_readSquare 176 = .ok (.ireturn, 1) := by decide +kernel
theorem dX12_readStone_0 : decode cX12_readStone 0 = .ok (.aload_n 0, 1) := by decide +kernel
theorem dX12_readStone_1 : decode cX12_readStone 1 = .ok (.getfield 82, 3) := by decide +kernel
theorem dX12_readStone_4 : decode cX12_readStone 4 = .ok (.iload_n 1, 1) := by decide +kernel
theorem dX12_readStone_5 : decode cX12_readStone 5 = .ok (.if_icmp .lt 5, 3) := by decide +kernel
theorem dX12_readStone_8 : decode cX12_readStone 8 = .ok (.iconst 0, 1) := by decide +kernel
theorem dX12_readStone_9 : decode cX12_readStone 9 = .ok (.ireturn, 1) := by decide +kernel
theorem dX12_readStone_10 : decode cX12_readStone 10 = .ok (.aload_n 0, 1) := by decide +kernel
theorem dX12_readStone_11 : decode cX12_readStone 11 = .ok (.getfield 16, 3) := by decide +kernel
theorem dX12_readStone_14 : decode cX12_readStone 14 = .ok (.aload_n 0, 1) := by decide +kernel
theorem dX12_readStone_15 : decode cX12_readStone 15 = .ok (.getfield 82, 3) := by decide +kernel
theorem dX12_readStone_18 : decode cX12_readStone 18 = .ok (.iaload, 1) := by decide +kernel
theorem dX12_readStone_19 : decode cX12_readStone 19 = .ok (.istore_n 3, 1) := by decide +kernel
theorem dX12_readStone_20 : decode cX12_readStone 20 = .ok (.aload_n 0, 1) := by decide +kernel
theorem dX12_readStone_21 : decode cX12_readStone 21 = .ok (.getfield 34, 3) := by decide +kernel
theorem dX12_readStone_24 : decode cX12_readStone 24 = .ok (.iload_n 2, 1) := by decide +kernel
theorem dX12_readStone_25 : decode cX12_readStone 25 = .ok (.iload_n 3, 1) := by decide +kernel
theorem dX12_readStone_26 : decode cX12_readStone 26 = .ok (.bipush 115, 2) := by decide +kernel
theorem dX12_readStone_28 : decode cX12_readStone 28 = .ok (.if_icmp .ne 7, 3) := by decide +kernel
theorem dX12_readStone_31 : decode cX12_readStone 31 = .ok (.iconst 0, 1) := by decide +kernel
theorem dX12_readStone_32 : decode cX12_readStone 32 = .ok (.goto 25, 3) := by decide +kernel
theorem dX12_readStone_35 : decode cX12_readStone 35 = .ok (.iload_n 3, 1) := by decide +kernel
theorem dX12_readStone_36 : decode cX12_readStone 36 = .ok (.bipush 99, 2) := by decide +kernel
theorem dX12_readStone_38 : decode cX12_readStone 38 = .ok (.if_icmp .ne 7, 3) := by decide +kernel
theorem dX12_readStone_41 : decode cX12_readStone 41 = .ok (.iconst 1, 1) := by decide +kernel
theorem dX12_readStone_42 : decode cX12_readStone 42 = .ok (.goto 15, 3) := by decide +kernel
theorem dX12_readStone_45 : decode cX12_readStone 45 = .ok (.iload_n 3, 1) := by decide +kernel
theorem dX12_readStone_46 : decode cX12_readStone 46 = .ok (.bipush 102, 2) := by decide +kernel
theorem dX12_readStone_48 : decode cX12_readStone 48 = .ok (.if_icmp .ne 7, 3) := by decide +kernel
theorem dX12_readStone_51 : decode cX12_readStone 51 = .ok (.iconst 2, 1) := by decide +kernel
theorem dX12_readStone_52 : decode cX12_readStone 52 = .ok (.goto 5, 3) := by decide +kernel
theorem dX12_readStone_55 : decode cX12_readStone 55 = .ok (.bipush (-9), 2) := by decide +kernel
theorem dX12_readStone_57 : decode cX12_readStone 57 = .ok (.iastore, 1) := by decide +kernel
theorem dX12_readStone_58 : decode cX12_readStone 58 = .ok (.aload_n 0, 1) := by decide +kernel
theorem dX12_readStone_59 : decode cX12_readStone 59 = .ok (.getfield 34, 3) := by decide +kernel
theorem dX12_readStone_62 : decode cX12_readStone 62 = .ok (.iload_n 2, 1) := by decide +kernel
theorem dX12_readStone_63 : decode cX12_readStone 63 = .ok (.iaload, 1) := by decide +kernel
theorem dX12_readStone_64 : decode cX12_readStone 64 = .ok (.bipush (-9), 2) := by decide +kernel
theorem dX12_readStone_66 : decode cX12_readStone 66 = .ok (.if_icmp .ne 5, 3) := by decide +kernel
theorem dX12_readStone_69 : decode cX12_readStone 69 = .ok (.iconst 0, 1) := by decide +kernel
theorem dX12_readStone_70 : decode cX12_readStone 70 = .ok (.ireturn, 1) := by decide +kernel
theorem dX12_readStone_71 : decode cX12_readStone 71 = .ok (.aload_n 0, 1) := by decide +kernel
theorem dX12_readStone_72 : decode cX12_readStone 72 = .ok (.dup, 1) := by decide +kernel
theorem dX12_readStone_73 : decode cX12_readStone 73 = .ok (.getfield 82, 3) := by decide +kernel
theorem dX12_readStone_76 : decode cX12_readStone 76 = .ok (.iconst 1, 1) := by decide +kernel
theorem dX12_readStone_77 : decode cX12_readStone 77 = .ok (.iadd, 1) := by decide +kernel
theorem dX12_readStone_78 : decode cX12_readStone 78 = .ok (.putfield 82, 3) := by decide +kernel
theorem dX12_readStone_81 : decode cX12_readStone 81 = .ok (.aload_n 0, 1) := by decide +kernel
theorem dX12_readStone_82 : decode cX12_readStone 82 = .ok (.getfield 37, 3) := by decide +kernel
theorem dX12_readStone_85 : decode cX12_readStone 85 = .ok (.iload_n 2, 1) := by decide +kernel
theorem dX12_readStone_86 : decode cX12_readStone 86 = .ok (.aload_n 0, 1) := by decide +kernel
theorem dX12_readStone_87 : decode cX12_readStone 87 = .ok (.iload_n 1, 1) := by decide +kernel
theorem dX12_readStone_88 : decode cX12_readStone 88 = .ok (.iconst 0, 1) := by decide +kernel
theorem dX12_readStone_89 : decode cX12_readStone 89 = .ok (.bipush 9, 2) := by decide +kernel
theorem dX12_readStone_91 : decode cX12_readStone 91 = .ok (.invokevirtual 112, 3) := by decide +kernel
theorem dX12_readStone_94 : decode cX12_readStone 94 = .ok (.iastore, 1) := by decide +kernel
theorem dX12_readStone_95 : decode cX12_readStone 95 = .ok (.aload_n 0, 1) := by decide +kernel
theorem dX12_readStone_96 : decode cX12_readStone 96 = .ok (.getfield 37, 3) := by decide +kernel
theorem dX12_readStone_99 : decode cX12_readStone 99 = .ok (.iload_n 2, 1) := by decide +kernel
theorem dX12_readStone_100 : decode cX12_readStone 100 = .ok (.iaload, 1) := by decide +kernel
theorem dX12_readStone_101 : decode cX12_readStone 101 = .ok (.bipush (-9), 2) := by decide +kernel
theorem dX12_readStone_103 : decode cX12_readStone 103 = .ok (.if_icmp .eq 7, 3) := by decide +kernel
theorem dX12_readStone_106 : decode cX12_readStone 106 = .ok (.iconst 1, 1) := by decide +kernel
theorem dX12_readStone_107 : decode cX12_readStone 107 = .ok (.goto 4, 3) := by decide +kernel
theorem dX12_readStone_110 : decode cX12_readStone 110 = .ok (.iconst 0, 1) := by decide +kernel
theorem dX12_readStone_111 : decode cX12_readStone 111 = .ok (.ireturn, 1) := by decide +kernel
theorem dX12_ofStone_0 : decode cX12_ofStone 0 = .ok (.aload_n 0, 1) := by decide +kernel
theorem dX12_ofStone_1 : decode cX12_ofStone 1 = .ok (.iload_n 1, 1) := by decide +kernel
theorem dX12_ofStone_2 : decode cX12_ofStone 2 = .ok (.invokevirtual 120, 3) := by decide +kernel
theorem dX12_ofStone_5 : decode cX12_ofStone 5 = .ok (.ifCond .ne 5, 3) := by decide +kernel
theorem dX12_ofStone_8 : decode cX12_ofStone 8 = .ok (.iconst (-1), 1) := by decide +kernel
theorem dX12_ofStone_9 : decode cX12_ofStone 9 = .ok (.ireturn, 1) := by decide +kernel
theorem dX12_ofStone_10 : decode cX12_ofStone 10 = .ok (.iload_n 2, 1) := by decide +kernel
theorem dX12_ofStone_11 : decode cX12_ofStone 11 = .ok (.ifCond .ne 12, 3) := by decide +kernel
theorem dX12_ofStone_14 : decode cX12_ofStone 14 = .ok (.aload_n 0, 1) := by decide +kernel
theorem dX12_ofStone_15 : decode cX12_ofStone 15 = .ok (.getfield 19, 3) := by decide +kernel
theorem dX12_ofStone_18 : decode cX12_ofStone 18 = .ok (.iload_n 1, 1) := by decide +kernel
theorem dX12_ofStone_19 : decode cX12_ofStone 19 = .ok (.iaload, 1) := by decide +kernel
theorem dX12_ofStone_20 : decode cX12_ofStone 20 = .ok (.goto 33, 3) := by decide +kernel
theorem dX12_ofStone_23 : decode cX12_ofStone 23 = .ok (.iload_n 2, 1) := by decide +kernel
theorem dX12_ofStone_24 : decode cX12_ofStone 24 = .ok (.iconst 1, 1) := by decide +kernel
theorem dX12_ofStone_25 : decode cX12_ofStone 25 = .ok (.if_icmp .ne 12, 3) := by decide +kernel
theorem dX12_ofStone_28 : decode cX12_ofStone 28 = .ok (.aload_n 0, 1) := by decide +kernel
theorem dX12_ofStone_29 : decode cX12_ofStone 29 = .ok (.getfield 22, 3) := by decide +kernel
theorem dX12_ofStone_32 : decode cX12_ofStone 32 = .ok (.iload_n 1, 1) := by decide +kernel
theorem dX12_ofStone_33 : decode cX12_ofStone 33 = .ok (.iaload, 1) := by decide +kernel
theorem dX12_ofStone_34 : decode cX12_ofStone 34 = .ok (.goto 19, 3) := by decide +kernel
theorem dX12_ofStone_37 : decode cX12_ofStone 37 = .ok (.iload_n 2, 1) := by decide +kernel
theorem dX12_ofStone_38 : decode cX12_ofStone 38 = .ok (.iconst 2, 1) := by decide +kernel
theorem dX12_ofStone_39 : decode cX12_ofStone 39 = .ok (.if_icmp .ne 12, 3) := by decide +kernel
theorem dX12_ofStone_42 : decode cX12_ofStone 42 = .ok (.aload_n 0, 1) := by decide +kernel
theorem dX12_ofStone_43 : decode cX12_ofStone 43 = .ok (.getfield 25, 3) := by decide +kernel
theorem dX12_ofStone_46 : decode cX12_ofStone 46 = .ok (.iload_n 1, 1) := by decide +kernel
theorem dX12_ofStone_47 : decode cX12_ofStone 47 = .ok (.iaload, 1) := by decide +kernel
theorem dX12_ofStone_48 : decode cX12_ofStone 48 = .ok (.goto 5, 3) := by decide +kernel
theorem dX12_ofStone_51 : decode cX12_ofStone 51 = .ok (.bipush (-2), 2) := by decide +kernel
theorem dX12_ofStone_53 : decode cX12_ofStone 53 = .ok (.ireturn, 1) := by decide +kernel
theorem dX12_month_0 : decode cX12_month 0 = .ok (.iload_n 1, 1) := by decide +kernel
theorem dX12_month_1 : decode cX12_month 1 = .ok (.invokestatic 123, 3) := by decide +kernel
theorem dX12_month_4 : decode cX12_month 4 = .ok (.ifCond .ne 5, 3) := by decide +kernel
theorem dX12_month_7 : decode cX12_month 7 = .ok (.iconst (-1), 1) := by decide +kernel
theorem dX12_month_8 : decode cX12_month 8 = .ok (.ireturn, 1) := by decide +kernel
theorem dX12_month_9 : decode cX12_month 9 = .ok (.iload_n 2, 1) := by decide +kernel
theorem dX12_month_10 : decode cX12_month 10 = .ok (.iconst 0, 1) := by decide +kernel
theorem dX12_month_11 : decode cX12_month 11 = .ok (.bipush 9, 2) := by decide +kernel
theorem dX12_month_13 : decode cX12_month 13 = .ok (.invokestatic 68, 3) := by decide +kernel
theorem dX12_month_16 : decode cX12_month 16 = .ok (.ifCond .eq 13, 3) := by decide +kernel
theorem dX12_month_19 : decode cX12_month 19 = .ok (.iload_n 3, 1) := by decide +kernel
theorem dX12_month_20 : decode cX12_month 20 = .ok (.iconst 0, 1) := by decide +kernel
theorem dX12_month_21 : decode cX12_month 21 = .ok (.bipush 9, 2) := by decide +kernel
theorem dX12_month_23 : decode cX12_month 23 = .ok (.invokestatic 68, 3) := by decide +kernel
theorem dX12_month_26 : decode cX12_month 26 = .ok (.ifCond .ne 6, 3) := by decide +kernel
theorem dX12_month_29 : decode cX12_month 29 = .ok (.bipush (-2), 2) := by decide +kernel
theorem dX12_month_31 : decode cX12_month 31 = .ok (.ireturn, 1) := by decide +kernel
theorem dX12_month_32 : decode cX12_month 32 = .ok (.aload_n 0, 1) := by decide +kernel
theorem dX12_month_33 : decode cX12_month 33 = .ok (.invokevirtual 78, 3) := by decide +kernel
theorem dX12_month_36 : decode cX12_month 36 = .ok (.ifCond .ne 6, 3) := by decide +kernel
theorem dX12_month_39 : decode cX12_month 39 = .ok (.bipush (-3), 2) := by decide +kernel
theorem dX12_month_41 : decode cX12_month 41 = .ok (.ireturn, 1) := by decide +kernel
theorem dX12_month_42 : decode cX12_month 42 = .ok (.bipush 10, 2) := by decide +kernel
theorem dX12_month_44 : decode cX12_month 44 = .ok (.aload_n 0, 1) := by decide +kernel
theorem dX12_month_45 : decode cX12_month 45 = .ok (.getfield 28, 3) := by decide +kernel
theorem dX12_month_48 : decode cX12_month 48 = .ok (.iload_n 1, 1) := by decide +kernel
theorem dX12_month_49 : decode cX12_month 49 = .ok (.iaload, 1) := by decide +kernel
theorem dX12_month_50 : decode cX12_month 50 = .ok (.imul, 1) := by decide +kernel
theorem dX12_month_51 : decode cX12_month 51 = .ok (.aload_n 0, 1) := by decide +kernel
theorem dX12_month_52 : decode cX12_month 52 = .ok (.getfield 31, 3) := by decide +kernel
theorem dX12_month_55 : decode cX12_month 55 = .ok (.iload_n 1, 1) := by decide +kernel
theorem dX12_month_56 : decode cX12_month 56 = .ok (.iaload, 1) := by decide +kernel
theorem dX12_month_57 : decode cX12_month 57 = .ok (.iadd, 1) := by decide +kernel
theorem dX12_month_58 : decode cX12_month 58 = .ok (.istore 4, 2) := by decide +kernel
theorem dX12_month_60 : decode cX12_month 60 = .ok (.aload_n 0, 1) := by decide +kernel
theorem dX12_month_61 : decode cX12_month 61 = .ok (.getfield 28, 3) := by decide +kernel
theorem dX12_month_64 : decode cX12_month 64 = .ok (.iload_n 1, 1) := by decide +kernel
theorem dX12_month_65 : decode cX12_month 65 = .ok (.iload_n 2, 1) := by decide +kernel
theorem dX12_month_66 : decode cX12_month 66 = .ok (.iastore, 1) := by decide +kernel
theorem dX12_month_67 : decode cX12_month 67 = .ok (.aload_n 0, 1) := by decide +kernel
theorem dX12_month_68 : decode cX12_month 68 = .ok (.getfield 31, 3) := by decide +kernel
theorem dX12_month_71 : decode cX12_month 71 = .ok (.iload_n 1, 1) := by decide +kernel
theorem dX12_month_72 : decode cX12_month 72 = .ok (.iload_n 3, 1) := by decide +kernel
theorem dX12_month_73 : decode cX12_month 73 = .ok (.iastore, 1) := by decide +kernel
theorem dX12_month_74 : decode cX12_month 74 = .ok (.iload 4, 2) := by decide +kernel
theorem dX12_month_76 : decode cX12_month 76 = .ok (.ireturn, 1) := by decide +kernel
theorem dX12_lift_0 : decode cX12_lift 0 = .ok (.aload_n 0, 1) := by decide +kernel
theorem dX12_lift_1 : decode cX12_lift 1 = .ok (.iload_n 1, 1) := by decide +kernel
theorem dX12_lift_2 : decode cX12_lift 2 = .ok (.invokevirtual 120, 3) := by decide +kernel
theorem dX12_lift_5 : decode cX12_lift 5 = .ok (.ifCond .ne 5, 3) := by decide +kernel
theorem dX12_lift_8 : decode cX12_lift 8 = .ok (.iconst (-1), 1) := by decide +kernel
theorem dX12_lift_9 : decode cX12_lift 9 = .ok (.ireturn, 1) := by decide +kernel
theorem dX12_lift_10 : decode cX12_lift 10 = .ok (.iload_n 2, 1) := by decide +kernel
theorem dX12_lift_11 : decode cX12_lift 11 = .ok (.iconst 0, 1) := by decide +kernel
theorem dX12_lift_12 : decode cX12_lift 12 = .ok (.bipush 99, 2) := by decide +kernel
theorem dX12_lift_14 : decode cX12_lift 14 = .ok (.invokestatic 68, 3) := by decide +kernel
theorem dX12_lift_17 : decode cX12_lift 17 = .ok (.ifCond .ne 6, 3) := by decide +kernel
theorem dX12_lift_20 : decode cX12_lift 20 = .ok (.bipush (-2), 2) := by decide +kernel
theorem dX12_lift_22 : decode cX12_lift 22 = .ok (.ireturn, 1) := by decide +kernel
theorem dX12_lift_23 : decode cX12_lift 23 = .ok (.aload_n 0, 1) := by decide +kernel
theorem dX12_lift_24 : decode cX12_lift 24 = .ok (.getfield 25, 3) := by decide +kernel
theorem dX12_lift_27 : decode cX12_lift 27 = .ok (.iload_n 1, 1) := by decide +kernel
theorem dX12_lift_28 : decode cX12_lift 28 = .ok (.iaload, 1) := by decide +kernel
theorem dX12_lift_29 : decode cX12_lift 29 = .ok (.istore_n 3, 1) := by decide +kernel
theorem dX12_lift_30 : decode cX12_lift 30 = .ok (.aload_n 0, 1) := by decide +kernel
theorem dX12_lift_31 : decode cX12_lift 31 = .ok (.getfield 25, 3) := by decide +kernel
theorem dX12_lift_34 : decode cX12_lift 34 = .ok (.iload_n 1, 1) := by decide +kernel
theorem dX12_lift_35 : decode cX12_lift 35 = .ok (.iload_n 2, 1) := by decide +kernel
theorem dX12_lift_36 : decode cX12_lift 36 = .ok (.iastore, 1) := by decide +kernel
theorem dX12_lift_37 : decode cX12_lift 37 = .ok (.iload_n 3, 1) := by decide +kernel
theorem dX12_lift_38 : decode cX12_lift 38 = .ok (.ireturn, 1) := by decide +kernel
theorem dX12_heightAs_0 : decode cX12_heightAs 0 = .ok (.bipush 10, 2) := by decide +kernel
theorem dX12_heightAs_2 : decode cX12_heightAs 2 = .ok (.aload_n 0, 1) := by decide +kernel
theorem dX12_heightAs_3 : decode cX12_heightAs 3 = .ok (.getfield 22, 3) := by decide +kernel
theorem dX12_heightAs_6 : decode cX12_heightAs 6 = .ok (.iload_n 1, 1) := by decide +kernel
theorem dX12_heightAs_7 : decode cX12_heightAs 7 = .ok (.iaload, 1) := by decide +kernel
theorem dX12_heightAs_8 : decode cX12_heightAs 8 = .ok (.imul, 1) := by decide +kernel
theorem dX12_heightAs_9 : decode cX12_heightAs 9 = .ok (.aload_n 0, 1) := by decide +kernel
theorem dX12_heightAs_10 : decode cX12_heightAs 10 = .ok (.getfield 25, 3) := by decide +kernel
theorem dX12_heightAs_13 : decode cX12_heightAs 13 = .ok (.iload_n 1, 1) := by decide +kernel
theorem dX12_heightAs_14 : decode cX12_heightAs 14 = .ok (.iaload, 1) := by decide +kernel
theorem dX12_heightAs_15 : decode cX12_heightAs 15 = .ok (.iadd, 1) := by decide +kernel
theorem dX12_heightAs_16 : decode cX12_heightAs 16 = .ok (.istore 4, 2) := by decide +kernel
theorem dX12_heightAs_18 : decode cX12_heightAs 18 = .ok (.iload 4, 2) := by decide +kernel
theorem dX12_heightAs_20 : decode cX12_heightAs 20 = .ok (.iload_n 2, 1) := by decide +kernel
theorem dX12_heightAs_21 : decode cX12_heightAs 21 = .ok (.ifCond .le 14, 3) := by decide +kernel
theorem dX12_heightAs_24 : decode cX12_heightAs 24 = .ok (.iconst 3, 1) := by decide +kernel
theorem dX12_heightAs_25 : decode cX12_heightAs 25 = .ok (.aload_n 0, 1) := by decide +kernel
theorem dX12_heightAs_26 : decode cX12_heightAs 26 = .ok (.getfield 28, 3) := by decide +kernel
theorem dX12_heightAs_29 : decode cX12_heightAs 29 = .ok (.iload_n 3, 1) := by decide +kernel
theorem dX12_heightAs_30 : decode cX12_heightAs 30 = .ok (.iaload, 1) := by decide +kernel
theorem dX12_heightAs_31 : decode cX12_heightAs 31 = .ok (.imul, 1) := by decide +kernel
theorem dX12_heightAs_32 : decode cX12_heightAs 32 = .ok (.goto 4, 3) := by decide +kernel
theorem dX12_heightAs_35 : decode cX12_heightAs 35 = .ok (.iconst 0, 1) := by decide +kernel
theorem dX12_heightAs_36 : decode cX12_heightAs 36 = .ok (.iadd, 1) := by decide +kernel
theorem dX12_heightAs_37 : decode cX12_heightAs 37 = .ok (.istore 4, 2) := by decide +kernel
theorem dX12_heightAs_39 : decode cX12_heightAs 39 = .ok (.iload_n 2, 1) := by decide +kernel
theorem dX12_heightAs_40 : decode cX12_heightAs 40 = .ok (.iconst 2, 1) := by decide +kernel
theorem dX12_heightAs_41 : decode cX12_heightAs 41 = .ok (.if_icmp .ne 17, 3) := by decide +kernel
theorem dX12_heightAs_44 : decode cX12_heightAs 44 = .ok (.iload 4, 2) := by decide +kernel
theorem dX12_heightAs_46 : decode cX12_heightAs 46 = .ok (.iconst 2, 1) := by decide +kernel
theorem dX12_heightAs_47 : decode cX12_heightAs 47 = .ok (.aload_n 0, 1) := by decide +kernel
theorem dX12_heightAs_48 : decode cX12_heightAs 48 = .ok (.getfield 31, 3) := by decide +kernel
theorem dX12_heightAs_51 : decode cX12_heightAs 51 = .ok (.iload_n 3, 1) := by decide +kernel
theorem dX12_heightAs_52 : decode cX12_heightAs 52 = .ok (.iaload, 1) := by decide +kernel
theorem dX12_heightAs_53 : decode cX12_heightAs 53 = .ok (.imul, 1) := by decide +kernel
theorem dX12_heightAs_54 : decode cX12_heightAs 54 = .ok (.iadd, 1) := by decide +kernel
theorem dX12_heightAs_55 : decode cX12_heightAs 55 = .ok (.goto 5, 3) := by decide +kernel
theorem dX12_heightAs_58 : decode cX12_heightAs 58 = .ok (.iload 4, 2) := by decide +kernel
theorem dX12_heightAs_60 : decode cX12_heightAs 60 = .ok (.ireturn, 1) := by decide +kernel
theorem dX12_heightOf_0 : decode cX12_heightOf 0 = .ok (.aload_n 0, 1) := by decide +kernel
theorem dX12_heightOf_1 : decode cX12_heightOf 1 = .ok (.iload_n 1, 1) := by decide +kernel
theorem dX12_heightOf_2 : decode cX12_heightOf 2 = .ok (.aload_n 0, 1) := by decide +kernel
theorem dX12_heightOf_3 : decode cX12_heightOf 3 = .ok (.getfield 19, 3) := by decide +kernel
theorem dX12_heightOf_6 : decode cX12_heightOf 6 = .ok (.iload_n 1, 1) := by decide +kernel
theorem dX12_heightOf_7 : decode cX12_heightOf 7 = .ok (.iaload, 1) := by decide +kernel
theorem dX12_heightOf_8 : decode cX12_heightOf 8 = .ok (.iload_n 2, 1) := by decide +kernel
theorem dX12_heightOf_9 : decode cX12_heightOf 9 = .ok (.invokevirtual 126, 3) := by decide +kernel
theorem dX12_heightOf_12 : decode cX12_heightOf 12 = .ok (.ireturn, 1) := by decide +kernel
theorem dX12_height_0 : decode cX12_height 0 = .ok (.aload_n 0, 1) := by decide +kernel
theorem dX12_height_1 : decode cX12_height 1 = .ok (.iload_n 1, 1) := by decide +kernel
theorem dX12_height_2 : decode cX12_height 2 = .ok (.invokevirtual 120, 3) := by decide +kernel
theorem dX12_height_5 : decode cX12_height 5 = .ok (.ifCond .eq 19, 3) := by decide +kernel
theorem dX12_height_8 : decode cX12_height 8 = .ok (.iload_n 2, 1) := by decide +kernel
theorem dX12_height_9 : decode cX12_height 9 = .ok (.invokestatic 123, 3) := by decide +kernel
theorem dX12_height_12 : decode cX12_height 12 = .ok (.ifCond .eq 12, 3) := by decide +kernel
theorem dX12_height_15 : decode cX12_height 15 = .ok (.aload_n 0, 1) := by decide +kernel
theorem dX12_height_16 : decode cX12_height 16 = .ok (.iload_n 1, 1) := by decide +kernel
theorem dX12_height_17 : decode cX12_height 17 = .ok (.iload_n 2, 1) := by decide +kernel
theorem dX12_height_18 : decode cX12_height 18 = .ok (.invokevirtual 129, 3) := by decide +kernel
theorem dX12_height_21 : decode cX12_height 21 = .ok (.goto 4, 3) := by decide +kernel
theorem dX12_height_24 : decode cX12_height 24 = .ok (.iconst (-1), 1) := by decide +kernel
theorem dX12_height_25 : decode cX12_height 25 = .ok (.ireturn, 1) := by decide +kernel
theorem dX12_rises_0 : decode cX12_rises 0 = .ok (.aload_n 0, 1) := by decide +kernel
theorem dX12_rises_1 : decode cX12_rises 1 = .ok (.iload_n 1, 1) := by decide +kernel
theorem dX12_rises_2 : decode cX12_rises 2 = .ok (.invokevirtual 120, 3) := by decide +kernel
theorem dX12_rises_5 : decode cX12_rises 5 = .ok (.ifCond .ne 5, 3) := by decide +kernel
theorem dX12_rises_8 : decode cX12_rises 8 = .ok (.iconst (-1), 1) := by decide +kernel
theorem dX12_rises_9 : decode cX12_rises 9 = .ok (.ireturn, 1) := by decide +kernel
theorem dX12_rises_10 : decode cX12_rises 10 = .ok (.iload_n 2, 1) := by decide +kernel
theorem dX12_rises_11 : decode cX12_rises 11 = .ok (.iconst 0, 1) := by decide +kernel
theorem dX12_rises_12 : decode cX12_rises 12 = .ok (.iconst 1, 1) := by decide +kernel
theorem dX12_rises_13 : decode cX12_rises 13 = .ok (.invokestatic 68, 3) := by decide +kernel
theorem dX12_rises_16 : decode cX12_rises 16 = .ok (.ifCond .ne 6, 3) := by decide +kernel
theorem dX12_rises_19 : decode cX12_rises 19 = .ok (.bipush (-2), 2) := by decide +kernel
theorem dX12_rises_21 : decode cX12_rises 21 = .ok (.ireturn, 1) := by decide +kernel
theorem dX12_rises_22 : decode cX12_rises 22 = .ok (.iconst 0, 1) := by decide +kernel
theorem dX12_rises_23 : decode cX12_rises 23 = .ok (.istore_n 3, 1) := by decide +kernel
theorem dX12_rises_24 : decode cX12_rises 24 = .ok (.iconst 1, 1) := by decide +kernel
theorem dX12_rises_25 : decode cX12_rises 25 = .ok (.istore 4, 2) := by decide +kernel
theorem dX12_rises_27 : decode cX12_rises 27 = .ok (.iload 4, 2) := by decide +kernel
theorem dX12_rises_29 : decode cX12_rises 29 = .ok (.bipush 12, 2) := by decide +kernel
theorem dX12_rises_31 : decode cX12_rises 31 = .ok (.if_icmp .ge 72, 3) := by decide +kernel
theorem dX12_rises_34 : decode cX12_rises 34 = .ok (.iload_n 2, 1) := by decide +kernel
theorem dX12_rises_35 : decode cX12_rises 35 = .ok (.ifCond .ne 27, 3) := by decide +kernel
theorem dX12_rises_38 : decode cX12_rises 38 = .ok (.aload_n 0, 1) := by decide +kernel
theorem dX12_rises_39 : decode cX12_rises 39 = .ok (.iload_n 1, 1) := by decide +kernel
theorem dX12_rises_40 : decode cX12_rises 40 = .ok (.iload 4, 2) := by decide +kernel
theorem dX12_rises_42 : decode cX12_rises 42 = .ok (.invokevirtual 129, 3) := by decide +kernel
theorem dX12_rises_45 : decode cX12_rises 45 = .ok (.aload_n 0, 1) := by decide +kernel
theorem dX12_rises_46 : decode cX12_rises 46 = .ok (.iload_n 1, 1) := by decide +kernel
theorem dX12_rises_47 : decode cX12_rises 47 = .ok (.iload_n 3, 1) := by decide +kernel
theorem dX12_rises_48 : decode cX12_rises 48 = .ok (.invokevirtual 129, 3) := by decide +kernel
theorem dX12_rises_51 : decode cX12_rises 51 = .ok (.if_icmp .le 7, 3) := by decide +kernel
theorem dX12_rises_54 : decode cX12_rises 54 = .ok (.iconst 1, 1) := by decide +kernel
theorem dX12_rises_55 : decode cX12_rises 55 = .ok (.goto 28, 3) := by decide +kernel
theorem dX12_rises_58 : decode cX12_rises 58 = .ok (.iconst 0, 1) := by decide +kernel
theorem dX12_rises_59 : decode cX12_rises 59 = .ok (.goto 24, 3) := by decide +kernel
theorem dX12_rises_62 : decode cX12_rises 62 = .ok (.aload_n 0, 1) := by decide +kernel
theorem dX12_rises_63 : decode cX12_rises 63 = .ok (.iload_n 1, 1) := by decide +kernel
theorem dX12_rises_64 : decode cX12_rises 64 = .ok (.iload 4, 2) := by decide +kernel
theorem dX12_rises_66 : decode cX12_rises 66 = .ok (.invokevirtual 129, 3) := by decide +kernel
theorem dX12_rises_69 : decode cX12_rises 69 = .ok (.aload_n 0, 1) := by decide +kernel
theorem dX12_rises_70 : decode cX12_rises 70 = .ok (.iload_n 1, 1) := by decide +kernel
theorem dX12_rises_71 : decode cX12_rises 71 = .ok (.iload_n 3, 1) := by decide +kernel
theorem dX12_rises_72 : decode cX12_rises 72 = .ok (.invokevirtual 129, 3) := by decide +kernel
theorem dX12_rises_75 : decode cX12_rises 75 = .ok (.if_icmp .ge 7, 3) := by decide +kernel
theorem dX12_rises_78 : decode cX12_rises 78 = .ok (.iconst 1, 1) := by decide +kernel
theorem dX12_rises_79 : decode cX12_rises 79 = .ok (.goto 4, 3) := by decide +kernel
theorem dX12_rises_82 : decode cX12_rises 82 = .ok (.iconst 0, 1) := by decide +kernel
theorem dX12_rises_83 : decode cX12_rises 83 = .ok (.istore 5, 2) := by decide +kernel
theorem dX12_rises_85 : decode cX12_rises 85 = .ok (.iload 5, 2) := by decide +kernel
theorem dX12_rises_87 : decode cX12_rises 87 = .ok (.ifCond .eq 8, 3) := by decide +kernel
theorem dX12_rises_90 : decode cX12_rises 90 = .ok (.iload 4, 2) := by decide +kernel
theorem dX12_rises_92 : decode cX12_rises 92 = .ok (.goto 4, 3) := by decide +kernel
theorem dX12_rises_95 : decode cX12_rises 95 = .ok (.iload_n 3, 1) := by decide +kernel
theorem dX12_rises_96 : decode cX12_rises 96 = .ok (.istore_n 3, 1) := by decide +kernel
theorem dX12_rises_97 : decode cX12_rises 97 = .ok (.iinc 4 1, 3) := by decide +kernel
theorem dX12_rises_100 : decode cX12_rises 100 = .ok (.goto (-73), 3) := by decide +kernel
theorem dX12_rises_103 : decode cX12_rises 103 = .ok (.iload_n 3, 1) := by decide +kernel
theorem dX12_rises_104 : decode cX12_rises 104 = .ok (.ireturn, 1) := by decide +kernel
theorem dX12_beside_0 : decode cX12_beside 0 = .ok (.iload_n 1, 1) := by decide +kernel
theorem dX12_beside_1 : decode cX12_beside 1 = .ok (.aload_n 0, 1) := by decide +kernel
theorem dX12_beside_2 : decode cX12_beside 2 = .ok (.getfield 75, 3) := by decide +kernel
theorem dX12_beside_5 : decode cX12_beside 5 = .ok (.idiv, 1) := by decide +kernel
theorem dX12_beside_6 : decode cX12_beside 6 = .ok (.istore_n 3, 1) := by decide +kernel
theorem dX12_beside_7 : decode cX12_beside 7 = .ok (.iload_n 1, 1) := by decide +kernel
theorem dX12_beside_8 : decode cX12_beside 8 = .ok (.aload_n 0, 1) := by decide +kernel
theorem dX12_beside_9 : decode cX12_beside 9 = .ok (.getfield 75, 3) := by decide +kernel
theorem dX12_beside_12 : decode cX12_beside 12 = .ok (.irem, 1) := by decide +kernel
theorem dX12_beside_13 : decode cX12_beside 13 = .ok (.istore 4, 2) := by decide +kernel
theorem dX12_beside_15 : decode cX12_beside 15 = .ok (.iload_n 2, 1) := by decide +kernel
theorem dX12_beside_16 : decode cX12_beside 16 = .ok (.ifCond .ne 19, 3) := by decide +kernel
theorem dX12_beside_19 : decode cX12_beside 19 = .ok (.iload_n 3, 1) := by decide +kernel
theorem dX12_beside_20 : decode cX12_beside 20 = .ok (.ifCond .le 12, 3) := by decide +kernel
theorem dX12_beside_23 : decode cX12_beside 23 = .ok (.iload_n 1, 1) := by decide +kernel
theorem dX12_beside_24 : decode cX12_beside 24 = .ok (.aload_n 0, 1) := by decide +kernel
theorem dX12_beside_25 : decode cX12_beside 25 = .ok (.getfield 75, 3) := by decide +kernel
theorem dX12_beside_28 : decode cX12_beside 28 = .ok (.isub, 1) := by decide +kernel
theorem dX12_beside_29 : decode cX12_beside 29 = .ok (.goto 5, 3) := by decide +kernel
theorem dX12_beside_32 : decode cX12_beside 32 = .ok (.bipush (-9), 2) := by decide +kernel
theorem dX12_beside_34 : decode cX12_beside 34 = .ok (.ireturn, 1) := by decide +kernel
theorem dX12_beside_35 : decode cX12_beside 35 = .ok (.iload_n 2, 1) := by decide +kernel
theorem dX12_beside_36 : decode cX12_beside 36 = .ok (.iconst 1, 1) := by decide +kernel
theorem dX12_beside_37 : decode cX12_beside 37 = .ok (.if_icmp .ne 17, 3) := by decide +kernel
theorem dX12_beside_40 : decode cX12_beside 40 = .ok (.iload 4, 2) := by decide +kernel
theorem dX12_beside_42 : decode cX12_beside 42 = .ok (.ifCond .le 9, 3) := by decide +kernel
theorem dX12_beside_45 : decode cX12_beside 45 = .ok (.iload_n 1, 1) := by decide +kernel
theorem dX12_beside_46 : decode cX12_beside 46 = .ok (.iconst 1, 1) := by decide +kernel
theorem dX12_beside_47 : decode cX12_beside 47 = .ok (.isub, 1) := by decide +kernel
theorem dX12_beside_48 : decode cX12_beside 48 = .ok (.goto 5, 3) := by decide +kernel
theorem dX12_beside_51 : decode cX12_beside 51 = .ok (.bipush (-9), 2) := by decide +kernel
theorem dX12_beside_53 : decode cX12_beside 53 = .ok (.ireturn, 1) := by decide +kernel
theorem dX12_beside_54 : decode cX12_beside 54 = .ok (.iload_n 2, 1) := by decide +kernel
theorem dX12_beside_55 : decode cX12_beside 55 = .ok (.iconst 2, 1) := by decide +kernel
theorem dX12_beside_56 : decode cX12_beside 56 = .ok (.if_icmp .ne 23, 3) := by decide +kernel
theorem dX12_beside_59 : decode cX12_beside 59 = .ok (.iload 4, 2) := by decide +kernel
theorem dX12_beside_61 : decode cX12_beside 61 = .ok (.aload_n 0, 1) := by decide +kernel
theorem dX12_beside_62 : decode cX12_beside 62 = .ok (.getfield 75, 3) := by decide +kernel
theorem dX12_beside_65 : decode cX12_beside 65 = .ok (.iconst 1, 1) := by decide +kernel
theorem dX12_beside_66 : decode cX12_beside 66 = .ok (.isub, 1) := by decide +kernel
theorem dX12_beside_67 : decode cX12_beside 67 = .ok (.if_icmp .ge 9, 3) := by decide +kernel
theorem dX12_beside_70 : decode cX12_beside 70 = .ok (.iload_n 1, 1) := by decide +kernel
theorem dX12_beside_71 : decode cX12_beside 71 = .ok (.iconst 1, 1) := by decide +kernel
theorem dX12_beside_72 : decode cX12_beside 72 = .ok (.iadd, 1) := by decide +kernel
theorem dX12_beside_73 : decode cX12_beside 73 = .ok (.goto 5, 3) := by decide +kernel
theorem dX12_beside_76 : decode cX12_beside 76 = .ok (.bipush (-9), 2) := by decide +kernel
theorem dX12_beside_78 : decode cX12_beside 78 = .ok (.ireturn, 1) := by decide +kernel
theorem dX12_beside_79 : decode cX12_beside 79 = .ok (.iload_n 3, 1) := by decide +kernel
theorem dX12_beside_80 : decode cX12_beside 80 = .ok (.aload_n 0, 1) := by decide +kernel
theorem dX12_beside_81 : decode cX12_beside 81 = .ok (.getfield 72, 3) := by decide +kernel
theorem dX12_beside_84 : decode cX12_beside 84 = .ok (.iconst 1, 1) := by decide +kernel
theorem dX12_beside_85 : decode cX12_beside 85 = .ok (.isub, 1) := by decide +kernel
theorem dX12_beside_86 : decode cX12_beside 86 = .ok (.if_icmp .ge 12, 3) := by decide +kernel
theorem dX12_beside_89 : decode cX12_beside 89 = .ok (.iload_n 1, 1) := by decide +kernel
theorem dX12_beside_90 : decode cX12_beside 90 = .ok (.aload_n 0, 1) := by decide +kernel
theorem dX12_beside_91 : decode cX12_beside 91 = .ok (.getfield 75, 3) := by decide +kernel
theorem dX12_beside_94 : decode cX12_beside 94 = .ok (.iadd, 1) := by decide +kernel
theorem dX12_beside_95 : decode cX12_beside 95 = .ok (.goto 5, 3) := by decide +kernel
theorem dX12_beside_98 : decode cX12_beside 98 = .ok (.bipush (-9), 2) := by decide +kernel
theorem dX12_beside_100 : decode cX12_beside 100 = .ok (.ireturn, 1) := by decide +kernel
theorem dX12_size_0 : decode cX12_size 0 = .ok (.iload_n 0, 1) := by decide +kernel
theorem dX12_size_1 : decode cX12_size 1 = .ok (.ifCond .ge 8, 3) := by decide +kernel
theorem dX12_size_4 : decode cX12_size 4 = .ok (.iload_n 0, 1) := by decide +kernel
theorem dX12_size_5 : decode cX12_size 5 = .ok (.ineg, 1) := by decide +kernel
theorem dX12_size_6 : decode cX12_size 6 = .ok (.goto 4, 3) := by decide +kernel
theorem dX12_size_9 : decode cX12_size 9 = .ok (.iload_n 0, 1) := by decide +kernel
theorem dX12_size_10 : decode cX12_size 10 = .ok (.ireturn, 1) := by decide +kernel
theorem dX12_isStep_0 : decode cX12_isStep 0 = .ok (.iload_n 3, 1) := by decide +kernel
theorem dX12_isStep_1 : decode cX12_isStep 1 = .ok (.istore 6, 2) := by decide +kernel
theorem dX12_isStep_3 : decode cX12_isStep 3 = .ok (.iload 6, 2) := by decide +kernel
theorem dX12_isStep_5 : decode cX12_isStep 5 = .ok (.iload 4, 2) := by decide +kernel
theorem dX12_isStep_7 : decode cX12_isStep 7 = .ok (.if_icmp .gt 34, 3) := by decide +kernel
theorem dX12_isStep_10 : decode cX12_isStep 10 = .ok (.aload_n 0, 1) := by decide +kernel
theorem dX12_isStep_11 : decode cX12_isStep 11 = .ok (.iload_n 1, 1) := by decide +kernel
theorem dX12_isStep_12 : decode cX12_isStep 12 = .ok (.iload 6, 2) := by decide +kernel
theorem dX12_isStep_14 : decode cX12_isStep 14 = .ok (.invokevirtual 129, 3) := by decide +kernel
theorem dX12_isStep_17 : decode cX12_isStep 17 = .ok (.aload_n 0, 1) := by decide +kernel
theorem dX12_isStep_18 : decode cX12_isStep 18 = .ok (.iload_n 2, 1) := by decide +kernel
theorem dX12_isStep_19 : decode cX12_isStep 19 = .ok (.iload 6, 2) := by decide +kernel
theorem dX12_isStep_21 : decode cX12_isStep 21 = .ok (.invokevirtual 129, 3) := by decide +kernel
theorem dX12_isStep_24 : decode cX12_isStep 24 = .ok (.isub, 1) := by decide +kernel
theorem dX12_isStep_25 : decode cX12_isStep 25 = .ok (.invokestatic 133, 3) := by decide +kernel
theorem dX12_isStep_28 : decode cX12_isStep 28 = .ok (.iload 5, 2) := by decide +kernel
theorem dX12_isStep_30 : decode cX12_isStep 30 = .ok (.if_icmp .le 5, 3) := by decide +kernel
theorem dX12_isStep_33 : decode cX12_isStep 33 = .ok (.iconst 0, 1) := by decide +kernel
theorem dX12_isStep_34 : decode cX12_isStep 34 = .ok (.ireturn, 1) := by decide +kernel
theorem dX12_isStep_35 : decode cX12_isStep 35 = .ok (.iinc 6 1, 3) := by decide +kernel
theorem dX12_isStep_38 : decode cX12_isStep 38 = .ok (.goto (-35), 3) := by decide +kernel
theorem dX12_isStep_41 : decode cX12_isStep 41 = .ok (.iconst 1, 1) := by decide +kernel
theorem dX12_isStep_42 : decode cX12_isStep 42 = .ok (.ireturn, 1) := by decide +kernel
theorem dX12_findFar_0 : decode cX12_findFar 0 = .ok (.iconst 0, 1) := by decide +kernel
theorem dX12_findFar_1 : decode cX12_findFar 1 = .ok (.istore 5, 2) := by decide +kernel
theorem dX12_findFar_3 : decode cX12_findFar 3 = .ok (.iload 5, 2) := by decide +kernel
theorem dX12_findFar_5 : decode cX12_findFar 5 = .ok (.aload_n 0, 1) := by decide +kernel
theorem dX12_findFar_6 : decode cX12_findFar 6 = .ok (.invokevirtual 78, 3) := by decide +kernel
theorem dX12_findFar_9 : decode cX12_findFar 9 = .ok (.if_icmp .ge 28, 3) := by decide +kernel
theorem dX12_findFar_12 : decode cX12_findFar 12 = .ok (.aload_n 0, 1) := by decide +kernel
theorem dX12_findFar_13 : decode cX12_findFar 13 = .ok (.getfield 40, 3) := by decide +kernel
theorem dX12_findFar_16 : decode cX12_findFar 16 = .ok (.iload 5, 2) := by decide +kernel
theorem dX12_findFar_18 : decode cX12_findFar 18 = .ok (.iload 5, 2) := by decide +kernel
theorem dX12_findFar_20 : decode cX12_findFar 20 = .ok (.iload_n 1, 1) := by decide +kernel
theorem dX12_findFar_21 : decode cX12_findFar 21 = .ok (.if_icmp .ne 7, 3) := by decide +kernel
theorem dX12_findFar_24 : decode cX12_findFar 24 = .ok (.iconst 0, 1) := by decide +kernel
theorem dX12_findFar_25 : decode cX12_findFar 25 = .ok (.goto 5, 3) := by decide +kernel
theorem dX12_findFar_28 : decode cX12_findFar 28 = .ok (.ldc 136, 2) := by decide +kernel
theorem dX12_findFar_30 : decode cX12_findFar 30 = .ok (.iastore, 1) := by decide +kernel
theorem dX12_findFar_31 : decode cX12_findFar 31 = .ok (.iinc 5 1, 3) := by decide +kernel
theorem dX12_findFar_34 : decode cX12_findFar 34 = .ok (.goto (-31), 3) := by decide +kernel
theorem dX12_findFar_37 : decode cX12_findFar 37 = .ok (.iconst 0, 1) := by decide +kernel
theorem dX12_findFar_38 : decode cX12_findFar 38 = .ok (.istore 5, 2) := by decide +kernel
theorem dX12_findFar_40 : decode cX12_findFar 40 = .ok (.iload 5, 2) := by decide +kernel
theorem dX12_findFar_42 : decode cX12_findFar 42 = .ok (.aload_n 0, 1) := by decide +kernel
theorem dX12_findFar_43 : decode cX12_findFar 43 = .ok (.invokevirtual 78, 3) := by decide +kernel
theorem dX12_findFar_46 : decode cX12_findFar 46 = .ok (.if_icmp .ge 109, 3) := by decide +kernel
theorem dX12_findFar_49 : decode cX12_findFar 49 = .ok (.iconst 0, 1) := by decide +kernel
theorem dX12_findFar_50 : decode cX12_findFar 50 = .ok (.istore 6, 2) := by decide +kernel
theorem dX12_findFar_52 : decode cX12_findFar 52 = .ok (.iload 6, 2) := by decide +kernel
theorem dX12_findFar_54 : decode cX12_findFar 54 = .ok (.aload_n 0, 1) := by decide +kernel
theorem dX12_findFar_55 : decode cX12_findFar 55 = .ok (.invokevirtual 78, 3) := by decide +kernel
theorem dX12_findFar_58 : decode cX12_findFar 58 = .ok (.if_icmp .ge 91, 3) := by decide +kernel
theorem dX12_findFar_61 : decode cX12_findFar 61 = .ok (.iconst 0, 1) := by decide +kernel
theorem dX12_findFar_62 : decode cX12_findFar 62 = .ok (.istore 7, 2) := by decide +kernel
theorem dX12_findFar_64 : decode cX12_findFar 64 = .ok (.iload 7, 2) := by decide +kernel
theorem dX12_findFar_66 : decode cX12_findFar 66 = .ok (.iconst 4, 1) := by decide +kernel
theorem dX12_findFar_67 : decode cX12_findFar 67 = .ok (.if_icmp .ge 76, 3) := by decide +kernel
theorem dX12_findFar_70 : decode cX12_findFar 70 = .ok (.aload_n 0, 1) := by decide +kernel
theorem dX12_findFar_71 : decode cX12_findFar 71 = .ok (.getfield 40, 3) := by decide +kernel
theorem dX12_findFar_74 : decode cX12_findFar 74 = .ok (.iload 6, 2) := by decide +kernel
theorem dX12_findFar_76 : decode cX12_findFar 76 = .ok (.iaload, 1) := by decide +kernel
theorem dX12_findFar_77 : decode cX12_findFar 77 = .ok (.iload 5, 2) := by decide +kernel
theorem dX12_findFar_79 : decode cX12_findFar 79 = .ok (.if_icmp .ne 64, 3) := by decide +kernel
theorem dX12_findFar_82 : decode cX12_findFar 82 = .ok (.aload_n 0, 1) := by decide +kernel
theorem dX12_findFar_83 : decode cX12_findFar 83 = .ok (.iload 6, 2) := by decide +kernel
theorem dX12_findFar_85 : decode cX12_findFar 85 = .ok (.iload 7, 2) := by decide +kernel
theorem dX12_findFar_87 : decode cX12_findFar 87 = .ok (.invokevirtual 137, 3) := by decide +kernel
theorem dX12_findFar_90 : decode cX12_findFar 90 = .ok (.istore 8, 2) := by decide +kernel
theorem dX12_findFar_92 : decode cX12_findFar 92 = .ok (.iload 8, 2) := by decide +kernel
theorem dX12_findFar_94 : decode cX12_findFar 94 = .ok (.bipush (-9), 2) := by decide +kernel
theorem dX12_findFar_96 : decode cX12_findFar 96 = .ok (.if_icmp .eq 41, 3) := by decide +kernel
theorem dX12_findFar_99 : decode cX12_findFar 99 = .ok (.aload_n 0, 1) := by decide +kernel
theorem dX12_findFar_100 : decode cX12_findFar 100 = .ok (.getfield 40, 3) := by decide +kernel
theorem dX12_findFar_103 : decode cX12_findFar 103 = .ok (.iload 8, 2) := by decide +kernel
theorem dX12_findFar_105 : decode cX12_findFar 105 = .ok (.iaload, 1) := by decide +kernel
theorem dX12_findFar_106 : decode cX12_findFar 106 = .ok (.ldc 136, 2) := by decide +kernel
theorem dX12_findFar_108 : decode cX12_findFar 108 = .ok (.if_icmp .ne 29, 3) := by decide +kernel
theorem dX12_findFar_111 : decode cX12_findFar 111 = .ok (.aload_n 0, 1) := by decide +kernel
theorem dX12_findFar_112 : decode cX12_findFar 112 = .ok (.iload 6, 2) := by decide +kernel
theorem dX12_findFar_114 : decode cX12_findFar 114 = .ok (.iload 8, 2) := by decide +kernel
theorem dX12_findFar_116 : decode cX12_findFar 116 = .ok (.iload_n 2, 1) := by decide +kernel
theorem dX12_findFar_117 : decode cX12_findFar 117 = .ok (.iload_n 3, 1) := by decide +kernel
theorem dX12_findFar_118 : decode cX12_findFar 118 = .ok (.iload 4, 2) := by decide +kernel
theorem dX12_findFar_120 : decode cX12_findFar 120 = .ok (.invokevirtual 140, 3) := by decide +kernel
theorem dX12_findFar_123 : decode cX12_findFar 123 = .ok (.ifCond .eq 14, 3) := by decide +kernel
theorem dX12_findFar_126 : decode cX12_findFar 126 = .ok (.aload_n 0, 1) := by decide +kernel
theorem dX12_findFar_127 : decode cX12_findFar 127 = .ok (.getfield 40, 3) := by decide +kernel
theorem dX12_findFar_130 : decode cX12_findFar 130 = .ok (.iload 8, 2) := by decide +kernel
theorem dX12_findFar_132 : decode cX12_findFar 132 = .ok (.iload 5, 2) := by decide +kernel
theorem dX12_findFar_134 : decode cX12_findFar 134 = .ok (.iconst 1, 1) := by decide +kernel
theorem dX12_findFar_135 : decode cX12_findFar 135 = .ok (.iadd, 1) := by decide +kernel
theorem dX12_findFar_136 : decode cX12_findFar 136 = .ok (.iastore, 1) := by decide +kernel
theorem dX12_findFar_137 : decode cX12_findFar 137 = .ok (.iinc 7 1, 3) := by decide +kernel
theorem dX12_findFar_140 : decode cX12_findFar 140 = .ok (.goto (-76), 3) := by decide +kernel
theorem dX12_findFar_143 : decode cX12_findFar 143 = .ok (.iinc 6 1, 3) := by decide +kernel
theorem dX12_findFar_146 : decode cX12_findFar 146 = .ok (.goto (-94), 3) := by decide +kernel
theorem dX12_findFar_149 : decode cX12_findFar 149 = .ok (.iinc 5 1, 3) := by decide +kernel
theorem dX12_findFar_152 : decode cX12_findFar 152 = .ok (.goto (-112), 3) := by decide +kernel
theorem dX12_findFar_155 : decode cX12_findFar 155 = .ok (.return_, 1) := by decide +kernel
theorem dX12_way_0 : decode cX12_way 0 = .ok (.aload_n 0, 1) := by decide +kernel
theorem dX12_way_1 : decode cX12_way 1 = .ok (.iload_n 1, 1) := by decide +kernel
theorem dX12_way_2 : decode cX12_way 2 = .ok (.invokevirtual 120, 3) := by decide +kernel
theorem dX12_way_5 : decode cX12_way 5 = .ok (.ifCond .eq 24, 3) := by decide +kernel
theorem dX12_way_8 : decode cX12_way 8 = .ok (.aload_n 0, 1) := by decide +kernel
theorem dX12_way_9 : decode cX12_way 9 = .ok (.iload_n 2, 1) := by decide +kernel
theorem dX12_way_10 : decode cX12_way 10 = .ok (.invokevirtual 120, 3) := by decide +kernel
theorem dX12_way_13 : decode cX12_way 13 = .ok (.ifCond .eq 16, 3) := by decide +kernel
theorem dX12_way_16 : decode cX12_way 16 = .ok (.iload_n 3, 1) := by decide +kernel
theorem dX12_way_17 : decode cX12_way 17 = .ok (.invokestatic 123, 3) := by decide +kernel
theorem dX12_way_20 : decode cX12_way 20 = .ok (.ifCond .eq 9, 3) := by decide +kernel
theorem dX12_way_23 : decode cX12_way 23 = .ok (.iload 5, 2) := by decide +kernel
theorem dX12_way_25 : decode cX12_way 25 = .ok (.iconst (-1), 1) := by decide +kernel
theorem dX12_way_26 : decode cX12_way 26 = .ok (.if_icmp .ge 5, 3) := by decide +kernel
theorem dX12_way_29 : decode cX12_way 29 = .ok (.iconst (-1), 1) := by decide +kernel
theorem dX12_way_30 : decode cX12_way 30 = .ok (.ireturn, 1) := by decide +kernel
theorem dX12_way_31 : decode cX12_way 31 = .ok (.iload 4, 2) := by decide +kernel
theorem dX12_way_33 : decode cX12_way 33 = .ok (.iconst 0, 1) := by decide +kernel
theorem dX12_way_34 : decode cX12_way 34 = .ok (.sipush 999, 3) := by decide +kernel
theorem dX12_way_37 : decode cX12_way 37 = .ok (.invokestatic 68, 3) := by decide +kernel
theorem dX12_way_40 : decode cX12_way 40 = .ok (.ifCond .ne 6, 3) := by decide +kernel
theorem dX12_way_43 : decode cX12_way 43 = .ok (.bipush (-2), 2) := by decide +kernel
theorem dX12_way_45 : decode cX12_way 45 = .ok (.ireturn, 1) := by decide +kernel
theorem dX12_way_46 : decode cX12_way 46 = .ok (.aload_n 0, 1) := by decide +kernel
theorem dX12_way_47 : decode cX12_way 47 = .ok (.iload_n 2, 1) := by decide +kernel
theorem dX12_way_48 : decode cX12_way 48 = .ok (.iload_n 3, 1) := by decide +kernel
theorem dX12_way_49 : decode cX12_way 49 = .ok (.iload_n 3, 1) := by decide +kernel
theorem dX12_way_50 : decode cX12_way 50 = .ok (.iload 4, 2) := by decide +kernel
theorem dX12_way_52 : decode cX12_way 52 = .ok (.invokevirtual 144, 3) := by decide +kernel
theorem dX12_way_55 : decode cX12_way 55 = .ok (.aload_n 0, 1) := by decide +kernel
theorem dX12_way_56 : decode cX12_way 56 = .ok (.getfield 40, 3) := by decide +kernel
theorem dX12_way_59 : decode cX12_way 59 = .ok (.iload_n 1, 1) := by decide +kernel
theorem dX12_way_60 : decode cX12_way 60 = .ok (.iaload, 1) := by decide +kernel
theorem dX12_way_61 : decode cX12_way 61 = .ok (.ldc 136, 2) := by decide +kernel
theorem dX12_way_63 : decode cX12_way 63 = .ok (.if_icmp .eq 14, 3) := by decide +kernel
theorem dX12_way_66 : decode cX12_way 66 = .ok (.iload 5, 2) := by decide +kernel
theorem dX12_way_68 : decode cX12_way 68 = .ok (.aload_n 0, 1) := by decide +kernel
theorem dX12_way_69 : decode cX12_way 69 = .ok (.getfield 40, 3) := by decide +kernel
theorem dX12_way_72 : decode cX12_way 72 = .ok (.iload_n 1, 1) := by decide +kernel
theorem dX12_way_73 : decode cX12_way 73 = .ok (.iaload, 1) := by decide +kernel
theorem dX12_way_74 : decode cX12_way 74 = .ok (.if_icmp .le 6, 3) := by decide +kernel
theorem dX12_way_77 : decode cX12_way 77 = .ok (.bipush (-9), 2) := by decide +kernel
theorem dX12_way_79 : decode cX12_way 79 = .ok (.ireturn, 1) := by decide +kernel
theorem dX12_way_80 : decode cX12_way 80 = .ok (.iload 5, 2) := by decide +kernel
theorem dX12_way_82 : decode cX12_way 82 = .ok (.iconst (-1), 1) := by decide +kernel
theorem dX12_way_83 : decode cX12_way 83 = .ok (.if_icmp .ne 10, 3) := by decide +kernel
theorem dX12_way_86 : decode cX12_way 86 = .ok (.aload_n 0, 1) := by decide +kernel
theorem dX12_way_87 : decode cX12_way 87 = .ok (.getfield 40, 3) := by decide +kernel
theorem dX12_way_90 : decode cX12_way 90 = .ok (.iload_n 1, 1) := by decide +kernel
theorem dX12_way_91 : decode cX12_way 91 = .ok (.iaload, 1) := by decide +kernel
theorem dX12_way_92 : decode cX12_way 92 = .ok (.ireturn, 1) := by decide +kernel
theorem dX12_way_93 : decode cX12_way 93 = .ok (.iload_n 1, 1) := by decide +kernel
theorem dX12_way_94 : decode cX12_way 94 = .ok (.istore 6, 2) := by decide +kernel
theorem dX12_way_96 : decode cX12_way 96 = .ok (.iconst 0, 1) := by decide +kernel
theorem dX12_way_97 : decode cX12_way 97 = .ok (.istore 7, 2) := by decide +kernel
theorem dX12_way_99 : decode cX12_way 99 = .ok (.iload 7, 2) := by decide +kernel
theorem dX12_way_101 : decode cX12_way 101 = .ok (.iload 5, 2) := by decide +kernel
theorem dX12_way_103 : decode cX12_way 103 = .ok (.if_icmp .ge 87, 3) := by decide +kernel
theorem dX12_way_106 : decode cX12_way 106 = .ok (.iconst 0, 1) := by decide +kernel
theorem dX12_way_107 : decode cX12_way 107 = .ok (.istore 8, 2) := by decide +kernel
theorem dX12_way_109 : decode cX12_way 109 = .ok (.aload_n 0, 1) := by decide +kernel
theorem dX12_way_110 : decode cX12_way 110 = .ok (.iload 6, 2) := by decide +kernel
theorem dX12_way_112 : decode cX12_way 112 = .ok (.iload 8, 2) := by decide +kernel
theorem dX12_way_114 : decode cX12_way 114 = .ok (.invokevirtual 137, 3) := by decide +kernel
theorem dX12_way_117 : decode cX12_way 117 = .ok (.bipush (-9), 2) := by decide +kernel
theorem dX12_way_119 : decode cX12_way 119 = .ok (.if_icmp .eq 49, 3) := by decide +kernel
theorem dX12_way_122 : decode cX12_way 122 = .ok (.aload_n 0, 1) := by decide +kernel
theorem dX12_way_123 : decode cX12_way 123 = .ok (.getfield 40, 3) := by decide +kernel
theorem dX12_way_126 : decode cX12_way 126 = .ok (.aload_n 0, 1) := by decide +kernel
theorem dX12_way_127 : decode cX12_way 127 = .ok (.iload 6, 2) := by decide +kernel
theorem dX12_way_129 : decode cX12_way 129 = .ok (.iload 8, 2) := by decide +kernel
theorem dX12_way_131 : decode cX12_way 131 = .ok (.invokevirtual 137, 3) := by decide +kernel
theorem dX12_way_134 : decode cX12_way 134 = .ok (.iaload, 1) := by decide +kernel
theorem dX12_way_135 : decode cX12_way 135 = .ok (.aload_n 0, 1) := by decide +kernel
theorem dX12_way_136 : decode cX12_way 136 = .ok (.getfield 40, 3) := by decide +kernel
theorem dX12_way_139 : decode cX12_way 139 = .ok (.iload 6, 2) := by decide +kernel
theorem dX12_way_141 : decode cX12_way 141 = .ok (.iaload, 1) := by decide +kernel
theorem dX12_way_142 : decode cX12_way 142 = .ok (.iconst 1, 1) := by decide +kernel
theorem dX12_way_143 : decode cX12_way 143 = .ok (.isub, 1) := by decide +kernel
theorem dX12_way_144 : decode cX12_way 144 = .ok (.if_icmp .ne 24, 3) := by decide +kernel
theorem dX12_way_147 : decode cX12_way 147 = .ok (.aload_n 0, 1) := by decide +kernel
theorem dX12_way_148 : decode cX12_way 148 = .ok (.iload 6, 2) := by decide +kernel
theorem dX12_way_150 : decode cX12_way 150 = .ok (.aload_n 0, 1) := by decide +kernel
theorem dX12_way_151 : decode cX12_way 151 = .ok (.iload 6, 2) := by decide +kernel
theorem dX12_way_153 : decode cX12_way 153 = .ok (.iload 8, 2) := by decide +kernel
theorem dX12_way_155 : decode cX12_way 155 = .ok (.invokevirtual 137, 3) := by decide +kernel
theorem dX12_way_158 : decode cX12_way 158 = .ok (.iload_n 3, 1) := by decide +kernel
theorem dX12_way_159 : decode cX12_way 159 = .ok (.iload_n 3, 1) := by decide +kernel
theorem dX12_way_160 : decode cX12_way 160 = .ok (.iload 4, 2) := by decide +kernel
theorem dX12_way_162 : decode cX12_way 162 = .ok (.invokevirtual 140, 3) := by decide +kernel
theorem dX12_way_165 : decode cX12_way 165 = .ok (.ifCond .ne 9, 3) := by decide +kernel
theorem dX12_way_168 : decode cX12_way 168 = .ok (.iinc 8 1, 3) := by decide +kernel
theorem dX12_way_171 : decode cX12_way 171 = .ok (.goto (-62), 3) := by decide +kernel
theorem dX12_way_174 : decode cX12_way 174 = .ok (.aload_n 0, 1) := by decide +kernel
theorem dX12_way_175 : decode cX12_way 175 = .ok (.iload 6, 2) := by decide +kernel
theorem dX12_way_177 : decode cX12_way 177 = .ok (.iload 8, 2) := by decide +kernel
theorem dX12_way_179 : decode cX12_way 179 = .ok (.invokevirtual 137, 3) := by decide +kernel
theorem dX12_way_182 : decode cX12_way 182 = .ok (.istore 6, 2) := by decide +kernel
theorem dX12_way_184 : decode cX12_way 184 = .ok (.iinc 7 1, 3) := by decide +kernel
theorem dX12_way_187 : decode cX12_way 187 = .ok (.goto (-88), 3) := by decide +kernel
theorem dX12_way_190 : decode cX12_way 190 = .ok (.iload 6, 2) := by decide +kernel
theorem dX12_way_192 : decode cX12_way 192 = .ok (.ireturn, 1) := by decide +kernel
theorem dX12_holds_0 : decode cX12_holds 0 = .ok (.aload_n 0, 1) := by decide +kernel
theorem dX12_holds_1 : decode cX12_holds 1 = .ok (.iload_n 1, 1) := by decide +kernel
theorem dX12_holds_2 : decode cX12_holds 2 = .ok (.invokevirtual 120, 3) := by decide +kernel
theorem dX12_holds_5 : decode cX12_holds 5 = .ok (.ifCond .eq 32, 3) := by decide +kernel
theorem dX12_holds_8 : decode cX12_holds 8 = .ok (.aload_n 0, 1) := by decide +kernel
theorem dX12_holds_9 : decode cX12_holds 9 = .ok (.iload_n 2, 1) := by decide +kernel
theorem dX12_holds_10 : decode cX12_holds 10 = .ok (.invokevirtual 120, 3) := by decide +kernel
theorem dX12_holds_13 : decode cX12_holds 13 = .ok (.ifCond .eq 24, 3) := by decide +kernel
theorem dX12_holds_16 : decode cX12_holds 16 = .ok (.iload_n 3, 1) := by decide +kernel
theorem dX12_holds_17 : decode cX12_holds 17 = .ok (.invokestatic 123, 3) := by decide +kernel
theorem dX12_holds_20 : decode cX12_holds 20 = .ok (.ifCond .eq 17, 3) := by decide +kernel
theorem dX12_holds_23 : decode cX12_holds 23 = .ok (.iload 4, 2) := by decide +kernel
theorem dX12_holds_25 : decode cX12_holds 25 = .ok (.invokestatic 123, 3) := by decide +kernel
theorem dX12_holds_28 : decode cX12_holds 28 = .ok (.ifCond .eq 9, 3) := by decide +kernel
theorem dX12_holds_31 : decode cX12_holds 31 = .ok (.iload 4, 2) := by decide +kernel
theorem dX12_holds_33 : decode cX12_holds 33 = .ok (.iload_n 3, 1) := by decide +kernel
theorem dX12_holds_34 : decode cX12_holds 34 = .ok (.if_icmp .ge 5, 3) := by decide +kernel
theorem dX12_holds_37 : decode cX12_holds 37 = .ok (.iconst (-1), 1) := by decide +kernel
theorem dX12_holds_38 : decode cX12_holds 38 = .ok (.ireturn, 1) := by decide +kernel
theorem dX12_holds_39 : decode cX12_holds 39 = .ok (.iload 5, 2) := by decide +kernel
theorem dX12_holds_41 : decode cX12_holds 41 = .ok (.iconst 0, 1) := by decide +kernel
theorem dX12_holds_42 : decode cX12_holds 42 = .ok (.sipush 999, 3) := by decide +kernel
theorem dX12_holds_45 : decode cX12_holds 45 = .ok (.invokestatic 68, 3) := by decide +kernel
theorem dX12_holds_48 : decode cX12_holds 48 = .ok (.ifCond .ne 6, 3) := by decide +kernel
theorem dX12_holds_51 : decode cX12_holds 51 = .ok (.bipush (-2), 2) := by decide +kernel
theorem dX12_holds_53 : decode cX12_holds 53 = .ok (.ireturn, 1) := by decide +kernel
theorem dX12_holds_54 : decode cX12_holds 54 = .ok (.aload_n 0, 1) := by decide +kernel
theorem dX12_holds_55 : decode cX12_holds 55 = .ok (.iload_n 2, 1) := by decide +kernel
theorem dX12_holds_56 : decode cX12_holds 56 = .ok (.iload_n 3, 1) := by decide +kernel
theorem dX12_holds_57 : decode cX12_holds 57 = .ok (.iload 4, 2) := by decide +kernel
theorem dX12_holds_59 : decode cX12_holds 59 = .ok (.iload 5, 2) := by decide +kernel
theorem dX12_holds_61 : decode cX12_holds 61 = .ok (.invokevirtual 144, 3) := by decide +kernel
theorem dX12_holds_64 : decode cX12_holds 64 = .ok (.aload_n 0, 1) := by decide +kernel
theorem dX12_holds_65 : decode cX12_holds 65 = .ok (.getfield 40, 3) := by decide +kernel
theorem dX12_holds_68 : decode cX12_holds 68 = .ok (.iload_n 1, 1) := by decide +kernel
theorem dX12_holds_69 : decode cX12_holds 69 = .ok (.iaload, 1) := by decide +kernel
theorem dX12_holds_70 : decode cX12_holds 70 = .ok (.ldc 136, 2) := by decide +kernel
theorem dX12_holds_72 : decode cX12_holds 72 = .ok (.if_icmp .ne 8, 3) := by decide +kernel
theorem dX12_holds_75 : decode cX12_holds 75 = .ok (.bipush (-9), 2) := by decide +kernel
theorem dX12_holds_77 : decode cX12_holds 77 = .ok (.goto 9, 3) := by decide +kernel
theorem dX12_holds_80 : decode cX12_holds 80 = .ok (.aload_n 0, 1) := by decide +kernel
theorem dX12_holds_81 : decode cX12_holds 81 = .ok (.getfield 40, 3) := by decide +kernel
theorem dX12_holds_84 : decode cX12_holds 84 = .ok (.iload_n 1, 1) := by decide +kernel
theorem dX12_holds_85 : decode cX12_holds 85 = .ok (.iaload, 1) := by decide +kernel
theorem dX12_holds_86 : decode cX12_holds 86 = .ok (.ireturn, 1) := by decide +kernel
theorem dX12_leastStep_0 : decode cX12_leastStep 0 = .ok (.aload_n 0, 1) := by decide +kernel
theorem dX12_leastStep_1 : decode cX12_leastStep 1 = .ok (.iload_n 1, 1) := by decide +kernel
theorem dX12_leastStep_2 : decode cX12_leastStep 2 = .ok (.invokevirtual 120, 3) := by decide +kernel
theorem dX12_leastStep_5 : decode cX12_leastStep 5 = .ok (.ifCond .eq 18, 3) := by decide +kernel
theorem dX12_leastStep_8 : decode cX12_leastStep 8 = .ok (.aload_n 0, 1) := by decide +kernel
theorem dX12_leastStep_9 : decode cX12_leastStep 9 = .ok (.iload_n 2, 1) := by decide +kernel
theorem dX12_leastStep_10 : decode cX12_leastStep 10 = .ok (.invokevirtual 120, 3) := by decide +kernel
theorem dX12_leastStep_13 : decode cX12_leastStep 13 = .ok (.ifCond .eq 10, 3) := by decide +kernel
theorem dX12_leastStep_16 : decode cX12_leastStep 16 = .ok (.iload_n 3, 1) := by decide +kernel
theorem dX12_leastStep_17 : decode cX12_leastStep 17 = .ok (.invokestatic 123, 3) := by decide +kernel
theorem dX12_leastStep_20 : decode cX12_leastStep 20 = .ok (.ifCond .ne 5, 3) := by decide +kernel
theorem dX12_leastStep_23 : decode cX12_leastStep 23 = .ok (.iconst (-1), 1) := by decide +kernel
theorem dX12_leastStep_24 : decode cX12_leastStep 24 = .ok (.ireturn, 1) := by decide +kernel
theorem dX12_leastStep_25 : decode cX12_leastStep 25 = .ok (.iconst 0, 1) := by decide +kernel
theorem dX12_leastStep_26 : decode cX12_leastStep 26 = .ok (.istore 4, 2) := by decide +kernel
theorem dX12_leastStep_28 : decode cX12_leastStep 28 = .ok (.iload 4, 2) := by decide +kernel
theorem dX12_leastStep_30 : decode cX12_leastStep 30 = .ok (.aload_n 0, 1) := by decide +kernel
theorem dX12_leastStep_31 : decode cX12_leastStep 31 = .ok (.invokevirtual 78, 3) := by decide +kernel
theorem dX12_leastStep_34 : decode cX12_leastStep 34 = .ok (.if_icmp .ge 28, 3) := by decide +kernel
theorem dX12_leastStep_37 : decode cX12_leastStep 37 = .ok (.aload_n 0, 1) := by decide +kernel
theorem dX12_leastStep_38 : decode cX12_leastStep 38 = .ok (.getfield 43, 3) := by decide +kernel
theorem dX12_leastStep_41 : decode cX12_leastStep 41 = .ok (.iload 4, 2) := by decide +kernel
theorem dX12_leastStep_43 : decode cX12_leastStep 43 = .ok (.iload 4, 2) := by decide +kernel
theorem dX12_leastStep_45 : decode cX12_leastStep 45 = .ok (.iload_n 2, 1) := by decide +kernel
theorem dX12_leastStep_46 : decode cX12_leastStep 46 = .ok (.if_icmp .ne 7, 3) := by decide +kernel
theorem dX12_leastStep_49 : decode cX12_leastStep 49 = .ok (.iconst 0, 1) := by decide +kernel
theorem dX12_leastStep_50 : decode cX12_leastStep 50 = .ok (.goto 5, 3) := by decide +kernel
theorem dX12_leastStep_53 : decode cX12_leastStep 53 = .ok (.ldc 136, 2) := by decide +kernel
theorem dX12_leastStep_55 : decode cX12_leastStep 55 = .ok (.iastore, 1) := by decide +kernel
theorem dX12_leastStep_56 : decode cX12_leastStep 56 = .ok (.iinc 4 1, 3) := by decide +kernel
theorem dX12_leastStep_59 : decode cX12_leastStep 59 = .ok (.goto (-31), 3) := by decide +kernel
theorem dX12_leastStep_62 : decode cX12_leastStep 62 = .ok (.iconst 0, 1) := by decide +kernel
theorem dX12_leastStep_63 : decode cX12_leastStep 63 = .ok (.istore 4, 2) := by decide +kernel
theorem dX12_leastStep_65 : decode cX12_leastStep 65 = .ok (.iload 4, 2) := by decide +kernel
theorem dX12_leastStep_67 : decode cX12_leastStep 67 = .ok (.aload_n 0, 1) := by decide +kernel
theorem dX12_leastStep_68 : decode cX12_leastStep 68 = .ok (.invokevirtual 78, 3) := by decide +kernel
theorem dX12_leastStep_71 : decode cX12_leastStep 71 = .ok (.if_icmp .ge 136, 3) := by decide +kernel
theorem dX12_leastStep_74 : decode cX12_leastStep 74 = .ok (.iconst 0, 1) := by decide +kernel
theorem dX12_leastStep_75 : decode cX12_leastStep 75 = .ok (.istore 5, 2) := by decide +kernel
theorem dX12_leastStep_77 : decode cX12_leastStep 77 = .ok (.iload 5, 2) := by decide +kernel
theorem dX12_leastStep_79 : decode cX12_leastStep 79 = .ok (.aload_n 0, 1) := by decide +kernel
theorem dX12_leastStep_80 : decode cX12_leastStep 80 = .ok (.invokevirtual 78, 3) := by decide +kernel
theorem dX12_leastStep_83 : decode cX12_leastStep 83 = .ok (.if_icmp .ge 118, 3) := by decide +kernel
theorem dX12_leastStep_86 : decode cX12_leastStep 86 = .ok (.iconst 0, 1) := by decide +kernel
theorem dX12_leastStep_87 : decode cX12_leastStep 87 = .ok (.istore 6, 2) := by decide +kernel
theorem dX12_leastStep_89 : decode cX12_leastStep 89 = .ok (.iload 6, 2) := by decide +kernel
theorem dX12_leastStep_91 : decode cX12_leastStep 91 = .ok (.iconst 4, 1) := by decide +kernel
theorem dX12_leastStep_92 : decode cX12_leastStep 92 = .ok (.if_icmp .ge 103, 3) := by decide +kernel
theorem dX12_leastStep_95 : decode cX12_leastStep 95 = .ok (.aload_n 0, 1) := by decide +kernel
theorem dX12_leastStep_96 : decode cX12_leastStep 96 = .ok (.iload 5, 2) := by decide +kernel
theorem dX12_leastStep_98 : decode cX12_leastStep 98 = .ok (.iload 6, 2) := by decide +kernel
theorem dX12_leastStep_100 : decode cX12_leastStep 100 = .ok (.invokevirtual 137, 3) := by decide +kernel
theorem dX12_leastStep_103 : decode cX12_leastStep 103 = .ok (.istore 7, 2) := by decide +kernel
theorem dX12_leastStep_105 : decode cX12_leastStep 105 = .ok (.iload 7, 2) := by decide +kernel
theorem dX12_leastStep_107 : decode cX12_leastStep 107 = .ok (.bipush (-9), 2) := by decide +kernel
theorem dX12_leastStep_109 : decode cX12_leastStep 109 = .ok (.if_icmp .eq 80, 3) := by decide +kernel
theorem dX12_leastStep_112 : decode cX12_leastStep 112 = .ok (.aload_n 0, 1) := by decide +kernel
theorem dX12_leastStep_113 : decode cX12_leastStep 113 = .ok (.iload 5, 2) := by decide +kernel
theorem dX12_leastStep_115 : decode cX12_leastStep 115 = .ok (.iload_n 3, 1) := by decide +kernel
theorem dX12_leastStep_116 : decode cX12_leastStep 116 = .ok (.invokevirtual 129, 3) := by decide +kernel
theorem dX12_leastStep_119 : decode cX12_leastStep 119 = .ok (.aload_n 0, 1) := by decide +kernel
theorem dX12_leastStep_120 : decode cX12_leastStep 120 = .ok (.iload 7, 2) := by decide +kernel
theorem dX12_leastStep_122 : decode cX12_leastStep 122 = .ok (.iload_n 3, 1) := by decide +kernel
theorem dX12_leastStep_123 : decode cX12_leastStep 123 = .ok (.invokevirtual 129, 3) := by decide +kernel
theorem dX12_leastStep_126 : decode cX12_leastStep 126 = .ok (.isub, 1) := by decide +kernel
theorem dX12_leastStep_127 : decode cX12_leastStep 127 = .ok (.invokestatic 133, 3) := by decide +kernel
theorem dX12_leastStep_130 : decode cX12_leastStep 130 = .ok (.istore 8, 2) := by decide +kernel
theorem dX12_leastStep_132 : decode cX12_leastStep 132 = .ok (.aload_n 0, 1) := by decide +kernel
theorem dX12_leastStep_133 : decode cX12_leastStep 133 = .ok (.getfield 43, 3) := by decide +kernel
theorem dX12_leastStep_136 : decode cX12_leastStep 136 = .ok (.iload 7, 2) := by decide +kernel
theorem dX12_leastStep_138 : decode cX12_leastStep 138 = .ok (.iaload, 1) := by decide +kernel
theorem dX12_leastStep_139 : decode cX12_leastStep 139 = .ok (.iload 8, 2) := by decide +kernel
theorem dX12_leastStep_141 : decode cX12_leastStep 141 = .ok (.if_icmp .le 13, 3) := by decide +kernel
theorem dX12_leastStep_144 : decode cX12_leastStep 144 = .ok (.aload_n 0, 1) := by decide +kernel
theorem dX12_leastStep_145 : decode cX12_leastStep 145 = .ok (.getfield 43, 3) := by decide +kernel
theorem dX12_leastStep_148 : decode cX12_leastStep 148 = .ok (.iload 7, 2) := by decide +kernel
theorem dX12_leastStep_150 : decode cX12_leastStep 150 = .ok (.iaload, 1) := by decide +kernel
theorem dX12_leastStep_151 : decode cX12_leastStep 151 = .ok (.goto 5, 3) := by decide +kernel
theorem dX12_leastStep_154 : decode cX12_leastStep 154 = .ok (.iload 8, 2) := by decide +kernel
theorem dX12_leastStep_156 : decode cX12_leastStep 156 = .ok (.istore 9, 2) := by decide +kernel
theorem dX12_leastStep_158 : decode cX12_leastStep 158 = .ok (.aload_n 0, 1) := by decide +kernel
theorem dX12_leastStep_159 : decode cX12_leastStep 159 = .ok (.getfield 43, 3) := by decide +kernel
theorem dX12_leastStep_162 : decode cX12_leastStep 162 = .ok (.iload 5, 2) := by decide +kernel
theorem dX12_leastStep_164 : decode cX12_leastStep 164 = .ok (.iload 9, 2) := by decide +kernel
theorem dX12_leastStep_166 : decode cX12_leastStep 166 = .ok (.aload_n 0, 1) := by decide +kernel
theorem dX12_leastStep_167 : decode cX12_leastStep 167 = .ok (.getfield 43, 3) := by decide +kernel
theorem dX12_leastStep_170 : decode cX12_leastStep 170 = .ok (.iload 5, 2) := by decide +kernel
theorem dX12_leastStep_172 : decode cX12_leastStep 172 = .ok (.iaload, 1) := by decide +kernel
theorem dX12_leastStep_173 : decode cX12_leastStep 173 = .ok (.if_icmp .ge 8, 3) := by decide +kernel
theorem dX12_leastStep_176 : decode cX12_leastStep 176 = .ok (.iload 9, 2) := by decide +kernel
theorem dX12_leastStep_178 : decode cX12_leastStep 178 = .ok (.goto 10, 3) := by decide +kernel
theorem dX12_leastStep_181 : decode cX12_leastStep 181 = .ok (.aload_n 0, 1) := by decide +kernel
theorem dX12_leastStep_182 : decode cX12_leastStep 182 = .ok (.getfield 43, 3) := by decide +kernel
theorem dX12_leastStep_185 : decode cX12_leastStep 185 = .ok (.iload 5, 2) := by decide +kernel
theorem dX12_leastStep_187 : decode cX12_leastStep 187 = .ok (.iaload, 1) := by decide +kernel
theorem dX12_leastStep_188 : decode cX12_leastStep 188 = .ok (.iastore, 1) := by decide +kernel
theorem dX12_leastStep_189 : decode cX12_leastStep 189 = .ok (.iinc 6 1, 3) := by decide +kernel
theorem dX12_leastStep_192 : decode cX12_leastStep 192 = .ok (.goto (-103), 3) := by decide +kernel
theorem dX12_leastStep_195 : decode cX12_leastStep 195 = .ok (.iinc 5 1, 3) := by decide +kernel
theorem dX12_leastStep_198 : decode cX12_leastStep 198 = .ok (.goto (-121), 3) := by decide +kernel
theorem dX12_leastStep_201 : decode cX12_leastStep 201 = .ok (.iinc 4 1, 3) := by decide +kernel
theorem dX12_leastStep_204 : decode cX12_leastStep 204 = .ok (.goto (-139), 3) := by decide +kernel
theorem dX12_leastStep_207 : decode cX12_leastStep 207 = .ok (.aload_n 0, 1) := by decide +kernel
theorem dX12_leastStep_208 : decode cX12_leastStep 208 = .ok (.getfield 43, 3) := by decide +kernel
theorem dX12_leastStep_211 : decode cX12_leastStep 211 = .ok (.iload_n 1, 1) := by decide +kernel
theorem dX12_leastStep_212 : decode cX12_leastStep 212 = .ok (.iaload, 1) := by decide +kernel
theorem dX12_leastStep_213 : decode cX12_leastStep 213 = .ok (.ireturn, 1) := by decide +kernel
theorem dX12_isPlace_0 : decode cX12_isPlace 0 = .ok (.aload_n 0, 1) := by decide +kernel
theorem dX12_isPlace_1 : decode cX12_isPlace 1 = .ok (.iload_n 1, 1) := by decide +kernel
theorem dX12_isPlace_2 : decode cX12_isPlace 2 = .ok (.invokevirtual 120, 3) := by decide +kernel
theorem dX12_isPlace_5 : decode cX12_isPlace 5 = .ok (.ifCond .eq 37, 3) := by decide +kernel
theorem dX12_isPlace_8 : decode cX12_isPlace 8 = .ok (.iload_n 1, 1) := by decide +kernel
theorem dX12_isPlace_9 : decode cX12_isPlace 9 = .ok (.aload_n 0, 1) := by decide +kernel
theorem dX12_isPlace_10 : decode cX12_isPlace 10 = .ok (.getfield 75, 3) := by decide +kernel
theorem dX12_isPlace_13 : decode cX12_isPlace 13 = .ok (.idiv, 1) := by decide +kernel
theorem dX12_isPlace_14 : decode cX12_isPlace 14 = .ok (.aload_n 0, 1) := by decide +kernel
theorem dX12_isPlace_15 : decode cX12_isPlace 15 = .ok (.getfield 72, 3) := by decide +kernel
theorem dX12_isPlace_18 : decode cX12_isPlace 18 = .ok (.iconst 1, 1) := by decide +kernel
theorem dX12_isPlace_19 : decode cX12_isPlace 19 = .ok (.isub, 1) := by decide +kernel
theorem dX12_isPlace_20 : decode cX12_isPlace 20 = .ok (.if_icmp .ge 22, 3) := by decide +kernel
theorem dX12_isPlace_23 : decode cX12_isPlace 23 = .ok (.iload_n 1, 1) := by decide +kernel
theorem dX12_isPlace_24 : decode cX12_isPlace 24 = .ok (.aload_n 0, 1) := by decide +kernel
theorem dX12_isPlace_25 : decode cX12_isPlace 25 = .ok (.getfield 75, 3) := by decide +kernel
theorem dX12_isPlace_28 : decode cX12_isPlace 28 = .ok (.irem, 1) := by decide +kernel
theorem dX12_isPlace_29 : decode cX12_isPlace 29 = .ok (.aload_n 0, 1) := by decide +kernel
theorem dX12_isPlace_30 : decode cX12_isPlace 30 = .ok (.getfield 75, 3) := by decide +kernel
theorem dX12_isPlace_33 : decode cX12_isPlace 33 = .ok (.iconst 1, 1) := by decide +kernel
theorem dX12_isPlace_34 : decode cX12_isPlace 34 = .ok (.isub, 1) := by decide +kernel
theorem dX12_isPlace_35 : decode cX12_isPlace 35 = .ok (.if_icmp .ge 7, 3) := by decide +kernel
theorem dX12_isPlace_38 : decode cX12_isPlace 38 = .ok (.iconst 1, 1) := by decide +kernel
theorem dX12_isPlace_39 : decode cX12_isPlace 39 = .ok (.goto 4, 3) := by decide +kernel
theorem dX12_isPlace_42 : decode cX12_isPlace 42 = .ok (.iconst 0, 1) := by decide +kernel
theorem dX12_isPlace_43 : decode cX12_isPlace 43 = .ok (.ireturn, 1) := by decide +kernel
theorem dX12_wedgesOf_0 : decode cX12_wedgesOf 0 = .ok (.aload_n 0, 1) := by decide +kernel
theorem dX12_wedgesOf_1 : decode cX12_wedgesOf 1 = .ok (.iload_n 1, 1) := by decide +kernel
theorem dX12_wedgesOf_2 : decode cX12_wedgesOf 2 = .ok (.iload_n 2, 1) := by decide +kernel
theorem dX12_wedgesOf_3 : decode cX12_wedgesOf 3 = .ok (.invokevirtual 129, 3) := by decide +kernel
theorem dX12_wedgesOf_6 : decode cX12_wedgesOf 6 = .ok (.istore_n 3, 1) := by decide +kernel
theorem dX12_wedgesOf_7 : decode cX12_wedgesOf 7 = .ok (.aload_n 0, 1) := by decide +kernel
theorem dX12_wedgesOf_8 : decode cX12_wedgesOf 8 = .ok (.iload_n 1, 1) := by decide +kernel
theorem dX12_wedgesOf_9 : decode cX12_wedgesOf 9 = .ok (.iconst 1, 1) := by decide +kernel
theorem dX12_wedgesOf_10 : decode cX12_wedgesOf 10 = .ok (.iadd, 1) := by decide +kernel
theorem dX12_wedgesOf_11 : decode cX12_wedgesOf 11 = .ok (.iload_n 2, 1) := by decide +kernel
theorem dX12_wedgesOf_12 : decode cX12_wedgesOf 12 = .ok (.invokevirtual 129, 3) := by decide +kernel
theorem dX12_wedgesOf_15 : decode cX12_wedgesOf 15 = .ok (.istore 4, 2) := by decide +kernel
theorem dX12_wedgesOf_17 : decode cX12_wedgesOf 17 = .ok (.aload_n 0, 1) := by decide +kernel
theorem dX12_wedgesOf_18 : decode cX12_wedgesOf 18 = .ok (.iload_n 1, 1) := by decide +kernel
theorem dX12_wedgesOf_19 : decode cX12_wedgesOf 19 = .ok (.aload_n 0, 1) := by decide +kernel
theorem dX12_wedgesOf_20 : decode cX12_wedgesOf 20 = .ok (.getfield 75, 3) := by decide +kernel
theorem dX12_wedgesOf_23 : decode cX12_wedgesOf 23 = .ok (.iadd, 1) := by decide +kernel
theorem dX12_wedgesOf_24 : decode cX12_wedgesOf 24 = .ok (.iload_n 2, 1) := by decide +kernel
theorem dX12_wedgesOf_25 : decode cX12_wedgesOf 25 = .ok (.invokevirtual 129, 3) := by decide +kernel
theorem dX12_wedgesOf_28 : decode cX12_wedgesOf 28 = .ok (.istore 5, 2) := by decide +kernel
theorem dX12_wedgesOf_30 : decode cX12_wedgesOf 30 = .ok (.aload_n 0, 1) := by decide +kernel
theorem dX12_wedgesOf_31 : decode cX12_wedgesOf 31 = .ok (.iload_n 1, 1) := by decide +kernel
theorem dX12_wedgesOf_32 : decode cX12_wedgesOf 32 = .ok (.aload_n 0, 1) := by decide +kernel
theorem dX12_wedgesOf_33 : decode cX12_wedgesOf 33 = .ok (.getfield 75, 3) := by decide +kernel
theorem dX12_wedgesOf_36 : decode cX12_wedgesOf 36 = .ok (.iadd, 1) := by decide +kernel
theorem dX12_wedgesOf_37 : decode cX12_wedgesOf 37 = .ok (.iconst 1, 1) := by decide +kernel
theorem dX12_wedgesOf_38 : decode cX12_wedgesOf 38 = .ok (.iadd, 1) := by decide +kernel
theorem dX12_wedgesOf_39 : decode cX12_wedgesOf 39 = .ok (.iload_n 2, 1) := by decide +kernel
theorem dX12_wedgesOf_40 : decode cX12_wedgesOf 40 = .ok (.invokevirtual 129, 3) := by decide +kernel
theorem dX12_wedgesOf_43 : decode cX12_wedgesOf 43 = .ok (.istore 6, 2) := by decide +kernel
theorem dX12_wedgesOf_45 : decode cX12_wedgesOf 45 = .ok (.iload_n 3, 1) := by decide +kernel
theorem dX12_wedgesOf_46 : decode cX12_wedgesOf 46 = .ok (.iload 4, 2) := by decide +kernel
theorem dX12_wedgesOf_48 : decode cX12_wedgesOf 48 = .ok (.if_icmp .le 7, 3) := by decide +kernel
theorem dX12_wedgesOf_51 : decode cX12_wedgesOf 51 = .ok (.iload_n 3, 1) := by decide +kernel
theorem dX12_wedgesOf_52 : decode cX12_wedgesOf 52 = .ok (.goto 5, 3) := by decide +kernel
theorem dX12_wedgesOf_55 : decode cX12_wedgesOf 55 = .ok (.iload 4, 2) := by decide +kernel
theorem dX12_wedgesOf_57 : decode cX12_wedgesOf 57 = .ok (.istore 7, 2) := by decide +kernel
theorem dX12_wedgesOf_59 : decode cX12_wedgesOf 59 = .ok (.iload 5, 2) := by decide +kernel
theorem dX12_wedgesOf_61 : decode cX12_wedgesOf 61 = .ok (.iload 7, 2) := by decide +kernel
theorem dX12_wedgesOf_63 : decode cX12_wedgesOf 63 = .ok (.if_icmp .le 8, 3) := by decide +kernel
theorem dX12_wedgesOf_66 : decode cX12_wedgesOf 66 = .ok (.iload 5, 2) := by decide +kernel
theorem dX12_wedgesOf_68 : decode cX12_wedgesOf 68 = .ok (.goto 5, 3) := by decide +kernel
theorem dX12_wedgesOf_71 : decode cX12_wedgesOf 71 = .ok (.iload 7, 2) := by decide +kernel
theorem dX12_wedgesOf_73 : decode cX12_wedgesOf 73 = .ok (.istore 7, 2) := by decide +kernel
theorem dX12_wedgesOf_75 : decode cX12_wedgesOf 75 = .ok (.iload 6, 2) := by decide +kernel
theorem dX12_wedgesOf_77 : decode cX12_wedgesOf 77 = .ok (.iload 7, 2) := by decide +kernel
theorem dX12_wedgesOf_79 : decode cX12_wedgesOf 79 = .ok (.if_icmp .le 8, 3) := by decide +kernel
theorem dX12_wedgesOf_82 : decode cX12_wedgesOf 82 = .ok (.iload 6, 2) := by decide +kernel
theorem dX12_wedgesOf_84 : decode cX12_wedgesOf 84 = .ok (.goto 5, 3) := by decide +kernel
theorem dX12_wedgesOf_87 : decode cX12_wedgesOf 87 = .ok (.iload 7, 2) := by decide +kernel
theorem dX12_wedgesOf_89 : decode cX12_wedgesOf 89 = .ok (.istore 7, 2) := by decide +kernel
theorem dX12_wedgesOf_91 : decode cX12_wedgesOf 91 = .ok (.iconst 4, 1) := by decide +kernel
theorem dX12_wedgesOf_92 : decode cX12_wedgesOf 92 = .ok (.iload 7, 2) := by decide +kernel
theorem dX12_wedgesOf_94 : decode cX12_wedgesOf 94 = .ok (.imul, 1) := by decide +kernel
theorem dX12_wedgesOf_95 : decode cX12_wedgesOf 95 = .ok (.iload_n 3, 1) := by decide +kernel
theorem dX12_wedgesOf_96 : decode cX12_wedgesOf 96 = .ok (.isub, 1) := by decide +kernel
theorem dX12_wedgesOf_97 : decode cX12_wedgesOf 97 = .ok (.iload 4, 2) := by decide +kernel
theorem dX12_wedgesOf_99 : decode cX12_wedgesOf 99 = .ok (.isub, 1) := by decide +kernel
theorem dX12_wedgesOf_100 : decode cX12_wedgesOf 100 = .ok (.iload 5, 2) := by decide +kernel
theorem dX12_wedgesOf_102 : decode cX12_wedgesOf 102 = .ok (.isub, 1) := by decide +kernel
theorem dX12_wedgesOf_103 : decode cX12_wedgesOf 103 = .ok (.iload 6, 2) := by decide +kernel
theorem dX12_wedgesOf_105 : decode cX12_wedgesOf 105 = .ok (.isub, 1) := by decide +kernel
theorem dX12_wedgesOf_106 : decode cX12_wedgesOf 106 = .ok (.ireturn, 1) := by decide +kernel
theorem dX12_wedges_0 : decode cX12_wedges 0 = .ok (.aload_n 0, 1) := by decide +kernel
theorem dX12_wedges_1 : decode cX12_wedges 1 = .ok (.iload_n 1, 1) := by decide +kernel
theorem dX12_wedges_2 : decode cX12_wedges 2 = .ok (.invokevirtual 148, 3) := by decide +kernel
theorem dX12_wedges_5 : decode cX12_wedges 5 = .ok (.ifCond .eq 19, 3) := by decide +kernel
theorem dX12_wedges_8 : decode cX12_wedges 8 = .ok (.iload_n 2, 1) := by decide +kernel
theorem dX12_wedges_9 : decode cX12_wedges 9 = .ok (.invokestatic 123, 3) := by decide +kernel
theorem dX12_wedges_12 : decode cX12_wedges 12 = .ok (.ifCond .eq 12, 3) := by decide +kernel
theorem dX12_wedges_15 : decode cX12_wedges 15 = .ok (.aload_n 0, 1) := by decide +kernel
theorem dX12_wedges_16 : decode cX12_wedges 16 = .ok (.iload_n 1, 1) := by decide +kernel
theorem dX12_wedges_17 : decode cX12_wedges 17 = .ok (.iload_n 2, 1) := by decide +kernel
theorem dX12_wedges_18 : decode cX12_wedges 18 = .ok (.invokevirtual 151, 3) := by decide +kernel
theorem dX12_wedges_21 : decode cX12_wedges 21 = .ok (.goto 4, 3) := by decide +kernel
theorem dX12_wedges_24 : decode cX12_wedges 24 = .ok (.iconst (-1), 1) := by decide +kernel
theorem dX12_wedges_25 : decode cX12_wedges 25 = .ok (.ireturn, 1) := by decide +kernel
theorem dX12_best_0 : decode cX12_best 0 = .ok (.iload_n 1, 1) := by decide +kernel
theorem dX12_best_1 : decode cX12_best 1 = .ok (.invokestatic 123, 3) := by decide +kernel
theorem dX12_best_4 : decode cX12_best 4 = .ok (.ifCond .ne 5, 3) := by decide +kernel
theorem dX12_best_7 : decode cX12_best 7 = .ok (.iconst (-1), 1) := by decide +kernel
theorem dX12_best_8 : decode cX12_best 8 = .ok (.ireturn, 1) := by decide +kernel
theorem dX12_best_9 : decode cX12_best 9 = .ok (.iload_n 2, 1) := by decide +kernel
theorem dX12_best_10 : decode cX12_best 10 = .ok (.iconst 0, 1) := by decide +kernel
theorem dX12_best_11 : decode cX12_best 11 = .ok (.iconst 1, 1) := by decide +kernel
theorem dX12_best_12 : decode cX12_best 12 = .ok (.invokestatic 68, 3) := by decide +kernel
theorem dX12_best_15 : decode cX12_best 15 = .ok (.ifCond .ne 6, 3) := by decide +kernel
theorem dX12_best_18 : decode cX12_best 18 = .ok (.bipush (-2), 2) := by decide +kernel
theorem dX12_best_20 : decode cX12_best 20 = .ok (.ireturn, 1) := by decide +kernel
theorem dX12_best_21 : decode cX12_best 21 = .ok (.aload_n 0, 1) := by decide +kernel
theorem dX12_best_22 : decode cX12_best 22 = .ok (.invokevirtual 78, 3) := by decide +kernel
theorem dX12_best_25 : decode cX12_best 25 = .ok (.ifCond .ne 6, 3) := by decide +kernel
theorem dX12_best_28 : decode cX12_best 28 = .ok (.bipush (-3), 2) := by decide +kernel
theorem dX12_best_30 : decode cX12_best 30 = .ok (.ireturn, 1) := by decide +kernel
theorem dX12_best_31 : decode cX12_best 31 = .ok (.iconst 0, 1) := by decide +kernel
theorem dX12_best_32 : decode cX12_best 32 = .ok (.istore_n 3, 1) := by decide +kernel
theorem dX12_best_33 : decode cX12_best 33 = .ok (.iconst 1, 1) := by decide +kernel
theorem dX12_best_34 : decode cX12_best 34 = .ok (.istore 4, 2) := by decide +kernel
theorem dX12_best_36 : decode cX12_best 36 = .ok (.iload 4, 2) := by decide +kernel
theorem dX12_best_38 : decode cX12_best 38 = .ok (.aload_n 0, 1) := by decide +kernel
theorem dX12_best_39 : decode cX12_best 39 = .ok (.invokevirtual 78, 3) := by decide +kernel
theorem dX12_best_42 : decode cX12_best 42 = .ok (.if_icmp .ge 41, 3) := by decide +kernel
theorem dX12_best_45 : decode cX12_best 45 = .ok (.aload_n 0, 1) := by decide +kernel
theorem dX12_best_46 : decode cX12_best 46 = .ok (.iload 4, 2) := by decide +kernel
theorem dX12_best_48 : decode cX12_best 48 = .ok (.invokevirtual 148, 3) := by decide +kernel
theorem dX12_best_51 : decode cX12_best 51 = .ok (.ifCond .eq 24, 3) := by decide +kernel
theorem dX12_best_54 : decode cX12_best 54 = .ok (.aload_n 0, 1) := by decide +kernel
theorem dX12_best_55 : decode cX12_best 55 = .ok (.iload 4, 2) := by decide +kernel
theorem dX12_best_57 : decode cX12_best 57 = .ok (.iload_n 1, 1) := by decide +kernel
theorem dX12_best_58 : decode cX12_best 58 = .ok (.invokevirtual 151, 3) := by decide +kernel
theorem dX12_best_61 : decode cX12_best 61 = .ok (.aload_n 0, 1) := by decide +kernel
theorem dX12_best_62 : decode cX12_best 62 = .ok (.iload_n 3, 1) := by decide +kernel
theorem dX12_best_63 : decode cX12_best 63 = .ok (.iload_n 1, 1) := by decide +kernel
theorem dX12_best_64 : decode cX12_best 64 = .ok (.invokevirtual 151, 3) := by decide +kernel
theorem dX12_best_67 : decode cX12_best 67 = .ok (.if_icmp .ge 8, 3) := by decide +kernel
theorem dX12_best_70 : decode cX12_best 70 = .ok (.iload 4, 2) := by decide +kernel
theorem dX12_best_72 : decode cX12_best 72 = .ok (.goto 4, 3) := by decide +kernel
theorem dX12_best_75 : decode cX12_best 75 = .ok (.iload_n 3, 1) := by decide +kernel
theorem dX12_best_76 : decode cX12_best 76 = .ok (.istore_n 3, 1) := by decide +kernel
theorem dX12_best_77 : decode cX12_best 77 = .ok (.iinc 4 1, 3) := by decide +kernel
theorem dX12_best_80 : decode cX12_best 80 = .ok (.goto (-44), 3) := by decide +kernel
theorem dX12_best_83 : decode cX12_best 83 = .ok (.iload_n 2, 1) := by decide +kernel
theorem dX12_best_84 : decode cX12_best 84 = .ok (.ifCond .ne 7, 3) := by decide +kernel
theorem dX12_best_87 : decode cX12_best 87 = .ok (.iload_n 3, 1) := by decide +kernel
theorem dX12_best_88 : decode cX12_best 88 = .ok (.goto 9, 3) := by decide +kernel
theorem dX12_best_91 : decode cX12_best 91 = .ok (.aload_n 0, 1) := by decide +kernel
theorem dX12_best_92 : decode cX12_best 92 = .ok (.iload_n 3, 1) := by decide +kernel
theorem dX12_best_93 : decode cX12_best 93 = .ok (.iload_n 1, 1) := by decide +kernel
theorem dX12_best_94 : decode cX12_best 94 = .ok (.invokevirtual 151, 3) := by decide +kernel
theorem dX12_best_97 : decode cX12_best 97 = .ok (.ireturn, 1) := by decide +kernel
theorem dX12_areApart_0 : decode cX12_areApart 0 = .ok (.iload_n 1, 1) := by decide +kernel
theorem dX12_areApart_1 : decode cX12_areApart 1 = .ok (.aload_n 0, 1) := by decide +kernel
theorem dX12_areApart_2 : decode cX12_areApart 2 = .ok (.getfield 75, 3) := by decide +kernel
theorem dX12_areApart_5 : decode cX12_areApart 5 = .ok (.idiv, 1) := by decide +kernel
theorem dX12_areApart_6 : decode cX12_areApart 6 = .ok (.iload_n 2, 1) := by decide +kernel
theorem dX12_areApart_7 : decode cX12_areApart 7 = .ok (.aload_n 0, 1) := by decide +kernel
theorem dX12_areApart_8 : decode cX12_areApart 8 = .ok (.getfield 75, 3) := by decide +kernel
theorem dX12_areApart_11 : decode cX12_areApart 11 = .ok (.idiv, 1) := by decide +kernel
theorem dX12_areApart_12 : decode cX12_areApart 12 = .ok (.isub, 1) := by decide +kernel
theorem dX12_areApart_13 : decode cX12_areApart 13 = .ok (.invokestatic 133, 3) := by decide +kernel
theorem dX12_areApart_16 : decode cX12_areApart 16 = .ok (.iconst 1, 1) := by decide +kernel
theorem dX12_areApart_17 : decode cX12_areApart 17 = .ok (.if_icmp .gt 23, 3) := by decide +kernel
theorem dX12_areApart_20 : decode cX12_areApart 20 = .ok (.iload_n 1, 1) := by decide +kernel
theorem dX12_areApart_21 : decode cX12_areApart 21 = .ok (.aload_n 0, 1) := by decide +kernel
theorem dX12_areApart_22 : decode cX12_areApart 22 = .ok (.getfield 75, 3) := by decide +kernel
theorem dX12_areApart_25 : decode cX12_areApart 25 = .ok (.irem, 1) := by decide +kernel
theorem dX12_areApart_26 : decode cX12_areApart 26 = .ok (.iload_n 2, 1) := by decide +kernel
theorem dX12_areApart_27 : decode cX12_areApart 27 = .ok (.aload_n 0, 1) := by decide +kernel
theorem dX12_areApart_28 : decode cX12_areApart 28 = .ok (.getfield 75, 3) := by decide +kernel
theorem dX12_areApart_31 : decode cX12_areApart 31 = .ok (.irem, 1) := by decide +kernel
theorem dX12_areApart_32 : decode cX12_areApart 32 = .ok (.isub, 1) := by decide +kernel
theorem dX12_areApart_33 : decode cX12_areApart 33 = .ok (.invokestatic 133, 3) := by decide +kernel
theorem dX12_areApart_36 : decode cX12_areApart 36 = .ok (.iconst 1, 1) := by decide +kernel
theorem dX12_areApart_37 : decode cX12_areApart 37 = .ok (.if_icmp .le 7, 3) := by decide +kernel
theorem dX12_areApart_40 : decode cX12_areApart 40 = .ok (.iconst 1, 1) := by decide +kernel
theorem dX12_areApart_41 : decode cX12_areApart 41 = .ok (.goto 4, 3) := by decide +kernel
theorem dX12_areApart_44 : decode cX12_areApart 44 = .ok (.iconst 0, 1) := by decide +kernel
theorem dX12_areApart_45 : decode cX12_areApart 45 = .ok (.ireturn, 1) := by decide +kernel
theorem dX12_two_0 : decode cX12_two 0 = .ok (.iload_n 1, 1) := by decide +kernel
theorem dX12_two_1 : decode cX12_two 1 = .ok (.invokestatic 123, 3) := by decide +kernel
theorem dX12_two_4 : decode cX12_two 4 = .ok (.ifCond .ne 5, 3) := by decide +kernel
theorem dX12_two_7 : decode cX12_two 7 = .ok (.iconst (-1), 1) := by decide +kernel
theorem dX12_two_8 : decode cX12_two 8 = .ok (.ireturn, 1) := by decide +kernel
theorem dX12_two_9 : decode cX12_two 9 = .ok (.iload_n 2, 1) := by decide +kernel
theorem dX12_two_10 : decode cX12_two 10 = .ok (.iconst 0, 1) := by decide +kernel
theorem dX12_two_11 : decode cX12_two 11 = .ok (.iconst 2, 1) := by decide +kernel
theorem dX12_two_12 : decode cX12_two 12 = .ok (.invokestatic 68, 3) := by decide +kernel
theorem dX12_two_15 : decode cX12_two 15 = .ok (.ifCond .ne 6, 3) := by decide +kernel
theorem dX12_two_18 : decode cX12_two 18 = .ok (.bipush (-2), 2) := by decide +kernel
theorem dX12_two_20 : decode cX12_two 20 = .ok (.ireturn, 1) := by decide +kernel
theorem dX12_two_21 : decode cX12_two 21 = .ok (.aload_n 0, 1) := by decide +kernel
theorem dX12_two_22 : decode cX12_two 22 = .ok (.invokevirtual 78, 3) := by decide +kernel
theorem dX12_two_25 : decode cX12_two 25 = .ok (.ifCond .ne 6, 3) := by decide +kernel
theorem dX12_two_28 : decode cX12_two 28 = .ok (.bipush (-3), 2) := by decide +kernel
theorem dX12_two_30 : decode cX12_two 30 = .ok (.ireturn, 1) := by decide +kernel
theorem dX12_two_31 : decode cX12_two 31 = .ok (.bipush (-9), 2) := by decide +kernel
theorem dX12_two_33 : decode cX12_two 33 = .ok (.istore_n 3, 1) := by decide +kernel
theorem dX12_two_34 : decode cX12_two 34 = .ok (.bipush (-9), 2) := by decide +kernel
theorem dX12_two_36 : decode cX12_two 36 = .ok (.istore 4, 2) := by decide +kernel
theorem dX12_two_38 : decode cX12_two 38 = .ok (.bipush (-9), 2) := by decide +kernel
theorem dX12_two_40 : decode cX12_two 40 = .ok (.istore 5, 2) := by decide +kernel
theorem dX12_two_42 : decode cX12_two 42 = .ok (.iconst 0, 1) := by decide +kernel
theorem dX12_two_43 : decode cX12_two 43 = .ok (.istore 6, 2) := by decide +kernel
theorem dX12_two_45 : decode cX12_two 45 = .ok (.iload 6, 2) := by decide +kernel
theorem dX12_two_47 : decode cX12_two 47 = .ok (.aload_n 0, 1) := by decide +kernel
theorem dX12_two_48 : decode cX12_two 48 = .ok (.invokevirtual 78, 3) := by decide +kernel
theorem dX12_two_51 : decode cX12_two 51 = .ok (.if_icmp .ge 100, 3) := by decide +kernel
theorem dX12_two_54 : decode cX12_two 54 = .ok (.iload 6, 2) := by decide +kernel
theorem dX12_two_56 : decode cX12_two 56 = .ok (.iconst 1, 1) := by decide +kernel
theorem dX12_two_57 : decode cX12_two 57 = .ok (.iadd, 1) := by decide +kernel
theorem dX12_two_58 : decode cX12_two 58 = .ok (.istore 7, 2) := by decide +kernel
theorem dX12_two_60 : decode cX12_two 60 = .ok (.iload 7, 2) := by decide +kernel
theorem dX12_two_62 : decode cX12_two 62 = .ok (.aload_n 0, 1) := by decide +kernel
theorem dX12_two_63 : decode cX12_two 63 = .ok (.invokevirtual 78, 3) := by decide +kernel
theorem dX12_two_66 : decode cX12_two 66 = .ok (.if_icmp .ge 79, 3) := by decide +kernel
theorem dX12_two_69 : decode cX12_two 69 = .ok (.aload_n 0, 1) := by decide +kernel
theorem dX12_two_70 : decode cX12_two 70 = .ok (.iload 6, 2) := by decide +kernel
theorem dX12_two_72 : decode cX12_two 72 = .ok (.invokevirtual 148, 3) := by decide +kernel
theorem dX12_two_75 : decode cX12_two 75 = .ok (.ifCond .eq 70, 3) := by decide +kernel
theorem dX12_two_78 : decode cX12_two 78 = .ok (.aload_n 0, 1) := by decide +kernel
theorem dX12_two_79 : decode cX12_two 79 = .ok (.iload 7, 2) := by decide +kernel
theorem dX12_two_81 : decode cX12_two 81 = .ok (.invokevirtual 148, 3) := by decide +kernel
theorem dX12_two_84 : decode cX12_two 84 = .ok (.ifCond .eq 55, 3) := by decide +kernel
theorem dX12_two_87 : decode cX12_two 87 = .ok (.aload_n 0, 1) := by decide +kernel
theorem dX12_two_88 : decode cX12_two 88 = .ok (.iload 6, 2) := by decide +kernel
theorem dX12_two_90 : decode cX12_two 90 = .ok (.iload 7, 2) := by decide +kernel
theorem dX12_two_92 : decode cX12_two 92 = .ok (.invokevirtual 154, 3) := by decide +kernel
theorem dX12_two_95 : decode cX12_two 95 = .ok (.ifCond .eq 44, 3) := by decide +kernel
theorem dX12_two_98 : decode cX12_two 98 = .ok (.aload_n 0, 1) := by decide +kernel
theorem dX12_two_99 : decode cX12_two 99 = .ok (.iload 6, 2) := by decide +kernel
theorem dX12_two_101 : decode cX12_two 101 = .ok (.iload_n 1, 1) := by decide +kernel
theorem dX12_two_102 : decode cX12_two 102 = .ok (.invokevirtual 151, 3) := by decide +kernel
theorem dX12_two_105 : decode cX12_two 105 = .ok (.aload_n 0, 1) := by decide +kernel
theorem dX12_two_106 : decode cX12_two 106 = .ok (.iload 7, 2) := by decide +kernel
theorem dX12_two_108 : decode cX12_two 108 = .ok (.iload_n 1, 1) := by decide +kernel
theorem dX12_two_109 : decode cX12_two 109 = .ok (.invokevirtual 151, 3) := by decide +kernel
theorem dX12_two_112 : decode cX12_two 112 = .ok (.iadd, 1) := by decide +kernel
theorem dX12_two_113 : decode cX12_two 113 = .ok (.istore 8, 2) := by decide +kernel
theorem dX12_two_115 : decode cX12_two 115 = .ok (.iload_n 3, 1) := by decide +kernel
theorem dX12_two_116 : decode cX12_two 116 = .ok (.bipush (-9), 2) := by decide +kernel
theorem dX12_two_118 : decode cX12_two 118 = .ok (.if_icmp .eq 10, 3) := by decide +kernel
theorem dX12_two_121 : decode cX12_two 121 = .ok (.iload 8, 2) := by decide +kernel
theorem dX12_two_123 : decode cX12_two 123 = .ok (.iload 5, 2) := by decide +kernel
theorem dX12_two_125 : decode cX12_two 125 = .ok (.if_icmp .ge 14, 3) := by decide +kernel
theorem dX12_two_128 : decode cX12_two 128 = .ok (.iload 6, 2) := by decide +kernel
theorem dX12_two_130 : decode cX12_two 130 = .ok (.istore_n 3, 1) := by decide +kernel
theorem dX12_two_131 : decode cX12_two 131 = .ok (.iload 7, 2) := by decide +kernel
theorem dX12_two_133 : decode cX12_two 133 = .ok (.istore 4, 2) := by decide +kernel
theorem dX12_two_135 : decode cX12_two 135 = .ok (.iload 8, 2) := by decide +kernel
theorem dX12_two_137 : decode cX12_two 137 = .ok (.istore 5, 2) := by decide +kernel
theorem dX12_two_139 : decode cX12_two 139 = .ok (.iinc 7 1, 3) := by decide +kernel
theorem dX12_two_142 : decode cX12_two 142 = .ok (.goto (-82), 3) := by decide +kernel
theorem dX12_two_145 : decode cX12_two 145 = .ok (.iinc 6 1, 3) := by decide +kernel
theorem dX12_two_148 : decode cX12_two 148 = .ok (.goto (-103), 3) := by decide +kernel
theorem dX12_two_151 : decode cX12_two 151 = .ok (.iload_n 2, 1) := by decide +kernel
theorem dX12_two_152 : decode cX12_two 152 = .ok (.ifCond .ne 7, 3) := by decide +kernel
theorem dX12_two_155 : decode cX12_two 155 = .ok (.iload_n 3, 1) := by decide +kernel
theorem dX12_two_156 : decode cX12_two 156 = .ok (.goto 15, 3) := by decide +kernel
theorem dX12_two_159 : decode cX12_two 159 = .ok (.iload_n 2, 1) := by decide +kernel
theorem dX12_two_160 : decode cX12_two 160 = .ok (.iconst 1, 1) := by decide +kernel
theorem dX12_two_161 : decode cX12_two 161 = .ok (.if_icmp .ne 8, 3) := by decide +kernel
theorem dX12_two_164 : decode cX12_two 164 = .ok (.iload 4, 2) := by decide +kernel
theorem dX12_two_166 : decode cX12_two 166 = .ok (.goto 5, 3) := by decide +kernel
theorem dX12_two_169 : decode cX12_two 169 = .ok (.iload 5, 2) := by decide +kernel
theorem dX12_two_171 : decode cX12_two 171 = .ok (.ireturn, 1) := by decide +kernel
theorem dX12_apartOf_0 : decode cX12_apartOf 0 = .ok (.ldc 136, 2) := by decide +kernel
theorem dX12_apartOf_2 : decode cX12_apartOf 2 = .ok (.istore 4, 2) := by decide +kernel
theorem dX12_apartOf_4 : decode cX12_apartOf 4 = .ok (.iconst 0, 1) := by decide +kernel
theorem dX12_apartOf_5 : decode cX12_apartOf 5 = .ok (.istore 5, 2) := by decide +kernel
theorem dX12_apartOf_7 : decode cX12_apartOf 7 = .ok (.iload_n 1, 1) := by decide +kernel
theorem dX12_apartOf_8 : decode cX12_apartOf 8 = .ok (.aload_n 0, 1) := by decide +kernel
theorem dX12_apartOf_9 : decode cX12_apartOf 9 = .ok (.getfield 75, 3) := by decide +kernel
theorem dX12_apartOf_12 : decode cX12_apartOf 12 = .ok (.idiv, 1) := by decide +kernel
theorem dX12_apartOf_13 : decode cX12_apartOf 13 = .ok (.istore 6, 2) := by decide +kernel
theorem dX12_apartOf_15 : decode cX12_apartOf 15 = .ok (.iload 6, 2) := by decide +kernel
theorem dX12_apartOf_17 : decode cX12_apartOf 17 = .ok (.iload_n 2, 1) := by decide +kernel
theorem dX12_apartOf_18 : decode cX12_apartOf 18 = .ok (.aload_n 0, 1) := by decide +kernel
theorem dX12_apartOf_19 : decode cX12_apartOf 19 = .ok (.getfield 75, 3) := by decide +kernel
theorem dX12_apartOf_22 : decode cX12_apartOf 22 = .ok (.idiv, 1) := by decide +kernel
theorem dX12_apartOf_23 : decode cX12_apartOf 23 = .ok (.if_icmp .gt 83, 3) := by decide +kernel
theorem dX12_apartOf_26 : decode cX12_apartOf 26 = .ok (.iload_n 1, 1) := by decide +kernel
theorem dX12_apartOf_27 : decode cX12_apartOf 27 = .ok (.aload_n 0, 1) := by decide +kernel
theorem dX12_apartOf_28 : decode cX12_apartOf 28 = .ok (.getfield 75, 3) := by decide +kernel
theorem dX12_apartOf_31 : decode cX12_apartOf 31 = .ok (.irem, 1) := by decide +kernel
theorem dX12_apartOf_32 : decode cX12_apartOf 32 = .ok (.istore 7, 2) := by decide +kernel
theorem dX12_apartOf_34 : decode cX12_apartOf 34 = .ok (.iload 7, 2) := by decide +kernel
theorem dX12_apartOf_36 : decode cX12_apartOf 36 = .ok (.iload_n 2, 1) := by decide +kernel
theorem dX12_apartOf_37 : decode cX12_apartOf 37 = .ok (.aload_n 0, 1) := by decide +kernel
theorem dX12_apartOf_38 : decode cX12_apartOf 38 = .ok (.getfield 75, 3) := by decide +kernel
theorem dX12_apartOf_41 : decode cX12_apartOf 41 = .ok (.irem, 1) := by decide +kernel
theorem dX12_apartOf_42 : decode cX12_apartOf 42 = .ok (.if_icmp .gt 58, 3) := by decide +kernel
theorem dX12_apartOf_45 : decode cX12_apartOf 45 = .ok (.aload_n 0, 1) := by decide +kernel
theorem dX12_apartOf_46 : decode cX12_apartOf 46 = .ok (.aload_n 0, 1) := by decide +kernel
theorem dX12_apartOf_47 : decode cX12_apartOf 47 = .ok (.getfield 75, 3) := by decide +kernel
theorem dX12_apartOf_50 : decode cX12_apartOf 50 = .ok (.iload 6, 2) := by decide +kernel
theorem dX12_apartOf_52 : decode cX12_apartOf 52 = .ok (.imul, 1) := by decide +kernel
theorem dX12_apartOf_53 : decode cX12_apartOf 53 = .ok (.iload 7, 2) := by decide +kernel
theorem dX12_apartOf_55 : decode cX12_apartOf 55 = .ok (.iadd, 1) := by decide +kernel
theorem dX12_apartOf_56 : decode cX12_apartOf 56 = .ok (.iload_n 3, 1) := by decide +kernel
theorem dX12_apartOf_57 : decode cX12_apartOf 57 = .ok (.invokevirtual 129, 3) := by decide +kernel
theorem dX12_apartOf_60 : decode cX12_apartOf 60 = .ok (.istore 8, 2) := by decide +kernel
theorem dX12_apartOf_62 : decode cX12_apartOf 62 = .ok (.iload 8, 2) := by decide +kernel
theorem dX12_apartOf_64 : decode cX12_apartOf 64 = .ok (.iload 4, 2) := by decide +kernel
theorem dX12_apartOf_66 : decode cX12_apartOf 66 = .ok (.if_icmp .ge 8, 3) := by decide +kernel
theorem dX12_apartOf_69 : decode cX12_apartOf 69 = .ok (.iload 8, 2) := by decide +kernel
theorem dX12_apartOf_71 : decode cX12_apartOf 71 = .ok (.goto 5, 3) := by decide +kernel
theorem dX12_apartOf_74 : decode cX12_apartOf 74 = .ok (.iload 4, 2) := by decide +kernel
theorem dX12_apartOf_76 : decode cX12_apartOf 76 = .ok (.istore 4, 2) := by decide +kernel
theorem dX12_apartOf_78 : decode cX12_apartOf 78 = .ok (.iload 8, 2) := by decide +kernel
theorem dX12_apartOf_80 : decode cX12_apartOf 80 = .ok (.iload 5, 2) := by decide +kernel
theorem dX12_apartOf_82 : decode cX12_apartOf 82 = .ok (.if_icmp .le 8, 3) := by decide +kernel
theorem dX12_apartOf_85 : decode cX12_apartOf 85 = .ok (.iload 8, 2) := by decide +kernel
theorem dX12_apartOf_87 : decode cX12_apartOf 87 = .ok (.goto 5, 3) := by decide +kernel
theorem dX12_apartOf_90 : decode cX12_apartOf 90 = .ok (.iload 5, 2) := by decide +kernel
theorem dX12_apartOf_92 : decode cX12_apartOf 92 = .ok (.istore 5, 2) := by decide +kernel
theorem dX12_apartOf_94 : decode cX12_apartOf 94 = .ok (.iinc 7 1, 3) := by decide +kernel
theorem dX12_apartOf_97 : decode cX12_apartOf 97 = .ok (.goto (-63), 3) := by decide +kernel
theorem dX12_apartOf_100 : decode cX12_apartOf 100 = .ok (.iinc 6 1, 3) := by decide +kernel
theorem dX12_apartOf_103 : decode cX12_apartOf 103 = .ok (.goto (-88), 3) := by decide +kernel
theorem dX12_apartOf_106 : decode cX12_apartOf 106 = .ok (.iload 5, 2) := by decide +kernel
theorem dX12_apartOf_108 : decode cX12_apartOf 108 = .ok (.iload 4, 2) := by decide +kernel
theorem dX12_apartOf_110 : decode cX12_apartOf 110 = .ok (.isub, 1) := by decide +kernel
theorem dX12_apartOf_111 : decode cX12_apartOf 111 = .ok (.ireturn, 1) := by decide +kernel
theorem dX12_oval_0 : decode cX12_oval 0 = .ok (.iload_n 1, 1) := by decide +kernel
theorem dX12_oval_1 : decode cX12_oval 1 = .ok (.invokestatic 123, 3) := by decide +kernel
theorem dX12_oval_4 : decode cX12_oval 4 = .ok (.ifCond .ne 5, 3) := by decide +kernel
theorem dX12_oval_7 : decode cX12_oval 7 = .ok (.iconst (-1), 1) := by decide +kernel
theorem dX12_oval_8 : decode cX12_oval 8 = .ok (.ireturn, 1) := by decide +kernel
theorem dX12_oval_9 : decode cX12_oval 9 = .ok (.iload_n 2, 1) := by decide +kernel
theorem dX12_oval_10 : decode cX12_oval 10 = .ok (.iconst 0, 1) := by decide +kernel
theorem dX12_oval_11 : decode cX12_oval 11 = .ok (.sipush 999, 3) := by decide +kernel
theorem dX12_oval_14 : decode cX12_oval 14 = .ok (.invokestatic 68, 3) := by decide +kernel
theorem dX12_oval_17 : decode cX12_oval 17 = .ok (.ifCond .eq 12, 3) := by decide +kernel
theorem dX12_oval_20 : decode cX12_oval 20 = .ok (.iload_n 3, 1) := by decide +kernel
theorem dX12_oval_21 : decode cX12_oval 21 = .ok (.iconst 0, 1) := by decide +kernel
theorem dX12_oval_22 : decode cX12_oval 22 = .ok (.iconst 2, 1) := by decide +kernel
theorem dX12_oval_23 : decode cX12_oval 23 = .ok (.invokestatic 68, 3) := by decide +kernel
theorem dX12_oval_26 : decode cX12_oval 26 = .ok (.ifCond .ne 6, 3) := by decide +kernel
theorem dX12_oval_29 : decode cX12_oval 29 = .ok (.bipush (-2), 2) := by decide +kernel
theorem dX12_oval_31 : decode cX12_oval 31 = .ok (.ireturn, 1) := by decide +kernel
theorem dX12_oval_32 : decode cX12_oval 32 = .ok (.aload_n 0, 1) := by decide +kernel
theorem dX12_oval_33 : decode cX12_oval 33 = .ok (.invokevirtual 78, 3) := by decide +kernel
theorem dX12_oval_36 : decode cX12_oval 36 = .ok (.ifCond .ne 6, 3) := by decide +kernel
theorem dX12_oval_39 : decode cX12_oval 39 = .ok (.bipush (-3), 2) := by decide +kernel
theorem dX12_oval_41 : decode cX12_oval 41 = .ok (.ireturn, 1) := by decide +kernel
theorem dX12_oval_42 : decode cX12_oval 42 = .ok (.iconst 0, 1) := by decide +kernel
theorem dX12_oval_43 : decode cX12_oval 43 = .ok (.istore 4, 2) := by decide +kernel
theorem dX12_oval_45 : decode cX12_oval 45 = .ok (.iconst 0, 1) := by decide +kernel
theorem dX12_oval_46 : decode cX12_oval 46 = .ok (.istore 5, 2) := by decide +kernel
theorem dX12_oval_48 : decode cX12_oval 48 = .ok (.iconst 0, 1) := by decide +kernel
theorem dX12_oval_49 : decode cX12_oval 49 = .ok (.istore 6, 2) := by decide +kernel
theorem dX12_oval_51 : decode cX12_oval 51 = .ok (.iconst 0, 1) := by decide +kernel
theorem dX12_oval_52 : decode cX12_oval 52 = .ok (.istore 7, 2) := by decide +kernel
theorem dX12_oval_54 : decode cX12_oval 54 = .ok (.iload 7, 2) := by decide +kernel
theorem dX12_oval_56 : decode cX12_oval 56 = .ok (.aload_n 0, 1) := by decide +kernel
theorem dX12_oval_57 : decode cX12_oval 57 = .ok (.invokevirtual 78, 3) := by decide +kernel
theorem dX12_oval_60 : decode cX12_oval 60 = .ok (.if_icmp .ge 114, 3) := by decide +kernel
theorem dX12_oval_63 : decode cX12_oval 63 = .ok (.iload 7, 2) := by decide +kernel
theorem dX12_oval_65 : decode cX12_oval 65 = .ok (.istore 8, 2) := by decide +kernel
theorem dX12_oval_67 : decode cX12_oval 67 = .ok (.iload 8, 2) := by decide +kernel
theorem dX12_oval_69 : decode cX12_oval 69 = .ok (.aload_n 0, 1) := by decide +kernel
theorem dX12_oval_70 : decode cX12_oval 70 = .ok (.invokevirtual 78, 3) := by decide +kernel
theorem dX12_oval_73 : decode cX12_oval 73 = .ok (.if_icmp .ge 95, 3) := by decide +kernel
theorem dX12_oval_76 : decode cX12_oval 76 = .ok (.iload 8, 2) := by decide +kernel
theorem dX12_oval_78 : decode cX12_oval 78 = .ok (.aload_n 0, 1) := by decide +kernel
theorem dX12_oval_79 : decode cX12_oval 79 = .ok (.getfield 75, 3) := by decide +kernel
theorem dX12_oval_82 : decode cX12_oval 82 = .ok (.idiv, 1) := by decide +kernel
theorem dX12_oval_83 : decode cX12_oval 83 = .ok (.iload 7, 2) := by decide +kernel
theorem dX12_oval_85 : decode cX12_oval 85 = .ok (.aload_n 0, 1) := by decide +kernel
theorem dX12_oval_86 : decode cX12_oval 86 = .ok (.getfield 75, 3) := by decide +kernel
theorem dX12_oval_89 : decode cX12_oval 89 = .ok (.idiv, 1) := by decide +kernel
theorem dX12_oval_90 : decode cX12_oval 90 = .ok (.isub, 1) := by decide +kernel
theorem dX12_oval_91 : decode cX12_oval 91 = .ok (.iconst 1, 1) := by decide +kernel
theorem dX12_oval_92 : decode cX12_oval 92 = .ok (.iadd, 1) := by decide +kernel
theorem dX12_oval_93 : decode cX12_oval 93 = .ok (.iload 8, 2) := by decide +kernel
theorem dX12_oval_95 : decode cX12_oval 95 = .ok (.aload_n 0, 1) := by decide +kernel
theorem dX12_oval_96 : decode cX12_oval 96 = .ok (.getfield 75, 3) := by decide +kernel
theorem dX12_oval_99 : decode cX12_oval 99 = .ok (.irem, 1) := by decide +kernel
theorem dX12_oval_100 : decode cX12_oval 100 = .ok (.iload 7, 2) := by decide +kernel
theorem dX12_oval_102 : decode cX12_oval 102 = .ok (.aload_n 0, 1) := by decide +kernel
theorem dX12_oval_103 : decode cX12_oval 103 = .ok (.getfield 75, 3) := by decide +kernel
theorem dX12_oval_106 : decode cX12_oval 106 = .ok (.irem, 1) := by decide +kernel
theorem dX12_oval_107 : decode cX12_oval 107 = .ok (.isub, 1) := by decide +kernel
theorem dX12_oval_108 : decode cX12_oval 108 = .ok (.iconst 1, 1) := by decide +kernel
theorem dX12_oval_109 : decode cX12_oval 109 = .ok (.iadd, 1) := by decide +kernel
theorem dX12_oval_110 : decode cX12_oval 110 = .ok (.imul, 1) := by decide +kernel
theorem dX12_oval_111 : decode cX12_oval 111 = .ok (.istore 9, 2) := by decide +kernel
theorem dX12_oval_113 : decode cX12_oval 113 = .ok (.iload 8, 2) := by decide +kernel
theorem dX12_oval_115 : decode cX12_oval 115 = .ok (.aload_n 0, 1) := by decide +kernel
theorem dX12_oval_116 : decode cX12_oval 116 = .ok (.getfield 75, 3) := by decide +kernel
theorem dX12_oval_119 : decode cX12_oval 119 = .ok (.irem, 1) := by decide +kernel
theorem dX12_oval_120 : decode cX12_oval 120 = .ok (.iload 7, 2) := by decide +kernel
theorem dX12_oval_122 : decode cX12_oval 122 = .ok (.aload_n 0, 1) := by decide +kernel
theorem dX12_oval_123 : decode cX12_oval 123 = .ok (.getfield 75, 3) := by decide +kernel
theorem dX12_oval_126 : decode cX12_oval 126 = .ok (.irem, 1) := by decide +kernel
theorem dX12_oval_127 : decode cX12_oval 127 = .ok (.if_icmp .lt 35, 3) := by decide +kernel
theorem dX12_oval_130 : decode cX12_oval 130 = .ok (.iload 9, 2) := by decide +kernel
theorem dX12_oval_132 : decode cX12_oval 132 = .ok (.iload 4, 2) := by decide +kernel
theorem dX12_oval_134 : decode cX12_oval 134 = .ok (.if_icmp .le 28, 3) := by decide +kernel
theorem dX12_oval_137 : decode cX12_oval 137 = .ok (.aload_n 0, 1) := by decide +kernel
theorem dX12_oval_138 : decode cX12_oval 138 = .ok (.iload 7, 2) := by decide +kernel
theorem dX12_oval_140 : decode cX12_oval 140 = .ok (.iload 8, 2) := by decide +kernel
theorem dX12_oval_142 : decode cX12_oval 142 = .ok (.iload_n 1, 1) := by decide +kernel
theorem dX12_oval_143 : decode cX12_oval 143 = .ok (.invokevirtual 157, 3) := by decide +kernel
theorem dX12_oval_146 : decode cX12_oval 146 = .ok (.iload_n 2, 1) := by decide +kernel
theorem dX12_oval_147 : decode cX12_oval 147 = .ok (.if_icmp .gt 15, 3) := by decide +kernel
theorem dX12_oval_150 : decode cX12_oval 150 = .ok (.iload 9, 2) := by decide +kernel
theorem dX12_oval_152 : decode cX12_oval 152 = .ok (.istore 4, 2) := by decide +kernel
theorem dX12_oval_154 : decode cX12_oval 154 = .ok (.iload 7, 2) := by decide +kernel
theorem dX12_oval_156 : decode cX12_oval 156 = .ok (.istore 5, 2) := by decide +kernel
theorem dX12_oval_158 : decode cX12_oval 158 = .ok (.iload 8, 2) := by decide +kernel
theorem dX12_oval_160 : decode cX12_oval 160 = .ok (.istore 6, 2) := by decide +kernel
theorem dX12_oval_162 : decode cX12_oval 162 = .ok (.iinc 8 1, 3) := by decide +kernel
theorem dX12_oval_165 : decode cX12_oval 165 = .ok (.goto (-98), 3) := by decide +kernel
theorem dX12_oval_168 : decode cX12_oval 168 = .ok (.iinc 7 1, 3) := by decide +kernel
theorem dX12_oval_171 : decode cX12_oval 171 = .ok (.goto (-117), 3) := by decide +kernel
theorem dX12_oval_174 : decode cX12_oval 174 = .ok (.iload_n 3, 1) := by decide +kernel
theorem dX12_oval_175 : decode cX12_oval 175 = .ok (.ifCond .ne 8, 3) := by decide +kernel
theorem dX12_oval_178 : decode cX12_oval 178 = .ok (.iload 4, 2) := by decide +kernel
theorem dX12_oval_180 : decode cX12_oval 180 = .ok (.goto 15, 3) := by decide +kernel
theorem dX12_oval_183 : decode cX12_oval 183 = .ok (.iload_n 3, 1) := by decide +kernel
theorem dX12_oval_184 : decode cX12_oval 184 = .ok (.iconst 1, 1) := by decide +kernel
theorem dX12_oval_185 : decode cX12_oval 185 = .ok (.if_icmp .ne 8, 3) := by decide +kernel
theorem dX12_oval_188 : decode cX12_oval 188 = .ok (.iload 5, 2) := by decide +kernel
theorem dX12_oval_190 : decode cX12_oval 190 = .ok (.goto 5, 3) := by decide +kernel
theorem dX12_oval_193 : decode cX12_oval 193 = .ok (.iload 6, 2) := by decide +kernel
theorem dX12_oval_195 : decode cX12_oval 195 = .ok (.ireturn, 1) := by decide +kernel
theorem dX12_isEdge_0 : decode cX12_isEdge 0 = .ok (.iload_n 1, 1) := by decide +kernel
theorem dX12_isEdge_1 : decode cX12_isEdge 1 = .ok (.aload_n 0, 1) := by decide +kernel
theorem dX12_isEdge_2 : decode cX12_isEdge 2 = .ok (.getfield 75, 3) := by decide +kernel
theorem dX12_isEdge_5 : decode cX12_isEdge 5 = .ok (.idiv, 1) := by decide +kernel
theorem dX12_isEdge_6 : decode cX12_isEdge 6 = .ok (.ifCond .eq 42, 3) := by decide +kernel
theorem dX12_isEdge_9 : decode cX12_isEdge 9 = .ok (.iload_n 1, 1) := by decide +kernel
theorem dX12_isEdge_10 : decode cX12_isEdge 10 = .ok (.aload_n 0, 1) := by decide +kernel
theorem dX12_isEdge_11 : decode cX12_isEdge 11 = .ok (.getfield 75, 3) := by decide +kernel
theorem dX12_isEdge_14 : decode cX12_isEdge 14 = .ok (.idiv, 1) := by decide +kernel
theorem dX12_isEdge_15 : decode cX12_isEdge 15 = .ok (.aload_n 0, 1) := by decide +kernel
theorem dX12_isEdge_16 : decode cX12_isEdge 16 = .ok (.getfield 72, 3) := by decide +kernel
theorem dX12_isEdge_19 : decode cX12_isEdge 19 = .ok (.iconst 1, 1) := by decide +kernel
theorem dX12_isEdge_20 : decode cX12_isEdge 20 = .ok (.isub, 1) := by decide +kernel
theorem dX12_isEdge_21 : decode cX12_isEdge 21 = .ok (.if_icmp .eq 27, 3) := by decide +kernel
theorem dX12_isEdge_24 : decode cX12_isEdge 24 = .ok (.iload_n 1, 1) := by decide +kernel
theorem dX12_isEdge_25 : decode cX12_isEdge 25 = .ok (.aload_n 0, 1) := by decide +kernel
theorem dX12_isEdge_26 : decode cX12_isEdge 26 = .ok (.getfield 75, 3) := by decide +kernel
theorem dX12_isEdge_29 : decode cX12_isEdge 29 = .ok (.irem, 1) := by decide +kernel
theorem dX12_isEdge_30 : decode cX12_isEdge 30 = .ok (.ifCond .eq 18, 3) := by decide +kernel
theorem dX12_isEdge_33 : decode cX12_isEdge 33 = .ok (.iload_n 1, 1) := by decide +kernel
theorem dX12_isEdge_34 : decode cX12_isEdge 34 = .ok (.aload_n 0, 1) := by decide +kernel
theorem dX12_isEdge_35 : decode cX12_isEdge 35 = .ok (.getfield 75, 3) := by decide +kernel
theorem dX12_isEdge_38 : decode cX12_isEdge 38 = .ok (.irem, 1) := by decide +kernel
theorem dX12_isEdge_39 : decode cX12_isEdge 39 = .ok (.aload_n 0, 1) := by decide +kernel
theorem dX12_isEdge_40 : decode cX12_isEdge 40 = .ok (.getfield 75, 3) := by decide +kernel
theorem dX12_isEdge_43 : decode cX12_isEdge 43 = .ok (.iconst 1, 1) := by decide +kernel
theorem dX12_isEdge_44 : decode cX12_isEdge 44 = .ok (.isub, 1) := by decide +kernel
theorem dX12_isEdge_45 : decode cX12_isEdge 45 = .ok (.if_icmp .ne 7, 3) := by decide +kernel
theorem dX12_isEdge_48 : decode cX12_isEdge 48 = .ok (.iconst 1, 1) := by decide +kernel
theorem dX12_isEdge_49 : decode cX12_isEdge 49 = .ok (.goto 4, 3) := by decide +kernel
theorem dX12_isEdge_52 : decode cX12_isEdge 52 = .ok (.iconst 0, 1) := by decide +kernel
theorem dX12_isEdge_53 : decode cX12_isEdge 53 = .ok (.ireturn, 1) := by decide +kernel
theorem dX12_findWater_0 : decode cX12_findWater 0 = .ok (.iconst 0, 1) := by decide +kernel
theorem dX12_findWater_1 : decode cX12_findWater 1 = .ok (.istore_n 2, 1) := by decide +kernel
theorem dX12_findWater_2 : decode cX12_findWater 2 = .ok (.iload_n 2, 1) := by decide +kernel
theorem dX12_findWater_3 : decode cX12_findWater 3 = .ok (.aload_n 0, 1) := by decide +kernel
theorem dX12_findWater_4 : decode cX12_findWater 4 = .ok (.invokevirtual 78, 3) := by decide +kernel
theorem dX12_findWater_7 : decode cX12_findWater 7 = .ok (.if_icmp .ge 34, 3) := by decide +kernel
theorem dX12_findWater_10 : decode cX12_findWater 10 = .ok (.aload_n 0, 1) := by decide +kernel
theorem dX12_findWater_11 : decode cX12_findWater 11 = .ok (.getfield 43, 3) := by decide +kernel
theorem dX12_findWater_14 : decode cX12_findWater 14 = .ok (.iload_n 2, 1) := by decide +kernel
theorem dX12_findWater_15 : decode cX12_findWater 15 = .ok (.aload_n 0, 1) := by decide +kernel
theorem dX12_findWater_16 : decode cX12_findWater 16 = .ok (.iload_n 2, 1) := by decide +kernel
theorem dX12_findWater_17 : decode cX12_findWater 17 = .ok (.invokevirtual 160, 3) := by decide +kernel
theorem dX12_findWater_20 : decode cX12_findWater 20 = .ok (.ifCond .eq 12, 3) := by decide +kernel
theorem dX12_findWater_23 : decode cX12_findWater 23 = .ok (.aload_n 0, 1) := by decide +kernel
theorem dX12_findWater_24 : decode cX12_findWater 24 = .ok (.iload_n 2, 1) := by decide +kernel
theorem dX12_findWater_25 : decode cX12_findWater 25 = .ok (.iload_n 1, 1) := by decide +kernel
theorem dX12_findWater_26 : decode cX12_findWater 26 = .ok (.invokevirtual 129, 3) := by decide +kernel
theorem dX12_findWater_29 : decode cX12_findWater 29 = .ok (.goto 5, 3) := by decide +kernel
theorem dX12_findWater_32 : decode cX12_findWater 32 = .ok (.ldc 136, 2) := by decide +kernel
theorem dX12_findWater_34 : decode cX12_findWater 34 = .ok (.iastore, 1) := by decide +kernel
theorem dX12_findWater_35 : decode cX12_findWater 35 = .ok (.iinc 2 1, 3) := by decide +kernel
theorem dX12_findWater_38 : decode cX12_findWater 38 = .ok (.goto (-36), 3) := by decide +kernel
theorem dX12_findWater_41 : decode cX12_findWater 41 = .ok (.iconst 0, 1) := by decide +kernel
theorem dX12_findWater_42 : decode cX12_findWater 42 = .ok (.istore_n 2, 1) := by decide +kernel
theorem dX12_findWater_43 : decode cX12_findWater 43 = .ok (.iload_n 2, 1) := by decide +kernel
theorem dX12_findWater_44 : decode cX12_findWater 44 = .ok (.aload_n 0, 1) := by decide +kernel
theorem dX12_findWater_45 : decode cX12_findWater 45 = .ok (.invokevirtual 78, 3) := by decide +kernel
theorem dX12_findWater_48 : decode cX12_findWater 48 = .ok (.if_icmp .ge 126, 3) := by decide +kernel
theorem dX12_findWater_51 : decode cX12_findWater 51 = .ok (.iconst 0, 1) := by decide +kernel
theorem dX12_findWater_52 : decode cX12_findWater 52 = .ok (.istore_n 3, 1) := by decide +kernel
theorem dX12_findWater_53 : decode cX12_findWater 53 = .ok (.iload_n 3, 1) := by decide +kernel
theorem dX12_findWater_54 : decode cX12_findWater 54 = .ok (.aload_n 0, 1) := by decide +kernel
theorem dX12_findWater_55 : decode cX12_findWater 55 = .ok (.invokevirtual 78, 3) := by decide +kernel
theorem dX12_findWater_58 : decode cX12_findWater 58 = .ok (.if_icmp .ge 110, 3) := by decide +kernel
theorem dX12_findWater_61 : decode cX12_findWater 61 = .ok (.iconst 0, 1) := by decide +kernel
theorem dX12_findWater_62 : decode cX12_findWater 62 = .ok (.istore 4, 2) := by decide +kernel
theorem dX12_findWater_64 : decode cX12_findWater 64 = .ok (.iload 4, 2) := by decide +kernel
theorem dX12_findWater_66 : decode cX12_findWater 66 = .ok (.iconst 4, 1) := by decide +kernel
theorem dX12_findWater_67 : decode cX12_findWater 67 = .ok (.if_icmp .ge 95, 3) := by decide +kernel
theorem dX12_findWater_70 : decode cX12_findWater 70 = .ok (.aload_n 0, 1) := by decide +kernel
theorem dX12_findWater_71 : decode cX12_findWater 71 = .ok (.iload_n 3, 1) := by decide +kernel
theorem dX12_findWater_72 : decode cX12_findWater 72 = .ok (.iload 4, 2) := by decide +kernel
theorem dX12_findWater_74 : decode cX12_findWater 74 = .ok (.invokevirtual 137, 3) := by decide +kernel
theorem dX12_findWater_77 : decode cX12_findWater 77 = .ok (.istore 5, 2) := by decide +kernel
theorem dX12_findWater_79 : decode cX12_findWater 79 = .ok (.iload 5, 2) := by decide +kernel
theorem dX12_findWater_81 : decode cX12_findWater 81 = .ok (.bipush (-9), 2) := by decide +kernel
theorem dX12_findWater_83 : decode cX12_findWater 83 = .ok (.if_icmp .eq 73, 3) := by decide +kernel
theorem dX12_findWater_86 : decode cX12_findWater 86 = .ok (.aload_n 0, 1) := by decide +kernel
theorem dX12_findWater_87 : decode cX12_findWater 87 = .ok (.iload_n 3, 1) := by decide +kernel
theorem dX12_findWater_88 : decode cX12_findWater 88 = .ok (.invokevirtual 160, 3) := by decide +kernel
theorem dX12_findWater_91 : decode cX12_findWater 91 = .ok (.ifCond .ne 65, 3) := by decide +kernel
theorem dX12_findWater_94 : decode cX12_findWater 94 = .ok (.aload_n 0, 1) := by decide +kernel
theorem dX12_findWater_95 : decode cX12_findWater 95 = .ok (.getfield 43, 3) := by decide +kernel
theorem dX12_findWater_98 : decode cX12_findWater 98 = .ok (.iload 5, 2) := by decide +kernel
theorem dX12_findWater_100 : decode cX12_findWater 100 = .ok (.iaload, 1) := by decide +kernel
theorem dX12_findWater_101 : decode cX12_findWater 101 = .ok (.aload_n 0, 1) := by decide +kernel
theorem dX12_findWater_102 : decode cX12_findWater 102 = .ok (.iload_n 3, 1) := by decide +kernel
theorem dX12_findWater_103 : decode cX12_findWater 103 = .ok (.iload_n 1, 1) := by decide +kernel
theorem dX12_findWater_104 : decode cX12_findWater 104 = .ok (.invokevirtual 129, 3) := by decide +kernel
theorem dX12_findWater_107 : decode cX12_findWater 107 = .ok (.if_icmp .le 13, 3) := by decide +kernel
theorem dX12_findWater_110 : decode cX12_findWater 110 = .ok (.aload_n 0, 1) := by decide +kernel
theorem dX12_findWater_111 : decode cX12_findWater 111 = .ok (.getfield 43, 3) := by decide +kernel
theorem dX12_findWater_114 : decode cX12_findWater 114 = .ok (.iload 5, 2) := by decide +kernel
theorem dX12_findWater_116 : decode cX12_findWater 116 = .ok (.iaload, 1) := by decide +kernel
theorem dX12_findWater_117 : decode cX12_findWater 117 = .ok (.goto 9, 3) := by decide +kernel
theorem dX12_findWater_120 : decode cX12_findWater 120 = .ok (.aload_n 0, 1) := by decide +kernel
theorem dX12_findWater_121 : decode cX12_findWater 121 = .ok (.iload_n 3, 1) := by decide +kernel
theorem dX12_findWater_122 : decode cX12_findWater 122 = .ok (.iload_n 1, 1) := by decide +kernel
theorem dX12_findWater_123 : decode cX12_findWater 123 = .ok (.invokevirtual 129, 3) := by decide +kernel
theorem dX12_findWater_126 : decode cX12_findWater 126 = .ok (.istore 6, 2) := by decide +kernel
theorem dX12_findWater_128 : decode cX12_findWater 128 = .ok (.aload_n 0, 1) := by decide +kernel
theorem dX12_findWater_129 : decode cX12_findWater 129 = .ok (.getfield 43, 3) := by decide +kernel
theorem dX12_findWater_132 : decode cX12_findWater 132 = .ok (.iload_n 3, 1) := by decide +kernel
theorem dX12_findWater_133 : decode cX12_findWater 133 = .ok (.iload 6, 2) := by decide +kernel
theorem dX12_findWater_135 : decode cX12_findWater 135 = .ok (.aload_n 0, 1) := by decide +kernel
theorem dX12_findWater_136 : decode cX12_findWater 136 = .ok (.getfield 43, 3) := by decide +kernel
theorem dX12_findWater_139 : decode cX12_findWater 139 = .ok (.iload_n 3, 1) := by decide +kernel
theorem dX12_findWater_140 : decode cX12_findWater 140 = .ok (.iaload, 1) := by decide +kernel
theorem dX12_findWater_141 : decode cX12_findWater 141 = .ok (.if_icmp .ge 8, 3) := by decide +kernel
theorem dX12_findWater_144 : decode cX12_findWater 144 = .ok (.iload 6, 2) := by decide +kernel
theorem dX12_findWater_146 : decode cX12_findWater 146 = .ok (.goto 9, 3) := by decide +kernel
theorem dX12_findWater_149 : decode cX12_findWater 149 = .ok (.aload_n 0, 1) := by decide +kernel
theorem dX12_findWater_150 : decode cX12_findWater 150 = .ok (.getfield 43, 3) := by decide +kernel
theorem dX12_findWater_153 : decode cX12_findWater 153 = .ok (.iload_n 3, 1) := by decide +kernel
theorem dX12_findWater_154 : decode cX12_findWater 154 = .ok (.iaload, 1) := by decide +kernel
theorem dX12_findWater_155 : decode cX12_findWater 155 = .ok (.iastore, 1) := by decide +kernel
theorem dX12_findWater_156 : decode cX12_findWater 156 = .ok (.iinc 4 1, 3) := by decide +kernel
theorem dX12_findWater_159 : decode cX12_findWater 159 = .ok (.goto (-95), 3) := by decide +kernel
theorem dX12_findWater_162 : decode cX12_findWater 162 = .ok (.iinc 3 1, 3) := by decide +kernel
theorem dX12_findWater_165 : decode cX12_findWater 165 = .ok (.goto (-112), 3) := by decide +kernel
theorem dX12_findWater_168 : decode cX12_findWater 168 = .ok (.iinc 2 1, 3) := by decide +kernel
theorem dX12_findWater_171 : decode cX12_findWater 171 = .ok (.goto (-128), 3) := by decide +kernel
theorem dX12_findWater_174 : decode cX12_findWater 174 = .ok (.return_, 1) := by decide +kernel
theorem dX12_depth_0 : decode cX12_depth 0 = .ok (.aload_n 0, 1) := by decide +kernel
theorem dX12_depth_1 : decode cX12_depth 1 = .ok (.iload_n 1, 1) := by decide +kernel
theorem dX12_depth_2 : decode cX12_depth 2 = .ok (.invokevirtual 120, 3) := by decide +kernel
theorem dX12_depth_5 : decode cX12_depth 5 = .ok (.ifCond .eq 10, 3) := by decide +kernel
theorem dX12_depth_8 : decode cX12_depth 8 = .ok (.iload_n 2, 1) := by decide +kernel
theorem dX12_depth_9 : decode cX12_depth 9 = .ok (.invokestatic 123, 3) := by decide +kernel
theorem dX12_depth_12 : decode cX12_depth 12 = .ok (.ifCond .ne 5, 3) := by decide +kernel
theorem dX12_depth_15 : decode cX12_depth 15 = .ok (.iconst (-1), 1) := by decide +kernel
theorem dX12_depth_16 : decode cX12_depth 16 = .ok (.ireturn, 1) := by decide +kernel
theorem dX12_depth_17 : decode cX12_depth 17 = .ok (.aload_n 0, 1) := by decide +kernel
theorem dX12_depth_18 : decode cX12_depth 18 = .ok (.iload_n 2, 1) := by decide +kernel
theorem dX12_depth_19 : decode cX12_depth 19 = .ok (.invokevirtual 163, 3) := by decide +kernel
theorem dX12_depth_22 : decode cX12_depth 22 = .ok (.aload_n 0, 1) := by decide +kernel
theorem dX12_depth_23 : decode cX12_depth 23 = .ok (.getfield 43, 3) := by decide +kernel
theorem dX12_depth_26 : decode cX12_depth 26 = .ok (.iload_n 1, 1) := by decide +kernel
theorem dX12_depth_27 : decode cX12_depth 27 = .ok (.iaload, 1) := by decide +kernel
theorem dX12_depth_28 : decode cX12_depth 28 = .ok (.aload_n 0, 1) := by decide +kernel
theorem dX12_depth_29 : decode cX12_depth 29 = .ok (.iload_n 1, 1) := by decide +kernel
theorem dX12_depth_30 : decode cX12_depth 30 = .ok (.iload_n 2, 1) := by decide +kernel
theorem dX12_depth_31 : decode cX12_depth 31 = .ok (.invokevirtual 129, 3) := by decide +kernel
theorem dX12_depth_34 : decode cX12_depth 34 = .ok (.isub, 1) := by decide +kernel
theorem dX12_depth_35 : decode cX12_depth 35 = .ok (.ireturn, 1) := by decide +kernel
theorem dX12_poolOf_0 : decode cX12_poolOf 0 = .ok (.aload_n 0, 1) := by decide +kernel
theorem dX12_poolOf_1 : decode cX12_poolOf 1 = .ok (.iload_n 1, 1) := by decide +kernel
theorem dX12_poolOf_2 : decode cX12_poolOf 2 = .ok (.invokevirtual 163, 3) := by decide +kernel
theorem dX12_poolOf_5 : decode cX12_poolOf 5 = .ok (.iconst 0, 1) := by decide +kernel
theorem dX12_poolOf_6 : decode cX12_poolOf 6 = .ok (.istore_n 2, 1) := by decide +kernel
theorem dX12_poolOf_7 : decode cX12_poolOf 7 = .ok (.iconst 0, 1) := by decide +kernel
theorem dX12_poolOf_8 : decode cX12_poolOf 8 = .ok (.istore_n 3, 1) := by decide +kernel
theorem dX12_poolOf_9 : decode cX12_poolOf 9 = .ok (.iload_n 3, 1) := by decide +kernel
theorem dX12_poolOf_10 : decode cX12_poolOf 10 = .ok (.aload_n 0, 1) := by decide +kernel
theorem dX12_poolOf_11 : decode cX12_poolOf 11 = .ok (.invokevirtual 78, 3) := by decide +kernel
theorem dX12_poolOf_14 : decode cX12_poolOf 14 = .ok (.if_icmp .ge 25, 3) := by decide +kernel
theorem dX12_poolOf_17 : decode cX12_poolOf 17 = .ok (.iload_n 2, 1) := by decide +kernel
theorem dX12_poolOf_18 : decode cX12_poolOf 18 = .ok (.aload_n 0, 1) := by decide +kernel
theorem dX12_poolOf_19 : decode cX12_poolOf 19 = .ok (.getfield 43, 3) := by decide +kernel
theorem dX12_poolOf_22 : decode cX12_poolOf 22 = .ok (.iload_n 3, 1) := by decide +kernel
theorem dX12_poolOf_23 : decode cX12_poolOf 23 = .ok (.iaload, 1) := by decide +kernel
theorem dX12_poolOf_24 : decode cX12_poolOf 24 = .ok (.aload_n 0, 1) := by decide +kernel
theorem dX12_poolOf_25 : decode cX12_poolOf 25 = .ok (.iload_n 3, 1) := by decide +kernel
theorem dX12_poolOf_26 : decode cX12_poolOf 26 = .ok (.iload_n 1, 1) := by decide +kernel
theorem dX12_poolOf_27 : decode cX12_poolOf 27 = .ok (.invokevirtual 129, 3) := by decide +kernel
theorem dX12_poolOf_30 : decode cX12_poolOf 30 = .ok (.isub, 1) := by decide +kernel
theorem dX12_poolOf_31 : decode cX12_poolOf 31 = .ok (.iadd, 1) := by decide +kernel
theorem dX12_poolOf_32 : decode cX12_poolOf 32 = .ok (.istore_n 2, 1) := by decide +kernel
theorem dX12_poolOf_33 : decode cX12_poolOf 33 = .ok (.iinc 3 1, 3) := by decide +kernel
theorem dX12_poolOf_36 : decode cX12_poolOf 36 = .ok (.goto (-27), 3) := by decide +kernel
theorem dX12_poolOf_39 : decode cX12_poolOf 39 = .ok (.iload_n 2, 1) := by decide +kernel
theorem dX12_poolOf_40 : decode cX12_poolOf 40 = .ok (.ireturn, 1) := by decide +kernel
theorem dX12_pool_0 : decode cX12_pool 0 = .ok (.iload_n 1, 1) := by decide +kernel
theorem dX12_pool_1 : decode cX12_pool 1 = .ok (.invokestatic 123, 3) := by decide +kernel
theorem dX12_pool_4 : decode cX12_pool 4 = .ok (.ifCond .ne 5, 3) := by decide +kernel
theorem dX12_pool_7 : decode cX12_pool 7 = .ok (.iconst (-1), 1) := by decide +kernel
theorem dX12_pool_8 : decode cX12_pool 8 = .ok (.ireturn, 1) := by decide +kernel
theorem dX12_pool_9 : decode cX12_pool 9 = .ok (.aload_n 0, 1) := by decide +kernel
theorem dX12_pool_10 : decode cX12_pool 10 = .ok (.invokevirtual 78, 3) := by decide +kernel
theorem dX12_pool_13 : decode cX12_pool 13 = .ok (.ifCond .ne 8, 3) := by decide +kernel
theorem dX12_pool_16 : decode cX12_pool 16 = .ok (.bipush (-3), 2) := by decide +kernel
theorem dX12_pool_18 : decode cX12_pool 18 = .ok (.goto 8, 3) := by decide +kernel
theorem dX12_pool_21 : decode cX12_pool 21 = .ok (.aload_n 0, 1) := by decide +kernel
theorem dX12_pool_22 : decode cX12_pool 22 = .ok (.iload_n 1, 1) := by decide +kernel
theorem dX12_pool_23 : decode cX12_pool 23 = .ok (.invokevirtual 167, 3) := by decide +kernel
theorem dX12_pool_26 : decode cX12_pool 26 = .ok (.ireturn, 1) := by decide +kernel
theorem dX12_drain_0 : decode cX12_drain 0 = .ok (.iload_n 1, 1) := by decide +kernel
theorem dX12_drain_1 : decode cX12_drain 1 = .ok (.invokestatic 123, 3) := by decide +kernel
theorem dX12_drain_4 : decode cX12_drain 4 = .ok (.ifCond .ne 5, 3) := by decide +kernel
theorem dX12_drain_7 : decode cX12_drain 7 = .ok (.iconst (-1), 1) := by decide +kernel
theorem dX12_drain_8 : decode cX12_drain 8 = .ok (.ireturn, 1) := by decide +kernel
theorem dX12_drain_9 : decode cX12_drain 9 = .ok (.iload_n 2, 1) := by decide +kernel
theorem dX12_drain_10 : decode cX12_drain 10 = .ok (.iconst 1, 1) := by decide +kernel
theorem dX12_drain_11 : decode cX12_drain 11 = .ok (.bipush 99, 2) := by decide +kernel
theorem dX12_drain_13 : decode cX12_drain 13 = .ok (.invokestatic 68, 3) := by decide +kernel
theorem dX12_drain_16 : decode cX12_drain 16 = .ok (.ifCond .eq 12, 3) := by decide +kernel
theorem dX12_drain_19 : decode cX12_drain 19 = .ok (.iload_n 3, 1) := by decide +kernel
theorem dX12_drain_20 : decode cX12_drain 20 = .ok (.iconst 0, 1) := by decide +kernel
theorem dX12_drain_21 : decode cX12_drain 21 = .ok (.iconst 1, 1) := by decide +kernel
theorem dX12_drain_22 : decode cX12_drain 22 = .ok (.invokestatic 68, 3) := by decide +kernel
theorem dX12_drain_25 : decode cX12_drain 25 = .ok (.ifCond .ne 6, 3) := by decide +kernel
theorem dX12_drain_28 : decode cX12_drain 28 = .ok (.bipush (-2), 2) := by decide +kernel
theorem dX12_drain_30 : decode cX12_drain 30 = .ok (.ireturn, 1) := by decide +kernel
theorem dX12_drain_31 : decode cX12_drain 31 = .ok (.aload_n 0, 1) := by decide +kernel
theorem dX12_drain_32 : decode cX12_drain 32 = .ok (.invokevirtual 78, 3) := by decide +kernel
theorem dX12_drain_35 : decode cX12_drain 35 = .ok (.ifCond .ne 6, 3) := by decide +kernel
theorem dX12_drain_38 : decode cX12_drain 38 = .ok (.bipush (-3), 2) := by decide +kernel
theorem dX12_drain_40 : decode cX12_drain 40 = .ok (.ireturn, 1) := by decide +kernel
theorem dX12_drain_41 : decode cX12_drain 41 = .ok (.bipush (-9), 2) := by decide +kernel
theorem dX12_drain_43 : decode cX12_drain 43 = .ok (.istore 4, 2) := by decide +kernel
theorem dX12_drain_45 : decode cX12_drain 45 = .ok (.bipush (-9), 2) := by decide +kernel
theorem dX12_drain_47 : decode cX12_drain 47 = .ok (.istore 5, 2) := by decide +kernel
theorem dX12_drain_49 : decode cX12_drain 49 = .ok (.iconst 0, 1) := by decide +kernel
theorem dX12_drain_50 : decode cX12_drain 50 = .ok (.istore 6, 2) := by decide +kernel
theorem dX12_drain_52 : decode cX12_drain 52 = .ok (.iload 6, 2) := by decide +kernel
theorem dX12_drain_54 : decode cX12_drain 54 = .ok (.aload_n 0, 1) := by decide +kernel
theorem dX12_drain_55 : decode cX12_drain 55 = .ok (.invokevirtual 78, 3) := by decide +kernel
theorem dX12_drain_58 : decode cX12_drain 58 = .ok (.if_icmp .ge 60, 3) := by decide +kernel
theorem dX12_drain_61 : decode cX12_drain 61 = .ok (.aload_n 0, 1) := by decide +kernel
theorem dX12_drain_62 : decode cX12_drain 62 = .ok (.getfield 25, 3) := by decide +kernel
theorem dX12_drain_65 : decode cX12_drain 65 = .ok (.iload 6, 2) := by decide +kernel
theorem dX12_drain_67 : decode cX12_drain 67 = .ok (.dup2, 1) := by decide +kernel
theorem dX12_drain_68 : decode cX12_drain 68 = .ok (.iaload, 1) := by decide +kernel
theorem dX12_drain_69 : decode cX12_drain 69 = .ok (.iload_n 2, 1) := by decide +kernel
theorem dX12_drain_70 : decode cX12_drain 70 = .ok (.iadd, 1) := by decide +kernel
theorem dX12_drain_71 : decode cX12_drain 71 = .ok (.iastore, 1) := by decide +kernel
theorem dX12_drain_72 : decode cX12_drain 72 = .ok (.aload_n 0, 1) := by decide +kernel
theorem dX12_drain_73 : decode cX12_drain 73 = .ok (.iload_n 1, 1) := by decide +kernel
theorem dX12_drain_74 : decode cX12_drain 74 = .ok (.invokevirtual 167, 3) := by decide +kernel
theorem dX12_drain_77 : decode cX12_drain 77 = .ok (.istore 7, 2) := by decide +kernel
theorem dX12_drain_79 : decode cX12_drain 79 = .ok (.aload_n 0, 1) := by decide +kernel
theorem dX12_drain_80 : decode cX12_drain 80 = .ok (.getfield 25, 3) := by decide +kernel
theorem dX12_drain_83 : decode cX12_drain 83 = .ok (.iload 6, 2) := by decide +kernel
theorem dX12_drain_85 : decode cX12_drain 85 = .ok (.dup2, 1) := by decide +kernel
theorem dX12_drain_86 : decode cX12_drain 86 = .ok (.iaload, 1) := by decide +kernel
theorem dX12_drain_87 : decode cX12_drain 87 = .ok (.iload_n 2, 1) := by decide +kernel
theorem dX12_drain_88 : decode cX12_drain 88 = .ok (.isub, 1) := by decide +kernel
theorem dX12_drain_89 : decode cX12_drain 89 = .ok (.iastore, 1) := by decide +kernel
theorem dX12_drain_90 : decode cX12_drain 90 = .ok (.iload 4, 2) := by decide +kernel
theorem dX12_drain_92 : decode cX12_drain 92 = .ok (.bipush (-9), 2) := by decide +kernel
theorem dX12_drain_94 : decode cX12_drain 94 = .ok (.if_icmp .eq 10, 3) := by decide +kernel
theorem dX12_drain_97 : decode cX12_drain 97 = .ok (.iload 7, 2) := by decide +kernel
theorem dX12_drain_99 : decode cX12_drain 99 = .ok (.iload 5, 2) := by decide +kernel
theorem dX12_drain_101 : decode cX12_drain 101 = .ok (.if_icmp .ge 11, 3) := by decide +kernel
theorem dX12_drain_104 : decode cX12_drain 104 = .ok (.iload 6, 2) := by decide +kernel
theorem dX12_drain_106 : decode cX12_drain 106 = .ok (.istore 4, 2) := by decide +kernel
theorem dX12_drain_108 : decode cX12_drain 108 = .ok (.iload 7, 2) := by decide +kernel
theorem dX12_drain_110 : decode cX12_drain 110 = .ok (.istore 5, 2) := by decide +kernel
theorem dX12_drain_112 : decode cX12_drain 112 = .ok (.iinc 6 1, 3) := by decide +kernel
theorem dX12_drain_115 : decode cX12_drain 115 = .ok (.goto (-63), 3) := by decide +kernel
theorem dX12_drain_118 : decode cX12_drain 118 = .ok (.iload_n 3, 1) := by decide +kernel
theorem dX12_drain_119 : decode cX12_drain 119 = .ok (.ifCond .ne 8, 3) := by decide +kernel
theorem dX12_drain_122 : decode cX12_drain 122 = .ok (.iload 4, 2) := by decide +kernel
theorem dX12_drain_124 : decode cX12_drain 124 = .ok (.goto 5, 3) := by decide +kernel
theorem dX12_drain_127 : decode cX12_drain 127 = .ok (.iload 5, 2) := by decide +kernel
theorem dX12_drain_129 : decode cX12_drain 129 = .ok (.ireturn, 1) := by decide +kernel
theorem dX12_areBeside_0 : decode cX12_areBeside 0 = .ok (.iconst 0, 1) := by decide +kernel
theorem dX12_areBeside_1 : decode cX12_areBeside 1 = .ok (.istore_n 3, 1) := by decide +kernel
theorem dX12_areBeside_2 : decode cX12_areBeside 2 = .ok (.iload_n 3, 1) := by decide +kernel
theorem dX12_areBeside_3 : decode cX12_areBeside 3 = .ok (.iconst 4, 1) := by decide +kernel
theorem dX12_areBeside_4 : decode cX12_areBeside 4 = .ok (.if_icmp .ge 21, 3) := by decide +kernel
theorem dX12_areBeside_7 : decode cX12_areBeside 7 = .ok (.aload_n 0, 1) := by decide +kernel
theorem dX12_areBeside_8 : decode cX12_areBeside 8 = .ok (.iload_n 1, 1) := by decide +kernel
theorem dX12_areBeside_9 : decode cX12_areBeside 9 = .ok (.iload_n 3, 1) := by decide +kernel
theorem dX12_areBeside_10 : decode cX12_areBeside 10 = .ok (.invokevirtual 137, 3) := by decide +kernel
theorem dX12_areBeside_13 : decode cX12_areBeside 13 = .ok (.iload_n 2, 1) := by decide +kernel
theorem dX12_areBeside_14 : decode cX12_areBeside 14 = .ok (.if_icmp .ne 5, 3) := by decide +kernel
theorem dX12_areBeside_17 : decode cX12_areBeside 17 = .ok (.iconst 1, 1) := by decide +kernel
theorem dX12_areBeside_18 : decode cX12_areBeside 18 = .ok (.ireturn, 1) := by decide +kernel
theorem dX12_areBeside_19 : decode cX12_areBeside 19 = .ok (.iinc 3 1, 3) := by decide +kernel
theorem dX12_areBeside_22 : decode cX12_areBeside 22 = .ok (.goto (-20), 3) := by decide +kernel
theorem dX12_areBeside_25 : decode cX12_areBeside 25 = .ok (.iconst 0, 1) := by decide +kernel
theorem dX12_areBeside_26 : decode cX12_areBeside 26 = .ok (.ireturn, 1) := by decide +kernel
theorem dX12_statue_0 : decode cX12_statue 0 = .ok (.aload_n 0, 1) := by decide +kernel
theorem dX12_statue_1 : decode cX12_statue 1 = .ok (.iload_n 1, 1) := by decide +kernel
theorem dX12_statue_2 : decode cX12_statue 2 = .ok (.invokevirtual 120, 3) := by decide +kernel
theorem dX12_statue_5 : decode cX12_statue 5 = .ok (.ifCond .eq 11, 3) := by decide +kernel
theorem dX12_statue_8 : decode cX12_statue 8 = .ok (.aload_n 0, 1) := by decide +kernel
theorem dX12_statue_9 : decode cX12_statue 9 = .ok (.iload_n 2, 1) := by decide +kernel
theorem dX12_statue_10 : decode cX12_statue 10 = .ok (.invokevirtual 120, 3) := by decide +kernel
theorem dX12_statue_13 : decode cX12_statue 13 = .ok (.ifCond .ne 5, 3) := by decide +kernel
theorem dX12_statue_16 : decode cX12_statue 16 = .ok (.iconst (-1), 1) := by decide +kernel
theorem dX12_statue_17 : decode cX12_statue 17 = .ok (.ireturn, 1) := by decide +kernel
theorem dX12_statue_18 : decode cX12_statue 18 = .ok (.iload_n 3, 1) := by decide +kernel
theorem dX12_statue_19 : decode cX12_statue 19 = .ok (.iconst 0, 1) := by decide +kernel
theorem dX12_statue_20 : decode cX12_statue 20 = .ok (.sipush 999, 3) := by decide +kernel
theorem dX12_statue_23 : decode cX12_statue 23 = .ok (.invokestatic 68, 3) := by decide +kernel
theorem dX12_statue_26 : decode cX12_statue 26 = .ok (.ifCond .ne 6, 3) := by decide +kernel
theorem dX12_statue_29 : decode cX12_statue 29 = .ok (.bipush (-2), 2) := by decide +kernel
theorem dX12_statue_31 : decode cX12_statue 31 = .ok (.ireturn, 1) := by decide +kernel
theorem dX12_statue_32 : decode cX12_statue 32 = .ok (.aload_n 0, 1) := by decide +kernel
theorem dX12_statue_33 : decode cX12_statue 33 = .ok (.iload_n 1, 1) := by decide +kernel
theorem dX12_statue_34 : decode cX12_statue 34 = .ok (.iload_n 2, 1) := by decide +kernel
theorem dX12_statue_35 : decode cX12_statue 35 = .ok (.invokevirtual 170, 3) := by decide +kernel
theorem dX12_statue_38 : decode cX12_statue 38 = .ok (.ifCond .ne 6, 3) := by decide +kernel
theorem dX12_statue_41 : decode cX12_statue 41 = .ok (.bipush (-3), 2) := by decide +kernel
theorem dX12_statue_43 : decode cX12_statue 43 = .ok (.ireturn, 1) := by decide +kernel
theorem dX12_statue_44 : decode cX12_statue 44 = .ok (.iconst 0, 1) := by decide +kernel
theorem dX12_statue_45 : decode cX12_statue 45 = .ok (.istore 4, 2) := by decide +kernel
theorem dX12_statue_47 : decode cX12_statue 47 = .ok (.iload 4, 2) := by decide +kernel
theorem dX12_statue_49 : decode cX12_statue 49 = .ok (.bipush 12, 2) := by decide +kernel
theorem dX12_statue_51 : decode cX12_statue 51 = .ok (.if_icmp .ge 26, 3) := by decide +kernel
theorem dX12_statue_54 : decode cX12_statue 54 = .ok (.aload_n 0, 1) := by decide +kernel
theorem dX12_statue_55 : decode cX12_statue 55 = .ok (.iload_n 1, 1) := by decide +kernel
theorem dX12_statue_56 : decode cX12_statue 56 = .ok (.iload_n 2, 1) := by decide +kernel
theorem dX12_statue_57 : decode cX12_statue 57 = .ok (.iload 4, 2) := by decide +kernel
theorem dX12_statue_59 : decode cX12_statue 59 = .ok (.iload 4, 2) := by decide +kernel
theorem dX12_statue_61 : decode cX12_statue 61 = .ok (.iload_n 3, 1) := by decide +kernel
theorem dX12_statue_62 : decode cX12_statue 62 = .ok (.invokevirtual 140, 3) := by decide +kernel
theorem dX12_statue_65 : decode cX12_statue 65 = .ok (.ifCond .ne 6, 3) := by decide +kernel
theorem dX12_statue_68 : decode cX12_statue 68 = .ok (.iload 4, 2) := by decide +kernel
theorem dX12_statue_70 : decode cX12_statue 70 = .ok (.ireturn, 1) := by decide +kernel
theorem dX12_statue_71 : decode cX12_statue 71 = .ok (.iinc 4 1, 3) := by decide +kernel
theorem dX12_statue_74 : decode cX12_statue 74 = .ok (.goto (-27), 3) := by decide +kernel
theorem dX12_statue_77 : decode cX12_statue 77 = .ok (.bipush (-9), 2) := by decide +kernel
theorem dX12_statue_79 : decode cX12_statue 79 = .ok (.ireturn, 1) := by decide +kernel
theorem dX12_apartNow_0 : decode cX12_apartNow 0 = .ok (.aload_n 0, 1) := by decide +kernel
theorem dX12_apartNow_1 : decode cX12_apartNow 1 = .ok (.getfield 46, 3) := by decide +kernel
theorem dX12_apartNow_4 : decode cX12_apartNow 4 = .ok (.iconst 0, 1) := by decide +kernel
theorem dX12_apartNow_5 : decode cX12_apartNow 5 = .ok (.iaload, 1) := by decide +kernel
theorem dX12_apartNow_6 : decode cX12_apartNow 6 = .ok (.istore_n 1, 1) := by decide +kernel
theorem dX12_apartNow_7 : decode cX12_apartNow 7 = .ok (.aload_n 0, 1) := by decide +kernel
theorem dX12_apartNow_8 : decode cX12_apartNow 8 = .ok (.getfield 46, 3) := by decide +kernel
theorem dX12_apartNow_11 : decode cX12_apartNow 11 = .ok (.iconst 0, 1) := by decide +kernel
theorem dX12_apartNow_12 : decode cX12_apartNow 12 = .ok (.iaload, 1) := by decide +kernel
theorem dX12_apartNow_13 : decode cX12_apartNow 13 = .ok (.istore_n 2, 1) := by decide +kernel
theorem dX12_apartNow_14 : decode cX12_apartNow 14 = .ok (.iconst 1, 1) := by decide +kernel
theorem dX12_apartNow_15 : decode cX12_apartNow 15 = .ok (.istore_n 3, 1) := by decide +kernel
theorem dX12_apartNow_16 : decode cX12_apartNow 16 = .ok (.iload_n 3, 1) := by decide +kernel
theorem dX12_apartNow_17 : decode cX12_apartNow 17 = .ok (.aload_n 0, 1) := by decide +kernel
theorem dX12_apartNow_18 : decode cX12_apartNow 18 = .ok (.invokevirtual 78, 3) := by decide +kernel
theorem dX12_apartNow_21 : decode cX12_apartNow 21 = .ok (.if_icmp .ge 51, 3) := by decide +kernel
theorem dX12_apartNow_24 : decode cX12_apartNow 24 = .ok (.aload_n 0, 1) := by decide +kernel
theorem dX12_apartNow_25 : decode cX12_apartNow 25 = .ok (.getfield 46, 3) := by decide +kernel
theorem dX12_apartNow_28 : decode cX12_apartNow 28 = .ok (.iload_n 3, 1) := by decide +kernel
theorem dX12_apartNow_29 : decode cX12_apartNow 29 = .ok (.iaload, 1) := by decide +kernel
theorem dX12_apartNow_30 : decode cX12_apartNow 30 = .ok (.iload_n 1, 1) := by decide +kernel
theorem dX12_apartNow_31 : decode cX12_apartNow 31 = .ok (.if_icmp .ge 12, 3) := by decide +kernel
theorem dX12_apartNow_34 : decode cX12_apartNow 34 = .ok (.aload_n 0, 1) := by decide +kernel
theorem dX12_apartNow_35 : decode cX12_apartNow 35 = .ok (.getfield 46, 3) := by decide +kernel
theorem dX12_apartNow_38 : decode cX12_apartNow 38 = .ok (.iload_n 3, 1) := by decide +kernel
theorem dX12_apartNow_39 : decode cX12_apartNow 39 = .ok (.iaload, 1) := by decide +kernel
theorem dX12_apartNow_40 : decode cX12_apartNow 40 = .ok (.goto 4, 3) := by decide +kernel
theorem dX12_apartNow_43 : decode cX12_apartNow 43 = .ok (.iload_n 1, 1) := by decide +kernel
theorem dX12_apartNow_44 : decode cX12_apartNow 44 = .ok (.istore_n 1, 1) := by decide +kernel
theorem dX12_apartNow_45 : decode cX12_apartNow 45 = .ok (.aload_n 0, 1) := by decide +kernel
theorem dX12_apartNow_46 : decode cX12_apartNow 46 = .ok (.getfield 46, 3) := by decide +kernel
theorem dX12_apartNow_49 : decode cX12_apartNow 49 = .ok (.iload_n 3, 1) := by decide +kernel
theorem dX12_apartNow_50 : decode cX12_apartNow 50 = .ok (.iaload, 1) := by decide +kernel
theorem dX12_apartNow_51 : decode cX12_apartNow 51 = .ok (.iload_n 2, 1) := by decide +kernel
theorem dX12_apartNow_52 : decode cX12_apartNow 52 = .ok (.if_icmp .le 12, 3) := by decide +kernel
theorem dX12_apartNow_55 : decode cX12_apartNow 55 = .ok (.aload_n 0, 1) := by decide +kernel
theorem dX12_apartNow_56 : decode cX12_apartNow 56 = .ok (.getfield 46, 3) := by decide +kernel
theorem dX12_apartNow_59 : decode cX12_apartNow 59 = .ok (.iload_n 3, 1) := by decide +kernel
theorem dX12_apartNow_60 : decode cX12_apartNow 60 = .ok (.iaload, 1) := by decide +kernel
theorem dX12_apartNow_61 : decode cX12_apartNow 61 = .ok (.goto 4, 3) := by decide +kernel
theorem dX12_apartNow_64 : decode cX12_apartNow 64 = .ok (.iload_n 2, 1) := by decide +kernel
theorem dX12_apartNow_65 : decode cX12_apartNow 65 = .ok (.istore_n 2, 1) := by decide +kernel
theorem dX12_apartNow_66 : decode cX12_apartNow 66 = .ok (.iinc 3 1, 3) := by decide +kernel
theorem dX12_apartNow_69 : decode cX12_apartNow 69 = .ok (.goto (-53), 3) := by decide +kernel
theorem dX12_apartNow_72 : decode cX12_apartNow 72 = .ok (.iload_n 2, 1) := by decide +kernel
theorem dX12_apartNow_73 : decode cX12_apartNow 73 = .ok (.iload_n 1, 1) := by decide +kernel
theorem dX12_apartNow_74 : decode cX12_apartNow 74 = .ok (.isub, 1) := by decide +kernel
theorem dX12_apartNow_75 : decode cX12_apartNow 75 = .ok (.ireturn, 1) := by decide +kernel
theorem dX12_goNight_0 : decode cX12_goNight 0 = .ok (.iconst 0, 1) := by decide +kernel
theorem dX12_goNight_1 : decode cX12_goNight 1 = .ok (.istore_n 2, 1) := by decide +kernel
theorem dX12_goNight_2 : decode cX12_goNight 2 = .ok (.iload_n 2, 1) := by decide +kernel
theorem dX12_goNight_3 : decode cX12_goNight 3 = .ok (.aload_n 0, 1) := by decide +kernel
theorem dX12_goNight_4 : decode cX12_goNight 4 = .ok (.invokevirtual 78, 3) := by decide +kernel
theorem dX12_goNight_7 : decode cX12_goNight 7 = .ok (.if_icmp .ge 16, 3) := by decide +kernel
theorem dX12_goNight_10 : decode cX12_goNight 10 = .ok (.aload_n 0, 1) := by decide +kernel
theorem dX12_goNight_11 : decode cX12_goNight 11 = .ok (.getfield 49, 3) := by decide +kernel
theorem dX12_goNight_14 : decode cX12_goNight 14 = .ok (.iload_n 2, 1) := by decide +kernel
theorem dX12_goNight_15 : decode cX12_goNight 15 = .ok (.iconst 0, 1) := by decide +kernel
theorem dX12_goNight_16 : decode cX12_goNight 16 = .ok (.bastore, 1) := by decide +kernel
theorem dX12_goNight_17 : decode cX12_goNight 17 = .ok (.iinc 2 1, 3) := by decide +kernel
theorem dX12_goNight_20 : decode cX12_goNight 20 = .ok (.goto (-18), 3) := by decide +kernel
theorem dX12_goNight_23 : decode cX12_goNight 23 = .ok (.iconst 0, 1) := by decide +kernel
theorem dX12_goNight_24 : decode cX12_goNight 24 = .ok (.istore_n 2, 1) := by decide +kernel
theorem dX12_goNight_25 : decode cX12_goNight 25 = .ok (.iload_n 2, 1) := by decide +kernel
theorem dX12_goNight_26 : decode cX12_goNight 26 = .ok (.iload_n 1, 1) := by decide +kernel
theorem dX12_goNight_27 : decode cX12_goNight 27 = .ok (.if_icmp .ge 96, 3) := by decide +kernel
theorem dX12_goNight_30 : decode cX12_goNight 30 = .ok (.iload_n 2, 1) := by decide +kernel
theorem dX12_goNight_31 : decode cX12_goNight 31 = .ok (.aload_n 0, 1) := by decide +kernel
theorem dX12_goNight_32 : decode cX12_goNight 32 = .ok (.invokevirtual 78, 3) := by decide +kernel
theorem dX12_goNight_35 : decode cX12_goNight 35 = .ok (.if_icmp .ge 88, 3) := by decide +kernel
theorem dX12_goNight_38 : decode cX12_goNight 38 = .ok (.bipush (-9), 2) := by decide +kernel
theorem dX12_goNight_40 : decode cX12_goNight 40 = .ok (.istore_n 3, 1) := by decide +kernel
theorem dX12_goNight_41 : decode cX12_goNight 41 = .ok (.iconst 0, 1) := by decide +kernel
theorem dX12_goNight_42 : decode cX12_goNight 42 = .ok (.istore 4, 2) := by decide +kernel
theorem dX12_goNight_44 : decode cX12_goNight 44 = .ok (.iload 4, 2) := by decide +kernel
theorem dX12_goNight_46 : decode cX12_goNight 46 = .ok (.aload_n 0, 1) := by decide +kernel
theorem dX12_goNight_47 : decode cX12_goNight 47 = .ok (.invokevirtual 78, 3) := by decide +kernel
theorem dX12_goNight_50 : decode cX12_goNight 50 = .ok (.if_icmp .ge 60, 3) := by decide +kernel
theorem dX12_goNight_53 : decode cX12_goNight 53 = .ok (.aload_n 0, 1) := by decide +kernel
theorem dX12_goNight_54 : decode cX12_goNight 54 = .ok (.getfield 49, 3) := by decide +kernel
theorem dX12_goNight_57 : decode cX12_goNight 57 = .ok (.iload 4, 2) := by decide +kernel
theorem dX12_goNight_59 : decode cX12_goNight 59 = .ok (.baload, 1) := by decide +kernel
theorem dX12_goNight_60 : decode cX12_goNight 60 = .ok (.ifCond .ne 29, 3) := by decide +kernel
theorem dX12_goNight_63 : decode cX12_goNight 63 = .ok (.iload_n 3, 1) := by decide +kernel
theorem dX12_goNight_64 : decode cX12_goNight 64 = .ok (.bipush (-9), 2) := by decide +kernel
theorem dX12_goNight_66 : decode cX12_goNight 66 = .ok (.if_icmp .eq 19, 3) := by decide +kernel
theorem dX12_goNight_69 : decode cX12_goNight 69 = .ok (.aload_n 0, 1) := by decide +kernel
theorem dX12_goNight_70 : decode cX12_goNight 70 = .ok (.getfield 46, 3) := by decide +kernel
theorem dX12_goNight_73 : decode cX12_goNight 73 = .ok (.iload 4, 2) := by decide +kernel
theorem dX12_goNight_75 : decode cX12_goNight 75 = .ok (.iaload, 1) := by decide +kernel
theorem dX12_goNight_76 : decode cX12_goNight 76 = .ok (.aload_n 0, 1) := by decide +kernel
theorem dX12_goNight_77 : decode cX12_goNight 77 = .ok (.getfield 46, 3) := by decide +kernel
theorem dX12_goNight_80 : decode cX12_goNight 80 = .ok (.iload_n 3, 1) := by decide +kernel
theorem dX12_goNight_81 : decode cX12_goNight 81 = .ok (.iaload, 1) := by decide +kernel
theorem dX12_goNight_82 : decode cX12_goNight 82 = .ok (.if_icmp .ge 7, 3) := by decide +kernel
theorem dX12_goNight_85 : decode cX12_goNight 85 = .ok (.iconst 1, 1) := by decide +kernel
theorem dX12_goNight_86 : decode cX12_goNight 86 = .ok (.goto 4, 3) := by decide +kernel
theorem dX12_goNight_89 : decode cX12_goNight 89 = .ok (.iconst 0, 1) := by decide +kernel
theorem dX12_goNight_90 : decode cX12_goNight 90 = .ok (.istore 5, 2) := by decide +kernel
theorem dX12_goNight_92 : decode cX12_goNight 92 = .ok (.iload 5, 2) := by decide +kernel
theorem dX12_goNight_94 : decode cX12_goNight 94 = .ok (.ifCond .eq 8, 3) := by decide +kernel
theorem dX12_goNight_97 : decode cX12_goNight 97 = .ok (.iload 4, 2) := by decide +kernel
theorem dX12_goNight_99 : decode cX12_goNight 99 = .ok (.goto 4, 3) := by decide +kernel
theorem dX12_goNight_102 : decode cX12_goNight 102 = .ok (.iload_n 3, 1) := by decide +kernel
theorem dX12_goNight_103 : decode cX12_goNight 103 = .ok (.istore_n 3, 1) := by decide +kernel
theorem dX12_goNight_104 : decode cX12_goNight 104 = .ok (.iinc 4 1, 3) := by decide +kernel
theorem dX12_goNight_107 : decode cX12_goNight 107 = .ok (.goto (-63), 3) := by decide +kernel
theorem dX12_goNight_110 : decode cX12_goNight 110 = .ok (.aload_n 0, 1) := by decide +kernel
theorem dX12_goNight_111 : decode cX12_goNight 111 = .ok (.getfield 49, 3) := by decide +kernel
theorem dX12_goNight_114 : decode cX12_goNight 114 = .ok (.iload_n 3, 1) := by decide +kernel
theorem dX12_goNight_115 : decode cX12_goNight 115 = .ok (.iconst 1, 1) := by decide +kernel
theorem dX12_goNight_116 : decode cX12_goNight 116 = .ok (.bastore, 1) := by decide +kernel
theorem dX12_goNight_117 : decode cX12_goNight 117 = .ok (.iinc 2 1, 3) := by decide +kernel
theorem dX12_goNight_120 : decode cX12_goNight 120 = .ok (.goto (-95), 3) := by decide +kernel
theorem dX12_goNight_123 : decode cX12_goNight 123 = .ok (.iconst 0, 1) := by decide +kernel
theorem dX12_goNight_124 : decode cX12_goNight 124 = .ok (.istore_n 2, 1) := by decide +kernel
theorem dX12_goNight_125 : decode cX12_goNight 125 = .ok (.iload_n 2, 1) := by decide +kernel
theorem dX12_goNight_126 : decode cX12_goNight 126 = .ok (.aload_n 0, 1) := by decide +kernel
theorem dX12_goNight_127 : decode cX12_goNight 127 = .ok (.invokevirtual 78, 3) := by decide +kernel
theorem dX12_goNight_130 : decode cX12_goNight 130 = .ok (.if_icmp .ge 32, 3) := by decide +kernel
theorem dX12_goNight_133 : decode cX12_goNight 133 = .ok (.aload_n 0, 1) := by decide +kernel
theorem dX12_goNight_134 : decode cX12_goNight 134 = .ok (.getfield 46, 3) := by decide +kernel
theorem dX12_goNight_137 : decode cX12_goNight 137 = .ok (.iload_n 2, 1) := by decide +kernel
theorem dX12_goNight_138 : decode cX12_goNight 138 = .ok (.dup2, 1) := by decide +kernel
theorem dX12_goNight_139 : decode cX12_goNight 139 = .ok (.iaload, 1) := by decide +kernel
theorem dX12_goNight_140 : decode cX12_goNight 140 = .ok (.aload_n 0, 1) := by decide +kernel
theorem dX12_goNight_141 : decode cX12_goNight 141 = .ok (.getfield 49, 3) := by decide +kernel
theorem dX12_goNight_144 : decode cX12_goNight 144 = .ok (.iload_n 2, 1) := by decide +kernel
theorem dX12_goNight_145 : decode cX12_goNight 145 = .ok (.baload, 1) := by decide +kernel
theorem dX12_goNight_146 : decode cX12_goNight 146 = .ok (.ifCond .eq 7, 3) := by decide +kernel
theorem dX12_goNight_149 : decode cX12_goNight 149 = .ok (.iconst 1, 1) := by decide +kernel
theorem dX12_goNight_150 : decode cX12_goNight 150 = .ok (.goto 4, 3) := by decide +kernel
theorem dX12_goNight_153 : decode cX12_goNight 153 = .ok (.iconst 0, 1) := by decide +kernel
theorem dX12_goNight_154 : decode cX12_goNight 154 = .ok (.iadd, 1) := by decide +kernel
theorem dX12_goNight_155 : decode cX12_goNight 155 = .ok (.iastore, 1) := by decide +kernel
theorem dX12_goNight_156 : decode cX12_goNight 156 = .ok (.iinc 2 1, 3) := by decide +kernel
theorem dX12_goNight_159 : decode cX12_goNight 159 = .ok (.goto (-34), 3) := by decide +kernel
theorem dX12_goNight_162 : decode cX12_goNight 162 = .ok (.return_, 1) := by decide +kernel
theorem dX12_nights_0 : decode cX12_nights 0 = .ok (.iload_n 1, 1) := by decide +kernel
theorem dX12_nights_1 : decode cX12_nights 1 = .ok (.invokestatic 123, 3) := by decide +kernel
theorem dX12_nights_4 : decode cX12_nights 4 = .ok (.ifCond .ne 5, 3) := by decide +kernel
theorem dX12_nights_7 : decode cX12_nights 7 = .ok (.iconst (-1), 1) := by decide +kernel
theorem dX12_nights_8 : decode cX12_nights 8 = .ok (.ireturn, 1) := by decide +kernel
theorem dX12_nights_9 : decode cX12_nights 9 = .ok (.iload_n 2, 1) := by decide +kernel
theorem dX12_nights_10 : decode cX12_nights 10 = .ok (.iconst 1, 1) := by decide +kernel
theorem dX12_nights_11 : decode cX12_nights 11 = .ok (.bipush 9, 2) := by decide +kernel
theorem dX12_nights_13 : decode cX12_nights 13 = .ok (.invokestatic 68, 3) := by decide +kernel
theorem dX12_nights_16 : decode cX12_nights 16 = .ok (.ifCond .eq 14, 3) := by decide +kernel
theorem dX12_nights_19 : decode cX12_nights 19 = .ok (.iload_n 3, 1) := by decide +kernel
theorem dX12_nights_20 : decode cX12_nights 20 = .ok (.iconst 0, 1) := by decide +kernel
theorem dX12_nights_21 : decode cX12_nights 21 = .ok (.sipush 999, 3) := by decide +kernel
theorem dX12_nights_24 : decode cX12_nights 24 = .ok (.invokestatic 68, 3) := by decide +kernel
theorem dX12_nights_27 : decode cX12_nights 27 = .ok (.ifCond .ne 6, 3) := by decide +kernel
theorem dX12_nights_30 : decode cX12_nights 30 = .ok (.bipush (-2), 2) := by decide +kernel
theorem dX12_nights_32 : decode cX12_nights 32 = .ok (.ireturn, 1) := by decide +kernel
theorem dX12_nights_33 : decode cX12_nights 33 = .ok (.aload_n 0, 1) := by decide +kernel
theorem dX12_nights_34 : decode cX12_nights 34 = .ok (.invokevirtual 78, 3) := by decide +kernel
theorem dX12_nights_37 : decode cX12_nights 37 = .ok (.ifCond .ne 6, 3) := by decide +kernel
theorem dX12_nights_40 : decode cX12_nights 40 = .ok (.bipush (-3), 2) := by decide +kernel
theorem dX12_nights_42 : decode cX12_nights 42 = .ok (.ireturn, 1) := by decide +kernel
theorem dX12_nights_43 : decode cX12_nights 43 = .ok (.iconst 0, 1) := by decide +kernel
theorem dX12_nights_44 : decode cX12_nights 44 = .ok (.istore 4, 2) := by decide +kernel
theorem dX12_nights_46 : decode cX12_nights 46 = .ok (.iload 4, 2) := by decide +kernel
theorem dX12_nights_48 : decode cX12_nights 48 = .ok (.aload_n 0, 1) := by decide +kernel
theorem dX12_nights_49 : decode cX12_nights 49 = .ok (.invokevirtual 78, 3) := by decide +kernel
theorem dX12_nights_52 : decode cX12_nights 52 = .ok (.if_icmp .ge 23, 3) := by decide +kernel
theorem dX12_nights_55 : decode cX12_nights 55 = .ok (.aload_n 0, 1) := by decide +kernel
theorem dX12_nights_56 : decode cX12_nights 56 = .ok (.getfield 46, 3) := by decide +kernel
theorem dX12_nights_59 : decode cX12_nights 59 = .ok (.iload 4, 2) := by decide +kernel
theorem dX12_nights_61 : decode cX12_nights 61 = .ok (.aload_n 0, 1) := by decide +kernel
theorem dX12_nights_62 : decode cX12_nights 62 = .ok (.iload 4, 2) := by decide +kernel
theorem dX12_nights_64 : decode cX12_nights 64 = .ok (.iload_n 1, 1) := by decide +kernel
theorem dX12_nights_65 : decode cX12_nights 65 = .ok (.invokevirtual 129, 3) := by decide +kernel
theorem dX12_nights_68 : decode cX12_nights 68 = .ok (.iastore, 1) := by decide +kernel
theorem dX12_nights_69 : decode cX12_nights 69 = .ok (.iinc 4 1, 3) := by decide +kernel
theorem dX12_nights_72 : decode cX12_nights 72 = .ok (.goto (-26), 3) := by decide +kernel
theorem dX12_nights_75 : decode cX12_nights 75 = .ok (.iconst 0, 1) := by decide +kernel
theorem dX12_nights_76 : decode cX12_nights 76 = .ok (.istore 4, 2) := by decide +kernel
theorem dX12_nights_78 : decode cX12_nights 78 = .ok (.iload 4, 2) := by decide +kernel
theorem dX12_nights_80 : decode cX12_nights 80 = .ok (.sipush 500, 3) := by decide +kernel
theorem dX12_nights_83 : decode cX12_nights 83 = .ok (.if_icmp .gt 25, 3) := by decide +kernel
theorem dX12_nights_86 : decode cX12_nights 86 = .ok (.aload_n 0, 1) := by decide +kernel
theorem dX12_nights_87 : decode cX12_nights 87 = .ok (.invokevirtual 173, 3) := by decide +kernel
theorem dX12_nights_90 : decode cX12_nights 90 = .ok (.iload_n 3, 1) := by decide +kernel
theorem dX12_nights_91 : decode cX12_nights 91 = .ok (.if_icmp .gt 6, 3) := by decide +kernel
theorem dX12_nights_94 : decode cX12_nights 94 = .ok (.iload 4, 2) := by decide +kernel
theorem dX12_nights_96 : decode cX12_nights 96 = .ok (.ireturn, 1) := by decide +kernel
theorem dX12_nights_97 : decode cX12_nights 97 = .ok (.aload_n 0, 1) := by decide +kernel
theorem dX12_nights_98 : decode cX12_nights 98 = .ok (.iload_n 2, 1) := by decide +kernel
theorem dX12_nights_99 : decode cX12_nights 99 = .ok (.invokevirtual 176, 3) := by decide +kernel
theorem dX12_nights_102 : decode cX12_nights 102 = .ok (.iinc 4 1, 3) := by decide +kernel
theorem dX12_nights_105 : decode cX12_nights 105 = .ok (.goto (-27), 3) := by decide +kernel
theorem dX12_nights_108 : decode cX12_nights 108 = .ok (.bipush (-9), 2) := by decide +kernel
theorem dX12_nights_110 : decode cX12_nights 110 = .ok (.ireturn, 1) := by decide +kernel
theorem dX12_reading_0 : decode cX12_reading 0 = .ok (.aload_n 0, 1) := by decide +kernel
theorem dX12_reading_1 : decode cX12_reading 1 = .ok (.iload_n 1, 1) := by decide +kernel
theorem dX12_reading_2 : decode cX12_reading 2 = .ok (.invokevirtual 120, 3) := by decide +kernel
theorem dX12_reading_5 : decode cX12_reading 5 = .ok (.ifCond .eq 10, 3) := by decide +kernel
theorem dX12_reading_8 : decode cX12_reading 8 = .ok (.iload_n 2, 1) := by decide +kernel
theorem dX12_reading_9 : decode cX12_reading 9 = .ok (.invokestatic 123, 3) := by decide +kernel
theorem dX12_reading_12 : decode cX12_reading 12 = .ok (.ifCond .ne 5, 3) := by decide +kernel
theorem dX12_reading_15 : decode cX12_reading 15 = .ok (.iconst (-1), 1) := by decide +kernel
theorem dX12_reading_16 : decode cX12_reading 16 = .ok (.ireturn, 1) := by decide +kernel
theorem dX12_reading_17 : decode cX12_reading 17 = .ok (.iload_n 3, 1) := by decide +kernel
theorem dX12_reading_18 : decode cX12_reading 18 = .ok (.iconst 0, 1) := by decide +kernel
theorem dX12_reading_19 : decode cX12_reading 19 = .ok (.sipush 999, 3) := by decide +kernel
theorem dX12_reading_22 : decode cX12_reading 22 = .ok (.invokestatic 68, 3) := by decide +kernel
theorem dX12_reading_25 : decode cX12_reading 25 = .ok (.ifCond .ne 6, 3) := by decide +kernel
theorem dX12_reading_28 : decode cX12_reading 28 = .ok (.bipush (-2), 2) := by decide +kernel
theorem dX12_reading_30 : decode cX12_reading 30 = .ok (.ireturn, 1) := by decide +kernel
theorem dX12_reading_31 : decode cX12_reading 31 = .ok (.aload_n 0, 1) := by decide +kernel
theorem dX12_reading_32 : decode cX12_reading 32 = .ok (.getfield 109, 3) := by decide +kernel
theorem dX12_reading_35 : decode cX12_reading 35 = .ok (.bipush 10, 2) := by decide +kernel
theorem dX12_reading_37 : decode cX12_reading 37 = .ok (.if_icmp .ne 6, 3) := by decide +kernel
theorem dX12_reading_40 : decode cX12_reading 40 = .ok (.bipush (-4), 2) := by decide +kernel
theorem dX12_reading_42 : decode cX12_reading 42 = .ok (.ireturn, 1) := by decide +kernel
theorem dX12_reading_43 : decode cX12_reading 43 = .ok (.aload_n 0, 1) := by decide +kernel
theorem dX12_reading_44 : decode cX12_reading 44 = .ok (.getfield 53, 3) := by decide +kernel
theorem dX12_reading_47 : decode cX12_reading 47 = .ok (.aload_n 0, 1) := by decide +kernel
theorem dX12_reading_48 : decode cX12_reading 48 = .ok (.getfield 109, 3) := by decide +kernel
theorem dX12_reading_51 : decode cX12_reading 51 = .ok (.iload_n 1, 1) := by decide +kernel
theorem dX12_reading_52 : decode cX12_reading 52 = .ok (.iastore, 1) := by decide +kernel
theorem dX12_reading_53 : decode cX12_reading 53 = .ok (.aload_n 0, 1) := by decide +kernel
theorem dX12_reading_54 : decode cX12_reading 54 = .ok (.getfield 56, 3) := by decide +kernel
theorem dX12_reading_57 : decode cX12_reading 57 = .ok (.aload_n 0, 1) := by decide +kernel
theorem dX12_reading_58 : decode cX12_reading 58 = .ok (.getfield 109, 3) := by decide +kernel
theorem dX12_reading_61 : decode cX12_reading 61 = .ok (.iload_n 2, 1) := by decide +kernel
theorem dX12_reading_62 : decode cX12_reading 62 = .ok (.iastore, 1) := by decide +kernel
theorem dX12_reading_63 : decode cX12_reading 63 = .ok (.aload_n 0, 1) := by decide +kernel
theorem dX12_reading_64 : decode cX12_reading 64 = .ok (.getfield 59, 3) := by decide +kernel
theorem dX12_reading_67 : decode cX12_reading 67 = .ok (.aload_n 0, 1) := by decide +kernel
theorem dX12_reading_68 : decode cX12_reading 68 = .ok (.getfield 109, 3) := by decide +kernel
theorem dX12_reading_71 : decode cX12_reading 71 = .ok (.iload_n 3, 1) := by decide +kernel
theorem dX12_reading_72 : decode cX12_reading 72 = .ok (.iastore, 1) := by decide +kernel
theorem dX12_reading_73 : decode cX12_reading 73 = .ok (.aload_n 0, 1) := by decide +kernel
theorem dX12_reading_74 : decode cX12_reading 74 = .ok (.dup, 1) := by decide +kernel
theorem dX12_reading_75 : decode cX12_reading 75 = .ok (.getfield 109, 3) := by decide +kernel
theorem dX12_reading_78 : decode cX12_reading 78 = .ok (.iconst 1, 1) := by decide +kernel
theorem dX12_reading_79 : decode cX12_reading 79 = .ok (.iadd, 1) := by decide +kernel
theorem dX12_reading_80 : decode cX12_reading 80 = .ok (.putfield 109, 3) := by decide +kernel
theorem dX12_reading_83 : decode cX12_reading 83 = .ok (.aload_n 0, 1) := by decide +kernel
theorem dX12_reading_84 : decode cX12_reading 84 = .ok (.getfield 109, 3) := by decide +kernel
theorem dX12_reading_87 : decode cX12_reading 87 = .ok (.iconst 1, 1) := by decide +kernel
theorem dX12_reading_88 : decode cX12_reading 88 = .ok (.isub, 1) := by decide +kernel
theorem dX12_reading_89 : decode cX12_reading 89 = .ok (.ireturn, 1) := by decide +kernel
theorem dX12_back_0 : decode cX12_back 0 = .ok (.iload_n 1, 1) := by decide +kernel
theorem dX12_back_1 : decode cX12_back 1 = .ok (.iconst 0, 1) := by decide +kernel
theorem dX12_back_2 : decode cX12_back 2 = .ok (.aload_n 0, 1) := by decide +kernel
theorem dX12_back_3 : decode cX12_back 3 = .ok (.getfield 109, 3) := by decide +kernel
theorem dX12_back_6 : decode cX12_back 6 = .ok (.invokestatic 68, 3) := by decide +kernel
theorem dX12_back_9 : decode cX12_back 9 = .ok (.ifCond .ne 6, 3) := by decide +kernel
theorem dX12_back_12 : decode cX12_back 12 = .ok (.bipush (-2), 2) := by decide +kernel
theorem dX12_back_14 : decode cX12_back 14 = .ok (.ireturn, 1) := by decide +kernel
theorem dX12_back_15 : decode cX12_back 15 = .ok (.aload_n 0, 1) := by decide +kernel
theorem dX12_back_16 : decode cX12_back 16 = .ok (.dup, 1) := by decide +kernel
theorem dX12_back_17 : decode cX12_back 17 = .ok (.getfield 109, 3) := by decide +kernel
theorem dX12_back_20 : decode cX12_back 20 = .ok (.iload_n 1, 1) := by decide +kernel
theorem dX12_back_21 : decode cX12_back 21 = .ok (.isub, 1) := by decide +kernel
theorem dX12_back_22 : decode cX12_back 22 = .ok (.putfield 109, 3) := by decide +kernel
theorem dX12_back_25 : decode cX12_back 25 = .ok (.aload_n 0, 1) := by decide +kernel
theorem dX12_back_26 : decode cX12_back 26 = .ok (.getfield 109, 3) := by decide +kernel
theorem dX12_back_29 : decode cX12_back 29 = .ok (.ireturn, 1) := by decide +kernel
theorem dX12_isKind_0 : decode cX12_isKind 0 = .ok (.iconst 0, 1) := by decide +kernel
theorem dX12_isKind_1 : decode cX12_isKind 1 = .ok (.istore_n 3, 1) := by decide +kernel
theorem dX12_isKind_2 : decode cX12_isKind 2 = .ok (.iload_n 3, 1) := by decide +kernel
theorem dX12_isKind_3 : decode cX12_isKind 3 = .ok (.aload_n 0, 1) := by decide +kernel
theorem dX12_isKind_4 : decode cX12_isKind 4 = .ok (.getfield 109, 3) := by decide +kernel
theorem dX12_isKind_7 : decode cX12_isKind 7 = .ok (.if_icmp .ge 42, 3) := by decide +kernel
theorem dX12_isKind_10 : decode cX12_isKind 10 = .ok (.aload_n 0, 1) := by decide +kernel
theorem dX12_isKind_11 : decode cX12_isKind 11 = .ok (.getfield 53, 3) := by decide +kernel
theorem dX12_isKind_14 : decode cX12_isKind 14 = .ok (.iload_n 3, 1) := by decide +kernel
theorem dX12_isKind_15 : decode cX12_isKind 15 = .ok (.iaload, 1) := by decide +kernel
theorem dX12_isKind_16 : decode cX12_isKind 16 = .ok (.iload_n 1, 1) := by decide +kernel
theorem dX12_isKind_17 : decode cX12_isKind 17 = .ok (.if_icmp .ne 26, 3) := by decide +kernel
theorem dX12_isKind_20 : decode cX12_isKind 20 = .ok (.aload_n 0, 1) := by decide +kernel
theorem dX12_isKind_21 : decode cX12_isKind 21 = .ok (.iload_n 1, 1) := by decide +kernel
theorem dX12_isKind_22 : decode cX12_isKind 22 = .ok (.iload_n 2, 1) := by decide +kernel
theorem dX12_isKind_23 : decode cX12_isKind 23 = .ok (.aload_n 0, 1) := by decide +kernel
theorem dX12_isKind_24 : decode cX12_isKind 24 = .ok (.getfield 56, 3) := by decide +kernel
theorem dX12_isKind_27 : decode cX12_isKind 27 = .ok (.iload_n 3, 1) := by decide +kernel
theorem dX12_isKind_28 : decode cX12_isKind 28 = .ok (.iaload, 1) := by decide +kernel
theorem dX12_isKind_29 : decode cX12_isKind 29 = .ok (.invokevirtual 126, 3) := by decide +kernel
theorem dX12_isKind_32 : decode cX12_isKind 32 = .ok (.aload_n 0, 1) := by decide +kernel
theorem dX12_isKind_33 : decode cX12_isKind 33 = .ok (.getfield 59, 3) := by decide +kernel
theorem dX12_isKind_36 : decode cX12_isKind 36 = .ok (.iload_n 3, 1) := by decide +kernel
theorem dX12_isKind_37 : decode cX12_isKind 37 = .ok (.iaload, 1) := by decide +kernel
theorem dX12_isKind_38 : decode cX12_isKind 38 = .ok (.if_icmp .eq 5, 3) := by decide +kernel
theorem dX12_isKind_41 : decode cX12_isKind 41 = .ok (.iconst 0, 1) := by decide +kernel
theorem dX12_isKind_42 : decode cX12_isKind 42 = .ok (.ireturn, 1) := by decide +kernel
theorem dX12_isKind_43 : decode cX12_isKind 43 = .ok (.iinc 3 1, 3) := by decide +kernel
theorem dX12_isKind_46 : decode cX12_isKind 46 = .ok (.goto (-44), 3) := by decide +kernel
theorem dX12_isKind_49 : decode cX12_isKind 49 = .ok (.iconst 1, 1) := by decide +kernel
theorem dX12_isKind_50 : decode cX12_isKind 50 = .ok (.ireturn, 1) := by decide +kernel
theorem dX12_kinds_0 : decode cX12_kinds 0 = .ok (.aload_n 0, 1) := by decide +kernel
theorem dX12_kinds_1 : decode cX12_kinds 1 = .ok (.iload_n 1, 1) := by decide +kernel
theorem dX12_kinds_2 : decode cX12_kinds 2 = .ok (.invokevirtual 120, 3) := by decide +kernel
theorem dX12_kinds_5 : decode cX12_kinds 5 = .ok (.ifCond .ne 5, 3) := by decide +kernel
theorem dX12_kinds_8 : decode cX12_kinds 8 = .ok (.iconst (-1), 1) := by decide +kernel
theorem dX12_kinds_9 : decode cX12_kinds 9 = .ok (.ireturn, 1) := by decide +kernel
theorem dX12_kinds_10 : decode cX12_kinds 10 = .ok (.iconst 0, 1) := by decide +kernel
theorem dX12_kinds_11 : decode cX12_kinds 11 = .ok (.istore_n 2, 1) := by decide +kernel
theorem dX12_kinds_12 : decode cX12_kinds 12 = .ok (.iconst 0, 1) := by decide +kernel
theorem dX12_kinds_13 : decode cX12_kinds 13 = .ok (.istore_n 3, 1) := by decide +kernel
theorem dX12_kinds_14 : decode cX12_kinds 14 = .ok (.iload_n 3, 1) := by decide +kernel
theorem dX12_kinds_15 : decode cX12_kinds 15 = .ok (.iconst 3, 1) := by decide +kernel
theorem dX12_kinds_16 : decode cX12_kinds 16 = .ok (.if_icmp .ge 28, 3) := by decide +kernel
theorem dX12_kinds_19 : decode cX12_kinds 19 = .ok (.iload_n 2, 1) := by decide +kernel
theorem dX12_kinds_20 : decode cX12_kinds 20 = .ok (.aload_n 0, 1) := by decide +kernel
theorem dX12_kinds_21 : decode cX12_kinds 21 = .ok (.iload_n 1, 1) := by decide +kernel
theorem dX12_kinds_22 : decode cX12_kinds 22 = .ok (.iload_n 3, 1) := by decide +kernel
theorem dX12_kinds_23 : decode cX12_kinds 23 = .ok (.invokevirtual 179, 3) := by decide +kernel
theorem dX12_kinds_26 : decode cX12_kinds 26 = .ok (.ifCond .eq 9, 3) := by decide +kernel
theorem dX12_kinds_29 : decode cX12_kinds 29 = .ok (.iconst 1, 1) := by decide +kernel
theorem dX12_kinds_30 : decode cX12_kinds 30 = .ok (.iload_n 3, 1) := by decide +kernel
theorem dX12_kinds_31 : decode cX12_kinds 31 = .ok (.ishl, 1) := by decide +kernel
theorem dX12_kinds_32 : decode cX12_kinds 32 = .ok (.goto 4, 3) := by decide +kernel
theorem dX12_kinds_35 : decode cX12_kinds 35 = .ok (.iconst 0, 1) := by decide +kernel
theorem dX12_kinds_36 : decode cX12_kinds 36 = .ok (.ior, 1) := by decide +kernel
theorem dX12_kinds_37 : decode cX12_kinds 37 = .ok (.istore_n 2, 1) := by decide +kernel
theorem dX12_kinds_38 : decode cX12_kinds 38 = .ok (.iinc 3 1, 3) := by decide +kernel
theorem dX12_kinds_41 : decode cX12_kinds 41 = .ok (.goto (-27), 3) := by decide +kernel
theorem dX12_kinds_44 : decode cX12_kinds 44 = .ok (.iload_n 2, 1) := by decide +kernel
theorem dX12_kinds_45 : decode cX12_kinds 45 = .ok (.ireturn, 1) := by decide +kernel
theorem dX12_sheet_0 : decode cX12_sheet 0 = .ok (.aload_n 0, 1) := by decide +kernel
theorem dX12_sheet_1 : decode cX12_sheet 1 = .ok (.iconst 0, 1) := by decide +kernel
theorem dX12_sheet_2 : decode cX12_sheet 2 = .ok (.putfield 62, 3) := by decide +kernel
theorem dX12_sheet_5 : decode cX12_sheet 5 = .ok (.iload_n 1, 1) := by decide +kernel
theorem dX12_sheet_6 : decode cX12_sheet 6 = .ok (.invokestatic 85, 3) := by decide +kernel
theorem dX12_sheet_9 : decode cX12_sheet 9 = .ok (.ifCond .ne 5, 3) := by decide +kernel
theorem dX12_sheet_12 : decode cX12_sheet 12 = .ok (.iconst (-1), 1) := by decide +kernel
theorem dX12_sheet_13 : decode cX12_sheet 13 = .ok (.ireturn, 1) := by decide +kernel
theorem dX12_sheet_14 : decode cX12_sheet 14 = .ok (.iload_n 2, 1) := by decide +kernel
theorem dX12_sheet_15 : decode cX12_sheet 15 = .ok (.invokestatic 89, 3) := by decide +kernel
theorem dX12_sheet_18 : decode cX12_sheet 18 = .ok (.ifCond .eq 9, 3) := by decide +kernel
theorem dX12_sheet_21 : decode cX12_sheet 21 = .ok (.iload_n 3, 1) := by decide +kernel
theorem dX12_sheet_22 : decode cX12_sheet 22 = .ok (.bipush 80, 2) := by decide +kernel
theorem dX12_sheet_24 : decode cX12_sheet 24 = .ok (.if_icmp .le 6, 3) := by decide +kernel
theorem dX12_sheet_27 : decode cX12_sheet 27 = .ok (.bipush (-2), 2) := by decide +kernel
theorem dX12_sheet_29 : decode cX12_sheet 29 = .ok (.ireturn, 1) := by decide +kernel
theorem dX12_sheet_30 : decode cX12_sheet 30 = .ok (.iload_n 3, 1) := by decide +kernel
theorem dX12_sheet_31 : decode cX12_sheet 31 = .ok (.ifCond .ge 9, 3) := by decide +kernel
theorem dX12_sheet_34 : decode cX12_sheet 34 = .ok (.aload_n 0, 1) := by decide +kernel
theorem dX12_sheet_35 : decode cX12_sheet 35 = .ok (.iconst 4, 1) := by decide +kernel
theorem dX12_sheet_36 : decode cX12_sheet 36 = .ok (.invokevirtual 96, 3) := by decide +kernel
theorem dX12_sheet_39 : decode cX12_sheet 39 = .ok (.ireturn, 1) := by decide +kernel
theorem dX12_sheet_40 : decode cX12_sheet 40 = .ok (.aload_n 0, 1) := by decide +kernel
theorem dX12_sheet_41 : decode cX12_sheet 41 = .ok (.getfield 9, 3) := by decide +kernel
theorem dX12_sheet_44 : decode cX12_sheet 44 = .ok (.iload_n 1, 1) := by decide +kernel
theorem dX12_sheet_45 : decode cX12_sheet 45 = .ok (.iload_n 2, 1) := by decide +kernel
theorem dX12_sheet_46 : decode cX12_sheet 46 = .ok (.iastore, 1) := by decide +kernel
theorem dX12_sheet_47 : decode cX12_sheet 47 = .ok (.aload_n 0, 1) := by decide +kernel
theorem dX12_sheet_48 : decode cX12_sheet 48 = .ok (.getfield 13, 3) := by decide +kernel
theorem dX12_sheet_51 : decode cX12_sheet 51 = .ok (.iload_n 1, 1) := by decide +kernel
theorem dX12_sheet_52 : decode cX12_sheet 52 = .ok (.iload_n 3, 1) := by decide +kernel
theorem dX12_sheet_53 : decode cX12_sheet 53 = .ok (.iastore, 1) := by decide +kernel
theorem dX12_sheet_54 : decode cX12_sheet 54 = .ok (.iconst 0, 1) := by decide +kernel
theorem dX12_sheet_55 : decode cX12_sheet 55 = .ok (.istore 4, 2) := by decide +kernel
theorem dX12_sheet_57 : decode cX12_sheet 57 = .ok (.iload 4, 2) := by decide +kernel
theorem dX12_sheet_59 : decode cX12_sheet 59 = .ok (.bipush 80, 2) := by decide +kernel
theorem dX12_sheet_61 : decode cX12_sheet 61 = .ok (.if_icmp .ge 22, 3) := by decide +kernel
theorem dX12_sheet_64 : decode cX12_sheet 64 = .ok (.aload_n 0, 1) := by decide +kernel
theorem dX12_sheet_65 : decode cX12_sheet 65 = .ok (.getfield 16, 3) := by decide +kernel
theorem dX12_sheet_68 : decode cX12_sheet 68 = .ok (.bipush 80, 2) := by decide +kernel
theorem dX12_sheet_70 : decode cX12_sheet 70 = .ok (.iload_n 1, 1) := by decide +kernel
theorem dX12_sheet_71 : decode cX12_sheet 71 = .ok (.imul, 1) := by decide +kernel
theorem dX12_sheet_72 : decode cX12_sheet 72 = .ok (.iload 4, 2) := by decide +kernel
theorem dX12_sheet_74 : decode cX12_sheet 74 = .ok (.iadd, 1) := by decide +kernel
theorem dX12_sheet_75 : decode cX12_sheet 75 = .ok (.iconst 0, 1) := by decide +kernel
theorem dX12_sheet_76 : decode cX12_sheet 76 = .ok (.iastore, 1) := by decide +kernel
theorem dX12_sheet_77 : decode cX12_sheet 77 = .ok (.iinc 4 1, 3) := by decide +kernel
theorem dX12_sheet_80 : decode cX12_sheet 80 = .ok (.goto (-23), 3) := by decide +kernel
theorem dX12_sheet_83 : decode cX12_sheet 83 = .ok (.iconst 1, 1) := by decide +kernel
theorem dX12_sheet_84 : decode cX12_sheet 84 = .ok (.ireturn, 1) := by decide +kernel
theorem dX12_lose_0 : decode cX12_lose 0 = .ok (.iload_n 1, 1) := by decide +kernel
theorem dX12_lose_1 : decode cX12_lose 1 = .ok (.invokestatic 85, 3) := by decide +kernel
theorem dX12_lose_4 : decode cX12_lose 4 = .ok (.ifCond .ne 5, 3) := by decide +kernel
theorem dX12_lose_7 : decode cX12_lose 7 = .ok (.iconst (-1), 1) := by decide +kernel
theorem dX12_lose_8 : decode cX12_lose 8 = .ok (.ireturn, 1) := by decide +kernel
theorem dX12_lose_9 : decode cX12_lose 9 = .ok (.aload_n 0, 1) := by decide +kernel
theorem dX12_lose_10 : decode cX12_lose 10 = .ok (.getfield 9, 3) := by decide +kernel
theorem dX12_lose_13 : decode cX12_lose 13 = .ok (.iload_n 1, 1) := by decide +kernel
theorem dX12_lose_14 : decode cX12_lose 14 = .ok (.iaload, 1) := by decide +kernel
theorem dX12_lose_15 : decode cX12_lose 15 = .ok (.bipush (-9), 2) := by decide +kernel
theorem dX12_lose_17 : decode cX12_lose 17 = .ok (.if_icmp .ne 7, 3) := by decide +kernel
theorem dX12_lose_20 : decode cX12_lose 20 = .ok (.iconst 0, 1) := by decide +kernel
theorem dX12_lose_21 : decode cX12_lose 21 = .ok (.goto 4, 3) := by decide +kernel
theorem dX12_lose_24 : decode cX12_lose 24 = .ok (.iconst 1, 1) := by decide +kernel
theorem dX12_lose_25 : decode cX12_lose 25 = .ok (.istore_n 2, 1) := by decide +kernel
theorem dX12_lose_26 : decode cX12_lose 26 = .ok (.aload_n 0, 1) := by decide +kernel
theorem dX12_lose_27 : decode cX12_lose 27 = .ok (.getfield 9, 3) := by decide +kernel
theorem dX12_lose_30 : decode cX12_lose 30 = .ok (.iload_n 1, 1) := by decide +kernel
theorem dX12_lose_31 : decode cX12_lose 31 = .ok (.bipush (-9), 2) := by decide +kernel
theorem dX12_lose_33 : decode cX12_lose 33 = .ok (.iastore, 1) := by decide +kernel
theorem dX12_lose_34 : decode cX12_lose 34 = .ok (.iload_n 2, 1) := by decide +kernel
theorem dX12_lose_35 : decode cX12_lose 35 = .ok (.ireturn, 1) := by decide +kernel
theorem dX12_put_0 : decode cX12_put 0 = .ok (.aload_n 0, 1) := by decide +kernel
theorem dX12_put_1 : decode cX12_put 1 = .ok (.iconst 0, 1) := by decide +kernel
theorem dX12_put_2 : decode cX12_put 2 = .ok (.putfield 62, 3) := by decide +kernel
theorem dX12_put_5 : decode cX12_put 5 = .ok (.iload_n 1, 1) := by decide +kernel
theorem dX12_put_6 : decode cX12_put 6 = .ok (.invokestatic 85, 3) := by decide +kernel
theorem dX12_put_9 : decode cX12_put 9 = .ok (.ifCond .ne 5, 3) := by decide +kernel
theorem dX12_put_12 : decode cX12_put 12 = .ok (.iconst (-1), 1) := by decide +kernel
theorem dX12_put_13 : decode cX12_put 13 = .ok (.ireturn, 1) := by decide +kernel
theorem dX12_put_14 : decode cX12_put 14 = .ok (.aload_n 0, 1) := by decide +kernel
theorem dX12_put_15 : decode cX12_put 15 = .ok (.getfield 9, 3) := by decide +kernel
theorem dX12_put_18 : decode cX12_put 18 = .ok (.iload_n 1, 1) := by decide +kernel
theorem dX12_put_19 : decode cX12_put 19 = .ok (.iaload, 1) := by decide +kernel
theorem dX12_put_20 : decode cX12_put 20 = .ok (.bipush (-9), 2) := by decide +kernel
theorem dX12_put_22 : decode cX12_put 22 = .ok (.if_icmp .ne 9, 3) := by decide +kernel
theorem dX12_put_25 : decode cX12_put 25 = .ok (.aload_n 0, 1) := by decide +kernel
theorem dX12_put_26 : decode cX12_put 26 = .ok (.iconst 1, 1) := by decide +kernel
theorem dX12_put_27 : decode cX12_put 27 = .ok (.invokevirtual 96, 3) := by decide +kernel
theorem dX12_put_30 : decode cX12_put 30 = .ok (.ireturn, 1) := by decide +kernel
theorem dX12_put_31 : decode cX12_put 31 = .ok (.iload_n 2, 1) := by decide +kernel
theorem dX12_put_32 : decode cX12_put 32 = .ok (.iconst 0, 1) := by decide +kernel
theorem dX12_put_33 : decode cX12_put 33 = .ok (.aload_n 0, 1) := by decide +kernel
theorem dX12_put_34 : decode cX12_put 34 = .ok (.getfield 13, 3) := by decide +kernel
theorem dX12_put_37 : decode cX12_put 37 = .ok (.iload_n 1, 1) := by decide +kernel
theorem dX12_put_38 : decode cX12_put 38 = .ok (.iaload, 1) := by decide +kernel
theorem dX12_put_39 : decode cX12_put 39 = .ok (.iconst 1, 1) := by decide +kernel
theorem dX12_put_40 : decode cX12_put 40 = .ok (.isub, 1) := by decide +kernel
theorem dX12_put_41 : decode cX12_put 41 = .ok (.invokestatic 68, 3) := by decide +kernel
theorem dX12_put_44 : decode cX12_put 44 = .ok (.ifCond .ne 9, 3) := by decide +kernel
theorem dX12_put_47 : decode cX12_put 47 = .ok (.aload_n 0, 1) := by decide +kernel
theorem dX12_put_48 : decode cX12_put 48 = .ok (.iconst 3, 1) := by decide +kernel
theorem dX12_put_49 : decode cX12_put 49 = .ok (.invokevirtual 96, 3) := by decide +kernel
theorem dX12_put_52 : decode cX12_put 52 = .ok (.ireturn, 1) := by decide +kernel
theorem dX12_put_53 : decode cX12_put 53 = .ok (.aload_n 0, 1) := by decide +kernel
theorem dX12_put_54 : decode cX12_put 54 = .ok (.getfield 16, 3) := by decide +kernel
theorem dX12_put_57 : decode cX12_put 57 = .ok (.bipush 80, 2) := by decide +kernel
theorem dX12_put_59 : decode cX12_put 59 = .ok (.iload_n 1, 1) := by decide +kernel
theorem dX12_put_60 : decode cX12_put 60 = .ok (.imul, 1) := by decide +kernel
theorem dX12_put_61 : decode cX12_put 61 = .ok (.iload_n 2, 1) := by decide +kernel
theorem dX12_put_62 : decode cX12_put 62 = .ok (.iadd, 1) := by decide +kernel
theorem dX12_put_63 : decode cX12_put 63 = .ok (.aload_n 0, 1) := by decide +kernel
theorem dX12_put_64 : decode cX12_put 64 = .ok (.getfield 9, 3) := by decide +kernel
theorem dX12_put_67 : decode cX12_put 67 = .ok (.iload_n 1, 1) := by decide +kernel
theorem dX12_put_68 : decode cX12_put 68 = .ok (.iaload, 1) := by decide +kernel
theorem dX12_put_69 : decode cX12_put 69 = .ok (.ifCond .ne 8, 3) := by decide +kernel
theorem dX12_put_72 : decode cX12_put 72 = .ok (.iload_n 3, 1) := by decide +kernel
theorem dX12_put_73 : decode cX12_put 73 = .ok (.i2b, 1) := by decide +kernel
theorem dX12_put_74 : decode cX12_put 74 = .ok (.goto 19, 3) := by decide +kernel
theorem dX12_put_77 : decode cX12_put 77 = .ok (.aload_n 0, 1) := by decide +kernel
theorem dX12_put_78 : decode cX12_put 78 = .ok (.getfield 9, 3) := by decide +kernel
theorem dX12_put_81 : decode cX12_put 81 = .ok (.iload_n 1, 1) := by decide +kernel
theorem dX12_put_82 : decode cX12_put 82 = .ok (.iaload, 1) := by decide +kernel
theorem dX12_put_83 : decode cX12_put 83 = .ok (.iconst 1, 1) := by decide +kernel
theorem dX12_put_84 : decode cX12_put 84 = .ok (.if_icmp .ne 8, 3) := by decide +kernel
theorem dX12_put_87 : decode cX12_put 87 = .ok (.iload_n 3, 1) := by decide +kernel
theorem dX12_put_88 : decode cX12_put 88 = .ok (.i2s, 1) := by decide +kernel
theorem dX12_put_89 : decode cX12_put 89 = .ok (.goto 4, 3) := by decide +kernel
theorem dX12_put_92 : decode cX12_put 92 = .ok (.iload_n 3, 1) := by decide +kernel
theorem dX12_put_93 : decode cX12_put 93 = .ok (.iastore, 1) := by decide +kernel
theorem dX12_put_94 : decode cX12_put 94 = .ok (.iconst 1, 1) := by decide +kernel
theorem dX12_put_95 : decode cX12_put 95 = .ok (.ireturn, 1) := by decide +kernel
theorem dX12_cell_0 : decode cX12_cell 0 = .ok (.aload_n 0, 1) := by decide +kernel
theorem dX12_cell_1 : decode cX12_cell 1 = .ok (.iconst 0, 1) := by decide +kernel
theorem dX12_cell_2 : decode cX12_cell 2 = .ok (.putfield 62, 3) := by decide +kernel
theorem dX12_cell_5 : decode cX12_cell 5 = .ok (.iload_n 1, 1) := by decide +kernel
theorem dX12_cell_6 : decode cX12_cell 6 = .ok (.invokestatic 85, 3) := by decide +kernel
theorem dX12_cell_9 : decode cX12_cell 9 = .ok (.ifCond .eq 10, 3) := by decide +kernel
theorem dX12_cell_12 : decode cX12_cell 12 = .ok (.iload_n 3, 1) := by decide +kernel
theorem dX12_cell_13 : decode cX12_cell 13 = .ok (.invokestatic 89, 3) := by decide +kernel
theorem dX12_cell_16 : decode cX12_cell 16 = .ok (.ifCond .ne 7, 3) := by decide +kernel
theorem dX12_cell_19 : decode cX12_cell 19 = .ok (.ldc2_w 66, 3) := by decide +kernel
theorem dX12_cell_22 : decode cX12_cell 22 = .ok (.lreturn, 1) := by decide +kernel
theorem dX12_cell_23 : decode cX12_cell 23 = .ok (.aload_n 0, 1) := by decide +kernel
theorem dX12_cell_24 : decode cX12_cell 24 = .ok (.getfield 9, 3) := by decide +kernel
theorem dX12_cell_27 : decode cX12_cell 27 = .ok (.iload_n 1, 1) := by decide +kernel
theorem dX12_cell_28 : decode cX12_cell 28 = .ok (.iaload, 1) := by decide +kernel
theorem dX12_cell_29 : decode cX12_cell 29 = .ok (.bipush (-9), 2) := by decide +kernel
theorem dX12_cell_31 : decode cX12_cell 31 = .ok (.if_icmp .eq 19, 3) := by decide +kernel
theorem dX12_cell_34 : decode cX12_cell 34 = .ok (.aload_n 0, 1) := by decide +kernel
theorem dX12_cell_35 : decode cX12_cell 35 = .ok (.getfield 9, 3) := by decide +kernel
theorem dX12_cell_38 : decode cX12_cell 38 = .ok (.iload_n 1, 1) := by decide +kernel
theorem dX12_cell_39 : decode cX12_cell 39 = .ok (.iaload, 1) := by decide +kernel
theorem dX12_cell_40 : decode cX12_cell 40 = .ok (.iload_n 3, 1) := by decide +kernel
theorem dX12_cell_41 : decode cX12_cell 41 = .ok (.if_icmp .eq 9, 3) := by decide +kernel
theorem dX12_cell_44 : decode cX12_cell 44 = .ok (.aload_n 0, 1) := by decide +kernel
theorem dX12_cell_45 : decode cX12_cell 45 = .ok (.iconst 2, 1) := by decide +kernel
theorem dX12_cell_46 : decode cX12_cell 46 = .ok (.invokevirtual 182, 3) := by decide +kernel
theorem dX12_cell_49 : decode cX12_cell 49 = .ok (.lreturn, 1) := by decide +kernel
theorem dX12_cell_50 : decode cX12_cell 50 = .ok (.aload_n 0, 1) := by decide +kernel
theorem dX12_cell_51 : decode cX12_cell 51 = .ok (.getfield 9, 3) := by decide +kernel
theorem dX12_cell_54 : decode cX12_cell 54 = .ok (.iload_n 1, 1) := by decide +kernel
theorem dX12_cell_55 : decode cX12_cell 55 = .ok (.iaload, 1) := by decide +kernel
theorem dX12_cell_56 : decode cX12_cell 56 = .ok (.bipush (-9), 2) := by decide +kernel
theorem dX12_cell_58 : decode cX12_cell 58 = .ok (.if_icmp .ne 9, 3) := by decide +kernel
theorem dX12_cell_61 : decode cX12_cell 61 = .ok (.aload_n 0, 1) := by decide +kernel
theorem dX12_cell_62 : decode cX12_cell 62 = .ok (.iconst 1, 1) := by decide +kernel
theorem dX12_cell_63 : decode cX12_cell 63 = .ok (.invokevirtual 182, 3) := by decide +kernel
theorem dX12_cell_66 : decode cX12_cell 66 = .ok (.lreturn, 1) := by decide +kernel
theorem dX12_cell_67 : decode cX12_cell 67 = .ok (.iload_n 2, 1) := by decide +kernel
theorem dX12_cell_68 : decode cX12_cell 68 = .ok (.iconst 0, 1) := by decide +kernel
theorem dX12_cell_69 : decode cX12_cell 69 = .ok (.aload_n 0, 1) := by decide +kernel
theorem dX12_cell_70 : decode cX12_cell 70 = .ok (.getfield 13, 3) := by decide +kernel
theorem dX12_cell_73 : decode cX12_cell 73 = .ok (.iload_n 1, 1) := by decide +kernel
theorem dX12_cell_74 : decode cX12_cell 74 = .ok (.iaload, 1) := by decide +kernel
theorem dX12_cell_75 : decode cX12_cell 75 = .ok (.iconst 1, 1) := by decide +kernel
theorem dX12_cell_76 : decode cX12_cell 76 = .ok (.isub, 1) := by decide +kernel
theorem dX12_cell_77 : decode cX12_cell 77 = .ok (.invokestatic 68, 3) := by decide +kernel
theorem dX12_cell_80 : decode cX12_cell 80 = .ok (.ifCond .ne 9, 3) := by decide +kernel
theorem dX12_cell_83 : decode cX12_cell 83 = .ok (.aload_n 0, 1) := by decide +kernel
theorem dX12_cell_84 : decode cX12_cell 84 = .ok (.iconst 3, 1) := by decide +kernel
theorem dX12_cell_85 : decode cX12_cell 85 = .ok (.invokevirtual 182, 3) := by decide +kernel
theorem dX12_cell_88 : decode cX12_cell 88 = .ok (.lreturn, 1) := by decide +kernel
theorem dX12_cell_89 : decode cX12_cell 89 = .ok (.aload_n 0, 1) := by decide +kernel
theorem dX12_cell_90 : decode cX12_cell 90 = .ok (.getfield 16, 3) := by decide +kernel
theorem dX12_cell_93 : decode cX12_cell 93 = .ok (.bipush 80, 2) := by decide +kernel
theorem dX12_cell_95 : decode cX12_cell 95 = .ok (.iload_n 1, 1) := by decide +kernel
theorem dX12_cell_96 : decode cX12_cell 96 = .ok (.imul, 1) := by decide +kernel
theorem dX12_cell_97 : decode cX12_cell 97 = .ok (.iload_n 2, 1) := by decide +kernel
theorem dX12_cell_98 : decode cX12_cell 98 = .ok (.iadd, 1) := by decide +kernel
theorem dX12_cell_99 : decode cX12_cell 99 = .ok (.iaload, 1) := by decide +kernel
theorem dX12_cell_100 : decode cX12_cell 100 = .ok (.i2l, 1) := by decide +kernel
theorem dX12_cell_101 : decode cX12_cell 101 = .ok (.lreturn, 1) := by decide +kernel
theorem dX12_copy_0 : decode cX12_copy 0 = .ok (.aload_n 0, 1) := by decide +kernel
theorem dX12_copy_1 : decode cX12_copy 1 = .ok (.iconst 0, 1) := by decide +kernel
theorem dX12_copy_2 : decode cX12_copy 2 = .ok (.putfield 62, 3) := by decide +kernel
theorem dX12_copy_5 : decode cX12_copy 5 = .ok (.iload_n 1, 1) := by decide +kernel
theorem dX12_copy_6 : decode cX12_copy 6 = .ok (.invokestatic 85, 3) := by decide +kernel
theorem dX12_copy_9 : decode cX12_copy 9 = .ok (.ifCond .eq 10, 3) := by decide +kernel
theorem dX12_copy_12 : decode cX12_copy 12 = .ok (.iload_n 3, 1) := by decide +kernel
theorem dX12_copy_13 : decode cX12_copy 13 = .ok (.invokestatic 85, 3) := by decide +kernel
theorem dX12_copy_16 : decode cX12_copy 16 = .ok (.ifCond .ne 5, 3) := by decide +kernel
theorem dX12_copy_19 : decode cX12_copy 19 = .ok (.iconst (-1), 1) := by decide +kernel
theorem dX12_copy_20 : decode cX12_copy 20 = .ok (.ireturn, 1) := by decide +kernel
theorem dX12_copy_21 : decode cX12_copy 21 = .ok (.aload_n 0, 1) := by decide +kernel
theorem dX12_copy_22 : decode cX12_copy 22 = .ok (.getfield 9, 3) := by decide +kernel
theorem dX12_copy_25 : decode cX12_copy 25 = .ok (.iload_n 1, 1) := by decide +kernel
theorem dX12_copy_26 : decode cX12_copy 26 = .ok (.iaload, 1) := by decide +kernel
theorem dX12_copy_27 : decode cX12_copy 27 = .ok (.bipush (-9), 2) := by decide +kernel
theorem dX12_copy_29 : decode cX12_copy 29 = .ok (.if_icmp .eq 14, 3) := by decide +kernel
theorem dX12_copy_32 : decode cX12_copy 32 = .ok (.aload_n 0, 1) := by decide +kernel
theorem dX12_copy_33 : decode cX12_copy 33 = .ok (.getfield 9, 3) := by decide +kernel
theorem dX12_copy_36 : decode cX12_copy 36 = .ok (.iload_n 3, 1) := by decide +kernel
theorem dX12_copy_37 : decode cX12_copy 37 = .ok (.iaload, 1) := by decide +kernel
theorem dX12_copy_38 : decode cX12_copy 38 = .ok (.bipush (-9), 2) := by decide +kernel
theorem dX12_copy_40 : decode cX12_copy 40 = .ok (.if_icmp .ne 9, 3) := by decide +kernel
theorem dX12_copy_43 : decode cX12_copy 43 = .ok (.aload_n 0, 1) := by decide +kernel
theorem dX12_copy_44 : decode cX12_copy 44 = .ok (.iconst 1, 1) := by decide +kernel
theorem dX12_copy_45 : decode cX12_copy 45 = .ok (.invokevirtual 96, 3) := by decide +kernel
theorem dX12_copy_48 : decode cX12_copy 48 = .ok (.ireturn, 1) := by decide +kernel
theorem dX12_copy_49 : decode cX12_copy 49 = .ok (.aload_n 0, 1) := by decide +kernel
theorem dX12_copy_50 : decode cX12_copy 50 = .ok (.getfield 9, 3) := by decide +kernel
theorem dX12_copy_53 : decode cX12_copy 53 = .ok (.iload_n 1, 1) := by decide +kernel
theorem dX12_copy_54 : decode cX12_copy 54 = .ok (.iaload, 1) := by decide +kernel
theorem dX12_copy_55 : decode cX12_copy 55 = .ok (.aload_n 0, 1) := by decide +kernel
theorem dX12_copy_56 : decode cX12_copy 56 = .ok (.getfield 9, 3) := by decide +kernel
theorem dX12_copy_59 : decode cX12_copy 59 = .ok (.iload_n 3, 1) := by decide +kernel
theorem dX12_copy_60 : decode cX12_copy 60 = .ok (.iaload, 1) := by decide +kernel
theorem dX12_copy_61 : decode cX12_copy 61 = .ok (.if_icmp .eq 9, 3) := by decide +kernel
theorem dX12_copy_64 : decode cX12_copy 64 = .ok (.aload_n 0, 1) := by decide +kernel
theorem dX12_copy_65 : decode cX12_copy 65 = .ok (.iconst 2, 1) := by decide +kernel
theorem dX12_copy_66 : decode cX12_copy 66 = .ok (.invokevirtual 96, 3) := by decide +kernel
theorem dX12_copy_69 : decode cX12_copy 69 = .ok (.ireturn, 1) := by decide +kernel
theorem dX12_copy_70 : decode cX12_copy 70 = .ok (.iload_n 2, 1) := by decide +kernel
theorem dX12_copy_71 : decode cX12_copy 71 = .ok (.ifCond .lt 38, 3) := by decide +kernel
theorem dX12_copy_74 : decode cX12_copy 74 = .ok (.iload 4, 2) := by decide +kernel
theorem dX12_copy_76 : decode cX12_copy 76 = .ok (.ifCond .lt 33, 3) := by decide +kernel
theorem dX12_copy_79 : decode cX12_copy 79 = .ok (.iload 5, 2) := by decide +kernel
theorem dX12_copy_81 : decode cX12_copy 81 = .ok (.ifCond .lt 28, 3) := by decide +kernel
theorem dX12_copy_84 : decode cX12_copy 84 = .ok (.iload_n 2, 1) := by decide +kernel
theorem dX12_copy_85 : decode cX12_copy 85 = .ok (.aload_n 0, 1) := by decide +kernel
theorem dX12_copy_86 : decode cX12_copy 86 = .ok (.getfield 13, 3) := by decide +kernel
theorem dX12_copy_89 : decode cX12_copy 89 = .ok (.iload_n 1, 1) := by decide +kernel
theorem dX12_copy_90 : decode cX12_copy 90 = .ok (.iaload, 1) := by decide +kernel
theorem dX12_copy_91 : decode cX12_copy 91 = .ok (.if_icmp .gt 18, 3) := by decide +kernel
theorem dX12_copy_94 : decode cX12_copy 94 = .ok (.iload 4, 2) := by decide +kernel
theorem dX12_copy_96 : decode cX12_copy 96 = .ok (.aload_n 0, 1) := by decide +kernel
theorem dX12_copy_97 : decode cX12_copy 97 = .ok (.getfield 13, 3) := by decide +kernel
theorem dX12_copy_100 : decode cX12_copy 100 = .ok (.iload_n 3, 1) := by decide +kernel
theorem dX12_copy_101 : decode cX12_copy 101 = .ok (.iaload, 1) := by decide +kernel
theorem dX12_copy_102 : decode cX12_copy 102 = .ok (.if_icmp .gt 7, 3) := by decide +kernel
theorem dX12_copy_105 : decode cX12_copy 105 = .ok (.iconst 1, 1) := by decide +kernel
theorem dX12_copy_106 : decode cX12_copy 106 = .ok (.goto 4, 3) := by decide +kernel
theorem dX12_copy_109 : decode cX12_copy 109 = .ok (.iconst 0, 1) := by decide +kernel
theorem dX12_copy_110 : decode cX12_copy 110 = .ok (.istore 6, 2) := by decide +kernel
theorem dX12_copy_112 : decode cX12_copy 112 = .ok (.iload 6, 2) := by decide +kernel
theorem dX12_copy_114 : decode cX12_copy 114 = .ok (.ifCond .eq 30, 3) := by decide +kernel
theorem dX12_copy_117 : decode cX12_copy 117 = .ok (.iload 5, 2) := by decide +kernel
theorem dX12_copy_119 : decode cX12_copy 119 = .ok (.aload_n 0, 1) := by decide +kernel
theorem dX12_copy_120 : decode cX12_copy 120 = .ok (.getfield 13, 3) := by decide +kernel
theorem dX12_copy_123 : decode cX12_copy 123 = .ok (.iload_n 1, 1) := by decide +kernel
theorem dX12_copy_124 : decode cX12_copy 124 = .ok (.iaload, 1) := by decide +kernel
theorem dX12_copy_125 : decode cX12_copy 125 = .ok (.iload_n 2, 1) := by decide +kernel
theorem dX12_copy_126 : decode cX12_copy 126 = .ok (.isub, 1) := by decide +kernel
theorem dX12_copy_127 : decode cX12_copy 127 = .ok (.if_icmp .gt 17, 3) := by decide +kernel
theorem dX12_copy_130 : decode cX12_copy 130 = .ok (.iload 5, 2) := by decide +kernel
theorem dX12_copy_132 : decode cX12_copy 132 = .ok (.aload_n 0, 1) := by decide +kernel
theorem dX12_copy_133 : decode cX12_copy 133 = .ok (.getfield 13, 3) := by decide +kernel
theorem dX12_copy_136 : decode cX12_copy 136 = .ok (.iload_n 3, 1) := by decide +kernel
theorem dX12_copy_137 : decode cX12_copy 137 = .ok (.iaload, 1) := by decide +kernel
theorem dX12_copy_138 : decode cX12_copy 138 = .ok (.iload 4, 2) := by decide +kernel
theorem dX12_copy_140 : decode cX12_copy 140 = .ok (.isub, 1) := by decide +kernel
theorem dX12_copy_141 : decode cX12_copy 141 = .ok (.if_icmp .le 9, 3) := by decide +kernel
theorem dX12_copy_144 : decode cX12_copy 144 = .ok (.aload_n 0, 1) := by decide +kernel
theorem dX12_copy_145 : decode cX12_copy 145 = .ok (.iconst 3, 1) := by decide +kernel
theorem dX12_copy_146 : decode cX12_copy 146 = .ok (.invokevirtual 96, 3) := by decide +kernel
theorem dX12_copy_149 : decode cX12_copy 149 = .ok (.ireturn, 1) := by decide +kernel
theorem dX12_copy_150 : decode cX12_copy 150 = .ok (.iload_n 2, 1) := by decide +kernel
theorem dX12_copy_151 : decode cX12_copy 151 = .ok (.iload 4, 2) := by decide +kernel
theorem dX12_copy_153 : decode cX12_copy 153 = .ok (.if_icmp .ge 7, 3) := by decide +kernel
theorem dX12_copy_156 : decode cX12_copy 156 = .ok (.iconst 1, 1) := by decide +kernel
theorem dX12_copy_157 : decode cX12_copy 157 = .ok (.goto 4, 3) := by decide +kernel
theorem dX12_copy_160 : decode cX12_copy 160 = .ok (.iconst 0, 1) := by decide +kernel
theorem dX12_copy_161 : decode cX12_copy 161 = .ok (.istore 7, 2) := by decide +kernel
theorem dX12_copy_163 : decode cX12_copy 163 = .ok (.iconst 0, 1) := by decide +kernel
theorem dX12_copy_164 : decode cX12_copy 164 = .ok (.istore 8, 2) := by decide +kernel
theorem dX12_copy_166 : decode cX12_copy 166 = .ok (.iload 8, 2) := by decide +kernel
theorem dX12_copy_168 : decode cX12_copy 168 = .ok (.iload 5, 2) := by decide +kernel
theorem dX12_copy_170 : decode cX12_copy 170 = .ok (.if_icmp .ge 57, 3) := by decide +kernel
theorem dX12_copy_173 : decode cX12_copy 173 = .ok (.iload 7, 2) := by decide +kernel
theorem dX12_copy_175 : decode cX12_copy 175 = .ok (.ifCond .eq 13, 3) := by decide +kernel
theorem dX12_copy_178 : decode cX12_copy 178 = .ok (.iload 5, 2) := by decide +kernel
theorem dX12_copy_180 : decode cX12_copy 180 = .ok (.iconst 1, 1) := by decide +kernel
theorem dX12_copy_181 : decode cX12_copy 181 = .ok (.isub, 1) := by decide +kernel
theorem dX12_copy_182 : decode cX12_copy 182 = .ok (.iload 8, 2) := by decide +kernel
theorem dX12_copy_184 : decode cX12_copy 184 = .ok (.isub, 1) := by decide +kernel
theorem dX12_copy_185 : decode cX12_copy 185 = .ok (.goto 5, 3) := by decide +kernel
theorem dX12_copy_188 : decode cX12_copy 188 = .ok (.iload 8, 2) := by decide +kernel
theorem dX12_copy_190 : decode cX12_copy 190 = .ok (.istore 9, 2) := by decide +kernel
theorem dX12_copy_192 : decode cX12_copy 192 = .ok (.aload_n 0, 1) := by decide +kernel
theorem dX12_copy_193 : decode cX12_copy 193 = .ok (.getfield 16, 3) := by decide +kernel
theorem dX12_copy_196 : decode cX12_copy 196 = .ok (.bipush 80, 2) := by decide +kernel
theorem dX12_copy_198 : decode cX12_copy 198 = .ok (.iload_n 3, 1) := by decide +kernel
theorem dX12_copy_199 : decode cX12_copy 199 = .ok (.imul, 1) := by decide +kernel
theorem dX12_copy_200 : decode cX12_copy 200 = .ok (.iload 4, 2) := by decide +kernel
theorem dX12_copy_202 : decode cX12_copy 202 = .ok (.iadd, 1) := by decide +kernel
theorem dX12_copy_203 : decode cX12_copy 203 = .ok (.iload 9, 2) := by decide +kernel
theorem dX12_copy_205 : decode cX12_copy 205 = .ok (.iadd, 1) := by decide +kernel
theorem dX12_copy_206 : decode cX12_copy 206 = .ok (.aload_n 0, 1) := by decide +kernel
theorem dX12_copy_207 : decode cX12_copy 207 = .ok (.getfield 16, 3) := by decide +kernel
theorem dX12_copy_210 : decode cX12_copy 210 = .ok (.bipush 80, 2) := by decide +kernel
theorem dX12_copy_212 : decode cX12_copy 212 = .ok (.iload_n 1, 1) := by decide +kernel
theorem dX12_copy_213 : decode cX12_copy 213 = .ok (.imul, 1) := by decide +kernel
theorem dX12_copy_214 : decode cX12_copy 214 = .ok (.iload_n 2, 1) := by decide +kernel
theorem dX12_copy_215 : decode cX12_copy 215 = .ok (.iadd, 1) := by decide +kernel
theorem dX12_copy_216 : decode cX12_copy 216 = .ok (.iload 9, 2) := by decide +kernel
theorem dX12_copy_218 : decode cX12_copy 218 = .ok (.iadd, 1) := by decide +kernel
theorem dX12_copy_219 : decode cX12_copy 219 = .ok (.iaload, 1) := by decide +kernel
theorem dX12_copy_220 : decode cX12_copy 220 = .ok (.iastore, 1) := by decide +kernel
theorem dX12_copy_221 : decode cX12_copy 221 = .ok (.iinc 8 1, 3) := by decide +kernel
theorem dX12_copy_224 : decode cX12_copy 224 = .ok (.goto (-58), 3) := by decide +kernel
theorem dX12_copy_227 : decode cX12_copy 227 = .ok (.iload 5, 2) := by decide +kernel
theorem dX12_copy_229 : decode cX12_copy 229 = .ok (.ireturn, 1) := by decide +kernel
theorem dX12_begins_0 : decode cX12_begins 0 = .ok (.aload_n 0, 1) := by decide +kernel
theorem dX12_begins_1 : decode cX12_begins 1 = .ok (.bipush 31, 2) := by decide +kernel
theorem dX12_begins_3 : decode cX12_begins 3 = .ok (.aload_n 0, 1) := by decide +kernel
theorem dX12_begins_4 : decode cX12_begins 4 = .ok (.getfield 186, 3) := by decide +kernel
theorem dX12_begins_7 : decode cX12_begins 7 = .ok (.imul, 1) := by decide +kernel
theorem dX12_begins_8 : decode cX12_begins 8 = .ok (.iload_n 1, 1) := by decide +kernel
theorem dX12_begins_9 : decode cX12_begins 9 = .ok (.iadd, 1) := by decide +kernel
theorem dX12_begins_10 : decode cX12_begins 10 = .ok (.putfield 186, 3) := by decide +kernel
theorem dX12_begins_13 : decode cX12_begins 13 = .ok (.return_, 1) := by decide +kernel
theorem dX12_tell_0 : decode cX12_tell 0 = .ok (.aload_n 0, 1) := by decide +kernel
theorem dX12_tell_1 : decode cX12_tell 1 = .ok (.iload_n 1, 1) := by decide +kernel
theorem dX12_tell_2 : decode cX12_tell 2 = .ok (.invokevirtual 120, 3) := by decide +kernel
theorem dX12_tell_5 : decode cX12_tell 5 = .ok (.ifCond .ne 5, 3) := by decide +kernel
theorem dX12_tell_8 : decode cX12_tell 8 = .ok (.iconst (-1), 1) := by decide +kernel
theorem dX12_tell_9 : decode cX12_tell 9 = .ok (.ireturn, 1) := by decide +kernel
theorem dX12_tell_10 : decode cX12_tell 10 = .ok (.aload_n 0, 1) := by decide +kernel
theorem dX12_tell_11 : decode cX12_tell 11 = .ok (.getfield 22, 3) := by decide +kernel
theorem dX12_tell_14 : decode cX12_tell 14 = .ok (.iload_n 1, 1) := by decide +kernel
theorem dX12_tell_15 : decode cX12_tell 15 = .ok (.iaload, 1) := by decide +kernel
theorem dX12_tell_16 : decode cX12_tell 16 = .ok (.istore_n 2, 1) := by decide +kernel
theorem dX12_tell_17 : decode cX12_tell 17 = .ok (.aload_n 0, 1) := by decide +kernel
theorem dX12_tell_18 : decode cX12_tell 18 = .ok (.getfield 19, 3) := by decide +kernel
theorem dX12_tell_21 : decode cX12_tell 21 = .ok (.iload_n 1, 1) := by decide +kernel
theorem dX12_tell_22 : decode cX12_tell 22 = .ok (.iaload, 1) := by decide +kernel
theorem dX12_tell_23 : decode cX12_tell 23 = .ok (.lookupswitch 67 #[(1, 25), (2, 40)], 25) := by decide +kernel
theorem dX12_tell_48 : decode cX12_tell 48 = .ok (.aload_n 0, 1) := by decide +kernel
theorem dX12_tell_49 : decode cX12_tell 49 = .ok (.iconst 2, 1) := by decide +kernel
theorem dX12_tell_50 : decode cX12_tell 50 = .ok (.invokevirtual 189, 3) := by decide +kernel
theorem dX12_tell_53 : decode cX12_tell 53 = .ok (.aload_n 0, 1) := by decide +kernel
theorem dX12_tell_54 : decode cX12_tell 54 = .ok (.iconst 1, 1) := by decide +kernel
theorem dX12_tell_55 : decode cX12_tell 55 = .ok (.invokevirtual 189, 3) := by decide +kernel
theorem dX12_tell_58 : decode cX12_tell 58 = .ok (.iload_n 2, 1) := by decide +kernel
theorem dX12_tell_59 : decode cX12_tell 59 = .ok (.bipush 100, 2) := by decide +kernel
theorem dX12_tell_61 : decode cX12_tell 61 = .ok (.iadd, 1) := by decide +kernel
theorem dX12_tell_62 : decode cX12_tell 62 = .ok (.ireturn, 1) := by decide +kernel
theorem dX12_tell_63 : decode cX12_tell 63 = .ok (.aload_n 0, 1) := by decide +kernel
theorem dX12_tell_64 : decode cX12_tell 64 = .ok (.iconst 3, 1) := by decide +kernel
theorem dX12_tell_65 : decode cX12_tell 65 = .ok (.invokevirtual 189, 3) := by decide +kernel
theorem dX12_tell_68 : decode cX12_tell 68 = .ok (.aload_n 0, 1) := by decide +kernel
theorem dX12_tell_69 : decode cX12_tell 69 = .ok (.iconst 2, 1) := by decide +kernel
theorem dX12_tell_70 : decode cX12_tell 70 = .ok (.invokevirtual 189, 3) := by decide +kernel
theorem dX12_tell_73 : decode cX12_tell 73 = .ok (.aload_n 0, 1) := by decide +kernel
theorem dX12_tell_74 : decode cX12_tell 74 = .ok (.iconst 1, 1) := by decide +kernel
theorem dX12_tell_75 : decode cX12_tell 75 = .ok (.invokevirtual 189, 3) := by decide +kernel
theorem dX12_tell_78 : decode cX12_tell 78 = .ok (.aload_n 0, 1) := by decide +kernel
theorem dX12_tell_79 : decode cX12_tell 79 = .ok (.iconst 1, 1) := by decide +kernel
theorem dX12_tell_80 : decode cX12_tell 80 = .ok (.invokevirtual 189, 3) := by decide +kernel
theorem dX12_tell_83 : decode cX12_tell 83 = .ok (.iconst 2, 1) := by decide +kernel
theorem dX12_tell_84 : decode cX12_tell 84 = .ok (.iload_n 2, 1) := by decide +kernel
theorem dX12_tell_85 : decode cX12_tell 85 = .ok (.imul, 1) := by decide +kernel
theorem dX12_tell_86 : decode cX12_tell 86 = .ok (.bipush 100, 2) := by decide +kernel
theorem dX12_tell_88 : decode cX12_tell 88 = .ok (.iadd, 1) := by decide +kernel
theorem dX12_tell_89 : decode cX12_tell 89 = .ok (.ireturn, 1) := by decide +kernel
theorem dX12_tell_90 : decode cX12_tell 90 = .ok (.aload_n 0, 1) := by decide +kernel
theorem dX12_tell_91 : decode cX12_tell 91 = .ok (.iconst 1, 1) := by decide +kernel
theorem dX12_tell_92 : decode cX12_tell 92 = .ok (.invokevirtual 189, 3) := by decide +kernel
theorem dX12_tell_95 : decode cX12_tell 95 = .ok (.iload_n 2, 1) := by decide +kernel
theorem dX12_tell_96 : decode cX12_tell 96 = .ok (.ireturn, 1) := by decide +kernel
theorem dX12_tread_0 : decode cX12_tread 0 = .ok (.aload_n 0, 1) := by decide +kernel
theorem dX12_tread_1 : decode cX12_tread 1 = .ok (.iload_n 1, 1) := by decide +kernel
theorem dX12_tread_2 : decode cX12_tread 2 = .ok (.invokevirtual 120, 3) := by decide +kernel
theorem dX12_tread_5 : decode cX12_tread 5 = .ok (.ifCond .ne 5, 3) := by decide +kernel
theorem dX12_tread_8 : decode cX12_tread 8 = .ok (.iconst (-1), 1) := by decide +kernel
theorem dX12_tread_9 : decode cX12_tread 9 = .ok (.ireturn, 1) := by decide +kernel
theorem dX12_tread_10 : decode cX12_tread 10 = .ok (.aload_n 0, 1) := by decide +kernel
theorem dX12_tread_11 : decode cX12_tread 11 = .ok (.aload_n 0, 1) := by decide +kernel
theorem dX12_tread_12 : decode cX12_tread 12 = .ok (.getfield 19, 3) := by decide +kernel
theorem dX12_tread_15 : decode cX12_tread 15 = .ok (.iload_n 1, 1) := by decide +kernel
theorem dX12_tread_16 : decode cX12_tread 16 = .ok (.iaload, 1) := by decide +kernel
theorem dX12_tread_17 : decode cX12_tread 17 = .ok (.iconst 2, 1) := by decide +kernel
theorem dX12_tread_18 : decode cX12_tread 18 = .ok (.if_icmp .ne 7, 3) := by decide +kernel
theorem dX12_tread_21 : decode cX12_tread 21 = .ok (.iconst 5, 1) := by decide +kernel
theorem dX12_tread_22 : decode cX12_tread 22 = .ok (.goto 4, 3) := by decide +kernel
theorem dX12_tread_25 : decode cX12_tread 25 = .ok (.iconst 4, 1) := by decide +kernel
theorem dX12_tread_26 : decode cX12_tread 26 = .ok (.invokevirtual 189, 3) := by decide +kernel
theorem dX12_tread_29 : decode cX12_tread 29 = .ok (.aload_n 0, 1) := by decide +kernel
theorem dX12_tread_30 : decode cX12_tread 30 = .ok (.getfield 19, 3) := by decide +kernel
theorem dX12_tread_33 : decode cX12_tread 33 = .ok (.iload_n 1, 1) := by decide +kernel
theorem dX12_tread_34 : decode cX12_tread 34 = .ok (.iaload, 1) := by decide +kernel
theorem dX12_tread_35 : decode cX12_tread 35 = .ok (.iconst 2, 1) := by decide +kernel
theorem dX12_tread_36 : decode cX12_tread 36 = .ok (.if_icmp .ne 8, 3) := by decide +kernel
theorem dX12_tread_39 : decode cX12_tread 39 = .ok (.bipush 50, 2) := by decide +kernel
theorem dX12_tread_41 : decode cX12_tread 41 = .ok (.goto 4, 3) := by decide +kernel
theorem dX12_tread_44 : decode cX12_tread 44 = .ok (.iload_n 1, 1) := by decide +kernel
theorem dX12_tread_45 : decode cX12_tread 45 = .ok (.ireturn, 1) := by decide +kernel
theorem dX12_as_0 : decode cX12_as 0 = .ok (.aload_n 0, 1) := by decide +kernel
theorem dX12_as_1 : decode cX12_as 1 = .ok (.iconst 0, 1) := by decide +kernel
theorem dX12_as_2 : decode cX12_as 2 = .ok (.putfield 62, 3) := by decide +kernel
theorem dX12_as_5 : decode cX12_as 5 = .ok (.aload_n 0, 1) := by decide +kernel
theorem dX12_as_6 : decode cX12_as 6 = .ok (.iload_n 1, 1) := by decide +kernel
theorem dX12_as_7 : decode cX12_as 7 = .ok (.invokevirtual 120, 3) := by decide +kernel
theorem dX12_as_10 : decode cX12_as 10 = .ok (.ifCond .ne 5, 3) := by decide +kernel
theorem dX12_as_13 : decode cX12_as 13 = .ok (.iconst (-1), 1) := by decide +kernel
theorem dX12_as_14 : decode cX12_as 14 = .ok (.ireturn, 1) := by decide +kernel
theorem dX12_as_15 : decode cX12_as 15 = .ok (.iload_n 2, 1) := by decide +kernel
theorem dX12_as_16 : decode cX12_as 16 = .ok (.iconst 0, 1) := by decide +kernel
theorem dX12_as_17 : decode cX12_as 17 = .ok (.iconst 2, 1) := by decide +kernel
theorem dX12_as_18 : decode cX12_as 18 = .ok (.invokestatic 68, 3) := by decide +kernel
theorem dX12_as_21 : decode cX12_as 21 = .ok (.ifCond .ne 6, 3) := by decide +kernel
theorem dX12_as_24 : decode cX12_as 24 = .ok (.bipush (-2), 2) := by decide +kernel
theorem dX12_as_26 : decode cX12_as 26 = .ok (.ireturn, 1) := by decide +kernel
theorem dX12_as_27 : decode cX12_as 27 = .ok (.aload_n 0, 1) := by decide +kernel
theorem dX12_as_28 : decode cX12_as 28 = .ok (.getfield 19, 3) := by decide +kernel
theorem dX12_as_31 : decode cX12_as 31 = .ok (.iload_n 1, 1) := by decide +kernel
theorem dX12_as_32 : decode cX12_as 32 = .ok (.iaload, 1) := by decide +kernel
theorem dX12_as_33 : decode cX12_as 33 = .ok (.iload_n 2, 1) := by decide +kernel
theorem dX12_as_34 : decode cX12_as 34 = .ok (.if_icmp .lt 7, 3) := by decide +kernel
theorem dX12_as_37 : decode cX12_as 37 = .ok (.iconst 1, 1) := by decide +kernel
theorem dX12_as_38 : decode cX12_as 38 = .ok (.goto 8, 3) := by decide +kernel
theorem dX12_as_41 : decode cX12_as 41 = .ok (.aload_n 0, 1) := by decide +kernel
theorem dX12_as_42 : decode cX12_as 42 = .ok (.iconst 2, 1) := by decide +kernel
theorem dX12_as_43 : decode cX12_as 43 = .ok (.invokevirtual 96, 3) := by decide +kernel
theorem dX12_as_46 : decode cX12_as 46 = .ok (.ireturn, 1) := by decide +kernel
theorem dX12_trace_0 : decode cX12_trace 0 = .ok (.aload_n 0, 1) := by decide +kernel
theorem dX12_trace_1 : decode cX12_trace 1 = .ok (.getfield 186, 3) := by decide +kernel
theorem dX12_trace_4 : decode cX12_trace 4 = .ok (.ireturn, 1) := by decide +kernel
theorem dX12_fault_0 : decode cX12_fault 0 = .ok (.aload_n 0, 1) := by decide +kernel
theorem dX12_fault_1 : decode cX12_fault 1 = .ok (.getfield 62, 3) := by decide +kernel
theorem dX12_fault_4 : decode cX12_fault 4 = .ok (.ireturn, 1) := by decide +kernel
theorem dX12_many_0 : decode cX12_many 0 = .ok (.iload_n 1, 1) := by decide +kernel
theorem dX12_many_1 : decode cX12_many 1 = .ok (.ifCond .ne 10, 3) := by decide +kernel
theorem dX12_many_4 : decode cX12_many 4 = .ok (.aload_n 0, 1) := by decide +kernel
theorem dX12_many_5 : decode cX12_many 5 = .ok (.invokevirtual 78, 3) := by decide +kernel
theorem dX12_many_8 : decode cX12_many 8 = .ok (.goto 29, 3) := by decide +kernel
theorem dX12_many_11 : decode cX12_many 11 = .ok (.iload_n 1, 1) := by decide +kernel
theorem dX12_many_12 : decode cX12_many 12 = .ok (.iconst 1, 1) := by decide +kernel
theorem dX12_many_13 : decode cX12_many 13 = .ok (.if_icmp .ne 10, 3) := by decide +kernel
theorem dX12_many_16 : decode cX12_many 16 = .ok (.aload_n 0, 1) := by decide +kernel
theorem dX12_many_17 : decode cX12_many 17 = .ok (.getfield 75, 3) := by decide +kernel
theorem dX12_many_20 : decode cX12_many 20 = .ok (.goto 17, 3) := by decide +kernel
theorem dX12_many_23 : decode cX12_many 23 = .ok (.iload_n 1, 1) := by decide +kernel
theorem dX12_many_24 : decode cX12_many 24 = .ok (.iconst 2, 1) := by decide +kernel
theorem dX12_many_25 : decode cX12_many 25 = .ok (.if_icmp .ne 10, 3) := by decide +kernel
theorem dX12_many_28 : decode cX12_many 28 = .ok (.aload_n 0, 1) := by decide +kernel
theorem dX12_many_29 : decode cX12_many 29 = .ok (.getfield 109, 3) := by decide +kernel
theorem dX12_many_32 : decode cX12_many 32 = .ok (.goto 5, 3) := by decide +kernel
theorem dX12_many_35 : decode cX12_many 35 = .ok (.bipush (-2), 2) := by decide +kernel
theorem dX12_many_37 : decode cX12_many 37 = .ok (.ireturn, 1) := by decide +kernel
