theorem dX0_init_0 : decode cX0_init 0 = .ok (.aload_n 0, 1) := by decide +kernel
theorem dX0_init_1 : decode cX0_init 1 = .ok (.invokespecial 3, 3) := by decide +kernel
theorem dX0_init_4 : decode cX0_init 4 = .ok (.aload_n 0, 1) := by decide +kernel
theorem dX0_init_5 : decode cX0_init 5 = .ok (.bipush 12, 2) := by decide +kernel
theorem dX0_init_7 : decode cX0_init 7 = .ok (.newarray .int, 2) := by decide +kernel
theorem dX0_init_9 : decode cX0_init 9 = .ok (.putfield 9, 3) := by decide +kernel
theorem dX0_init_12 : decode cX0_init 12 = .ok (.aload_n 0, 1) := by decide +kernel
theorem dX0_init_13 : decode cX0_init 13 = .ok (.sipush 1600, 3) := by decide +kernel
theorem dX0_init_16 : decode cX0_init 16 = .ok (.newarray .int, 2) := by decide +kernel
theorem dX0_init_18 : decode cX0_init 18 = .ok (.putfield 15, 3) := by decide +kernel
theorem dX0_init_21 : decode cX0_init 21 = .ok (.return_, 1) := by decide +kernel
theorem dX0_find_0 : decode cX0_find 0 = .ok (.iload_n 3, 1) := by decide +kernel
theorem dX0_find_1 : decode cX0_find 1 = .ok (.bipush 12, 2) := by decide +kernel
theorem dX0_find_3 : decode cX0_find 3 = .ok (.if_icmp .gt 14, 3) := by decide +kernel
theorem dX0_find_6 : decode cX0_find 6 = .ok (.iload_n 2, 1) := by decide +kernel
theorem dX0_find_7 : decode cX0_find 7 = .ok (.iload_n 3, 1) := by decide +kernel
theorem dX0_find_8 : decode cX0_find 8 = .ok (.if_icmp .gt 9, 3) := by decide +kernel
theorem dX0_find_11 : decode cX0_find 11 = .ok (.iload_n 2, 1) := by decide +kernel
theorem dX0_find_12 : decode cX0_find 12 = .ok (.aload_n 1, 1) := by decide +kernel
theorem dX0_find_13 : decode cX0_find 13 = .ok (.arraylength, 1) := by decide +kernel
theorem dX0_find_14 : decode cX0_find 14 = .ok (.if_icmp .le 5, 3) := by decide +kernel
theorem dX0_find_17 : decode cX0_find 17 = .ok (.iconst 0, 1) := by decide +kernel
theorem dX0_find_18 : decode cX0_find 18 = .ok (.ireturn, 1) := by decide +kernel
theorem dX0_find_19 : decode cX0_find 19 = .ok (.iconst 0, 1) := by decide +kernel
theorem dX0_find_20 : decode cX0_find 20 = .ok (.istore 4, 2) := by decide +kernel
theorem dX0_find_22 : decode cX0_find 22 = .ok (.iload 4, 2) := by decide +kernel
theorem dX0_find_24 : decode cX0_find 24 = .ok (.iload_n 2, 1) := by decide +kernel
theorem dX0_find_25 : decode cX0_find 25 = .ok (.if_icmp .ge 39, 3) := by decide +kernel
theorem dX0_find_28 : decode cX0_find 28 = .ok (.aload_n 0, 1) := by decide +kernel
theorem dX0_find_29 : decode cX0_find 29 = .ok (.getfield 9, 3) := by decide +kernel
theorem dX0_find_32 : decode cX0_find 32 = .ok (.iload 4, 2) := by decide +kernel
theorem dX0_find_34 : decode cX0_find 34 = .ok (.aload_n 1, 1) := by decide +kernel
theorem dX0_find_35 : decode cX0_find 35 = .ok (.iload 4, 2) := by decide +kernel
theorem dX0_find_37 : decode cX0_find 37 = .ok (.iaload, 1) := by decide +kernel
theorem dX0_find_38 : decode cX0_find 38 = .ok (.iastore, 1) := by decide +kernel
theorem dX0_find_39 : decode cX0_find 39 = .ok (.aload_n 0, 1) := by decide +kernel
theorem dX0_find_40 : decode cX0_find 40 = .ok (.aload_n 0, 1) := by decide +kernel
theorem dX0_find_41 : decode cX0_find 41 = .ok (.getfield 9, 3) := by decide +kernel
theorem dX0_find_44 : decode cX0_find 44 = .ok (.iload 4, 2) := by decide +kernel
theorem dX0_find_46 : decode cX0_find 46 = .ok (.iaload, 1) := by decide +kernel
theorem dX0_find_47 : decode cX0_find 47 = .ok (.iload 4, 2) := by decide +kernel
theorem dX0_find_49 : decode cX0_find 49 = .ok (.iload_n 3, 1) := by decide +kernel
theorem dX0_find_50 : decode cX0_find 50 = .ok (.invokevirtual 18, 3) := by decide +kernel
theorem dX0_find_53 : decode cX0_find 53 = .ok (.ifCond .ne 5, 3) := by decide +kernel
theorem dX0_find_56 : decode cX0_find 56 = .ok (.iconst 0, 1) := by decide +kernel
theorem dX0_find_57 : decode cX0_find 57 = .ok (.ireturn, 1) := by decide +kernel
theorem dX0_find_58 : decode cX0_find 58 = .ok (.iinc 4 1, 3) := by decide +kernel
theorem dX0_find_61 : decode cX0_find 61 = .ok (.goto (-39), 3) := by decide +kernel
theorem dX0_find_64 : decode cX0_find 64 = .ok (.iload_n 2, 1) := by decide +kernel
theorem dX0_find_65 : decode cX0_find 65 = .ok (.istore 4, 2) := by decide +kernel
theorem dX0_find_67 : decode cX0_find 67 = .ok (.iload 4, 2) := by decide +kernel
theorem dX0_find_69 : decode cX0_find 69 = .ok (.ifCond .ne 13, 3) := by decide +kernel
theorem dX0_find_72 : decode cX0_find 72 = .ok (.aload_n 0, 1) := by decide +kernel
theorem dX0_find_73 : decode cX0_find 73 = .ok (.getfield 9, 3) := by decide +kernel
theorem dX0_find_76 : decode cX0_find 76 = .ok (.iconst 0, 1) := by decide +kernel
theorem dX0_find_77 : decode cX0_find 77 = .ok (.iconst 0, 1) := by decide +kernel
theorem dX0_find_78 : decode cX0_find 78 = .ok (.iastore, 1) := by decide +kernel
theorem dX0_find_79 : decode cX0_find 79 = .ok (.iconst 1, 1) := by decide +kernel
theorem dX0_find_80 : decode cX0_find 80 = .ok (.istore 4, 2) := by decide +kernel
theorem dX0_find_82 : decode cX0_find 82 = .ok (.iconst 0, 1) := by decide +kernel
theorem dX0_find_83 : decode cX0_find 83 = .ok (.istore 5, 2) := by decide +kernel
theorem dX0_find_85 : decode cX0_find 85 = .ok (.iconst 0, 1) := by decide +kernel
theorem dX0_find_86 : decode cX0_find 86 = .ok (.istore 6, 2) := by decide +kernel
theorem dX0_find_88 : decode cX0_find 88 = .ok (.iload 6, 2) := by decide +kernel
theorem dX0_find_90 : decode cX0_find 90 = .ok (.iconst 1, 1) := by decide +kernel
theorem dX0_find_91 : decode cX0_find 91 = .ok (.iload_n 3, 1) := by decide +kernel
theorem dX0_find_92 : decode cX0_find 92 = .ok (.iconst 1, 1) := by decide +kernel
theorem dX0_find_93 : decode cX0_find 93 = .ok (.isub, 1) := by decide +kernel
theorem dX0_find_94 : decode cX0_find 94 = .ok (.ishl, 1) := by decide +kernel
theorem dX0_find_95 : decode cX0_find 95 = .ok (.if_icmp .ge 41, 3) := by decide +kernel
theorem dX0_find_98 : decode cX0_find 98 = .ok (.iload 5, 2) := by decide +kernel
theorem dX0_find_100 : decode cX0_find 100 = .ok (.sipush 1600, 3) := by decide +kernel
theorem dX0_find_103 : decode cX0_find 103 = .ok (.if_icmp .ge 33, 3) := by decide +kernel
theorem dX0_find_106 : decode cX0_find 106 = .ok (.aload_n 0, 1) := by decide +kernel
theorem dX0_find_107 : decode cX0_find 107 = .ok (.iload 6, 2) := by decide +kernel
theorem dX0_find_109 : decode cX0_find 109 = .ok (.iload 4, 2) := by decide +kernel
theorem dX0_find_111 : decode cX0_find 111 = .ok (.iload_n 3, 1) := by decide +kernel
theorem dX0_find_112 : decode cX0_find 112 = .ok (.invokevirtual 18, 3) := by decide +kernel
theorem dX0_find_115 : decode cX0_find 115 = .ok (.ifCond .eq 15, 3) := by decide +kernel
theorem dX0_find_118 : decode cX0_find 118 = .ok (.aload_n 0, 1) := by decide +kernel
theorem dX0_find_119 : decode cX0_find 119 = .ok (.getfield 15, 3) := by decide +kernel
theorem dX0_find_122 : decode cX0_find 122 = .ok (.iload 5, 2) := by decide +kernel
theorem dX0_find_124 : decode cX0_find 124 = .ok (.iload 6, 2) := by decide +kernel
theorem dX0_find_126 : decode cX0_find 126 = .ok (.iastore, 1) := by decide +kernel
theorem dX0_find_127 : decode cX0_find 127 = .ok (.iinc 5 1, 3) := by decide +kernel
theorem dX0_find_130 : decode cX0_find 130 = .ok (.iinc 6 1, 3) := by decide +kernel
theorem dX0_find_133 : decode cX0_find 133 = .ok (.goto (-45), 3) := by decide +kernel
theorem dX0_find_136 : decode cX0_find 136 = .ok (.aload_n 0, 1) := by decide +kernel
theorem dX0_find_137 : decode cX0_find 137 = .ok (.iload_n 3, 1) := by decide +kernel
theorem dX0_find_138 : decode cX0_find 138 = .ok (.iload 4, 2) := by decide +kernel
theorem dX0_find_140 : decode cX0_find 140 = .ok (.iconst 0, 1) := by decide +kernel
theorem dX0_find_141 : decode cX0_find 141 = .ok (.iload 5, 2) := by decide +kernel
theorem dX0_find_143 : decode cX0_find 143 = .ok (.invokestatic 22, 3) := by decide +kernel
theorem dX0_find_146 : decode cX0_find 146 = .ok (.ireturn, 1) := by decide +kernel
theorem dX0_isPerpendicularToFirst_0 : decode cX0_isPerpendicularToFirst 0 = .ok (.iconst 0, 1) := by decide +kernel
theorem dX0_isPerpendicularToFirst_1 : decode cX0_isPerpendicularToFirst 1 = .ok (.istore 4, 2) := by decide +kernel
theorem dX0_isPerpendicularToFirst_3 : decode cX0_isPerpendicularToFirst 3 = .ok (.iload 4, 2) := by decide +kernel
theorem dX0_isPerpendicularToFirst_5 : decode cX0_isPerpendicularToFirst 5 = .ok (.iload_n 2, 1) := by decide +kernel
theorem dX0_isPerpendicularToFirst_6 : decode cX0_isPerpendicularToFirst 6 = .ok (.if_icmp .ge 27, 3) := by decide +kernel
theorem dX0_isPerpendicularToFirst_9 : decode cX0_isPerpendicularToFirst 9 = .ok (.iload_n 1, 1) := by decide +kernel
theorem dX0_isPerpendicularToFirst_10 : decode cX0_isPerpendicularToFirst 10 = .ok (.aload_n 0, 1) := by decide +kernel
theorem dX0_isPerpendicularToFirst_11 : decode cX0_isPerpendicularToFirst 11 = .ok (.getfield 9, 3) := by decide +kernel
theorem dX0_isPerpendicularToFirst_14 : decode cX0_isPerpendicularToFirst 14 = .ok (.iload 4, 2) := by decide +kernel
theorem dX0_isPerpendicularToFirst_16 : decode cX0_isPerpendicularToFirst 16 = .ok (.iaload, 1) := by decide +kernel
theorem dX0_isPerpendicularToFirst_17 : decode cX0_isPerpendicularToFirst 17 = .ok (.ixor, 1) := by decide +kernel
theorem dX0_isPerpendicularToFirst_18 : decode cX0_isPerpendicularToFirst 18 = .ok (.iload_n 3, 1) := by decide +kernel
theorem dX0_isPerpendicularToFirst_19 : decode cX0_isPerpendicularToFirst 19 = .ok (.invokestatic 26, 3) := by decide +kernel
theorem dX0_isPerpendicularToFirst_22 : decode cX0_isPerpendicularToFirst 22 = .ok (.ifCond .eq 5, 3) := by decide +kernel
theorem dX0_isPerpendicularToFirst_25 : decode cX0_isPerpendicularToFirst 25 = .ok (.iconst 0, 1) := by decide +kernel
theorem dX0_isPerpendicularToFirst_26 : decode cX0_isPerpendicularToFirst 26 = .ok (.ireturn, 1) := by decide +kernel
theorem dX0_isPerpendicularToFirst_27 : decode cX0_isPerpendicularToFirst 27 = .ok (.iinc 4 1, 3) := by decide +kernel
theorem dX0_isPerpendicularToFirst_30 : decode cX0_isPerpendicularToFirst 30 = .ok (.goto (-27), 3) := by decide +kernel
theorem dX0_isPerpendicularToFirst_33 : decode cX0_isPerpendicularToFirst 33 = .ok (.iconst 1, 1) := by decide +kernel
theorem dX0_isPerpendicularToFirst_34 : decode cX0_isPerpendicularToFirst 34 = .ok (.ireturn, 1) := by decide +kernel
theorem dX0_extend_0 : decode cX0_extend 0 = .ok (.iload_n 2, 1) := by decide +kernel
theorem dX0_extend_1 : decode cX0_extend 1 = .ok (.iload_n 1, 1) := by decide +kernel
theorem dX0_extend_2 : decode cX0_extend 2 = .ok (.if_icmp .ge 9, 3) := by decide +kernel
theorem dX0_extend_5 : decode cX0_extend 5 = .ok (.iload_n 2, 1) := by decide +kernel
theorem dX0_extend_6 : decode cX0_extend 6 = .ok (.bipush 12, 2) := by decide +kernel
theorem dX0_extend_8 : decode cX0_extend 8 = .ok (.if_icmp .lt 5, 3) := by decide +kernel
theorem dX0_extend_11 : decode cX0_extend 11 = .ok (.iconst 1, 1) := by decide +kernel
theorem dX0_extend_12 : decode cX0_extend 12 = .ok (.ireturn, 1) := by decide +kernel
theorem dX0_extend_13 : decode cX0_extend 13 = .ok (.aload_n 0, 1) := by decide +kernel
theorem dX0_extend_14 : decode cX0_extend 14 = .ok (.getfield 15, 3) := by decide +kernel
theorem dX0_extend_17 : decode cX0_extend 17 = .ok (.astore 5, 2) := by decide +kernel
theorem dX0_extend_19 : decode cX0_extend 19 = .ok (.iload_n 3, 1) := by decide +kernel
theorem dX0_extend_20 : decode cX0_extend 20 = .ok (.istore 6, 2) := by decide +kernel
theorem dX0_extend_22 : decode cX0_extend 22 = .ok (.iload 6, 2) := by decide +kernel
theorem dX0_extend_24 : decode cX0_extend 24 = .ok (.iload 4, 2) := by decide +kernel
theorem dX0_extend_26 : decode cX0_extend 26 = .ok (.if_icmp .ge 111, 3) := by decide +kernel
theorem dX0_extend_29 : decode cX0_extend 29 = .ok (.iload 4, 2) := by decide +kernel
theorem dX0_extend_31 : decode cX0_extend 31 = .ok (.iload 6, 2) := by decide +kernel
theorem dX0_extend_33 : decode cX0_extend 33 = .ok (.isub, 1) := by decide +kernel
theorem dX0_extend_34 : decode cX0_extend 34 = .ok (.iload_n 1, 1) := by decide +kernel
theorem dX0_extend_35 : decode cX0_extend 35 = .ok (.iload_n 2, 1) := by decide +kernel
theorem dX0_extend_36 : decode cX0_extend 36 = .ok (.isub, 1) := by decide +kernel
theorem dX0_extend_37 : decode cX0_extend 37 = .ok (.if_icmp .lt 100, 3) := by decide +kernel
theorem dX0_extend_40 : decode cX0_extend 40 = .ok (.aload 5, 2) := by decide +kernel
theorem dX0_extend_42 : decode cX0_extend 42 = .ok (.iload 6, 2) := by decide +kernel
theorem dX0_extend_44 : decode cX0_extend 44 = .ok (.iaload, 1) := by decide +kernel
theorem dX0_extend_45 : decode cX0_extend 45 = .ok (.istore 7, 2) := by decide +kernel
theorem dX0_extend_47 : decode cX0_extend 47 = .ok (.aload_n 0, 1) := by decide +kernel
theorem dX0_extend_48 : decode cX0_extend 48 = .ok (.getfield 9, 3) := by decide +kernel
theorem dX0_extend_51 : decode cX0_extend 51 = .ok (.iload_n 2, 1) := by decide +kernel
theorem dX0_extend_52 : decode cX0_extend 52 = .ok (.iload 7, 2) := by decide +kernel
theorem dX0_extend_54 : decode cX0_extend 54 = .ok (.iastore, 1) := by decide +kernel
theorem dX0_extend_55 : decode cX0_extend 55 = .ok (.iload 4, 2) := by decide +kernel
theorem dX0_extend_57 : decode cX0_extend 57 = .ok (.istore 8, 2) := by decide +kernel
theorem dX0_extend_59 : decode cX0_extend 59 = .ok (.iload 6, 2) := by decide +kernel
theorem dX0_extend_61 : decode cX0_extend 61 = .ok (.iconst 1, 1) := by decide +kernel
theorem dX0_extend_62 : decode cX0_extend 62 = .ok (.iadd, 1) := by decide +kernel
theorem dX0_extend_63 : decode cX0_extend 63 = .ok (.istore 9, 2) := by decide +kernel
theorem dX0_extend_65 : decode cX0_extend 65 = .ok (.iload 9, 2) := by decide +kernel
theorem dX0_extend_67 : decode cX0_extend 67 = .ok (.iload 4, 2) := by decide +kernel
theorem dX0_extend_69 : decode cX0_extend 69 = .ok (.if_icmp .ge 45, 3) := by decide +kernel
theorem dX0_extend_72 : decode cX0_extend 72 = .ok (.iload 8, 2) := by decide +kernel
theorem dX0_extend_74 : decode cX0_extend 74 = .ok (.sipush 1600, 3) := by decide +kernel
theorem dX0_extend_77 : decode cX0_extend 77 = .ok (.if_icmp .ge 37, 3) := by decide +kernel
theorem dX0_extend_80 : decode cX0_extend 80 = .ok (.iload 7, 2) := by decide +kernel
theorem dX0_extend_82 : decode cX0_extend 82 = .ok (.aload 5, 2) := by decide +kernel
theorem dX0_extend_84 : decode cX0_extend 84 = .ok (.iload 9, 2) := by decide +kernel
theorem dX0_extend_86 : decode cX0_extend 86 = .ok (.iaload, 1) := by decide +kernel
theorem dX0_extend_87 : decode cX0_extend 87 = .ok (.ixor, 1) := by decide +kernel
theorem dX0_extend_88 : decode cX0_extend 88 = .ok (.iload_n 1, 1) := by decide +kernel
theorem dX0_extend_89 : decode cX0_extend 89 = .ok (.invokestatic 26, 3) := by decide +kernel
theorem dX0_extend_92 : decode cX0_extend 92 = .ok (.ifCond .ne 16, 3) := by decide +kernel
theorem dX0_extend_95 : decode cX0_extend 95 = .ok (.aload 5, 2) := by decide +kernel
theorem dX0_extend_97 : decode cX0_extend 97 = .ok (.iload 8, 2) := by decide +kernel
theorem dX0_extend_99 : decode cX0_extend 99 = .ok (.aload 5, 2) := by decide +kernel
theorem dX0_extend_101 : decode cX0_extend 101 = .ok (.iload 9, 2) := by decide +kernel
theorem dX0_extend_103 : decode cX0_extend 103 = .ok (.iaload, 1) := by decide +kernel
theorem dX0_extend_104 : decode cX0_extend 104 = .ok (.iastore, 1) := by decide +kernel
theorem dX0_extend_105 : decode cX0_extend 105 = .ok (.iinc 8 1, 3) := by decide +kernel
theorem dX0_extend_108 : decode cX0_extend 108 = .ok (.iinc 9 1, 3) := by decide +kernel
theorem dX0_extend_111 : decode cX0_extend 111 = .ok (.goto (-46), 3) := by decide +kernel
theorem dX0_extend_114 : decode cX0_extend 114 = .ok (.aload_n 0, 1) := by decide +kernel
theorem dX0_extend_115 : decode cX0_extend 115 = .ok (.iload_n 1, 1) := by decide +kernel
theorem dX0_extend_116 : decode cX0_extend 116 = .ok (.iload_n 2, 1) := by decide +kernel
theorem dX0_extend_117 : decode cX0_extend 117 = .ok (.iconst 1, 1) := by decide +kernel
theorem dX0_extend_118 : decode cX0_extend 118 = .ok (.iadd, 1) := by decide +kernel
theorem dX0_extend_119 : decode cX0_extend 119 = .ok (.iload 4, 2) := by decide +kernel
theorem dX0_extend_121 : decode cX0_extend 121 = .ok (.iload 8, 2) := by decide +kernel
theorem dX0_extend_123 : decode cX0_extend 123 = .ok (.invokestatic 22, 3) := by decide +kernel
theorem dX0_extend_126 : decode cX0_extend 126 = .ok (.ifCond .eq 5, 3) := by decide +kernel
theorem dX0_extend_129 : decode cX0_extend 129 = .ok (.iconst 1, 1) := by decide +kernel
theorem dX0_extend_130 : decode cX0_extend 130 = .ok (.ireturn, 1) := by decide +kernel
theorem dX0_extend_131 : decode cX0_extend 131 = .ok (.iinc 6 1, 3) := by decide +kernel
theorem dX0_extend_134 : decode cX0_extend 134 = .ok (.goto (-112), 3) := by decide +kernel
theorem dX0_extend_137 : decode cX0_extend 137 = .ok (.iconst 0, 1) := by decide +kernel
theorem dX0_extend_138 : decode cX0_extend 138 = .ok (.ireturn, 1) := by decide +kernel
theorem dX1_init_0 : decode cX1_init 0 = .ok (.aload_n 0, 1) := by decide +kernel
theorem dX1_init_1 : decode cX1_init 1 = .ok (.invokespecial 3, 3) := by decide +kernel
theorem dX1_init_4 : decode cX1_init 4 = .ok (.aload_n 0, 1) := by decide +kernel
theorem dX1_init_5 : decode cX1_init 5 = .ok (.sipush 144, 3) := by decide +kernel
theorem dX1_init_8 : decode cX1_init 8 = .ok (.newarray .long, 2) := by decide +kernel
theorem dX1_init_10 : decode cX1_init 10 = .ok (.putfield 9, 3) := by decide +kernel
theorem dX1_init_13 : decode cX1_init 13 = .ok (.return_, 1) := by decide +kernel
theorem dX1_value_0 : decode cX1_value 0 = .ok (.aload_n 1, 1) := by decide +kernel
theorem dX1_value_1 : decode cX1_value 1 = .ok (.getfield 15, 3) := by decide +kernel
theorem dX1_value_4 : decode cX1_value 4 = .ok (.istore_n 2, 1) := by decide +kernel
theorem dX1_value_5 : decode cX1_value 5 = .ok (.iload_n 2, 1) := by decide +kernel
theorem dX1_value_6 : decode cX1_value 6 = .ok (.iconst 1, 1) := by decide +kernel
theorem dX1_value_7 : decode cX1_value 7 = .ok (.if_icmp .lt 9, 3) := by decide +kernel
theorem dX1_value_10 : decode cX1_value 10 = .ok (.iload_n 2, 1) := by decide +kernel
theorem dX1_value_11 : decode cX1_value 11 = .ok (.bipush 12, 2) := by decide +kernel
theorem dX1_value_13 : decode cX1_value 13 = .ok (.if_icmp .le 5, 3) := by decide +kernel
theorem dX1_value_16 : decode cX1_value 16 = .ok (.lconst 0, 1) := by decide +kernel
theorem dX1_value_17 : decode cX1_value 17 = .ok (.lreturn, 1) := by decide +kernel
theorem dX1_value_18 : decode cX1_value 18 = .ok (.iconst 0, 1) := by decide +kernel
theorem dX1_value_19 : decode cX1_value 19 = .ok (.istore_n 3, 1) := by decide +kernel
theorem dX1_value_20 : decode cX1_value 20 = .ok (.iload_n 3, 1) := by decide +kernel
theorem dX1_value_21 : decode cX1_value 21 = .ok (.iload_n 2, 1) := by decide +kernel
theorem dX1_value_22 : decode cX1_value 22 = .ok (.if_icmp .ge 52, 3) := by decide +kernel
theorem dX1_value_25 : decode cX1_value 25 = .ok (.iconst 0, 1) := by decide +kernel
theorem dX1_value_26 : decode cX1_value 26 = .ok (.istore 4, 2) := by decide +kernel
theorem dX1_value_28 : decode cX1_value 28 = .ok (.iload 4, 2) := by decide +kernel
theorem dX1_value_30 : decode cX1_value 30 = .ok (.iload_n 2, 1) := by decide +kernel
theorem dX1_value_31 : decode cX1_value 31 = .ok (.if_icmp .ge 37, 3) := by decide +kernel
theorem dX1_value_34 : decode cX1_value 34 = .ok (.aload_n 0, 1) := by decide +kernel
theorem dX1_value_35 : decode cX1_value 35 = .ok (.getfield 9, 3) := by decide +kernel
theorem dX1_value_38 : decode cX1_value 38 = .ok (.iload_n 3, 1) := by decide +kernel
theorem dX1_value_39 : decode cX1_value 39 = .ok (.iload_n 2, 1) := by decide +kernel
theorem dX1_value_40 : decode cX1_value 40 = .ok (.imul, 1) := by decide +kernel
theorem dX1_value_41 : decode cX1_value 41 = .ok (.iload 4, 2) := by decide +kernel
theorem dX1_value_43 : decode cX1_value 43 = .ok (.iadd, 1) := by decide +kernel
theorem dX1_value_44 : decode cX1_value 44 = .ok (.aload_n 1, 1) := by decide +kernel
theorem dX1_value_45 : decode cX1_value 45 = .ok (.iload_n 3, 1) := by decide +kernel
theorem dX1_value_46 : decode cX1_value 46 = .ok (.iload 4, 2) := by decide +kernel
theorem dX1_value_48 : decode cX1_value 48 = .ok (.invokevirtual 21, 3) := by decide +kernel
theorem dX1_value_51 : decode cX1_value 51 = .ok (.ifCond .eq 9, 3) := by decide +kernel
theorem dX1_value_54 : decode cX1_value 54 = .ok (.ldc2_w 25, 3) := by decide +kernel
theorem dX1_value_57 : decode cX1_value 57 = .ok (.goto 4, 3) := by decide +kernel
theorem dX1_value_60 : decode cX1_value 60 = .ok (.lconst 1, 1) := by decide +kernel
theorem dX1_value_61 : decode cX1_value 61 = .ok (.lastore, 1) := by decide +kernel
theorem dX1_value_62 : decode cX1_value 62 = .ok (.iinc 4 1, 3) := by decide +kernel
theorem dX1_value_65 : decode cX1_value 65 = .ok (.goto (-37), 3) := by decide +kernel
theorem dX1_value_68 : decode cX1_value 68 = .ok (.iinc 3 1, 3) := by decide +kernel
theorem dX1_value_71 : decode cX1_value 71 = .ok (.goto (-51), 3) := by decide +kernel
theorem dX1_value_74 : decode cX1_value 74 = .ok (.lconst 1, 1) := by decide +kernel
theorem dX1_value_75 : decode cX1_value 75 = .ok (.lstore_n 3, 1) := by decide +kernel
theorem dX1_value_76 : decode cX1_value 76 = .ok (.iconst 0, 1) := by decide +kernel
theorem dX1_value_77 : decode cX1_value 77 = .ok (.istore 5, 2) := by decide +kernel
theorem dX1_value_79 : decode cX1_value 79 = .ok (.iconst 0, 1) := by decide +kernel
theorem dX1_value_80 : decode cX1_value 80 = .ok (.istore 6, 2) := by decide +kernel
theorem dX1_value_82 : decode cX1_value 82 = .ok (.iload 6, 2) := by decide +kernel
theorem dX1_value_84 : decode cX1_value 84 = .ok (.iload_n 2, 1) := by decide +kernel
theorem dX1_value_85 : decode cX1_value 85 = .ok (.if_icmp .ge 81, 3) := by decide +kernel
theorem dX1_value_88 : decode cX1_value 88 = .ok (.aload_n 0, 1) := by decide +kernel
theorem dX1_value_89 : decode cX1_value 89 = .ok (.iload_n 2, 1) := by decide +kernel
theorem dX1_value_90 : decode cX1_value 90 = .ok (.iload 6, 2) := by decide +kernel
theorem dX1_value_92 : decode cX1_value 92 = .ok (.invokevirtual 27, 3) := by decide +kernel
theorem dX1_value_95 : decode cX1_value 95 = .ok (.istore 7, 2) := by decide +kernel
theorem dX1_value_97 : decode cX1_value 97 = .ok (.iload 7, 2) := by decide +kernel
theorem dX1_value_99 : decode cX1_value 99 = .ok (.iconst (-1), 1) := by decide +kernel
theorem dX1_value_100 : decode cX1_value 100 = .ok (.if_icmp .eq 9, 3) := by decide +kernel
theorem dX1_value_103 : decode cX1_value 103 = .ok (.lload_n 3, 1) := by decide +kernel
theorem dX1_value_104 : decode cX1_value 104 = .ok (.lconst 0, 1) := by decide +kernel
theorem dX1_value_105 : decode cX1_value 105 = .ok (.lcmp, 1) := by decide +kernel
theorem dX1_value_106 : decode cX1_value 106 = .ok (.ifCond .ne 5, 3) := by decide +kernel
theorem dX1_value_109 : decode cX1_value 109 = .ok (.lconst 0, 1) := by decide +kernel
theorem dX1_value_110 : decode cX1_value 110 = .ok (.lreturn, 1) := by decide +kernel
theorem dX1_value_111 : decode cX1_value 111 = .ok (.iload 7, 2) := by decide +kernel
theorem dX1_value_113 : decode cX1_value 113 = .ok (.iload 6, 2) := by decide +kernel
theorem dX1_value_115 : decode cX1_value 115 = .ok (.if_icmp .eq 24, 3) := by decide +kernel
theorem dX1_value_118 : decode cX1_value 118 = .ok (.aload_n 0, 1) := by decide +kernel
theorem dX1_value_119 : decode cX1_value 119 = .ok (.iload_n 2, 1) := by decide +kernel
theorem dX1_value_120 : decode cX1_value 120 = .ok (.iload 6, 2) := by decide +kernel
theorem dX1_value_122 : decode cX1_value 122 = .ok (.iload 7, 2) := by decide +kernel
theorem dX1_value_124 : decode cX1_value 124 = .ok (.invokevirtual 31, 3) := by decide +kernel
theorem dX1_value_127 : decode cX1_value 127 = .ok (.iload 5, 2) := by decide +kernel
theorem dX1_value_129 : decode cX1_value 129 = .ok (.ifCond .ne 7, 3) := by decide +kernel
theorem dX1_value_132 : decode cX1_value 132 = .ok (.iconst 1, 1) := by decide +kernel
theorem dX1_value_133 : decode cX1_value 133 = .ok (.goto 4, 3) := by decide +kernel
theorem dX1_value_136 : decode cX1_value 136 = .ok (.iconst 0, 1) := by decide +kernel
theorem dX1_value_137 : decode cX1_value 137 = .ok (.istore 5, 2) := by decide +kernel
theorem dX1_value_139 : decode cX1_value 139 = .ok (.aload_n 0, 1) := by decide +kernel
theorem dX1_value_140 : decode cX1_value 140 = .ok (.iload_n 2, 1) := by decide +kernel
theorem dX1_value_141 : decode cX1_value 141 = .ok (.iload 6, 2) := by decide +kernel
theorem dX1_value_143 : decode cX1_value 143 = .ok (.lload_n 3, 1) := by decide +kernel
theorem dX1_value_144 : decode cX1_value 144 = .ok (.invokevirtual 35, 3) := by decide +kernel
theorem dX1_value_147 : decode cX1_value 147 = .ok (.aload_n 0, 1) := by decide +kernel
theorem dX1_value_148 : decode cX1_value 148 = .ok (.getfield 9, 3) := by decide +kernel
theorem dX1_value_151 : decode cX1_value 151 = .ok (.iload 6, 2) := by decide +kernel
theorem dX1_value_153 : decode cX1_value 153 = .ok (.iload_n 2, 1) := by decide +kernel
theorem dX1_value_154 : decode cX1_value 154 = .ok (.imul, 1) := by decide +kernel
theorem dX1_value_155 : decode cX1_value 155 = .ok (.iload 6, 2) := by decide +kernel
theorem dX1_value_157 : decode cX1_value 157 = .ok (.iadd, 1) := by decide +kernel
theorem dX1_value_158 : decode cX1_value 158 = .ok (.laload, 1) := by decide +kernel
theorem dX1_value_159 : decode cX1_value 159 = .ok (.lstore_n 3, 1) := by decide +kernel
theorem dX1_value_160 : decode cX1_value 160 = .ok (.iinc 6 1, 3) := by decide +kernel
theorem dX1_value_163 : decode cX1_value 163 = .ok (.goto (-81), 3) := by decide +kernel
theorem dX1_value_166 : decode cX1_value 166 = .ok (.iload 5, 2) := by decide +kernel
theorem dX1_value_168 : decode cX1_value 168 = .ok (.ifCond .eq 8, 3) := by decide +kernel
theorem dX1_value_171 : decode cX1_value 171 = .ok (.lload_n 3, 1) := by decide +kernel
theorem dX1_value_172 : decode cX1_value 172 = .ok (.lneg, 1) := by decide +kernel
theorem dX1_value_173 : decode cX1_value 173 = .ok (.goto 4, 3) := by decide +kernel
theorem dX1_value_176 : decode cX1_value 176 = .ok (.lload_n 3, 1) := by decide +kernel
theorem dX1_value_177 : decode cX1_value 177 = .ok (.lreturn, 1) := by decide +kernel
theorem dX1_pivotRow_0 : decode cX1_pivotRow 0 = .ok (.iload_n 2, 1) := by decide +kernel
theorem dX1_pivotRow_1 : decode cX1_pivotRow 1 = .ok (.istore_n 3, 1) := by decide +kernel
theorem dX1_pivotRow_2 : decode cX1_pivotRow 2 = .ok (.iload_n 3, 1) := by decide +kernel
theorem dX1_pivotRow_3 : decode cX1_pivotRow 3 = .ok (.iload_n 1, 1) := by decide +kernel
theorem dX1_pivotRow_4 : decode cX1_pivotRow 4 = .ok (.if_icmp .ge 26, 3) := by decide +kernel
theorem dX1_pivotRow_7 : decode cX1_pivotRow 7 = .ok (.aload_n 0, 1) := by decide +kernel
theorem dX1_pivotRow_8 : decode cX1_pivotRow 8 = .ok (.getfield 9, 3) := by decide +kernel
theorem dX1_pivotRow_11 : decode cX1_pivotRow 11 = .ok (.iload_n 3, 1) := by decide +kernel
theorem dX1_pivotRow_12 : decode cX1_pivotRow 12 = .ok (.iload_n 1, 1) := by decide +kernel
theorem dX1_pivotRow_13 : decode cX1_pivotRow 13 = .ok (.imul, 1) := by decide +kernel
theorem dX1_pivotRow_14 : decode cX1_pivotRow 14 = .ok (.iload_n 2, 1) := by decide +kernel
theorem dX1_pivotRow_15 : decode cX1_pivotRow 15 = .ok (.iadd, 1) := by decide +kernel
theorem dX1_pivotRow_16 : decode cX1_pivotRow 16 = .ok (.laload, 1) := by decide +kernel
theorem dX1_pivotRow_17 : decode cX1_pivotRow 17 = .ok (.lconst 0, 1) := by decide +kernel
theorem dX1_pivotRow_18 : decode cX1_pivotRow 18 = .ok (.lcmp, 1) := by decide +kernel
theorem dX1_pivotRow_19 : decode cX1_pivotRow 19 = .ok (.ifCond .eq 5, 3) := by decide +kernel
theorem dX1_pivotRow_22 : decode cX1_pivotRow 22 = .ok (.iload_n 3, 1) := by decide +kernel
theorem dX1_pivotRow_23 : decode cX1_pivotRow 23 = .ok (.ireturn, 1) := by decide +kernel
theorem dX1_pivotRow_24 : decode cX1_pivotRow 24 = .ok (.iinc 3 1, 3) := by decide +kernel
theorem dX1_pivotRow_27 : decode cX1_pivotRow 27 = .ok (.goto (-25), 3) := by decide +kernel
theorem dX1_pivotRow_30 : decode cX1_pivotRow 30 = .ok (.iconst (-1), 1) := by decide +kernel
theorem dX1_pivotRow_31 : decode cX1_pivotRow 31 = .ok (.ireturn, 1) := by decide +kernel
theorem dX1_exchangeCells_0 : decode cX1_exchangeCells 0 = .ok (.iconst 0, 1) := by decide +kernel
theorem dX1_exchangeCells_1 : decode cX1_exchangeCells 1 = .ok (.istore 4, 2) := by decide +kernel
theorem dX1_exchangeCells_3 : decode cX1_exchangeCells 3 = .ok (.iload 4, 2) := by decide +kernel
theorem dX1_exchangeCells_5 : decode cX1_exchangeCells 5 = .ok (.iload_n 1, 1) := by decide +kernel
theorem dX1_exchangeCells_6 : decode cX1_exchangeCells 6 = .ok (.if_icmp .ge 57, 3) := by decide +kernel
theorem dX1_exchangeCells_9 : decode cX1_exchangeCells 9 = .ok (.aload_n 0, 1) := by decide +kernel
theorem dX1_exchangeCells_10 : decode cX1_exchangeCells 10 = .ok (.getfield 9, 3) := by decide +kernel
theorem dX1_exchangeCells_13 : decode cX1_exchangeCells 13 = .ok (.iload_n 2, 1) := by decide +kernel
theorem dX1_exchangeCells_14 : decode cX1_exchangeCells 14 = .ok (.iload_n 1, 1) := by decide +kernel
theorem dX1_exchangeCells_15 : decode cX1_exchangeCells 15 = .ok (.imul, 1) := by decide +kernel
theorem dX1_exchangeCells_16 : decode cX1_exchangeCells 16 = .ok (.iload 4, 2) := by decide +kernel
theorem dX1_exchangeCells_18 : decode cX1_exchangeCells 18 = .ok (.iadd, 1) := by decide +kernel
theorem dX1_exchangeCells_19 : decode cX1_exchangeCells 19 = .ok (.laload, 1) := by decide +kernel
theorem dX1_exchangeCells_20 : decode cX1_exchangeCells 20 = .ok (.lstore 5, 2) := by decide +kernel
theorem dX1_exchangeCells_22 : decode cX1_exchangeCells 22 = .ok (.aload_n 0, 1) := by decide +kernel
theorem dX1_exchangeCells_23 : decode cX1_exchangeCells 23 = .ok (.getfield 9, 3) := by decide +kernel
theorem dX1_exchangeCells_26 : decode cX1_exchangeCells 26 = .ok (.iload_n 2, 1) := by decide +kernel
theorem dX1_exchangeCells_27 : decode cX1_exchangeCells 27 = .ok (.iload_n 1, 1) := by decide +kernel
theorem dX1_exchangeCells_28 : decode cX1_exchangeCells 28 = .ok (.imul, 1) := by decide +kernel
theorem dX1_exchangeCells_29 : decode cX1_exchangeCells 29 = .ok (.iload 4, 2) := by decide +kernel
theorem dX1_exchangeCells_31 : decode cX1_exchangeCells 31 = .ok (.iadd, 1) := by decide +kernel
theorem dX1_exchangeCells_32 : decode cX1_exchangeCells 32 = .ok (.aload_n 0, 1) := by decide +kernel
theorem dX1_exchangeCells_33 : decode cX1_exchangeCells 33 = .ok (.getfield 9, 3) := by decide +kernel
theorem dX1_exchangeCells_36 : decode cX1_exchangeCells 36 = .ok (.iload_n 3, 1) := by decide +kernel
theorem dX1_exchangeCells_37 : decode cX1_exchangeCells 37 = .ok (.iload_n 1, 1) := by decide +kernel
theorem dX1_exchangeCells_38 : decode cX1_exchangeCells 38 = .ok (.imul, 1) := by decide +kernel
theorem dX1_exchangeCells_39 : decode cX1_exchangeCells 39 = .ok (.iload 4, 2) := by decide +kernel
theorem dX1_exchangeCells_41 : decode cX1_exchangeCells 41 = .ok (.iadd, 1) := by decide +kernel
theorem dX1_exchangeCells_42 : decode cX1_exchangeCells 42 = .ok (.laload, 1) := by decide +kernel
theorem dX1_exchangeCells_43 : decode cX1_exchangeCells 43 = .ok (.lastore, 1) := by decide +kernel
theorem dX1_exchangeCells_44 : decode cX1_exchangeCells 44 = .ok (.aload_n 0, 1) := by decide +kernel
theorem dX1_exchangeCells_45 : decode cX1_exchangeCells 45 = .ok (.getfield 9, 3) := by decide +kernel
theorem dX1_exchangeCells_48 : decode cX1_exchangeCells 48 = .ok (.iload_n 3, 1) := by decide +kernel
theorem dX1_exchangeCells_49 : decode cX1_exchangeCells 49 = .ok (.iload_n 1, 1) := by decide +kernel
theorem dX1_exchangeCells_50 : decode cX1_exchangeCells 50 = .ok (.imul, 1) := by decide +kernel
theorem dX1_exchangeCells_51 : decode cX1_exchangeCells 51 = .ok (.iload 4, 2) := by decide +kernel
theorem dX1_exchangeCells_53 : decode cX1_exchangeCells 53 = .ok (.iadd, 1) := by decide +kernel
theorem dX1_exchangeCells_54 : decode cX1_exchangeCells 54 = .ok (.lload 5, 2) := by decide +kernel
theorem dX1_exchangeCells_56 : decode cX1_exchangeCells 56 = .ok (.lastore, 1) := by decide +kernel
theorem dX1_exchangeCells_57 : decode cX1_exchangeCells 57 = .ok (.iinc 4 1, 3) := by decide +kernel
theorem dX1_exchangeCells_60 : decode cX1_exchangeCells 60 = .ok (.goto (-57), 3) := by decide +kernel
theorem dX1_exchangeCells_63 : decode cX1_exchangeCells 63 = .ok (.return_, 1) := by decide +kernel
theorem dX1_clearBelow_0 : decode cX1_clearBelow 0 = .ok (.lload_n 3, 1) := by decide +kernel
theorem dX1_clearBelow_1 : decode cX1_clearBelow 1 = .ok (.lconst 0, 1) := by decide +kernel
theorem dX1_clearBelow_2 : decode cX1_clearBelow 2 = .ok (.lcmp, 1) := by decide +kernel
theorem dX1_clearBelow_3 : decode cX1_clearBelow 3 = .ok (.ifCond .ne 4, 3) := by decide +kernel
theorem dX1_clearBelow_6 : decode cX1_clearBelow 6 = .ok (.return_, 1) := by decide +kernel
theorem dX1_clearBelow_7 : decode cX1_clearBelow 7 = .ok (.iload_n 2, 1) := by decide +kernel
theorem dX1_clearBelow_8 : decode cX1_clearBelow 8 = .ok (.iconst 1, 1) := by decide +kernel
theorem dX1_clearBelow_9 : decode cX1_clearBelow 9 = .ok (.iadd, 1) := by decide +kernel
theorem dX1_clearBelow_10 : decode cX1_clearBelow 10 = .ok (.istore 5, 2) := by decide +kernel
theorem dX1_clearBelow_12 : decode cX1_clearBelow 12 = .ok (.iload 5, 2) := by decide +kernel
theorem dX1_clearBelow_14 : decode cX1_clearBelow 14 = .ok (.iload_n 1, 1) := by decide +kernel
theorem dX1_clearBelow_15 : decode cX1_clearBelow 15 = .ok (.if_icmp .ge 91, 3) := by decide +kernel
theorem dX1_clearBelow_18 : decode cX1_clearBelow 18 = .ok (.iload_n 2, 1) := by decide +kernel
theorem dX1_clearBelow_19 : decode cX1_clearBelow 19 = .ok (.iconst 1, 1) := by decide +kernel
theorem dX1_clearBelow_20 : decode cX1_clearBelow 20 = .ok (.iadd, 1) := by decide +kernel
theorem dX1_clearBelow_21 : decode cX1_clearBelow 21 = .ok (.istore 6, 2) := by decide +kernel
theorem dX1_clearBelow_23 : decode cX1_clearBelow 23 = .ok (.iload 6, 2) := by decide +kernel
theorem dX1_clearBelow_25 : decode cX1_clearBelow 25 = .ok (.iload_n 1, 1) := by decide +kernel
theorem dX1_clearBelow_26 : decode cX1_clearBelow 26 = .ok (.if_icmp .ge 74, 3) := by decide +kernel
theorem dX1_clearBelow_29 : decode cX1_clearBelow 29 = .ok (.aload_n 0, 1) := by decide +kernel
theorem dX1_clearBelow_30 : decode cX1_clearBelow 30 = .ok (.getfield 9, 3) := by decide +kernel
theorem dX1_clearBelow_33 : decode cX1_clearBelow 33 = .ok (.iload 5, 2) := by decide +kernel
theorem dX1_clearBelow_35 : decode cX1_clearBelow 35 = .ok (.iload_n 1, 1) := by decide +kernel
theorem dX1_clearBelow_36 : decode cX1_clearBelow 36 = .ok (.imul, 1) := by decide +kernel
theorem dX1_clearBelow_37 : decode cX1_clearBelow 37 = .ok (.iload 6, 2) := by decide +kernel
theorem dX1_clearBelow_39 : decode cX1_clearBelow 39 = .ok (.iadd, 1) := by decide +kernel
theorem dX1_clearBelow_40 : decode cX1_clearBelow 40 = .ok (.laload, 1) := by decide +kernel
theorem dX1_clearBelow_41 : decode cX1_clearBelow 41 = .ok (.aload_n 0, 1) := by decide +kernel
theorem dX1_clearBelow_42 : decode cX1_clearBelow 42 = .ok (.getfield 9, 3) := by decide +kernel
theorem dX1_clearBelow_45 : decode cX1_clearBelow 45 = .ok (.iload_n 2, 1) := by decide +kernel
theorem dX1_clearBelow_46 : decode cX1_clearBelow 46 = .ok (.iload_n 1, 1) := by decide +kernel
theorem dX1_clearBelow_47 : decode cX1_clearBelow 47 = .ok (.imul, 1) := by decide +kernel
theorem dX1_clearBelow_48 : decode cX1_clearBelow 48 = .ok (.iload_n 2, 1) := by decide +kernel
theorem dX1_clearBelow_49 : decode cX1_clearBelow 49 = .ok (.iadd, 1) := by decide +kernel
theorem dX1_clearBelow_50 : decode cX1_clearBelow 50 = .ok (.laload, 1) := by decide +kernel
theorem dX1_clearBelow_51 : decode cX1_clearBelow 51 = .ok (.lmul, 1) := by decide +kernel
theorem dX1_clearBelow_52 : decode cX1_clearBelow 52 = .ok (.aload_n 0, 1) := by decide +kernel
theorem dX1_clearBelow_53 : decode cX1_clearBelow 53 = .ok (.getfield 9, 3) := by decide +kernel
theorem dX1_clearBelow_56 : decode cX1_clearBelow 56 = .ok (.iload 5, 2) := by decide +kernel
theorem dX1_clearBelow_58 : decode cX1_clearBelow 58 = .ok (.iload_n 1, 1) := by decide +kernel
theorem dX1_clearBelow_59 : decode cX1_clearBelow 59 = .ok (.imul, 1) := by decide +kernel
theorem dX1_clearBelow_60 : decode cX1_clearBelow 60 = .ok (.iload_n 2, 1) := by decide +kernel
theorem dX1_clearBelow_61 : decode cX1_clearBelow 61 = .ok (.iadd, 1) := by decide +kernel
theorem dX1_clearBelow_62 : decode cX1_clearBelow 62 = .ok (.laload, 1) := by decide +kernel
theorem dX1_clearBelow_63 : decode cX1_clearBelow 63 = .ok (.aload_n 0, 1) := by decide +kernel
theorem dX1_clearBelow_64 : decode cX1_clearBelow 64 = .ok (.getfield 9, 3) := by decide +kernel
theorem dX1_clearBelow_67 : decode cX1_clearBelow 67 = .ok (.iload_n 2, 1) := by decide +kernel
theorem dX1_clearBelow_68 : decode cX1_clearBelow 68 = .ok (.iload_n 1, 1) := by decide +kernel
theorem dX1_clearBelow_69 : decode cX1_clearBelow 69 = .ok (.imul, 1) := by decide +kernel
theorem dX1_clearBelow_70 : decode cX1_clearBelow 70 = .ok (.iload 6, 2) := by decide +kernel
theorem dX1_clearBelow_72 : decode cX1_clearBelow 72 = .ok (.iadd, 1) := by decide +kernel
theorem dX1_clearBelow_73 : decode cX1_clearBelow 73 = .ok (.laload, 1) := by decide +kernel
theorem dX1_clearBelow_74 : decode cX1_clearBelow 74 = .ok (.lmul, 1) := by decide +kernel
theorem dX1_clearBelow_75 : decode cX1_clearBelow 75 = .ok (.lsub, 1) := by decide +kernel
theorem dX1_clearBelow_76 : decode cX1_clearBelow 76 = .ok (.lstore 7, 2) := by decide +kernel
theorem dX1_clearBelow_78 : decode cX1_clearBelow 78 = .ok (.aload_n 0, 1) := by decide +kernel
theorem dX1_clearBelow_79 : decode cX1_clearBelow 79 = .ok (.getfield 9, 3) := by decide +kernel
theorem dX1_clearBelow_82 : decode cX1_clearBelow 82 = .ok (.iload 5, 2) := by decide +kernel
theorem dX1_clearBelow_84 : decode cX1_clearBelow 84 = .ok (.iload_n 1, 1) := by decide +kernel
theorem dX1_clearBelow_85 : decode cX1_clearBelow 85 = .ok (.imul, 1) := by decide +kernel
theorem dX1_clearBelow_86 : decode cX1_clearBelow 86 = .ok (.iload 6, 2) := by decide +kernel
theorem dX1_clearBelow_88 : decode cX1_clearBelow 88 = .ok (.iadd, 1) := by decide +kernel
theorem dX1_clearBelow_89 : decode cX1_clearBelow 89 = .ok (.lload 7, 2) := by decide +kernel
theorem dX1_clearBelow_91 : decode cX1_clearBelow 91 = .ok (.lload_n 3, 1) := by decide +kernel
theorem dX1_clearBelow_92 : decode cX1_clearBelow 92 = .ok (.ldiv, 1) := by decide +kernel
theorem dX1_clearBelow_93 : decode cX1_clearBelow 93 = .ok (.lastore, 1) := by decide +kernel
theorem dX1_clearBelow_94 : decode cX1_clearBelow 94 = .ok (.iinc 6 1, 3) := by decide +kernel
theorem dX1_clearBelow_97 : decode cX1_clearBelow 97 = .ok (.goto (-74), 3) := by decide +kernel
theorem dX1_clearBelow_100 : decode cX1_clearBelow 100 = .ok (.iinc 5 1, 3) := by decide +kernel
theorem dX1_clearBelow_103 : decode cX1_clearBelow 103 = .ok (.goto (-91), 3) := by decide +kernel
theorem dX1_clearBelow_106 : decode cX1_clearBelow 106 = .ok (.return_, 1) := by decide +kernel
theorem dX2_prime_0 : decode cX2_prime 0 = .ok (.iload_n 0, 1) := by decide +kernel
theorem dX2_prime_1 : decode cX2_prime 1 = .ok (.tableswitch 121 3 27 #[115, 121, 115, 121, 115, 121, 117, 121, 115, 121, 115, 121, 121, 121, 115, 121, 115, 121, 121, 121, 115, 121, 119, 121, 117], 115) := by decide +kernel
theorem dX2_prime_116 : decode cX2_prime 116 = .ok (.iload_n 0, 1) := by decide +kernel
theorem dX2_prime_117 : decode cX2_prime 117 = .ok (.ireturn, 1) := by decide +kernel
theorem dX2_prime_118 : decode cX2_prime 118 = .ok (.iconst 3, 1) := by decide +kernel
theorem dX2_prime_119 : decode cX2_prime 119 = .ok (.ireturn, 1) := by decide +kernel
theorem dX2_prime_120 : decode cX2_prime 120 = .ok (.iconst 5, 1) := by decide +kernel
theorem dX2_prime_121 : decode cX2_prime 121 = .ok (.ireturn, 1) := by decide +kernel
theorem dX2_prime_122 : decode cX2_prime 122 = .ok (.iconst 0, 1) := by decide +kernel
theorem dX2_prime_123 : decode cX2_prime 123 = .ok (.ireturn, 1) := by decide +kernel
theorem dX2_total_0 : decode cX2_total 0 = .ok (.iload_n 0, 1) := by decide +kernel
theorem dX2_total_1 : decode cX2_total 1 = .ok (.invokestatic 7, 3) := by decide +kernel
theorem dX2_total_4 : decode cX2_total 4 = .ok (.istore_n 3, 1) := by decide +kernel
theorem dX2_total_5 : decode cX2_total 5 = .ok (.iload_n 3, 1) := by decide +kernel
theorem dX2_total_6 : decode cX2_total 6 = .ok (.ifCond .ne 5, 3) := by decide +kernel
theorem dX2_total_9 : decode cX2_total 9 = .ok (.iconst 0, 1) := by decide +kernel
theorem dX2_total_10 : decode cX2_total 10 = .ok (.ireturn, 1) := by decide +kernel
theorem dX2_total_11 : decode cX2_total 11 = .ok (.iload_n 3, 1) := by decide +kernel
theorem dX2_total_12 : decode cX2_total 12 = .ok (.iload_n 1, 1) := by decide +kernel
theorem dX2_total_13 : decode cX2_total 13 = .ok (.iload_n 2, 1) := by decide +kernel
theorem dX2_total_14 : decode cX2_total 14 = .ok (.iadd, 1) := by decide +kernel
theorem dX2_total_15 : decode cX2_total 15 = .ok (.iload_n 1, 1) := by decide +kernel
theorem dX2_total_16 : decode cX2_total 16 = .ok (.iload_n 3, 1) := by decide +kernel
theorem dX2_total_17 : decode cX2_total 17 = .ok (.idiv, 1) := by decide +kernel
theorem dX2_total_18 : decode cX2_total 18 = .ok (.iload_n 2, 1) := by decide +kernel
theorem dX2_total_19 : decode cX2_total 19 = .ok (.iload_n 3, 1) := by decide +kernel
theorem dX2_total_20 : decode cX2_total 20 = .ok (.idiv, 1) := by decide +kernel
theorem dX2_total_21 : decode cX2_total 21 = .ok (.iadd, 1) := by decide +kernel
theorem dX2_total_22 : decode cX2_total 22 = .ok (.iload_n 1, 1) := by decide +kernel
theorem dX2_total_23 : decode cX2_total 23 = .ok (.iload_n 3, 1) := by decide +kernel
theorem dX2_total_24 : decode cX2_total 24 = .ok (.idiv, 1) := by decide +kernel
theorem dX2_total_25 : decode cX2_total 25 = .ok (.iload_n 3, 1) := by decide +kernel
theorem dX2_total_26 : decode cX2_total 26 = .ok (.idiv, 1) := by decide +kernel
theorem dX2_total_27 : decode cX2_total 27 = .ok (.iload_n 2, 1) := by decide +kernel
theorem dX2_total_28 : decode cX2_total 28 = .ok (.iload_n 3, 1) := by decide +kernel
theorem dX2_total_29 : decode cX2_total 29 = .ok (.idiv, 1) := by decide +kernel
theorem dX2_total_30 : decode cX2_total 30 = .ok (.iload_n 3, 1) := by decide +kernel
theorem dX2_total_31 : decode cX2_total 31 = .ok (.idiv, 1) := by decide +kernel
theorem dX2_total_32 : decode cX2_total 32 = .ok (.iadd, 1) := by decide +kernel
theorem dX2_total_33 : decode cX2_total 33 = .ok (.invokestatic 13, 3) := by decide +kernel
theorem dX2_total_36 : decode cX2_total 36 = .ok (.ireturn, 1) := by decide +kernel
theorem dX2_difference_0 : decode cX2_difference 0 = .ok (.iload_n 0, 1) := by decide +kernel
theorem dX2_difference_1 : decode cX2_difference 1 = .ok (.invokestatic 7, 3) := by decide +kernel
theorem dX2_difference_4 : decode cX2_difference 4 = .ok (.istore_n 3, 1) := by decide +kernel
theorem dX2_difference_5 : decode cX2_difference 5 = .ok (.iload_n 3, 1) := by decide +kernel
theorem dX2_difference_6 : decode cX2_difference 6 = .ok (.ifCond .ne 5, 3) := by decide +kernel
theorem dX2_difference_9 : decode cX2_difference 9 = .ok (.iconst 0, 1) := by decide +kernel
theorem dX2_difference_10 : decode cX2_difference 10 = .ok (.ireturn, 1) := by decide +kernel
theorem dX2_difference_11 : decode cX2_difference 11 = .ok (.iload_n 3, 1) := by decide +kernel
theorem dX2_difference_12 : decode cX2_difference 12 = .ok (.iload_n 1, 1) := by decide +kernel
theorem dX2_difference_13 : decode cX2_difference 13 = .ok (.iload_n 2, 1) := by decide +kernel
theorem dX2_difference_14 : decode cX2_difference 14 = .ok (.isub, 1) := by decide +kernel
theorem dX2_difference_15 : decode cX2_difference 15 = .ok (.iload_n 1, 1) := by decide +kernel
theorem dX2_difference_16 : decode cX2_difference 16 = .ok (.iload_n 3, 1) := by decide +kernel
theorem dX2_difference_17 : decode cX2_difference 17 = .ok (.idiv, 1) := by decide +kernel
theorem dX2_difference_18 : decode cX2_difference 18 = .ok (.iload_n 2, 1) := by decide +kernel
theorem dX2_difference_19 : decode cX2_difference 19 = .ok (.iload_n 3, 1) := by decide +kernel
theorem dX2_difference_20 : decode cX2_difference 20 = .ok (.idiv, 1) := by decide +kernel
theorem dX2_difference_21 : decode cX2_difference 21 = .ok (.isub, 1) := by decide +kernel
theorem dX2_difference_22 : decode cX2_difference 22 = .ok (.iload_n 1, 1) := by decide +kernel
theorem dX2_difference_23 : decode cX2_difference 23 = .ok (.iload_n 3, 1) := by decide +kernel
theorem dX2_difference_24 : decode cX2_difference 24 = .ok (.idiv, 1) := by decide +kernel
theorem dX2_difference_25 : decode cX2_difference 25 = .ok (.iload_n 3, 1) := by decide +kernel
theorem dX2_difference_26 : decode cX2_difference 26 = .ok (.idiv, 1) := by decide +kernel
theorem dX2_difference_27 : decode cX2_difference 27 = .ok (.iload_n 2, 1) := by decide +kernel
theorem dX2_difference_28 : decode cX2_difference 28 = .ok (.iload_n 3, 1) := by decide +kernel
theorem dX2_difference_29 : decode cX2_difference 29 = .ok (.idiv, 1) := by decide +kernel
theorem dX2_difference_30 : decode cX2_difference 30 = .ok (.iload_n 3, 1) := by decide +kernel
theorem dX2_difference_31 : decode cX2_difference 31 = .ok (.idiv, 1) := by decide +kernel
theorem dX2_difference_32 : decode cX2_difference 32 = .ok (.isub, 1) := by decide +kernel
theorem dX2_difference_33 : decode cX2_difference 33 = .ok (.invokestatic 13, 3) := by decide +kernel
theorem dX2_difference_36 : decode cX2_difference 36 = .ok (.ireturn, 1) := by decide +kernel
theorem dX2_times_0 : decode cX2_times 0 = .ok (.iload_n 0, 1) := by decide +kernel
theorem dX2_times_1 : decode cX2_times 1 = .ok (.invokestatic 7, 3) := by decide +kernel
theorem dX2_times_4 : decode cX2_times 4 = .ok (.istore_n 3, 1) := by decide +kernel
theorem dX2_times_5 : decode cX2_times 5 = .ok (.iload_n 3, 1) := by decide +kernel
theorem dX2_times_6 : decode cX2_times 6 = .ok (.ifCond .ne 5, 3) := by decide +kernel
theorem dX2_times_9 : decode cX2_times 9 = .ok (.iconst 0, 1) := by decide +kernel
theorem dX2_times_10 : decode cX2_times 10 = .ok (.ireturn, 1) := by decide +kernel
theorem dX2_times_11 : decode cX2_times 11 = .ok (.iload_n 1, 1) := by decide +kernel
theorem dX2_times_12 : decode cX2_times 12 = .ok (.iload_n 3, 1) := by decide +kernel
theorem dX2_times_13 : decode cX2_times 13 = .ok (.irem, 1) := by decide +kernel
theorem dX2_times_14 : decode cX2_times 14 = .ok (.istore 4, 2) := by decide +kernel
theorem dX2_times_16 : decode cX2_times 16 = .ok (.iload_n 1, 1) := by decide +kernel
theorem dX2_times_17 : decode cX2_times 17 = .ok (.iload_n 3, 1) := by decide +kernel
theorem dX2_times_18 : decode cX2_times 18 = .ok (.idiv, 1) := by decide +kernel
theorem dX2_times_19 : decode cX2_times 19 = .ok (.iload_n 3, 1) := by decide +kernel
theorem dX2_times_20 : decode cX2_times 20 = .ok (.irem, 1) := by decide +kernel
theorem dX2_times_21 : decode cX2_times 21 = .ok (.istore 5, 2) := by decide +kernel
theorem dX2_times_23 : decode cX2_times 23 = .ok (.iload_n 1, 1) := by decide +kernel
theorem dX2_times_24 : decode cX2_times 24 = .ok (.iload_n 3, 1) := by decide +kernel
theorem dX2_times_25 : decode cX2_times 25 = .ok (.idiv, 1) := by decide +kernel
theorem dX2_times_26 : decode cX2_times 26 = .ok (.iload_n 3, 1) := by decide +kernel
theorem dX2_times_27 : decode cX2_times 27 = .ok (.idiv, 1) := by decide +kernel
theorem dX2_times_28 : decode cX2_times 28 = .ok (.istore 6, 2) := by decide +kernel
theorem dX2_times_30 : decode cX2_times 30 = .ok (.iload_n 2, 1) := by decide +kernel
theorem dX2_times_31 : decode cX2_times 31 = .ok (.iload_n 3, 1) := by decide +kernel
theorem dX2_times_32 : decode cX2_times 32 = .ok (.irem, 1) := by decide +kernel
theorem dX2_times_33 : decode cX2_times 33 = .ok (.istore 7, 2) := by decide +kernel
theorem dX2_times_35 : decode cX2_times 35 = .ok (.iload_n 2, 1) := by decide +kernel
theorem dX2_times_36 : decode cX2_times 36 = .ok (.iload_n 3, 1) := by decide +kernel
theorem dX2_times_37 : decode cX2_times 37 = .ok (.idiv, 1) := by decide +kernel
theorem dX2_times_38 : decode cX2_times 38 = .ok (.iload_n 3, 1) := by decide +kernel
theorem dX2_times_39 : decode cX2_times 39 = .ok (.irem, 1) := by decide +kernel
theorem dX2_times_40 : decode cX2_times 40 = .ok (.istore 8, 2) := by decide +kernel
theorem dX2_times_42 : decode cX2_times 42 = .ok (.iload_n 2, 1) := by decide +kernel
theorem dX2_times_43 : decode cX2_times 43 = .ok (.iload_n 3, 1) := by decide +kernel
theorem dX2_times_44 : decode cX2_times 44 = .ok (.idiv, 1) := by decide +kernel
theorem dX2_times_45 : decode cX2_times 45 = .ok (.iload_n 3, 1) := by decide +kernel
theorem dX2_times_46 : decode cX2_times 46 = .ok (.idiv, 1) := by decide +kernel
theorem dX2_times_47 : decode cX2_times 47 = .ok (.istore 9, 2) := by decide +kernel
theorem dX2_times_49 : decode cX2_times 49 = .ok (.iload 4, 2) := by decide +kernel
theorem dX2_times_51 : decode cX2_times 51 = .ok (.iload 7, 2) := by decide +kernel
theorem dX2_times_53 : decode cX2_times 53 = .ok (.imul, 1) := by decide +kernel
theorem dX2_times_54 : decode cX2_times 54 = .ok (.istore 10, 2) := by decide +kernel
theorem dX2_times_56 : decode cX2_times 56 = .ok (.iload 4, 2) := by decide +kernel
theorem dX2_times_58 : decode cX2_times 58 = .ok (.iload 8, 2) := by decide +kernel
theorem dX2_times_60 : decode cX2_times 60 = .ok (.imul, 1) := by decide +kernel
theorem dX2_times_61 : decode cX2_times 61 = .ok (.iload 5, 2) := by decide +kernel
theorem dX2_times_63 : decode cX2_times 63 = .ok (.iload 7, 2) := by decide +kernel
theorem dX2_times_65 : decode cX2_times 65 = .ok (.imul, 1) := by decide +kernel
theorem dX2_times_66 : decode cX2_times 66 = .ok (.iadd, 1) := by decide +kernel
theorem dX2_times_67 : decode cX2_times 67 = .ok (.istore 11, 2) := by decide +kernel
theorem dX2_times_69 : decode cX2_times 69 = .ok (.iload 4, 2) := by decide +kernel
theorem dX2_times_71 : decode cX2_times 71 = .ok (.iload 9, 2) := by decide +kernel
theorem dX2_times_73 : decode cX2_times 73 = .ok (.imul, 1) := by decide +kernel
theorem dX2_times_74 : decode cX2_times 74 = .ok (.iload 5, 2) := by decide +kernel
theorem dX2_times_76 : decode cX2_times 76 = .ok (.iload 8, 2) := by decide +kernel
theorem dX2_times_78 : decode cX2_times 78 = .ok (.imul, 1) := by decide +kernel
theorem dX2_times_79 : decode cX2_times 79 = .ok (.iadd, 1) := by decide +kernel
theorem dX2_times_80 : decode cX2_times 80 = .ok (.iload 6, 2) := by decide +kernel
theorem dX2_times_82 : decode cX2_times 82 = .ok (.iload 7, 2) := by decide +kernel
theorem dX2_times_84 : decode cX2_times 84 = .ok (.imul, 1) := by decide +kernel
theorem dX2_times_85 : decode cX2_times 85 = .ok (.iadd, 1) := by decide +kernel
theorem dX2_times_86 : decode cX2_times 86 = .ok (.istore 12, 2) := by decide +kernel
theorem dX2_times_88 : decode cX2_times 88 = .ok (.iload_n 0, 1) := by decide +kernel
theorem dX2_times_89 : decode cX2_times 89 = .ok (.bipush 27, 2) := by decide +kernel
theorem dX2_times_91 : decode cX2_times 91 = .ok (.if_icmp .eq 18, 3) := by decide +kernel
theorem dX2_times_94 : decode cX2_times 94 = .ok (.iload_n 3, 1) := by decide +kernel
theorem dX2_times_95 : decode cX2_times 95 = .ok (.iload 10, 2) := by decide +kernel
theorem dX2_times_97 : decode cX2_times 97 = .ok (.iconst 2, 1) := by decide +kernel
theorem dX2_times_98 : decode cX2_times 98 = .ok (.iload 12, 2) := by decide +kernel
theorem dX2_times_100 : decode cX2_times 100 = .ok (.imul, 1) := by decide +kernel
theorem dX2_times_101 : decode cX2_times 101 = .ok (.iadd, 1) := by decide +kernel
theorem dX2_times_102 : decode cX2_times 102 = .ok (.iload 11, 2) := by decide +kernel
theorem dX2_times_104 : decode cX2_times 104 = .ok (.iconst 0, 1) := by decide +kernel
theorem dX2_times_105 : decode cX2_times 105 = .ok (.invokestatic 13, 3) := by decide +kernel
theorem dX2_times_108 : decode cX2_times 108 = .ok (.ireturn, 1) := by decide +kernel
theorem dX2_times_109 : decode cX2_times 109 = .ok (.iload 5, 2) := by decide +kernel
theorem dX2_times_111 : decode cX2_times 111 = .ok (.iload 9, 2) := by decide +kernel
theorem dX2_times_113 : decode cX2_times 113 = .ok (.imul, 1) := by decide +kernel
theorem dX2_times_114 : decode cX2_times 114 = .ok (.iload 6, 2) := by decide +kernel
theorem dX2_times_116 : decode cX2_times 116 = .ok (.iload 8, 2) := by decide +kernel
theorem dX2_times_118 : decode cX2_times 118 = .ok (.imul, 1) := by decide +kernel
theorem dX2_times_119 : decode cX2_times 119 = .ok (.iadd, 1) := by decide +kernel
theorem dX2_times_120 : decode cX2_times 120 = .ok (.istore 13, 2) := by decide +kernel
theorem dX2_times_122 : decode cX2_times 122 = .ok (.iload 6, 2) := by decide +kernel
theorem dX2_times_124 : decode cX2_times 124 = .ok (.iload 9, 2) := by decide +kernel
theorem dX2_times_126 : decode cX2_times 126 = .ok (.imul, 1) := by decide +kernel
theorem dX2_times_127 : decode cX2_times 127 = .ok (.istore 14, 2) := by decide +kernel
theorem dX2_times_129 : decode cX2_times 129 = .ok (.iload_n 3, 1) := by decide +kernel
theorem dX2_times_130 : decode cX2_times 130 = .ok (.iload 10, 2) := by decide +kernel
theorem dX2_times_132 : decode cX2_times 132 = .ok (.iload 13, 2) := by decide +kernel
theorem dX2_times_134 : decode cX2_times 134 = .ok (.iadd, 1) := by decide +kernel
theorem dX2_times_135 : decode cX2_times 135 = .ok (.iload 11, 2) := by decide +kernel
theorem dX2_times_137 : decode cX2_times 137 = .ok (.iload 13, 2) := by decide +kernel
theorem dX2_times_139 : decode cX2_times 139 = .ok (.iadd, 1) := by decide +kernel
theorem dX2_times_140 : decode cX2_times 140 = .ok (.iload 14, 2) := by decide +kernel
theorem dX2_times_142 : decode cX2_times 142 = .ok (.iadd, 1) := by decide +kernel
theorem dX2_times_143 : decode cX2_times 143 = .ok (.iload 12, 2) := by decide +kernel
theorem dX2_times_145 : decode cX2_times 145 = .ok (.iload 14, 2) := by decide +kernel
theorem dX2_times_147 : decode cX2_times 147 = .ok (.iadd, 1) := by decide +kernel
theorem dX2_times_148 : decode cX2_times 148 = .ok (.invokestatic 13, 3) := by decide +kernel
theorem dX2_times_151 : decode cX2_times 151 = .ok (.ireturn, 1) := by decide +kernel
theorem dX2_squares_0 : decode cX2_squares 0 = .ok (.iconst 0, 1) := by decide +kernel
theorem dX2_squares_1 : decode cX2_squares 1 = .ok (.istore_n 1, 1) := by decide +kernel
theorem dX2_squares_2 : decode cX2_squares 2 = .ok (.iconst 1, 1) := by decide +kernel
theorem dX2_squares_3 : decode cX2_squares 3 = .ok (.istore_n 2, 1) := by decide +kernel
theorem dX2_squares_4 : decode cX2_squares 4 = .ok (.iload_n 2, 1) := by decide +kernel
theorem dX2_squares_5 : decode cX2_squares 5 = .ok (.iload_n 0, 1) := by decide +kernel
theorem dX2_squares_6 : decode cX2_squares 6 = .ok (.if_icmp .ge 20, 3) := by decide +kernel
theorem dX2_squares_9 : decode cX2_squares 9 = .ok (.iload_n 1, 1) := by decide +kernel
theorem dX2_squares_10 : decode cX2_squares 10 = .ok (.iconst 1, 1) := by decide +kernel
theorem dX2_squares_11 : decode cX2_squares 11 = .ok (.iload_n 0, 1) := by decide +kernel
theorem dX2_squares_12 : decode cX2_squares 12 = .ok (.iload_n 2, 1) := by decide +kernel
theorem dX2_squares_13 : decode cX2_squares 13 = .ok (.iload_n 2, 1) := by decide +kernel
theorem dX2_squares_14 : decode cX2_squares 14 = .ok (.invokestatic 17, 3) := by decide +kernel
theorem dX2_squares_17 : decode cX2_squares 17 = .ok (.ishl, 1) := by decide +kernel
theorem dX2_squares_18 : decode cX2_squares 18 = .ok (.ior, 1) := by decide +kernel
theorem dX2_squares_19 : decode cX2_squares 19 = .ok (.istore_n 1, 1) := by decide +kernel
theorem dX2_squares_20 : decode cX2_squares 20 = .ok (.iinc 2 1, 3) := by decide +kernel
theorem dX2_squares_23 : decode cX2_squares 23 = .ok (.goto (-19), 3) := by decide +kernel
theorem dX2_squares_26 : decode cX2_squares 26 = .ok (.iload_n 1, 1) := by decide +kernel
theorem dX2_squares_27 : decode cX2_squares 27 = .ok (.ireturn, 1) := by decide +kernel
theorem dX2_element_0 : decode cX2_element 0 = .ok (.iload_n 0, 1) := by decide +kernel
theorem dX2_element_1 : decode cX2_element 1 = .ok (.ifCond .gt 5, 3) := by decide +kernel
theorem dX2_element_4 : decode cX2_element 4 = .ok (.iconst 0, 1) := by decide +kernel
theorem dX2_element_5 : decode cX2_element 5 = .ok (.ireturn, 1) := by decide +kernel
theorem dX2_element_6 : decode cX2_element 6 = .ok (.iload_n 1, 1) := by decide +kernel
theorem dX2_element_7 : decode cX2_element 7 = .ok (.iload_n 0, 1) := by decide +kernel
theorem dX2_element_8 : decode cX2_element 8 = .ok (.invokestatic 21, 3) := by decide +kernel
theorem dX2_element_11 : decode cX2_element 11 = .ok (.iload_n 0, 1) := by decide +kernel
theorem dX2_element_12 : decode cX2_element 12 = .ok (.iload_n 2, 1) := by decide +kernel
theorem dX2_element_13 : decode cX2_element 13 = .ok (.iload_n 0, 1) := by decide +kernel
theorem dX2_element_14 : decode cX2_element 14 = .ok (.invokestatic 21, 3) := by decide +kernel
theorem dX2_element_17 : decode cX2_element 17 = .ok (.imul, 1) := by decide +kernel
theorem dX2_element_18 : decode cX2_element 18 = .ok (.iadd, 1) := by decide +kernel
theorem dX2_element_19 : decode cX2_element 19 = .ok (.iload_n 0, 1) := by decide +kernel
theorem dX2_element_20 : decode cX2_element 20 = .ok (.iload_n 0, 1) := by decide +kernel
theorem dX2_element_21 : decode cX2_element 21 = .ok (.imul, 1) := by decide +kernel
theorem dX2_element_22 : decode cX2_element 22 = .ok (.iload_n 3, 1) := by decide +kernel
theorem dX2_element_23 : decode cX2_element 23 = .ok (.iload_n 0, 1) := by decide +kernel
theorem dX2_element_24 : decode cX2_element 24 = .ok (.invokestatic 21, 3) := by decide +kernel
theorem dX2_element_27 : decode cX2_element 27 = .ok (.imul, 1) := by decide +kernel
theorem dX2_element_28 : decode cX2_element 28 = .ok (.iadd, 1) := by decide +kernel
theorem dX2_element_29 : decode cX2_element 29 = .ok (.ireturn, 1) := by decide +kernel
theorem dX3_init_0 : decode cX3_init 0 = .ok (.aload_n 0, 1) := by decide +kernel
theorem dX3_init_1 : decode cX3_init 1 = .ok (.invokespecial 3, 3) := by decide +kernel
theorem dX3_init_4 : decode cX3_init 4 = .ok (.aload_n 0, 1) := by decide +kernel
theorem dX3_init_5 : decode cX3_init 5 = .ok (.bipush 6, 2) := by decide +kernel
theorem dX3_init_7 : decode cX3_init 7 = .ok (.newarray .int, 2) := by decide +kernel
theorem dX3_init_9 : decode cX3_init 9 = .ok (.putfield 9, 3) := by decide +kernel
theorem dX3_init_12 : decode cX3_init 12 = .ok (.aload_n 0, 1) := by decide +kernel
theorem dX3_init_13 : decode cX3_init 13 = .ok (.bipush 42, 2) := by decide +kernel
theorem dX3_init_15 : decode cX3_init 15 = .ok (.newarray .int, 2) := by decide +kernel
theorem dX3_init_17 : decode cX3_init 17 = .ok (.putfield 15, 3) := by decide +kernel
theorem dX3_init_20 : decode cX3_init 20 = .ok (.aload_n 0, 1) := by decide +kernel
theorem dX3_init_21 : decode cX3_init 21 = .ok (.bipush 7, 2) := by decide +kernel
theorem dX3_init_23 : decode cX3_init 23 = .ok (.newarray .int, 2) := by decide +kernel
theorem dX3_init_25 : decode cX3_init 25 = .ok (.putfield 18, 3) := by decide +kernel
theorem dX3_init_28 : decode cX3_init 28 = .ok (.return_, 1) := by decide +kernel
theorem dX3_find_0 : decode cX3_find 0 = .ok (.aload_n 0, 1) := by decide +kernel
theorem dX3_find_1 : decode cX3_find 1 = .ok (.aload_n 1, 1) := by decide +kernel
theorem dX3_find_2 : decode cX3_find 2 = .ok (.getfield 21, 3) := by decide +kernel
theorem dX3_find_5 : decode cX3_find 5 = .ok (.putfield 27, 3) := by decide +kernel
theorem dX3_find_8 : decode cX3_find 8 = .ok (.aload_n 0, 1) := by decide +kernel
theorem dX3_find_9 : decode cX3_find 9 = .ok (.aload_n 1, 1) := by decide +kernel
theorem dX3_find_10 : decode cX3_find 10 = .ok (.getfield 30, 3) := by decide +kernel
theorem dX3_find_13 : decode cX3_find 13 = .ok (.putfield 33, 3) := by decide +kernel
theorem dX3_find_16 : decode cX3_find 16 = .ok (.aload_n 0, 1) := by decide +kernel
theorem dX3_find_17 : decode cX3_find 17 = .ok (.getfield 9, 3) := by decide +kernel
theorem dX3_find_20 : decode cX3_find 20 = .ok (.bipush 64, 2) := by decide +kernel
theorem dX3_find_22 : decode cX3_find 22 = .ok (.invokestatic 34, 3) := by decide +kernel
theorem dX3_find_25 : decode cX3_find 25 = .ok (.aload_n 0, 1) := by decide +kernel
theorem dX3_find_26 : decode cX3_find 26 = .ok (.getfield 9, 3) := by decide +kernel
theorem dX3_find_29 : decode cX3_find 29 = .ok (.iconst 0, 1) := by decide +kernel
theorem dX3_find_30 : decode cX3_find 30 = .ok (.iconst 0, 1) := by decide +kernel
theorem dX3_find_31 : decode cX3_find 31 = .ok (.iastore, 1) := by decide +kernel
theorem dX3_find_32 : decode cX3_find 32 = .ok (.aload_n 0, 1) := by decide +kernel
theorem dX3_find_33 : decode cX3_find 33 = .ok (.getfield 15, 3) := by decide +kernel
theorem dX3_find_36 : decode cX3_find 36 = .ok (.bipush 6, 2) := by decide +kernel
theorem dX3_find_38 : decode cX3_find 38 = .ok (.aload_n 1, 1) := by decide +kernel
theorem dX3_find_39 : decode cX3_find 39 = .ok (.invokevirtual 40, 3) := by decide +kernel
theorem dX3_find_42 : decode cX3_find 42 = .ok (.iastore, 1) := by decide +kernel
theorem dX3_find_43 : decode cX3_find 43 = .ok (.aload_n 0, 1) := by decide +kernel
theorem dX3_find_44 : decode cX3_find 44 = .ok (.getfield 18, 3) := by decide +kernel
theorem dX3_find_47 : decode cX3_find 47 = .ok (.iconst 1, 1) := by decide +kernel
theorem dX3_find_48 : decode cX3_find 48 = .ok (.iconst 1, 1) := by decide +kernel
theorem dX3_find_49 : decode cX3_find 49 = .ok (.iastore, 1) := by decide +kernel
theorem dX3_find_50 : decode cX3_find 50 = .ok (.iconst 0, 1) := by decide +kernel
theorem dX3_find_51 : decode cX3_find 51 = .ok (.istore_n 2, 1) := by decide +kernel
theorem dX3_find_52 : decode cX3_find 52 = .ok (.iload_n 2, 1) := by decide +kernel
theorem dX3_find_53 : decode cX3_find 53 = .ok (.aload_n 0, 1) := by decide +kernel
theorem dX3_find_54 : decode cX3_find 54 = .ok (.getfield 27, 3) := by decide +kernel
theorem dX3_find_57 : decode cX3_find 57 = .ok (.if_icmp .ge 27, 3) := by decide +kernel
theorem dX3_find_60 : decode cX3_find 60 = .ok (.aload_n 0, 1) := by decide +kernel
theorem dX3_find_61 : decode cX3_find 61 = .ok (.aload_n 0, 1) := by decide +kernel
theorem dX3_find_62 : decode cX3_find 62 = .ok (.getfield 33, 3) := by decide +kernel
theorem dX3_find_65 : decode cX3_find 65 = .ok (.iload_n 2, 1) := by decide +kernel
theorem dX3_find_66 : decode cX3_find 66 = .ok (.iaload, 1) := by decide +kernel
theorem dX3_find_67 : decode cX3_find 67 = .ok (.putfield 44, 3) := by decide +kernel
theorem dX3_find_70 : decode cX3_find 70 = .ok (.aload_n 0, 1) := by decide +kernel
theorem dX3_find_71 : decode cX3_find 71 = .ok (.iconst 1, 1) := by decide +kernel
theorem dX3_find_72 : decode cX3_find 72 = .ok (.iconst 1, 1) := by decide +kernel
theorem dX3_find_73 : decode cX3_find 73 = .ok (.iload_n 2, 1) := by decide +kernel
theorem dX3_find_74 : decode cX3_find 74 = .ok (.ishl, 1) := by decide +kernel
theorem dX3_find_75 : decode cX3_find 75 = .ok (.invokestatic 47, 3) := by decide +kernel
theorem dX3_find_78 : decode cX3_find 78 = .ok (.iinc 2 1, 3) := by decide +kernel
theorem dX3_find_81 : decode cX3_find 81 = .ok (.goto (-29), 3) := by decide +kernel
theorem dX3_find_84 : decode cX3_find 84 = .ok (.return_, 1) := by decide +kernel
theorem dX3_lower_0 : decode cX3_lower 0 = .ok (.iload_n 1, 1) := by decide +kernel
theorem dX3_lower_1 : decode cX3_lower 1 = .ok (.aload_n 0, 1) := by decide +kernel
theorem dX3_lower_2 : decode cX3_lower 2 = .ok (.getfield 27, 3) := by decide +kernel
theorem dX3_lower_5 : decode cX3_lower 5 = .ok (.if_icmp .ge 9, 3) := by decide +kernel
theorem dX3_lower_8 : decode cX3_lower 8 = .ok (.iload_n 1, 1) := by decide +kernel
theorem dX3_lower_9 : decode cX3_lower 9 = .ok (.bipush 6, 2) := by decide +kernel
theorem dX3_lower_11 : decode cX3_lower 11 = .ok (.if_icmp .lt 4, 3) := by decide +kernel
theorem dX3_lower_14 : decode cX3_lower 14 = .ok (.return_, 1) := by decide +kernel
theorem dX3_lower_15 : decode cX3_lower 15 = .ok (.iconst 0, 1) := by decide +kernel
theorem dX3_lower_16 : decode cX3_lower 16 = .ok (.istore_n 3, 1) := by decide +kernel
theorem dX3_lower_17 : decode cX3_lower 17 = .ok (.iload_n 3, 1) := by decide +kernel
theorem dX3_lower_18 : decode cX3_lower 18 = .ok (.iconst 2, 1) := by decide +kernel
theorem dX3_lower_19 : decode cX3_lower 19 = .ok (.aload_n 0, 1) := by decide +kernel
theorem dX3_lower_20 : decode cX3_lower 20 = .ok (.getfield 27, 3) := by decide +kernel
theorem dX3_lower_23 : decode cX3_lower 23 = .ok (.imul, 1) := by decide +kernel
theorem dX3_lower_24 : decode cX3_lower 24 = .ok (.if_icmp .ge 135, 3) := by decide +kernel
theorem dX3_lower_27 : decode cX3_lower 27 = .ok (.iload_n 3, 1) := by decide +kernel
theorem dX3_lower_28 : decode cX3_lower 28 = .ok (.iconst 1, 1) := by decide +kernel
theorem dX3_lower_29 : decode cX3_lower 29 = .ok (.ishr, 1) := by decide +kernel
theorem dX3_lower_30 : decode cX3_lower 30 = .ok (.istore 4, 2) := by decide +kernel
theorem dX3_lower_32 : decode cX3_lower 32 = .ok (.iload_n 2, 1) := by decide +kernel
theorem dX3_lower_33 : decode cX3_lower 33 = .ok (.iload 4, 2) := by decide +kernel
theorem dX3_lower_35 : decode cX3_lower 35 = .ok (.invokestatic 51, 3) := by decide +kernel
theorem dX3_lower_38 : decode cX3_lower 38 = .ok (.ifCond .ne 115, 3) := by decide +kernel
theorem dX3_lower_41 : decode cX3_lower 41 = .ok (.aload_n 0, 1) := by decide +kernel
theorem dX3_lower_42 : decode cX3_lower 42 = .ok (.getfield 33, 3) := by decide +kernel
theorem dX3_lower_45 : decode cX3_lower 45 = .ok (.aload_n 0, 1) := by decide +kernel
theorem dX3_lower_46 : decode cX3_lower 46 = .ok (.getfield 27, 3) := by decide +kernel
theorem dX3_lower_49 : decode cX3_lower 49 = .ok (.iload 4, 2) := by decide +kernel
theorem dX3_lower_51 : decode cX3_lower 51 = .ok (.iload_n 2, 1) := by decide +kernel
theorem dX3_lower_52 : decode cX3_lower 52 = .ok (.invokestatic 55, 3) := by decide +kernel
theorem dX3_lower_55 : decode cX3_lower 55 = .ok (.ifCond .eq 6, 3) := by decide +kernel
theorem dX3_lower_58 : decode cX3_lower 58 = .ok (.goto 95, 3) := by decide +kernel
theorem dX3_lower_61 : decode cX3_lower 61 = .ok (.aload_n 0, 1) := by decide +kernel
theorem dX3_lower_62 : decode cX3_lower 62 = .ok (.getfield 33, 3) := by decide +kernel
theorem dX3_lower_65 : decode cX3_lower 65 = .ok (.iload 4, 2) := by decide +kernel
theorem dX3_lower_67 : decode cX3_lower 67 = .ok (.iaload, 1) := by decide +kernel
theorem dX3_lower_68 : decode cX3_lower 68 = .ok (.aload_n 0, 1) := by decide +kernel
theorem dX3_lower_69 : decode cX3_lower 69 = .ok (.getfield 44, 3) := by decide +kernel
theorem dX3_lower_72 : decode cX3_lower 72 = .ok (.ixor, 1) := by decide +kernel
theorem dX3_lower_73 : decode cX3_lower 73 = .ok (.istore 5, 2) := by decide +kernel
theorem dX3_lower_75 : decode cX3_lower 75 = .ok (.iload_n 3, 1) := by decide +kernel
theorem dX3_lower_76 : decode cX3_lower 76 = .ok (.iconst 1, 1) := by decide +kernel
theorem dX3_lower_77 : decode cX3_lower 77 = .ok (.iand, 1) := by decide +kernel
theorem dX3_lower_78 : decode cX3_lower 78 = .ok (.ifCond .eq 9, 3) := by decide +kernel
theorem dX3_lower_81 : decode cX3_lower 81 = .ok (.iload 5, 2) := by decide +kernel
theorem dX3_lower_83 : decode cX3_lower 83 = .ok (.iconst (-1), 1) := by decide +kernel
theorem dX3_lower_84 : decode cX3_lower 84 = .ok (.ixor, 1) := by decide +kernel
theorem dX3_lower_85 : decode cX3_lower 85 = .ok (.istore 5, 2) := by decide +kernel
theorem dX3_lower_87 : decode cX3_lower 87 = .ok (.aload_n 0, 1) := by decide +kernel
theorem dX3_lower_88 : decode cX3_lower 88 = .ok (.iload_n 1, 1) := by decide +kernel
theorem dX3_lower_89 : decode cX3_lower 89 = .ok (.iload 5, 2) := by decide +kernel
theorem dX3_lower_91 : decode cX3_lower 91 = .ok (.invokevirtual 59, 3) := by decide +kernel
theorem dX3_lower_94 : decode cX3_lower 94 = .ok (.istore 6, 2) := by decide +kernel
theorem dX3_lower_96 : decode cX3_lower 96 = .ok (.iload 6, 2) := by decide +kernel
theorem dX3_lower_98 : decode cX3_lower 98 = .ok (.aload_n 0, 1) := by decide +kernel
theorem dX3_lower_99 : decode cX3_lower 99 = .ok (.getfield 9, 3) := by decide +kernel
theorem dX3_lower_102 : decode cX3_lower 102 = .ok (.iload_n 1, 1) := by decide +kernel
theorem dX3_lower_103 : decode cX3_lower 103 = .ok (.iaload, 1) := by decide +kernel
theorem dX3_lower_104 : decode cX3_lower 104 = .ok (.if_icmp .ge 25, 3) := by decide +kernel
theorem dX3_lower_107 : decode cX3_lower 107 = .ok (.aload_n 0, 1) := by decide +kernel
theorem dX3_lower_108 : decode cX3_lower 108 = .ok (.getfield 9, 3) := by decide +kernel
theorem dX3_lower_111 : decode cX3_lower 111 = .ok (.iload_n 1, 1) := by decide +kernel
theorem dX3_lower_112 : decode cX3_lower 112 = .ok (.aload_n 0, 1) := by decide +kernel
theorem dX3_lower_113 : decode cX3_lower 113 = .ok (.getfield 27, 3) := by decide +kernel
theorem dX3_lower_116 : decode cX3_lower 116 = .ok (.bipush 64, 2) := by decide +kernel
theorem dX3_lower_118 : decode cX3_lower 118 = .ok (.invokestatic 63, 3) := by decide +kernel
theorem dX3_lower_121 : decode cX3_lower 121 = .ok (.aload_n 0, 1) := by decide +kernel
theorem dX3_lower_122 : decode cX3_lower 122 = .ok (.getfield 9, 3) := by decide +kernel
theorem dX3_lower_125 : decode cX3_lower 125 = .ok (.iload_n 1, 1) := by decide +kernel
theorem dX3_lower_126 : decode cX3_lower 126 = .ok (.iload 6, 2) := by decide +kernel
theorem dX3_lower_128 : decode cX3_lower 128 = .ok (.iastore, 1) := by decide +kernel
theorem dX3_lower_129 : decode cX3_lower 129 = .ok (.iload 6, 2) := by decide +kernel
theorem dX3_lower_131 : decode cX3_lower 131 = .ok (.aload_n 0, 1) := by decide +kernel
theorem dX3_lower_132 : decode cX3_lower 132 = .ok (.getfield 9, 3) := by decide +kernel
theorem dX3_lower_135 : decode cX3_lower 135 = .ok (.iload_n 1, 1) := by decide +kernel
theorem dX3_lower_136 : decode cX3_lower 136 = .ok (.iaload, 1) := by decide +kernel
theorem dX3_lower_137 : decode cX3_lower 137 = .ok (.if_icmp .ne 16, 3) := by decide +kernel
theorem dX3_lower_140 : decode cX3_lower 140 = .ok (.aload_n 0, 1) := by decide +kernel
theorem dX3_lower_141 : decode cX3_lower 141 = .ok (.iload_n 1, 1) := by decide +kernel
theorem dX3_lower_142 : decode cX3_lower 142 = .ok (.iconst 1, 1) := by decide +kernel
theorem dX3_lower_143 : decode cX3_lower 143 = .ok (.iadd, 1) := by decide +kernel
theorem dX3_lower_144 : decode cX3_lower 144 = .ok (.iload_n 2, 1) := by decide +kernel
theorem dX3_lower_145 : decode cX3_lower 145 = .ok (.iconst 1, 1) := by decide +kernel
theorem dX3_lower_146 : decode cX3_lower 146 = .ok (.iload 4, 2) := by decide +kernel
theorem dX3_lower_148 : decode cX3_lower 148 = .ok (.ishl, 1) := by decide +kernel
theorem dX3_lower_149 : decode cX3_lower 149 = .ok (.ior, 1) := by decide +kernel
theorem dX3_lower_150 : decode cX3_lower 150 = .ok (.invokestatic 47, 3) := by decide +kernel
theorem dX3_lower_153 : decode cX3_lower 153 = .ok (.iinc 3 1, 3) := by decide +kernel
theorem dX3_lower_156 : decode cX3_lower 156 = .ok (.goto (-139), 3) := by decide +kernel
theorem dX3_lower_159 : decode cX3_lower 159 = .ok (.return_, 1) := by decide +kernel
theorem dX3_splitBlocks_0 : decode cX3_splitBlocks 0 = .ok (.iload_n 1, 1) := by decide +kernel
theorem dX3_splitBlocks_1 : decode cX3_splitBlocks 1 = .ok (.bipush 6, 2) := by decide +kernel
theorem dX3_splitBlocks_3 : decode cX3_splitBlocks 3 = .ok (.imul, 1) := by decide +kernel
theorem dX3_splitBlocks_4 : decode cX3_splitBlocks 4 = .ok (.istore_n 3, 1) := by decide +kernel
theorem dX3_splitBlocks_5 : decode cX3_splitBlocks 5 = .ok (.iload_n 3, 1) := by decide +kernel
theorem dX3_splitBlocks_6 : decode cX3_splitBlocks 6 = .ok (.bipush 6, 2) := by decide +kernel
theorem dX3_splitBlocks_8 : decode cX3_splitBlocks 8 = .ok (.iadd, 1) := by decide +kernel
theorem dX3_splitBlocks_9 : decode cX3_splitBlocks 9 = .ok (.istore 4, 2) := by decide +kernel
theorem dX3_splitBlocks_11 : decode cX3_splitBlocks 11 = .ok (.iconst 0, 1) := by decide +kernel
theorem dX3_splitBlocks_12 : decode cX3_splitBlocks 12 = .ok (.istore 5, 2) := by decide +kernel
theorem dX3_splitBlocks_14 : decode cX3_splitBlocks 14 = .ok (.iconst 0, 1) := by decide +kernel
theorem dX3_splitBlocks_15 : decode cX3_splitBlocks 15 = .ok (.istore 6, 2) := by decide +kernel
theorem dX3_splitBlocks_17 : decode cX3_splitBlocks 17 = .ok (.iload_n 3, 1) := by decide +kernel
theorem dX3_splitBlocks_18 : decode cX3_splitBlocks 18 = .ok (.istore 7, 2) := by decide +kernel
theorem dX3_splitBlocks_20 : decode cX3_splitBlocks 20 = .ok (.iload 7, 2) := by decide +kernel
theorem dX3_splitBlocks_22 : decode cX3_splitBlocks 22 = .ok (.iload_n 3, 1) := by decide +kernel
theorem dX3_splitBlocks_23 : decode cX3_splitBlocks 23 = .ok (.aload_n 0, 1) := by decide +kernel
theorem dX3_splitBlocks_24 : decode cX3_splitBlocks 24 = .ok (.getfield 18, 3) := by decide +kernel
theorem dX3_splitBlocks_27 : decode cX3_splitBlocks 27 = .ok (.iload_n 1, 1) := by decide +kernel
theorem dX3_splitBlocks_28 : decode cX3_splitBlocks 28 = .ok (.iaload, 1) := by decide +kernel
theorem dX3_splitBlocks_29 : decode cX3_splitBlocks 29 = .ok (.iadd, 1) := by decide +kernel
theorem dX3_splitBlocks_30 : decode cX3_splitBlocks 30 = .ok (.if_icmp .ge 85, 3) := by decide +kernel
theorem dX3_splitBlocks_33 : decode cX3_splitBlocks 33 = .ok (.aload_n 0, 1) := by decide +kernel
theorem dX3_splitBlocks_34 : decode cX3_splitBlocks 34 = .ok (.getfield 15, 3) := by decide +kernel
theorem dX3_splitBlocks_37 : decode cX3_splitBlocks 37 = .ok (.iload 7, 2) := by decide +kernel
theorem dX3_splitBlocks_39 : decode cX3_splitBlocks 39 = .ok (.iaload, 1) := by decide +kernel
theorem dX3_splitBlocks_40 : decode cX3_splitBlocks 40 = .ok (.iload_n 2, 1) := by decide +kernel
theorem dX3_splitBlocks_41 : decode cX3_splitBlocks 41 = .ok (.iand, 1) := by decide +kernel
theorem dX3_splitBlocks_42 : decode cX3_splitBlocks 42 = .ok (.istore 8, 2) := by decide +kernel
theorem dX3_splitBlocks_44 : decode cX3_splitBlocks 44 = .ok (.aload_n 0, 1) := by decide +kernel
theorem dX3_splitBlocks_45 : decode cX3_splitBlocks 45 = .ok (.getfield 15, 3) := by decide +kernel
theorem dX3_splitBlocks_48 : decode cX3_splitBlocks 48 = .ok (.iload 7, 2) := by decide +kernel
theorem dX3_splitBlocks_50 : decode cX3_splitBlocks 50 = .ok (.iaload, 1) := by decide +kernel
theorem dX3_splitBlocks_51 : decode cX3_splitBlocks 51 = .ok (.iload_n 2, 1) := by decide +kernel
theorem dX3_splitBlocks_52 : decode cX3_splitBlocks 52 = .ok (.iconst (-1), 1) := by decide +kernel
theorem dX3_splitBlocks_53 : decode cX3_splitBlocks 53 = .ok (.ixor, 1) := by decide +kernel
theorem dX3_splitBlocks_54 : decode cX3_splitBlocks 54 = .ok (.iand, 1) := by decide +kernel
theorem dX3_splitBlocks_55 : decode cX3_splitBlocks 55 = .ok (.istore 9, 2) := by decide +kernel
theorem dX3_splitBlocks_57 : decode cX3_splitBlocks 57 = .ok (.iload 6, 2) := by decide +kernel
theorem dX3_splitBlocks_59 : decode cX3_splitBlocks 59 = .ok (.iconst 1, 1) := by decide +kernel
theorem dX3_splitBlocks_60 : decode cX3_splitBlocks 60 = .ok (.iload 8, 2) := by decide +kernel
theorem dX3_splitBlocks_62 : decode cX3_splitBlocks 62 = .ok (.invokestatic 66, 3) := by decide +kernel
theorem dX3_splitBlocks_65 : decode cX3_splitBlocks 65 = .ok (.ishl, 1) := by decide +kernel
theorem dX3_splitBlocks_66 : decode cX3_splitBlocks 66 = .ok (.iconst 1, 1) := by decide +kernel
theorem dX3_splitBlocks_67 : decode cX3_splitBlocks 67 = .ok (.isub, 1) := by decide +kernel
theorem dX3_splitBlocks_68 : decode cX3_splitBlocks 68 = .ok (.iload 5, 2) := by decide +kernel
theorem dX3_splitBlocks_70 : decode cX3_splitBlocks 70 = .ok (.ishl, 1) := by decide +kernel
theorem dX3_splitBlocks_71 : decode cX3_splitBlocks 71 = .ok (.ior, 1) := by decide +kernel
theorem dX3_splitBlocks_72 : decode cX3_splitBlocks 72 = .ok (.istore 6, 2) := by decide +kernel
theorem dX3_splitBlocks_74 : decode cX3_splitBlocks 74 = .ok (.iload 5, 2) := by decide +kernel
theorem dX3_splitBlocks_76 : decode cX3_splitBlocks 76 = .ok (.aload_n 0, 1) := by decide +kernel
theorem dX3_splitBlocks_77 : decode cX3_splitBlocks 77 = .ok (.getfield 15, 3) := by decide +kernel
theorem dX3_splitBlocks_80 : decode cX3_splitBlocks 80 = .ok (.iload 7, 2) := by decide +kernel
theorem dX3_splitBlocks_82 : decode cX3_splitBlocks 82 = .ok (.iaload, 1) := by decide +kernel
theorem dX3_splitBlocks_83 : decode cX3_splitBlocks 83 = .ok (.invokestatic 66, 3) := by decide +kernel
theorem dX3_splitBlocks_86 : decode cX3_splitBlocks 86 = .ok (.iadd, 1) := by decide +kernel
theorem dX3_splitBlocks_87 : decode cX3_splitBlocks 87 = .ok (.istore 5, 2) := by decide +kernel
theorem dX3_splitBlocks_89 : decode cX3_splitBlocks 89 = .ok (.aload_n 0, 1) := by decide +kernel
theorem dX3_splitBlocks_90 : decode cX3_splitBlocks 90 = .ok (.iload 4, 2) := by decide +kernel
theorem dX3_splitBlocks_92 : decode cX3_splitBlocks 92 = .ok (.iload 8, 2) := by decide +kernel
theorem dX3_splitBlocks_94 : decode cX3_splitBlocks 94 = .ok (.invokevirtual 72, 3) := by decide +kernel
theorem dX3_splitBlocks_97 : decode cX3_splitBlocks 97 = .ok (.istore 4, 2) := by decide +kernel
theorem dX3_splitBlocks_99 : decode cX3_splitBlocks 99 = .ok (.aload_n 0, 1) := by decide +kernel
theorem dX3_splitBlocks_100 : decode cX3_splitBlocks 100 = .ok (.iload 4, 2) := by decide +kernel
theorem dX3_splitBlocks_102 : decode cX3_splitBlocks 102 = .ok (.iload 9, 2) := by decide +kernel
theorem dX3_splitBlocks_104 : decode cX3_splitBlocks 104 = .ok (.invokevirtual 72, 3) := by decide +kernel
theorem dX3_splitBlocks_107 : decode cX3_splitBlocks 107 = .ok (.istore 4, 2) := by decide +kernel
theorem dX3_splitBlocks_109 : decode cX3_splitBlocks 109 = .ok (.iinc 7 1, 3) := by decide +kernel
theorem dX3_splitBlocks_112 : decode cX3_splitBlocks 112 = .ok (.goto (-92), 3) := by decide +kernel
theorem dX3_splitBlocks_115 : decode cX3_splitBlocks 115 = .ok (.aload_n 0, 1) := by decide +kernel
theorem dX3_splitBlocks_116 : decode cX3_splitBlocks 116 = .ok (.getfield 18, 3) := by decide +kernel
theorem dX3_splitBlocks_119 : decode cX3_splitBlocks 119 = .ok (.iload_n 1, 1) := by decide +kernel
theorem dX3_splitBlocks_120 : decode cX3_splitBlocks 120 = .ok (.iconst 1, 1) := by decide +kernel
theorem dX3_splitBlocks_121 : decode cX3_splitBlocks 121 = .ok (.iadd, 1) := by decide +kernel
theorem dX3_splitBlocks_122 : decode cX3_splitBlocks 122 = .ok (.iload 4, 2) := by decide +kernel
theorem dX3_splitBlocks_124 : decode cX3_splitBlocks 124 = .ok (.iload_n 3, 1) := by decide +kernel
theorem dX3_splitBlocks_125 : decode cX3_splitBlocks 125 = .ok (.isub, 1) := by decide +kernel
theorem dX3_splitBlocks_126 : decode cX3_splitBlocks 126 = .ok (.bipush 6, 2) := by decide +kernel
theorem dX3_splitBlocks_128 : decode cX3_splitBlocks 128 = .ok (.isub, 1) := by decide +kernel
theorem dX3_splitBlocks_129 : decode cX3_splitBlocks 129 = .ok (.iastore, 1) := by decide +kernel
theorem dX3_splitBlocks_130 : decode cX3_splitBlocks 130 = .ok (.iload 6, 2) := by decide +kernel
theorem dX3_splitBlocks_132 : decode cX3_splitBlocks 132 = .ok (.ireturn, 1) := by decide +kernel
theorem dX3_addBlock_0 : decode cX3_addBlock 0 = .ok (.iload_n 2, 1) := by decide +kernel
theorem dX3_addBlock_1 : decode cX3_addBlock 1 = .ok (.ifCond .eq 12, 3) := by decide +kernel
theorem dX3_addBlock_4 : decode cX3_addBlock 4 = .ok (.iload_n 1, 1) := by decide +kernel
theorem dX3_addBlock_5 : decode cX3_addBlock 5 = .ok (.aload_n 0, 1) := by decide +kernel
theorem dX3_addBlock_6 : decode cX3_addBlock 6 = .ok (.getfield 15, 3) := by decide +kernel
theorem dX3_addBlock_9 : decode cX3_addBlock 9 = .ok (.arraylength, 1) := by decide +kernel
theorem dX3_addBlock_10 : decode cX3_addBlock 10 = .ok (.if_icmp .lt 5, 3) := by decide +kernel
theorem dX3_addBlock_13 : decode cX3_addBlock 13 = .ok (.iload_n 1, 1) := by decide +kernel
theorem dX3_addBlock_14 : decode cX3_addBlock 14 = .ok (.ireturn, 1) := by decide +kernel
theorem dX3_addBlock_15 : decode cX3_addBlock 15 = .ok (.aload_n 0, 1) := by decide +kernel
theorem dX3_addBlock_16 : decode cX3_addBlock 16 = .ok (.getfield 15, 3) := by decide +kernel
theorem dX3_addBlock_19 : decode cX3_addBlock 19 = .ok (.iload_n 1, 1) := by decide +kernel
theorem dX3_addBlock_20 : decode cX3_addBlock 20 = .ok (.iload_n 2, 1) := by decide +kernel
theorem dX3_addBlock_21 : decode cX3_addBlock 21 = .ok (.iastore, 1) := by decide +kernel
theorem dX3_addBlock_22 : decode cX3_addBlock 22 = .ok (.iload_n 1, 1) := by decide +kernel
theorem dX3_addBlock_23 : decode cX3_addBlock 23 = .ok (.iconst 1, 1) := by decide +kernel
theorem dX3_addBlock_24 : decode cX3_addBlock 24 = .ok (.iadd, 1) := by decide +kernel
theorem dX3_addBlock_25 : decode cX3_addBlock 25 = .ok (.ireturn, 1) := by decide +kernel
theorem dX4_init_0 : decode cX4_init 0 = .ok (.aload_n 0, 1) := by decide +kernel
theorem dX4_init_1 : decode cX4_init 1 = .ok (.invokespecial 3, 3) := by decide +kernel
theorem dX4_init_4 : decode cX4_init 4 = .ok (.aload_n 0, 1) := by decide +kernel
theorem dX4_init_5 : decode cX4_init 5 = .ok (.bipush 12, 2) := by decide +kernel
theorem dX4_init_7 : decode cX4_init 7 = .ok (.newarray .int, 2) := by decide +kernel
theorem dX4_init_9 : decode cX4_init 9 = .ok (.putfield 9, 3) := by decide +kernel
theorem dX4_init_12 : decode cX4_init 12 = .ok (.aload_n 0, 1) := by decide +kernel
theorem dX4_init_13 : decode cX4_init 13 = .ok (.sipush 156, 3) := by decide +kernel
theorem dX4_init_16 : decode cX4_init 16 = .ok (.newarray .int, 2) := by decide +kernel
theorem dX4_init_18 : decode cX4_init 18 = .ok (.putfield 15, 3) := by decide +kernel
theorem dX4_init_21 : decode cX4_init 21 = .ok (.aload_n 0, 1) := by decide +kernel
theorem dX4_init_22 : decode cX4_init 22 = .ok (.sipush 156, 3) := by decide +kernel
theorem dX4_init_25 : decode cX4_init 25 = .ok (.newarray .int, 2) := by decide +kernel
theorem dX4_init_27 : decode cX4_init 27 = .ok (.putfield 18, 3) := by decide +kernel
theorem dX4_init_30 : decode cX4_init 30 = .ok (.aload_n 0, 1) := by decide +kernel
theorem dX4_init_31 : decode cX4_init 31 = .ok (.bipush 13, 2) := by decide +kernel
theorem dX4_init_33 : decode cX4_init 33 = .ok (.newarray .int, 2) := by decide +kernel
theorem dX4_init_35 : decode cX4_init 35 = .ok (.putfield 21, 3) := by decide +kernel
theorem dX4_init_38 : decode cX4_init 38 = .ok (.return_, 1) := by decide +kernel
theorem dX4_findFirst_0 : decode cX4_findFirst 0 = .ok (.aload_n 0, 1) := by decide +kernel
theorem dX4_findFirst_1 : decode cX4_findFirst 1 = .ok (.aload_n 1, 1) := by decide +kernel
theorem dX4_findFirst_2 : decode cX4_findFirst 2 = .ok (.aload_n 2, 1) := by decide +kernel
theorem dX4_findFirst_3 : decode cX4_findFirst 3 = .ok (.invokevirtual 24, 3) := by decide +kernel
theorem dX4_findFirst_6 : decode cX4_findFirst 6 = .ok (.aload_n 0, 1) := by decide +kernel
theorem dX4_findFirst_7 : decode cX4_findFirst 7 = .ok (.iconst 0, 1) := by decide +kernel
theorem dX4_findFirst_8 : decode cX4_findFirst 8 = .ok (.iconst 0, 1) := by decide +kernel
theorem dX4_findFirst_9 : decode cX4_findFirst 9 = .ok (.invokestatic 28, 3) := by decide +kernel
theorem dX4_findFirst_12 : decode cX4_findFirst 12 = .ok (.ireturn, 1) := by decide +kernel
theorem dX4_lay_0 : decode cX4_lay 0 = .ok (.aload_n 0, 1) := by decide +kernel
theorem dX4_lay_1 : decode cX4_lay 1 = .ok (.aload_n 1, 1) := by decide +kernel
theorem dX4_lay_2 : decode cX4_lay 2 = .ok (.getfield 32, 3) := by decide +kernel
theorem dX4_lay_5 : decode cX4_lay 5 = .ok (.putfield 38, 3) := by decide +kernel
theorem dX4_lay_8 : decode cX4_lay 8 = .ok (.aload_n 0, 1) := by decide +kernel
theorem dX4_lay_9 : decode cX4_lay 9 = .ok (.aload_n 1, 1) := by decide +kernel
theorem dX4_lay_10 : decode cX4_lay 10 = .ok (.getfield 41, 3) := by decide +kernel
theorem dX4_lay_13 : decode cX4_lay 13 = .ok (.putfield 44, 3) := by decide +kernel
theorem dX4_lay_16 : decode cX4_lay 16 = .ok (.aload_n 0, 1) := by decide +kernel
theorem dX4_lay_17 : decode cX4_lay 17 = .ok (.aload_n 2, 1) := by decide +kernel
theorem dX4_lay_18 : decode cX4_lay 18 = .ok (.getfield 41, 3) := by decide +kernel
theorem dX4_lay_21 : decode cX4_lay 21 = .ok (.putfield 47, 3) := by decide +kernel
theorem dX4_lay_24 : decode cX4_lay 24 = .ok (.aload_n 0, 1) := by decide +kernel
theorem dX4_lay_25 : decode cX4_lay 25 = .ok (.getfield 15, 3) := by decide +kernel
theorem dX4_lay_28 : decode cX4_lay 28 = .ok (.iconst 0, 1) := by decide +kernel
theorem dX4_lay_29 : decode cX4_lay 29 = .ok (.aload_n 1, 1) := by decide +kernel
theorem dX4_lay_30 : decode cX4_lay 30 = .ok (.invokevirtual 50, 3) := by decide +kernel
theorem dX4_lay_33 : decode cX4_lay 33 = .ok (.iastore, 1) := by decide +kernel
theorem dX4_lay_34 : decode cX4_lay 34 = .ok (.aload_n 0, 1) := by decide +kernel
theorem dX4_lay_35 : decode cX4_lay 35 = .ok (.getfield 18, 3) := by decide +kernel
theorem dX4_lay_38 : decode cX4_lay 38 = .ok (.iconst 0, 1) := by decide +kernel
theorem dX4_lay_39 : decode cX4_lay 39 = .ok (.aload_n 2, 1) := by decide +kernel
theorem dX4_lay_40 : decode cX4_lay 40 = .ok (.invokevirtual 50, 3) := by decide +kernel
theorem dX4_lay_43 : decode cX4_lay 43 = .ok (.iastore, 1) := by decide +kernel
theorem dX4_lay_44 : decode cX4_lay 44 = .ok (.aload_n 0, 1) := by decide +kernel
theorem dX4_lay_45 : decode cX4_lay 45 = .ok (.getfield 21, 3) := by decide +kernel
theorem dX4_lay_48 : decode cX4_lay 48 = .ok (.iconst 0, 1) := by decide +kernel
theorem dX4_lay_49 : decode cX4_lay 49 = .ok (.iconst 1, 1) := by decide +kernel
theorem dX4_lay_50 : decode cX4_lay 50 = .ok (.iastore, 1) := by decide +kernel
theorem dX4_lay_51 : decode cX4_lay 51 = .ok (.return_, 1) := by decide +kernel
theorem dX4_seek_0 : decode cX4_seek 0 = .ok (.iload_n 1, 1) := by decide +kernel
theorem dX4_seek_1 : decode cX4_seek 1 = .ok (.aload_n 0, 1) := by decide +kernel
theorem dX4_seek_2 : decode cX4_seek 2 = .ok (.getfield 38, 3) := by decide +kernel
theorem dX4_seek_5 : decode cX4_seek 5 = .ok (.if_icmp .ge 9, 3) := by decide +kernel
theorem dX4_seek_8 : decode cX4_seek 8 = .ok (.iload_n 1, 1) := by decide +kernel
theorem dX4_seek_9 : decode cX4_seek 9 = .ok (.bipush 12, 2) := by decide +kernel
theorem dX4_seek_11 : decode cX4_seek 11 = .ok (.if_icmp .lt 5, 3) := by decide +kernel
theorem dX4_seek_14 : decode cX4_seek 14 = .ok (.iconst 1, 1) := by decide +kernel
theorem dX4_seek_15 : decode cX4_seek 15 = .ok (.ireturn, 1) := by decide +kernel
theorem dX4_seek_16 : decode cX4_seek 16 = .ok (.iconst 0, 1) := by decide +kernel
theorem dX4_seek_17 : decode cX4_seek 17 = .ok (.istore_n 3, 1) := by decide +kernel
theorem dX4_seek_18 : decode cX4_seek 18 = .ok (.iload_n 3, 1) := by decide +kernel
theorem dX4_seek_19 : decode cX4_seek 19 = .ok (.iconst 2, 1) := by decide +kernel
theorem dX4_seek_20 : decode cX4_seek 20 = .ok (.aload_n 0, 1) := by decide +kernel
theorem dX4_seek_21 : decode cX4_seek 21 = .ok (.getfield 38, 3) := by decide +kernel
theorem dX4_seek_24 : decode cX4_seek 24 = .ok (.imul, 1) := by decide +kernel
theorem dX4_seek_25 : decode cX4_seek 25 = .ok (.if_icmp .ge 67, 3) := by decide +kernel
theorem dX4_seek_28 : decode cX4_seek 28 = .ok (.iload_n 3, 1) := by decide +kernel
theorem dX4_seek_29 : decode cX4_seek 29 = .ok (.iconst 1, 1) := by decide +kernel
theorem dX4_seek_30 : decode cX4_seek 30 = .ok (.ishr, 1) := by decide +kernel
theorem dX4_seek_31 : decode cX4_seek 31 = .ok (.istore 4, 2) := by decide +kernel
theorem dX4_seek_33 : decode cX4_seek 33 = .ok (.iload_n 2, 1) := by decide +kernel
theorem dX4_seek_34 : decode cX4_seek 34 = .ok (.iload 4, 2) := by decide +kernel
theorem dX4_seek_36 : decode cX4_seek 36 = .ok (.invokestatic 54, 3) := by decide +kernel
theorem dX4_seek_39 : decode cX4_seek 39 = .ok (.ifCond .ne 47, 3) := by decide +kernel
theorem dX4_seek_42 : decode cX4_seek 42 = .ok (.aload_n 0, 1) := by decide +kernel
theorem dX4_seek_43 : decode cX4_seek 43 = .ok (.getfield 47, 3) := by decide +kernel
theorem dX4_seek_46 : decode cX4_seek 46 = .ok (.aload_n 0, 1) := by decide +kernel
theorem dX4_seek_47 : decode cX4_seek 47 = .ok (.getfield 38, 3) := by decide +kernel
theorem dX4_seek_50 : decode cX4_seek 50 = .ok (.iload 4, 2) := by decide +kernel
theorem dX4_seek_52 : decode cX4_seek 52 = .ok (.iload_n 2, 1) := by decide +kernel
theorem dX4_seek_53 : decode cX4_seek 53 = .ok (.invokestatic 58, 3) := by decide +kernel
theorem dX4_seek_56 : decode cX4_seek 56 = .ok (.ifCond .ne 30, 3) := by decide +kernel
theorem dX4_seek_59 : decode cX4_seek 59 = .ok (.aload_n 0, 1) := by decide +kernel
theorem dX4_seek_60 : decode cX4_seek 60 = .ok (.iload_n 1, 1) := by decide +kernel
theorem dX4_seek_61 : decode cX4_seek 61 = .ok (.iload_n 3, 1) := by decide +kernel
theorem dX4_seek_62 : decode cX4_seek 62 = .ok (.invokevirtual 62, 3) := by decide +kernel
theorem dX4_seek_65 : decode cX4_seek 65 = .ok (.ifCond .eq 21, 3) := by decide +kernel
theorem dX4_seek_68 : decode cX4_seek 68 = .ok (.aload_n 0, 1) := by decide +kernel
theorem dX4_seek_69 : decode cX4_seek 69 = .ok (.iload_n 1, 1) := by decide +kernel
theorem dX4_seek_70 : decode cX4_seek 70 = .ok (.iconst 1, 1) := by decide +kernel
theorem dX4_seek_71 : decode cX4_seek 71 = .ok (.iadd, 1) := by decide +kernel
theorem dX4_seek_72 : decode cX4_seek 72 = .ok (.iload_n 2, 1) := by decide +kernel
theorem dX4_seek_73 : decode cX4_seek 73 = .ok (.iconst 1, 1) := by decide +kernel
theorem dX4_seek_74 : decode cX4_seek 74 = .ok (.iload 4, 2) := by decide +kernel
theorem dX4_seek_76 : decode cX4_seek 76 = .ok (.ishl, 1) := by decide +kernel
theorem dX4_seek_77 : decode cX4_seek 77 = .ok (.ior, 1) := by decide +kernel
theorem dX4_seek_78 : decode cX4_seek 78 = .ok (.invokestatic 28, 3) := by decide +kernel
theorem dX4_seek_81 : decode cX4_seek 81 = .ok (.ifCond .eq 5, 3) := by decide +kernel
theorem dX4_seek_84 : decode cX4_seek 84 = .ok (.iconst 1, 1) := by decide +kernel
theorem dX4_seek_85 : decode cX4_seek 85 = .ok (.ireturn, 1) := by decide +kernel
theorem dX4_seek_86 : decode cX4_seek 86 = .ok (.iinc 3 1, 3) := by decide +kernel
theorem dX4_seek_89 : decode cX4_seek 89 = .ok (.goto (-71), 3) := by decide +kernel
theorem dX4_seek_92 : decode cX4_seek 92 = .ok (.iconst 0, 1) := by decide +kernel
theorem dX4_seek_93 : decode cX4_seek 93 = .ok (.ireturn, 1) := by decide +kernel
theorem dX4_fits_0 : decode cX4_fits 0 = .ok (.iconst 1, 1) := by decide +kernel
theorem dX4_fits_1 : decode cX4_fits 1 = .ok (.aload_n 0, 1) := by decide +kernel
theorem dX4_fits_2 : decode cX4_fits 2 = .ok (.getfield 38, 3) := by decide +kernel
theorem dX4_fits_5 : decode cX4_fits 5 = .ok (.ishl, 1) := by decide +kernel
theorem dX4_fits_6 : decode cX4_fits 6 = .ok (.iconst 1, 1) := by decide +kernel
theorem dX4_fits_7 : decode cX4_fits 7 = .ok (.isub, 1) := by decide +kernel
theorem dX4_fits_8 : decode cX4_fits 8 = .ok (.istore_n 3, 1) := by decide +kernel
theorem dX4_fits_9 : decode cX4_fits 9 = .ok (.iload_n 2, 1) := by decide +kernel
theorem dX4_fits_10 : decode cX4_fits 10 = .ok (.iconst 1, 1) := by decide +kernel
theorem dX4_fits_11 : decode cX4_fits 11 = .ok (.iand, 1) := by decide +kernel
theorem dX4_fits_12 : decode cX4_fits 12 = .ok (.ifCond .ne 12, 3) := by decide +kernel
theorem dX4_fits_15 : decode cX4_fits 15 = .ok (.aload_n 0, 1) := by decide +kernel
theorem dX4_fits_16 : decode cX4_fits 16 = .ok (.getfield 44, 3) := by decide +kernel
theorem dX4_fits_19 : decode cX4_fits 19 = .ok (.iload_n 1, 1) := by decide +kernel
theorem dX4_fits_20 : decode cX4_fits 20 = .ok (.iaload, 1) := by decide +kernel
theorem dX4_fits_21 : decode cX4_fits 21 = .ok (.goto 11, 3) := by decide +kernel
theorem dX4_fits_24 : decode cX4_fits 24 = .ok (.aload_n 0, 1) := by decide +kernel
theorem dX4_fits_25 : decode cX4_fits 25 = .ok (.getfield 44, 3) := by decide +kernel
theorem dX4_fits_28 : decode cX4_fits 28 = .ok (.iload_n 1, 1) := by decide +kernel
theorem dX4_fits_29 : decode cX4_fits 29 = .ok (.iaload, 1) := by decide +kernel
theorem dX4_fits_30 : decode cX4_fits 30 = .ok (.iload_n 3, 1) := by decide +kernel
theorem dX4_fits_31 : decode cX4_fits 31 = .ok (.ixor, 1) := by decide +kernel
theorem dX4_fits_32 : decode cX4_fits 32 = .ok (.istore 4, 2) := by decide +kernel
theorem dX4_fits_34 : decode cX4_fits 34 = .ok (.aload_n 0, 1) := by decide +kernel
theorem dX4_fits_35 : decode cX4_fits 35 = .ok (.getfield 47, 3) := by decide +kernel
theorem dX4_fits_38 : decode cX4_fits 38 = .ok (.iload_n 2, 1) := by decide +kernel
theorem dX4_fits_39 : decode cX4_fits 39 = .ok (.iconst 1, 1) := by decide +kernel
theorem dX4_fits_40 : decode cX4_fits 40 = .ok (.ishr, 1) := by decide +kernel
theorem dX4_fits_41 : decode cX4_fits 41 = .ok (.iaload, 1) := by decide +kernel
theorem dX4_fits_42 : decode cX4_fits 42 = .ok (.istore 5, 2) := by decide +kernel
theorem dX4_fits_44 : decode cX4_fits 44 = .ok (.iload_n 1, 1) := by decide +kernel
theorem dX4_fits_45 : decode cX4_fits 45 = .ok (.ifCond .ne 15, 3) := by decide +kernel
theorem dX4_fits_48 : decode cX4_fits 48 = .ok (.aload_n 0, 1) := by decide +kernel
theorem dX4_fits_49 : decode cX4_fits 49 = .ok (.iload 4, 2) := by decide +kernel
theorem dX4_fits_51 : decode cX4_fits 51 = .ok (.putfield 65, 3) := by decide +kernel
theorem dX4_fits_54 : decode cX4_fits 54 = .ok (.aload_n 0, 1) := by decide +kernel
theorem dX4_fits_55 : decode cX4_fits 55 = .ok (.iload 5, 2) := by decide +kernel
theorem dX4_fits_57 : decode cX4_fits 57 = .ok (.putfield 68, 3) := by decide +kernel
theorem dX4_fits_60 : decode cX4_fits 60 = .ok (.iload 4, 2) := by decide +kernel
theorem dX4_fits_62 : decode cX4_fits 62 = .ok (.aload_n 0, 1) := by decide +kernel
theorem dX4_fits_63 : decode cX4_fits 63 = .ok (.getfield 65, 3) := by decide +kernel
theorem dX4_fits_66 : decode cX4_fits 66 = .ok (.ixor, 1) := by decide +kernel
theorem dX4_fits_67 : decode cX4_fits 67 = .ok (.istore 4, 2) := by decide +kernel
theorem dX4_fits_69 : decode cX4_fits 69 = .ok (.iload 5, 2) := by decide +kernel
theorem dX4_fits_71 : decode cX4_fits 71 = .ok (.aload_n 0, 1) := by decide +kernel
theorem dX4_fits_72 : decode cX4_fits 72 = .ok (.getfield 68, 3) := by decide +kernel
theorem dX4_fits_75 : decode cX4_fits 75 = .ok (.ixor, 1) := by decide +kernel
theorem dX4_fits_76 : decode cX4_fits 76 = .ok (.istore 5, 2) := by decide +kernel
theorem dX4_fits_78 : decode cX4_fits 78 = .ok (.iload_n 1, 1) := by decide +kernel
theorem dX4_fits_79 : decode cX4_fits 79 = .ok (.bipush 12, 2) := by decide +kernel
theorem dX4_fits_81 : decode cX4_fits 81 = .ok (.imul, 1) := by decide +kernel
theorem dX4_fits_82 : decode cX4_fits 82 = .ok (.istore 6, 2) := by decide +kernel
theorem dX4_fits_84 : decode cX4_fits 84 = .ok (.iload 6, 2) := by decide +kernel
theorem dX4_fits_86 : decode cX4_fits 86 = .ok (.aload_n 0, 1) := by decide +kernel
theorem dX4_fits_87 : decode cX4_fits 87 = .ok (.getfield 21, 3) := by decide +kernel
theorem dX4_fits_90 : decode cX4_fits 90 = .ok (.iload_n 1, 1) := by decide +kernel
theorem dX4_fits_91 : decode cX4_fits 91 = .ok (.iaload, 1) := by decide +kernel
theorem dX4_fits_92 : decode cX4_fits 92 = .ok (.iadd, 1) := by decide +kernel
theorem dX4_fits_93 : decode cX4_fits 93 = .ok (.istore 7, 2) := by decide +kernel
theorem dX4_fits_95 : decode cX4_fits 95 = .ok (.iload 6, 2) := by decide +kernel
theorem dX4_fits_97 : decode cX4_fits 97 = .ok (.bipush 12, 2) := by decide +kernel
theorem dX4_fits_99 : decode cX4_fits 99 = .ok (.iadd, 1) := by decide +kernel
theorem dX4_fits_100 : decode cX4_fits 100 = .ok (.istore 8, 2) := by decide +kernel
theorem dX4_fits_102 : decode cX4_fits 102 = .ok (.iload 6, 2) := by decide +kernel
theorem dX4_fits_104 : decode cX4_fits 104 = .ok (.istore 9, 2) := by decide +kernel
theorem dX4_fits_106 : decode cX4_fits 106 = .ok (.iload 9, 2) := by decide +kernel
theorem dX4_fits_108 : decode cX4_fits 108 = .ok (.iload 7, 2) := by decide +kernel
theorem dX4_fits_110 : decode cX4_fits 110 = .ok (.if_icmp .ge 92, 3) := by decide +kernel
theorem dX4_fits_113 : decode cX4_fits 113 = .ok (.aload_n 0, 1) := by decide +kernel
theorem dX4_fits_114 : decode cX4_fits 114 = .ok (.getfield 15, 3) := by decide +kernel
theorem dX4_fits_117 : decode cX4_fits 117 = .ok (.iload 9, 2) := by decide +kernel
theorem dX4_fits_119 : decode cX4_fits 119 = .ok (.iaload, 1) := by decide +kernel
theorem dX4_fits_120 : decode cX4_fits 120 = .ok (.iload 4, 2) := by decide +kernel
theorem dX4_fits_122 : decode cX4_fits 122 = .ok (.iand, 1) := by decide +kernel
theorem dX4_fits_123 : decode cX4_fits 123 = .ok (.istore 10, 2) := by decide +kernel
theorem dX4_fits_125 : decode cX4_fits 125 = .ok (.aload_n 0, 1) := by decide +kernel
theorem dX4_fits_126 : decode cX4_fits 126 = .ok (.getfield 18, 3) := by decide +kernel
theorem dX4_fits_129 : decode cX4_fits 129 = .ok (.iload 9, 2) := by decide +kernel
theorem dX4_fits_131 : decode cX4_fits 131 = .ok (.iaload, 1) := by decide +kernel
theorem dX4_fits_132 : decode cX4_fits 132 = .ok (.iload 5, 2) := by decide +kernel
theorem dX4_fits_134 : decode cX4_fits 134 = .ok (.iand, 1) := by decide +kernel
theorem dX4_fits_135 : decode cX4_fits 135 = .ok (.istore 11, 2) := by decide +kernel
theorem dX4_fits_137 : decode cX4_fits 137 = .ok (.iload 10, 2) := by decide +kernel
theorem dX4_fits_139 : decode cX4_fits 139 = .ok (.invokestatic 71, 3) := by decide +kernel
theorem dX4_fits_142 : decode cX4_fits 142 = .ok (.iload 11, 2) := by decide +kernel
theorem dX4_fits_144 : decode cX4_fits 144 = .ok (.invokestatic 71, 3) := by decide +kernel
theorem dX4_fits_147 : decode cX4_fits 147 = .ok (.if_icmp .eq 5, 3) := by decide +kernel
theorem dX4_fits_150 : decode cX4_fits 150 = .ok (.iconst 0, 1) := by decide +kernel
theorem dX4_fits_151 : decode cX4_fits 151 = .ok (.ireturn, 1) := by decide +kernel
theorem dX4_fits_152 : decode cX4_fits 152 = .ok (.aload_n 0, 1) := by decide +kernel
theorem dX4_fits_153 : decode cX4_fits 153 = .ok (.iload 8, 2) := by decide +kernel
theorem dX4_fits_155 : decode cX4_fits 155 = .ok (.iload 10, 2) := by decide +kernel
theorem dX4_fits_157 : decode cX4_fits 157 = .ok (.iload 11, 2) := by decide +kernel
theorem dX4_fits_159 : decode cX4_fits 159 = .ok (.invokevirtual 77, 3) := by decide +kernel
theorem dX4_fits_162 : decode cX4_fits 162 = .ok (.istore 8, 2) := by decide +kernel
theorem dX4_fits_164 : decode cX4_fits 164 = .ok (.aload_n 0, 1) := by decide +kernel
theorem dX4_fits_165 : decode cX4_fits 165 = .ok (.iload 8, 2) := by decide +kernel
theorem dX4_fits_167 : decode cX4_fits 167 = .ok (.aload_n 0, 1) := by decide +kernel
theorem dX4_fits_168 : decode cX4_fits 168 = .ok (.getfield 15, 3) := by decide +kernel
theorem dX4_fits_171 : decode cX4_fits 171 = .ok (.iload 9, 2) := by decide +kernel
theorem dX4_fits_173 : decode cX4_fits 173 = .ok (.iaload, 1) := by decide +kernel
theorem dX4_fits_174 : decode cX4_fits 174 = .ok (.iload 4, 2) := by decide +kernel
theorem dX4_fits_176 : decode cX4_fits 176 = .ok (.iconst (-1), 1) := by decide +kernel
theorem dX4_fits_177 : decode cX4_fits 177 = .ok (.ixor, 1) := by decide +kernel
theorem dX4_fits_178 : decode cX4_fits 178 = .ok (.iand, 1) := by decide +kernel
theorem dX4_fits_179 : decode cX4_fits 179 = .ok (.aload_n 0, 1) := by decide +kernel
theorem dX4_fits_180 : decode cX4_fits 180 = .ok (.getfield 18, 3) := by decide +kernel
theorem dX4_fits_183 : decode cX4_fits 183 = .ok (.iload 9, 2) := by decide +kernel
theorem dX4_fits_185 : decode cX4_fits 185 = .ok (.iaload, 1) := by decide +kernel
theorem dX4_fits_186 : decode cX4_fits 186 = .ok (.iload 5, 2) := by decide +kernel
theorem dX4_fits_188 : decode cX4_fits 188 = .ok (.iconst (-1), 1) := by decide +kernel
theorem dX4_fits_189 : decode cX4_fits 189 = .ok (.ixor, 1) := by decide +kernel
theorem dX4_fits_190 : decode cX4_fits 190 = .ok (.iand, 1) := by decide +kernel
theorem dX4_fits_191 : decode cX4_fits 191 = .ok (.invokevirtual 77, 3) := by decide +kernel
theorem dX4_fits_194 : decode cX4_fits 194 = .ok (.istore 8, 2) := by decide +kernel
theorem dX4_fits_196 : decode cX4_fits 196 = .ok (.iinc 9 1, 3) := by decide +kernel
theorem dX4_fits_199 : decode cX4_fits 199 = .ok (.goto (-93), 3) := by decide +kernel
theorem dX4_fits_202 : decode cX4_fits 202 = .ok (.aload_n 0, 1) := by decide +kernel
theorem dX4_fits_203 : decode cX4_fits 203 = .ok (.getfield 21, 3) := by decide +kernel
theorem dX4_fits_206 : decode cX4_fits 206 = .ok (.iload_n 1, 1) := by decide +kernel
theorem dX4_fits_207 : decode cX4_fits 207 = .ok (.iconst 1, 1) := by decide +kernel
theorem dX4_fits_208 : decode cX4_fits 208 = .ok (.iadd, 1) := by decide +kernel
theorem dX4_fits_209 : decode cX4_fits 209 = .ok (.iload 8, 2) := by decide +kernel
theorem dX4_fits_211 : decode cX4_fits 211 = .ok (.iload 6, 2) := by decide +kernel
theorem dX4_fits_213 : decode cX4_fits 213 = .ok (.isub, 1) := by decide +kernel
theorem dX4_fits_214 : decode cX4_fits 214 = .ok (.bipush 12, 2) := by decide +kernel
theorem dX4_fits_216 : decode cX4_fits 216 = .ok (.isub, 1) := by decide +kernel
theorem dX4_fits_217 : decode cX4_fits 217 = .ok (.iastore, 1) := by decide +kernel
theorem dX4_fits_218 : decode cX4_fits 218 = .ok (.aload_n 0, 1) := by decide +kernel
theorem dX4_fits_219 : decode cX4_fits 219 = .ok (.getfield 9, 3) := by decide +kernel
theorem dX4_fits_222 : decode cX4_fits 222 = .ok (.iload_n 1, 1) := by decide +kernel
theorem dX4_fits_223 : decode cX4_fits 223 = .ok (.iload_n 2, 1) := by decide +kernel
theorem dX4_fits_224 : decode cX4_fits 224 = .ok (.iastore, 1) := by decide +kernel
theorem dX4_fits_225 : decode cX4_fits 225 = .ok (.iconst 1, 1) := by decide +kernel
theorem dX4_fits_226 : decode cX4_fits 226 = .ok (.ireturn, 1) := by decide +kernel
theorem dX4_addClass_0 : decode cX4_addClass 0 = .ok (.iload_n 2, 1) := by decide +kernel
theorem dX4_addClass_1 : decode cX4_addClass 1 = .ok (.ifCond .eq 12, 3) := by decide +kernel
theorem dX4_addClass_4 : decode cX4_addClass 4 = .ok (.iload_n 1, 1) := by decide +kernel
theorem dX4_addClass_5 : decode cX4_addClass 5 = .ok (.aload_n 0, 1) := by decide +kernel
theorem dX4_addClass_6 : decode cX4_addClass 6 = .ok (.getfield 15, 3) := by decide +kernel
theorem dX4_addClass_9 : decode cX4_addClass 9 = .ok (.arraylength, 1) := by decide +kernel
theorem dX4_addClass_10 : decode cX4_addClass 10 = .ok (.if_icmp .lt 5, 3) := by decide +kernel
theorem dX4_addClass_13 : decode cX4_addClass 13 = .ok (.iload_n 1, 1) := by decide +kernel
theorem dX4_addClass_14 : decode cX4_addClass 14 = .ok (.ireturn, 1) := by decide +kernel
theorem dX4_addClass_15 : decode cX4_addClass 15 = .ok (.aload_n 0, 1) := by decide +kernel
theorem dX4_addClass_16 : decode cX4_addClass 16 = .ok (.getfield 15, 3) := by decide +kernel
theorem dX4_addClass_19 : decode cX4_addClass 19 = .ok (.iload_n 1, 1) := by decide +kernel
theorem dX4_addClass_20 : decode cX4_addClass 20 = .ok (.iload_n 2, 1) := by decide +kernel
theorem dX4_addClass_21 : decode cX4_addClass 21 = .ok (.iastore, 1) := by decide +kernel
theorem dX4_addClass_22 : decode cX4_addClass 22 = .ok (.aload_n 0, 1) := by decide +kernel
theorem dX4_addClass_23 : decode cX4_addClass 23 = .ok (.getfield 18, 3) := by decide +kernel
theorem dX4_addClass_26 : decode cX4_addClass 26 = .ok (.iload_n 1, 1) := by decide +kernel
theorem dX4_addClass_27 : decode cX4_addClass 27 = .ok (.iload_n 3, 1) := by decide +kernel
theorem dX4_addClass_28 : decode cX4_addClass 28 = .ok (.iastore, 1) := by decide +kernel
theorem dX4_addClass_29 : decode cX4_addClass 29 = .ok (.iload_n 1, 1) := by decide +kernel
theorem dX4_addClass_30 : decode cX4_addClass 30 = .ok (.iconst 1, 1) := by decide +kernel
theorem dX4_addClass_31 : decode cX4_addClass 31 = .ok (.iadd, 1) := by decide +kernel
theorem dX4_addClass_32 : decode cX4_addClass 32 = .ok (.ireturn, 1) := by decide +kernel
theorem dX4_columnImage_0 : decode cX4_columnImage 0 = .ok (.aload_n 0, 1) := by decide +kernel
theorem dX4_columnImage_1 : decode cX4_columnImage 1 = .ok (.getfield 38, 3) := by decide +kernel
theorem dX4_columnImage_4 : decode cX4_columnImage 4 = .ok (.bipush 12, 2) := by decide +kernel
theorem dX4_columnImage_6 : decode cX4_columnImage 6 = .ok (.imul, 1) := by decide +kernel
theorem dX4_columnImage_7 : decode cX4_columnImage 7 = .ok (.istore_n 2, 1) := by decide +kernel
theorem dX4_columnImage_8 : decode cX4_columnImage 8 = .ok (.iload_n 2, 1) := by decide +kernel
theorem dX4_columnImage_9 : decode cX4_columnImage 9 = .ok (.istore_n 3, 1) := by decide +kernel
theorem dX4_columnImage_10 : decode cX4_columnImage 10 = .ok (.iload_n 3, 1) := by decide +kernel
theorem dX4_columnImage_11 : decode cX4_columnImage 11 = .ok (.iload_n 2, 1) := by decide +kernel
theorem dX4_columnImage_12 : decode cX4_columnImage 12 = .ok (.aload_n 0, 1) := by decide +kernel
theorem dX4_columnImage_13 : decode cX4_columnImage 13 = .ok (.getfield 21, 3) := by decide +kernel
theorem dX4_columnImage_16 : decode cX4_columnImage 16 = .ok (.aload_n 0, 1) := by decide +kernel
theorem dX4_columnImage_17 : decode cX4_columnImage 17 = .ok (.getfield 38, 3) := by decide +kernel
theorem dX4_columnImage_20 : decode cX4_columnImage 20 = .ok (.iaload, 1) := by decide +kernel
theorem dX4_columnImage_21 : decode cX4_columnImage 21 = .ok (.iadd, 1) := by decide +kernel
theorem dX4_columnImage_22 : decode cX4_columnImage 22 = .ok (.if_icmp .ge 78, 3) := by decide +kernel
theorem dX4_columnImage_25 : decode cX4_columnImage 25 = .ok (.aload_n 0, 1) := by decide +kernel
theorem dX4_columnImage_26 : decode cX4_columnImage 26 = .ok (.getfield 15, 3) := by decide +kernel
theorem dX4_columnImage_29 : decode cX4_columnImage 29 = .ok (.iload_n 3, 1) := by decide +kernel
theorem dX4_columnImage_30 : decode cX4_columnImage 30 = .ok (.iaload, 1) := by decide +kernel
theorem dX4_columnImage_31 : decode cX4_columnImage 31 = .ok (.iload_n 1, 1) := by decide +kernel
theorem dX4_columnImage_32 : decode cX4_columnImage 32 = .ok (.invokestatic 54, 3) := by decide +kernel
theorem dX4_columnImage_35 : decode cX4_columnImage 35 = .ok (.ifCond .eq 59, 3) := by decide +kernel
theorem dX4_columnImage_38 : decode cX4_columnImage 38 = .ok (.aload_n 0, 1) := by decide +kernel
theorem dX4_columnImage_39 : decode cX4_columnImage 39 = .ok (.getfield 15, 3) := by decide +kernel
theorem dX4_columnImage_42 : decode cX4_columnImage 42 = .ok (.iload_n 3, 1) := by decide +kernel
theorem dX4_columnImage_43 : decode cX4_columnImage 43 = .ok (.iaload, 1) := by decide +kernel
theorem dX4_columnImage_44 : decode cX4_columnImage 44 = .ok (.iconst 1, 1) := by decide +kernel
theorem dX4_columnImage_45 : decode cX4_columnImage 45 = .ok (.iload_n 1, 1) := by decide +kernel
theorem dX4_columnImage_46 : decode cX4_columnImage 46 = .ok (.ishl, 1) := by decide +kernel
theorem dX4_columnImage_47 : decode cX4_columnImage 47 = .ok (.iconst 1, 1) := by decide +kernel
theorem dX4_columnImage_48 : decode cX4_columnImage 48 = .ok (.isub, 1) := by decide +kernel
theorem dX4_columnImage_49 : decode cX4_columnImage 49 = .ok (.iand, 1) := by decide +kernel
theorem dX4_columnImage_50 : decode cX4_columnImage 50 = .ok (.invokestatic 71, 3) := by decide +kernel
theorem dX4_columnImage_53 : decode cX4_columnImage 53 = .ok (.istore 4, 2) := by decide +kernel
theorem dX4_columnImage_55 : decode cX4_columnImage 55 = .ok (.aload_n 0, 1) := by decide +kernel
theorem dX4_columnImage_56 : decode cX4_columnImage 56 = .ok (.getfield 18, 3) := by decide +kernel
theorem dX4_columnImage_59 : decode cX4_columnImage 59 = .ok (.iload_n 3, 1) := by decide +kernel
theorem dX4_columnImage_60 : decode cX4_columnImage 60 = .ok (.iaload, 1) := by decide +kernel
theorem dX4_columnImage_61 : decode cX4_columnImage 61 = .ok (.iload 4, 2) := by decide +kernel
theorem dX4_columnImage_63 : decode cX4_columnImage 63 = .ok (.invokestatic 81, 3) := by decide +kernel
theorem dX4_columnImage_66 : decode cX4_columnImage 66 = .ok (.istore 5, 2) := by decide +kernel
theorem dX4_columnImage_68 : decode cX4_columnImage 68 = .ok (.aload_n 0, 1) := by decide +kernel
theorem dX4_columnImage_69 : decode cX4_columnImage 69 = .ok (.getfield 65, 3) := by decide +kernel
theorem dX4_columnImage_72 : decode cX4_columnImage 72 = .ok (.iload_n 1, 1) := by decide +kernel
theorem dX4_columnImage_73 : decode cX4_columnImage 73 = .ok (.ishr, 1) := by decide +kernel
theorem dX4_columnImage_74 : decode cX4_columnImage 74 = .ok (.aload_n 0, 1) := by decide +kernel
theorem dX4_columnImage_75 : decode cX4_columnImage 75 = .ok (.getfield 68, 3) := by decide +kernel
theorem dX4_columnImage_78 : decode cX4_columnImage 78 = .ok (.iload 5, 2) := by decide +kernel
theorem dX4_columnImage_80 : decode cX4_columnImage 80 = .ok (.ishr, 1) := by decide +kernel
theorem dX4_columnImage_81 : decode cX4_columnImage 81 = .ok (.ixor, 1) := by decide +kernel
theorem dX4_columnImage_82 : decode cX4_columnImage 82 = .ok (.iconst 1, 1) := by decide +kernel
theorem dX4_columnImage_83 : decode cX4_columnImage 83 = .ok (.iand, 1) := by decide +kernel
theorem dX4_columnImage_84 : decode cX4_columnImage 84 = .ok (.istore 6, 2) := by decide +kernel
theorem dX4_columnImage_86 : decode cX4_columnImage 86 = .ok (.iconst 2, 1) := by decide +kernel
theorem dX4_columnImage_87 : decode cX4_columnImage 87 = .ok (.iload 5, 2) := by decide +kernel
theorem dX4_columnImage_89 : decode cX4_columnImage 89 = .ok (.imul, 1) := by decide +kernel
theorem dX4_columnImage_90 : decode cX4_columnImage 90 = .ok (.iload 6, 2) := by decide +kernel
theorem dX4_columnImage_92 : decode cX4_columnImage 92 = .ok (.iadd, 1) := by decide +kernel
theorem dX4_columnImage_93 : decode cX4_columnImage 93 = .ok (.ireturn, 1) := by decide +kernel
theorem dX4_columnImage_94 : decode cX4_columnImage 94 = .ok (.iinc 3 1, 3) := by decide +kernel
theorem dX4_columnImage_97 : decode cX4_columnImage 97 = .ok (.goto (-87), 3) := by decide +kernel
theorem dX4_columnImage_100 : decode cX4_columnImage 100 = .ok (.bipush (-2), 2) := by decide +kernel
theorem dX4_columnImage_102 : decode cX4_columnImage 102 = .ok (.ireturn, 1) := by decide +kernel
theorem dX4_memberOf_0 : decode cX4_memberOf 0 = .ok (.iload_n 0, 1) := by decide +kernel
theorem dX4_memberOf_1 : decode cX4_memberOf 1 = .ok (.istore_n 2, 1) := by decide +kernel
theorem dX4_memberOf_2 : decode cX4_memberOf 2 = .ok (.iconst 0, 1) := by decide +kernel
theorem dX4_memberOf_3 : decode cX4_memberOf 3 = .ok (.istore_n 3, 1) := by decide +kernel
theorem dX4_memberOf_4 : decode cX4_memberOf 4 = .ok (.iload_n 3, 1) := by decide +kernel
theorem dX4_memberOf_5 : decode cX4_memberOf 5 = .ok (.iload_n 1, 1) := by decide +kernel
theorem dX4_memberOf_6 : decode cX4_memberOf 6 = .ok (.if_icmp .ge 15, 3) := by decide +kernel
theorem dX4_memberOf_9 : decode cX4_memberOf 9 = .ok (.iload_n 2, 1) := by decide +kernel
theorem dX4_memberOf_10 : decode cX4_memberOf 10 = .ok (.iload_n 2, 1) := by decide +kernel
theorem dX4_memberOf_11 : decode cX4_memberOf 11 = .ok (.iconst 1, 1) := by decide +kernel
theorem dX4_memberOf_12 : decode cX4_memberOf 12 = .ok (.isub, 1) := by decide +kernel
theorem dX4_memberOf_13 : decode cX4_memberOf 13 = .ok (.iand, 1) := by decide +kernel
theorem dX4_memberOf_14 : decode cX4_memberOf 14 = .ok (.istore_n 2, 1) := by decide +kernel
theorem dX4_memberOf_15 : decode cX4_memberOf 15 = .ok (.iinc 3 1, 3) := by decide +kernel
theorem dX4_memberOf_18 : decode cX4_memberOf 18 = .ok (.goto (-14), 3) := by decide +kernel
theorem dX4_memberOf_21 : decode cX4_memberOf 21 = .ok (.iload_n 2, 1) := by decide +kernel
theorem dX4_memberOf_22 : decode cX4_memberOf 22 = .ok (.invokestatic 85, 3) := by decide +kernel
theorem dX4_memberOf_25 : decode cX4_memberOf 25 = .ok (.ireturn, 1) := by decide +kernel
theorem dX4_countToItself_0 : decode cX4_countToItself 0 = .ok (.aload_n 0, 1) := by decide +kernel
theorem dX4_countToItself_1 : decode cX4_countToItself 1 = .ok (.aload_n 1, 1) := by decide +kernel
theorem dX4_countToItself_2 : decode cX4_countToItself 2 = .ok (.aload_n 1, 1) := by decide +kernel
theorem dX4_countToItself_3 : decode cX4_countToItself 3 = .ok (.invokevirtual 24, 3) := by decide +kernel
theorem dX4_countToItself_6 : decode cX4_countToItself 6 = .ok (.lconst 1, 1) := by decide +kernel
theorem dX4_countToItself_7 : decode cX4_countToItself 7 = .ok (.lstore_n 2, 1) := by decide +kernel
theorem dX4_countToItself_8 : decode cX4_countToItself 8 = .ok (.iconst 0, 1) := by decide +kernel
theorem dX4_countToItself_9 : decode cX4_countToItself 9 = .ok (.istore 4, 2) := by decide +kernel
theorem dX4_countToItself_11 : decode cX4_countToItself 11 = .ok (.iconst 0, 1) := by decide +kernel
theorem dX4_countToItself_12 : decode cX4_countToItself 12 = .ok (.istore 5, 2) := by decide +kernel
theorem dX4_countToItself_14 : decode cX4_countToItself 14 = .ok (.iload 5, 2) := by decide +kernel
theorem dX4_countToItself_16 : decode cX4_countToItself 16 = .ok (.aload_n 0, 1) := by decide +kernel
theorem dX4_countToItself_17 : decode cX4_countToItself 17 = .ok (.getfield 38, 3) := by decide +kernel
theorem dX4_countToItself_20 : decode cX4_countToItself 20 = .ok (.if_icmp .ge 104, 3) := by decide +kernel
theorem dX4_countToItself_23 : decode cX4_countToItself 23 = .ok (.iconst 0, 1) := by decide +kernel
theorem dX4_countToItself_24 : decode cX4_countToItself 24 = .ok (.istore 6, 2) := by decide +kernel
theorem dX4_countToItself_26 : decode cX4_countToItself 26 = .ok (.iconst 0, 1) := by decide +kernel
theorem dX4_countToItself_27 : decode cX4_countToItself 27 = .ok (.istore 7, 2) := by decide +kernel
theorem dX4_countToItself_29 : decode cX4_countToItself 29 = .ok (.iload 7, 2) := by decide +kernel
theorem dX4_countToItself_31 : decode cX4_countToItself 31 = .ok (.iconst 2, 1) := by decide +kernel
theorem dX4_countToItself_32 : decode cX4_countToItself 32 = .ok (.aload_n 0, 1) := by decide +kernel
theorem dX4_countToItself_33 : decode cX4_countToItself 33 = .ok (.getfield 38, 3) := by decide +kernel
theorem dX4_countToItself_36 : decode cX4_countToItself 36 = .ok (.imul, 1) := by decide +kernel
theorem dX4_countToItself_37 : decode cX4_countToItself 37 = .ok (.if_icmp .ge 55, 3) := by decide +kernel
theorem dX4_countToItself_40 : decode cX4_countToItself 40 = .ok (.iload 4, 2) := by decide +kernel
theorem dX4_countToItself_42 : decode cX4_countToItself 42 = .ok (.iload 7, 2) := by decide +kernel
theorem dX4_countToItself_44 : decode cX4_countToItself 44 = .ok (.iconst 1, 1) := by decide +kernel
theorem dX4_countToItself_45 : decode cX4_countToItself 45 = .ok (.ishr, 1) := by decide +kernel
theorem dX4_countToItself_46 : decode cX4_countToItself 46 = .ok (.invokestatic 54, 3) := by decide +kernel
theorem dX4_countToItself_49 : decode cX4_countToItself 49 = .ok (.ifCond .ne 37, 3) := by decide +kernel
theorem dX4_countToItself_52 : decode cX4_countToItself 52 = .ok (.aload_n 0, 1) := by decide +kernel
theorem dX4_countToItself_53 : decode cX4_countToItself 53 = .ok (.iload 5, 2) := by decide +kernel
theorem dX4_countToItself_55 : decode cX4_countToItself 55 = .ok (.iload 7, 2) := by decide +kernel
theorem dX4_countToItself_57 : decode cX4_countToItself 57 = .ok (.invokevirtual 62, 3) := by decide +kernel
theorem dX4_countToItself_60 : decode cX4_countToItself 60 = .ok (.ifCond .eq 26, 3) := by decide +kernel
theorem dX4_countToItself_63 : decode cX4_countToItself 63 = .ok (.aload_n 0, 1) := by decide +kernel
theorem dX4_countToItself_64 : decode cX4_countToItself 64 = .ok (.iload 5, 2) := by decide +kernel
theorem dX4_countToItself_66 : decode cX4_countToItself 66 = .ok (.iconst 1, 1) := by decide +kernel
theorem dX4_countToItself_67 : decode cX4_countToItself 67 = .ok (.iadd, 1) := by decide +kernel
theorem dX4_countToItself_68 : decode cX4_countToItself 68 = .ok (.iload 4, 2) := by decide +kernel
theorem dX4_countToItself_70 : decode cX4_countToItself 70 = .ok (.iconst 1, 1) := by decide +kernel
theorem dX4_countToItself_71 : decode cX4_countToItself 71 = .ok (.iload 7, 2) := by decide +kernel
theorem dX4_countToItself_73 : decode cX4_countToItself 73 = .ok (.iconst 1, 1) := by decide +kernel
theorem dX4_countToItself_74 : decode cX4_countToItself 74 = .ok (.ishr, 1) := by decide +kernel
theorem dX4_countToItself_75 : decode cX4_countToItself 75 = .ok (.ishl, 1) := by decide +kernel
theorem dX4_countToItself_76 : decode cX4_countToItself 76 = .ok (.ior, 1) := by decide +kernel
theorem dX4_countToItself_77 : decode cX4_countToItself 77 = .ok (.invokestatic 28, 3) := by decide +kernel
theorem dX4_countToItself_80 : decode cX4_countToItself 80 = .ok (.ifCond .eq 6, 3) := by decide +kernel
theorem dX4_countToItself_83 : decode cX4_countToItself 83 = .ok (.iinc 6 1, 3) := by decide +kernel
theorem dX4_countToItself_86 : decode cX4_countToItself 86 = .ok (.iinc 7 1, 3) := by decide +kernel
theorem dX4_countToItself_89 : decode cX4_countToItself 89 = .ok (.goto (-60), 3) := by decide +kernel
theorem dX4_countToItself_92 : decode cX4_countToItself 92 = .ok (.lload_n 2, 1) := by decide +kernel
theorem dX4_countToItself_93 : decode cX4_countToItself 93 = .ok (.iload 6, 2) := by decide +kernel
theorem dX4_countToItself_95 : decode cX4_countToItself 95 = .ok (.i2l, 1) := by decide +kernel
theorem dX4_countToItself_96 : decode cX4_countToItself 96 = .ok (.lmul, 1) := by decide +kernel
theorem dX4_countToItself_97 : decode cX4_countToItself 97 = .ok (.lstore_n 2, 1) := by decide +kernel
theorem dX4_countToItself_98 : decode cX4_countToItself 98 = .ok (.aload_n 0, 1) := by decide +kernel
theorem dX4_countToItself_99 : decode cX4_countToItself 99 = .ok (.iload 5, 2) := by decide +kernel
theorem dX4_countToItself_101 : decode cX4_countToItself 101 = .ok (.iconst 2, 1) := by decide +kernel
theorem dX4_countToItself_102 : decode cX4_countToItself 102 = .ok (.iload 5, 2) := by decide +kernel
theorem dX4_countToItself_104 : decode cX4_countToItself 104 = .ok (.imul, 1) := by decide +kernel
theorem dX4_countToItself_105 : decode cX4_countToItself 105 = .ok (.invokevirtual 62, 3) := by decide +kernel
theorem dX4_countToItself_108 : decode cX4_countToItself 108 = .ok (.pop, 1) := by decide +kernel
theorem dX4_countToItself_109 : decode cX4_countToItself 109 = .ok (.iload 4, 2) := by decide +kernel
theorem dX4_countToItself_111 : decode cX4_countToItself 111 = .ok (.iconst 1, 1) := by decide +kernel
theorem dX4_countToItself_112 : decode cX4_countToItself 112 = .ok (.iload 5, 2) := by decide +kernel
theorem dX4_countToItself_114 : decode cX4_countToItself 114 = .ok (.ishl, 1) := by decide +kernel
theorem dX4_countToItself_115 : decode cX4_countToItself 115 = .ok (.ior, 1) := by decide +kernel
theorem dX4_countToItself_116 : decode cX4_countToItself 116 = .ok (.istore 4, 2) := by decide +kernel
theorem dX4_countToItself_118 : decode cX4_countToItself 118 = .ok (.iinc 5 1, 3) := by decide +kernel
theorem dX4_countToItself_121 : decode cX4_countToItself 121 = .ok (.goto (-107), 3) := by decide +kernel
theorem dX4_countToItself_124 : decode cX4_countToItself 124 = .ok (.aload_n 0, 1) := by decide +kernel
theorem dX4_countToItself_125 : decode cX4_countToItself 125 = .ok (.getfield 38, 3) := by decide +kernel
theorem dX4_countToItself_128 : decode cX4_countToItself 128 = .ok (.bipush 12, 2) := by decide +kernel
theorem dX4_countToItself_130 : decode cX4_countToItself 130 = .ok (.imul, 1) := by decide +kernel
theorem dX4_countToItself_131 : decode cX4_countToItself 131 = .ok (.istore 5, 2) := by decide +kernel
theorem dX4_countToItself_133 : decode cX4_countToItself 133 = .ok (.iload 5, 2) := by decide +kernel
theorem dX4_countToItself_135 : decode cX4_countToItself 135 = .ok (.istore 6, 2) := by decide +kernel
theorem dX4_countToItself_137 : decode cX4_countToItself 137 = .ok (.iload 6, 2) := by decide +kernel
theorem dX4_countToItself_139 : decode cX4_countToItself 139 = .ok (.iload 5, 2) := by decide +kernel
theorem dX4_countToItself_141 : decode cX4_countToItself 141 = .ok (.aload_n 0, 1) := by decide +kernel
theorem dX4_countToItself_142 : decode cX4_countToItself 142 = .ok (.getfield 21, 3) := by decide +kernel
theorem dX4_countToItself_145 : decode cX4_countToItself 145 = .ok (.aload_n 0, 1) := by decide +kernel
theorem dX4_countToItself_146 : decode cX4_countToItself 146 = .ok (.getfield 38, 3) := by decide +kernel
theorem dX4_countToItself_149 : decode cX4_countToItself 149 = .ok (.iaload, 1) := by decide +kernel
theorem dX4_countToItself_150 : decode cX4_countToItself 150 = .ok (.iadd, 1) := by decide +kernel
theorem dX4_countToItself_151 : decode cX4_countToItself 151 = .ok (.if_icmp .ge 25, 3) := by decide +kernel
theorem dX4_countToItself_154 : decode cX4_countToItself 154 = .ok (.lload_n 2, 1) := by decide +kernel
theorem dX4_countToItself_155 : decode cX4_countToItself 155 = .ok (.aload_n 0, 1) := by decide +kernel
theorem dX4_countToItself_156 : decode cX4_countToItself 156 = .ok (.getfield 15, 3) := by decide +kernel
theorem dX4_countToItself_159 : decode cX4_countToItself 159 = .ok (.iload 6, 2) := by decide +kernel
theorem dX4_countToItself_161 : decode cX4_countToItself 161 = .ok (.iaload, 1) := by decide +kernel
theorem dX4_countToItself_162 : decode cX4_countToItself 162 = .ok (.invokestatic 71, 3) := by decide +kernel
theorem dX4_countToItself_165 : decode cX4_countToItself 165 = .ok (.invokestatic 88, 3) := by decide +kernel
theorem dX4_countToItself_168 : decode cX4_countToItself 168 = .ok (.lmul, 1) := by decide +kernel
theorem dX4_countToItself_169 : decode cX4_countToItself 169 = .ok (.lstore_n 2, 1) := by decide +kernel
theorem dX4_countToItself_170 : decode cX4_countToItself 170 = .ok (.iinc 6 1, 3) := by decide +kernel
theorem dX4_countToItself_173 : decode cX4_countToItself 173 = .ok (.goto (-36), 3) := by decide +kernel
theorem dX4_countToItself_176 : decode cX4_countToItself 176 = .ok (.lload_n 2, 1) := by decide +kernel
theorem dX4_countToItself_177 : decode cX4_countToItself 177 = .ok (.lreturn, 1) := by decide +kernel
theorem dX4_orders_0 : decode cX4_orders 0 = .ok (.lconst 1, 1) := by decide +kernel
theorem dX4_orders_1 : decode cX4_orders 1 = .ok (.lstore_n 1, 1) := by decide +kernel
theorem dX4_orders_2 : decode cX4_orders 2 = .ok (.iconst 2, 1) := by decide +kernel
theorem dX4_orders_3 : decode cX4_orders 3 = .ok (.istore_n 3, 1) := by decide +kernel
theorem dX4_orders_4 : decode cX4_orders 4 = .ok (.iload_n 3, 1) := by decide +kernel
theorem dX4_orders_5 : decode cX4_orders 5 = .ok (.iload_n 0, 1) := by decide +kernel
theorem dX4_orders_6 : decode cX4_orders 6 = .ok (.if_icmp .gt 14, 3) := by decide +kernel
theorem dX4_orders_9 : decode cX4_orders 9 = .ok (.lload_n 1, 1) := by decide +kernel
theorem dX4_orders_10 : decode cX4_orders 10 = .ok (.iload_n 3, 1) := by decide +kernel
theorem dX4_orders_11 : decode cX4_orders 11 = .ok (.i2l, 1) := by decide +kernel
theorem dX4_orders_12 : decode cX4_orders 12 = .ok (.lmul, 1) := by decide +kernel
theorem dX4_orders_13 : decode cX4_orders 13 = .ok (.lstore_n 1, 1) := by decide +kernel
theorem dX4_orders_14 : decode cX4_orders 14 = .ok (.iinc 3 1, 3) := by decide +kernel
theorem dX4_orders_17 : decode cX4_orders 17 = .ok (.goto (-13), 3) := by decide +kernel
theorem dX4_orders_20 : decode cX4_orders 20 = .ok (.lload_n 1, 1) := by decide +kernel
theorem dX4_orders_21 : decode cX4_orders 21 = .ok (.lreturn, 1) := by decide +kernel
theorem dX5_init_0 : decode cX5_init 0 = .ok (.aload_n 0, 1) := by decide +kernel
theorem dX5_init_1 : decode cX5_init 1 = .ok (.invokespecial 1, 3) := by decide +kernel
theorem dX5_init_4 : decode cX5_init 4 = .ok (.aload_n 0, 1) := by decide +kernel
theorem dX5_init_5 : decode cX5_init 5 = .ok (.bipush 8, 2) := by decide +kernel
theorem dX5_init_7 : decode cX5_init 7 = .ok (.newarray .int, 2) := by decide +kernel
theorem dX5_init_9 : decode cX5_init 9 = .ok (.putfield 9, 3) := by decide +kernel
theorem dX5_init_12 : decode cX5_init 12 = .ok (.aload_n 0, 1) := by decide +kernel
theorem dX5_init_13 : decode cX5_init 13 = .ok (.bipush 8, 2) := by decide +kernel
theorem dX5_init_15 : decode cX5_init 15 = .ok (.newarray .int, 2) := by decide +kernel
theorem dX5_init_17 : decode cX5_init 17 = .ok (.putfield 13, 3) := by decide +kernel
theorem dX5_init_20 : decode cX5_init 20 = .ok (.aload_n 0, 1) := by decide +kernel
theorem dX5_init_21 : decode cX5_init 21 = .ok (.iconst 4, 1) := by decide +kernel
theorem dX5_init_22 : decode cX5_init 22 = .ok (.newarray .int, 2) := by decide +kernel
theorem dX5_init_24 : decode cX5_init 24 = .ok (.putfield 16, 3) := by decide +kernel
theorem dX5_init_27 : decode cX5_init 27 = .ok (.return_, 1) := by decide +kernel
theorem dX5_search_0 : decode cX5_search 0 = .ok (.aload_n 0, 1) := by decide +kernel
theorem dX5_search_1 : decode cX5_search 1 = .ok (.iload_n 1, 1) := by decide +kernel
theorem dX5_search_2 : decode cX5_search 2 = .ok (.invokevirtual 19, 3) := by decide +kernel
theorem dX5_search_5 : decode cX5_search 5 = .ok (.iconst 0, 1) := by decide +kernel
theorem dX5_search_6 : decode cX5_search 6 = .ok (.istore_n 3, 1) := by decide +kernel
theorem dX5_search_7 : decode cX5_search 7 = .ok (.iconst 0, 1) := by decide +kernel
theorem dX5_search_8 : decode cX5_search 8 = .ok (.istore 4, 2) := by decide +kernel
theorem dX5_search_10 : decode cX5_search 10 = .ok (.iload 4, 2) := by decide +kernel
theorem dX5_search_12 : decode cX5_search 12 = .ok (.aload_n 0, 1) := by decide +kernel
theorem dX5_search_13 : decode cX5_search 13 = .ok (.getfield 23, 3) := by decide +kernel
theorem dX5_search_16 : decode cX5_search 16 = .ok (.if_icmp .ge 124, 3) := by decide +kernel
theorem dX5_search_19 : decode cX5_search 19 = .ok (.iconst 0, 1) := by decide +kernel
theorem dX5_search_20 : decode cX5_search 20 = .ok (.istore 5, 2) := by decide +kernel
theorem dX5_search_22 : decode cX5_search 22 = .ok (.iload 5, 2) := by decide +kernel
theorem dX5_search_24 : decode cX5_search 24 = .ok (.aload_n 0, 1) := by decide +kernel
theorem dX5_search_25 : decode cX5_search 25 = .ok (.getfield 23, 3) := by decide +kernel
theorem dX5_search_28 : decode cX5_search 28 = .ok (.if_icmp .ge 106, 3) := by decide +kernel
theorem dX5_search_31 : decode cX5_search 31 = .ok (.iconst 0, 1) := by decide +kernel
theorem dX5_search_32 : decode cX5_search 32 = .ok (.istore 6, 2) := by decide +kernel
theorem dX5_search_34 : decode cX5_search 34 = .ok (.iload 6, 2) := by decide +kernel
theorem dX5_search_36 : decode cX5_search 36 = .ok (.aload_n 0, 1) := by decide +kernel
theorem dX5_search_37 : decode cX5_search 37 = .ok (.getfield 23, 3) := by decide +kernel
theorem dX5_search_40 : decode cX5_search 40 = .ok (.if_icmp .ge 88, 3) := by decide +kernel
theorem dX5_search_43 : decode cX5_search 43 = .ok (.aload_n 0, 1) := by decide +kernel
theorem dX5_search_44 : decode cX5_search 44 = .ok (.getfield 13, 3) := by decide +kernel
theorem dX5_search_47 : decode cX5_search 47 = .ok (.iload 4, 2) := by decide +kernel
theorem dX5_search_49 : decode cX5_search 49 = .ok (.iaload, 1) := by decide +kernel
theorem dX5_search_50 : decode cX5_search 50 = .ok (.aload_n 0, 1) := by decide +kernel
theorem dX5_search_51 : decode cX5_search 51 = .ok (.getfield 13, 3) := by decide +kernel
theorem dX5_search_54 : decode cX5_search 54 = .ok (.iload 5, 2) := by decide +kernel
theorem dX5_search_56 : decode cX5_search 56 = .ok (.iaload, 1) := by decide +kernel
theorem dX5_search_57 : decode cX5_search 57 = .ok (.iadd, 1) := by decide +kernel
theorem dX5_search_58 : decode cX5_search 58 = .ok (.aload_n 0, 1) := by decide +kernel
theorem dX5_search_59 : decode cX5_search 59 = .ok (.getfield 13, 3) := by decide +kernel
theorem dX5_search_62 : decode cX5_search 62 = .ok (.iload 6, 2) := by decide +kernel
theorem dX5_search_64 : decode cX5_search 64 = .ok (.iaload, 1) := by decide +kernel
theorem dX5_search_65 : decode cX5_search 65 = .ok (.iadd, 1) := by decide +kernel
theorem dX5_search_66 : decode cX5_search 66 = .ok (.istore 7, 2) := by decide +kernel
theorem dX5_search_68 : decode cX5_search 68 = .ok (.iconst 0, 1) := by decide +kernel
theorem dX5_search_69 : decode cX5_search 69 = .ok (.istore 8, 2) := by decide +kernel
theorem dX5_search_71 : decode cX5_search 71 = .ok (.iload 8, 2) := by decide +kernel
theorem dX5_search_73 : decode cX5_search 73 = .ok (.aload_n 0, 1) := by decide +kernel
theorem dX5_search_74 : decode cX5_search 74 = .ok (.getfield 23, 3) := by decide +kernel
theorem dX5_search_77 : decode cX5_search 77 = .ok (.if_icmp .ge 45, 3) := by decide +kernel
theorem dX5_search_80 : decode cX5_search 80 = .ok (.iload 7, 2) := by decide +kernel
theorem dX5_search_82 : decode cX5_search 82 = .ok (.aload_n 0, 1) := by decide +kernel
theorem dX5_search_83 : decode cX5_search 83 = .ok (.getfield 13, 3) := by decide +kernel
theorem dX5_search_86 : decode cX5_search 86 = .ok (.iload 8, 2) := by decide +kernel
theorem dX5_search_88 : decode cX5_search 88 = .ok (.iaload, 1) := by decide +kernel
theorem dX5_search_89 : decode cX5_search 89 = .ok (.iadd, 1) := by decide +kernel
theorem dX5_search_90 : decode cX5_search 90 = .ok (.ifCond .eq 6, 3) := by decide +kernel
theorem dX5_search_93 : decode cX5_search 93 = .ok (.goto 23, 3) := by decide +kernel
theorem dX5_search_96 : decode cX5_search 96 = .ok (.iload_n 3, 1) := by decide +kernel
theorem dX5_search_97 : decode cX5_search 97 = .ok (.iload_n 2, 1) := by decide +kernel
theorem dX5_search_98 : decode cX5_search 98 = .ok (.if_icmp .ne 15, 3) := by decide +kernel
theorem dX5_search_101 : decode cX5_search 101 = .ok (.aload_n 0, 1) := by decide +kernel
theorem dX5_search_102 : decode cX5_search 102 = .ok (.iload 4, 2) := by decide +kernel
theorem dX5_search_104 : decode cX5_search 104 = .ok (.iload 5, 2) := by decide +kernel
theorem dX5_search_106 : decode cX5_search 106 = .ok (.iload 6, 2) := by decide +kernel
theorem dX5_search_108 : decode cX5_search 108 = .ok (.iload 8, 2) := by decide +kernel
theorem dX5_search_110 : decode cX5_search 110 = .ok (.invokevirtual 27, 3) := by decide +kernel
theorem dX5_search_113 : decode cX5_search 113 = .ok (.iinc 3 1, 3) := by decide +kernel
theorem dX5_search_116 : decode cX5_search 116 = .ok (.iinc 8 1, 3) := by decide +kernel
theorem dX5_search_119 : decode cX5_search 119 = .ok (.goto (-48), 3) := by decide +kernel
theorem dX5_search_122 : decode cX5_search 122 = .ok (.iinc 6 1, 3) := by decide +kernel
theorem dX5_search_125 : decode cX5_search 125 = .ok (.goto (-91), 3) := by decide +kernel
theorem dX5_search_128 : decode cX5_search 128 = .ok (.iinc 5 1, 3) := by decide +kernel
theorem dX5_search_131 : decode cX5_search 131 = .ok (.goto (-109), 3) := by decide +kernel
theorem dX5_search_134 : decode cX5_search 134 = .ok (.iinc 4 1, 3) := by decide +kernel
theorem dX5_search_137 : decode cX5_search 137 = .ok (.goto (-127), 3) := by decide +kernel
theorem dX5_search_140 : decode cX5_search 140 = .ok (.iload_n 3, 1) := by decide +kernel
theorem dX5_search_141 : decode cX5_search 141 = .ok (.ireturn, 1) := by decide +kernel
theorem dX5_keep_0 : decode cX5_keep 0 = .ok (.aload_n 0, 1) := by decide +kernel
theorem dX5_keep_1 : decode cX5_keep 1 = .ok (.getfield 16, 3) := by decide +kernel
theorem dX5_keep_4 : decode cX5_keep 4 = .ok (.iconst 0, 1) := by decide +kernel
theorem dX5_keep_5 : decode cX5_keep 5 = .ok (.aload_n 0, 1) := by decide +kernel
theorem dX5_keep_6 : decode cX5_keep 6 = .ok (.getfield 9, 3) := by decide +kernel
theorem dX5_keep_9 : decode cX5_keep 9 = .ok (.iload_n 1, 1) := by decide +kernel
theorem dX5_keep_10 : decode cX5_keep 10 = .ok (.iaload, 1) := by decide +kernel
theorem dX5_keep_11 : decode cX5_keep 11 = .ok (.iastore, 1) := by decide +kernel
theorem dX5_keep_12 : decode cX5_keep 12 = .ok (.aload_n 0, 1) := by decide +kernel
theorem dX5_keep_13 : decode cX5_keep 13 = .ok (.getfield 16, 3) := by decide +kernel
theorem dX5_keep_16 : decode cX5_keep 16 = .ok (.iconst 1, 1) := by decide +kernel
theorem dX5_keep_17 : decode cX5_keep 17 = .ok (.aload_n 0, 1) := by decide +kernel
theorem dX5_keep_18 : decode cX5_keep 18 = .ok (.getfield 9, 3) := by decide +kernel
theorem dX5_keep_21 : decode cX5_keep 21 = .ok (.iload_n 2, 1) := by decide +kernel
theorem dX5_keep_22 : decode cX5_keep 22 = .ok (.iaload, 1) := by decide +kernel
theorem dX5_keep_23 : decode cX5_keep 23 = .ok (.iastore, 1) := by decide +kernel
theorem dX5_keep_24 : decode cX5_keep 24 = .ok (.aload_n 0, 1) := by decide +kernel
theorem dX5_keep_25 : decode cX5_keep 25 = .ok (.getfield 16, 3) := by decide +kernel
theorem dX5_keep_28 : decode cX5_keep 28 = .ok (.iconst 2, 1) := by decide +kernel
theorem dX5_keep_29 : decode cX5_keep 29 = .ok (.aload_n 0, 1) := by decide +kernel
theorem dX5_keep_30 : decode cX5_keep 30 = .ok (.getfield 9, 3) := by decide +kernel
theorem dX5_keep_33 : decode cX5_keep 33 = .ok (.iload_n 3, 1) := by decide +kernel
theorem dX5_keep_34 : decode cX5_keep 34 = .ok (.iaload, 1) := by decide +kernel
theorem dX5_keep_35 : decode cX5_keep 35 = .ok (.iastore, 1) := by decide +kernel
theorem dX5_keep_36 : decode cX5_keep 36 = .ok (.aload_n 0, 1) := by decide +kernel
theorem dX5_keep_37 : decode cX5_keep 37 = .ok (.getfield 16, 3) := by decide +kernel
theorem dX5_keep_40 : decode cX5_keep 40 = .ok (.iconst 3, 1) := by decide +kernel
theorem dX5_keep_41 : decode cX5_keep 41 = .ok (.aload_n 0, 1) := by decide +kernel
theorem dX5_keep_42 : decode cX5_keep 42 = .ok (.getfield 9, 3) := by decide +kernel
theorem dX5_keep_45 : decode cX5_keep 45 = .ok (.iload 4, 2) := by decide +kernel
theorem dX5_keep_47 : decode cX5_keep 47 = .ok (.iaload, 1) := by decide +kernel
theorem dX5_keep_48 : decode cX5_keep 48 = .ok (.iastore, 1) := by decide +kernel
theorem dX5_keep_49 : decode cX5_keep 49 = .ok (.return_, 1) := by decide +kernel
theorem dX5_layRows_0 : decode cX5_layRows 0 = .ok (.aload_n 0, 1) := by decide +kernel
theorem dX5_layRows_1 : decode cX5_layRows 1 = .ok (.iconst 0, 1) := by decide +kernel
theorem dX5_layRows_2 : decode cX5_layRows 2 = .ok (.putfield 23, 3) := by decide +kernel
theorem dX5_layRows_5 : decode cX5_layRows 5 = .ok (.iconst 0, 1) := by decide +kernel
theorem dX5_layRows_6 : decode cX5_layRows 6 = .ok (.istore_n 2, 1) := by decide +kernel
theorem dX5_layRows_7 : decode cX5_layRows 7 = .ok (.iload_n 2, 1) := by decide +kernel
theorem dX5_layRows_8 : decode cX5_layRows 8 = .ok (.iconst 1, 1) := by decide +kernel
theorem dX5_layRows_9 : decode cX5_layRows 9 = .ok (.iload_n 1, 1) := by decide +kernel
theorem dX5_layRows_10 : decode cX5_layRows 10 = .ok (.ishl, 1) := by decide +kernel
theorem dX5_layRows_11 : decode cX5_layRows 11 = .ok (.if_icmp .ge 60, 3) := by decide +kernel
theorem dX5_layRows_14 : decode cX5_layRows 14 = .ok (.aload_n 0, 1) := by decide +kernel
theorem dX5_layRows_15 : decode cX5_layRows 15 = .ok (.getfield 23, 3) := by decide +kernel
theorem dX5_layRows_18 : decode cX5_layRows 18 = .ok (.bipush 8, 2) := by decide +kernel
theorem dX5_layRows_20 : decode cX5_layRows 20 = .ok (.if_icmp .ge 51, 3) := by decide +kernel
theorem dX5_layRows_23 : decode cX5_layRows 23 = .ok (.iload_n 2, 1) := by decide +kernel
theorem dX5_layRows_24 : decode cX5_layRows 24 = .ok (.iload_n 1, 1) := by decide +kernel
theorem dX5_layRows_25 : decode cX5_layRows 25 = .ok (.invokestatic 31, 3) := by decide +kernel
theorem dX5_layRows_28 : decode cX5_layRows 28 = .ok (.ifCond .eq 37, 3) := by decide +kernel
theorem dX5_layRows_31 : decode cX5_layRows 31 = .ok (.aload_n 0, 1) := by decide +kernel
theorem dX5_layRows_32 : decode cX5_layRows 32 = .ok (.getfield 9, 3) := by decide +kernel
theorem dX5_layRows_35 : decode cX5_layRows 35 = .ok (.aload_n 0, 1) := by decide +kernel
theorem dX5_layRows_36 : decode cX5_layRows 36 = .ok (.getfield 23, 3) := by decide +kernel
theorem dX5_layRows_39 : decode cX5_layRows 39 = .ok (.iload_n 2, 1) := by decide +kernel
theorem dX5_layRows_40 : decode cX5_layRows 40 = .ok (.iastore, 1) := by decide +kernel
theorem dX5_layRows_41 : decode cX5_layRows 41 = .ok (.aload_n 0, 1) := by decide +kernel
theorem dX5_layRows_42 : decode cX5_layRows 42 = .ok (.getfield 13, 3) := by decide +kernel
theorem dX5_layRows_45 : decode cX5_layRows 45 = .ok (.aload_n 0, 1) := by decide +kernel
theorem dX5_layRows_46 : decode cX5_layRows 46 = .ok (.getfield 23, 3) := by decide +kernel
theorem dX5_layRows_49 : decode cX5_layRows 49 = .ok (.iload_n 2, 1) := by decide +kernel
theorem dX5_layRows_50 : decode cX5_layRows 50 = .ok (.iload_n 1, 1) := by decide +kernel
theorem dX5_layRows_51 : decode cX5_layRows 51 = .ok (.invokestatic 35, 3) := by decide +kernel
theorem dX5_layRows_54 : decode cX5_layRows 54 = .ok (.iastore, 1) := by decide +kernel
theorem dX5_layRows_55 : decode cX5_layRows 55 = .ok (.aload_n 0, 1) := by decide +kernel
theorem dX5_layRows_56 : decode cX5_layRows 56 = .ok (.dup, 1) := by decide +kernel
theorem dX5_layRows_57 : decode cX5_layRows 57 = .ok (.getfield 23, 3) := by decide +kernel
theorem dX5_layRows_60 : decode cX5_layRows 60 = .ok (.iconst 1, 1) := by decide +kernel
theorem dX5_layRows_61 : decode cX5_layRows 61 = .ok (.iadd, 1) := by decide +kernel
theorem dX5_layRows_62 : decode cX5_layRows 62 = .ok (.putfield 23, 3) := by decide +kernel
theorem dX5_layRows_65 : decode cX5_layRows 65 = .ok (.iinc 2 2, 3) := by decide +kernel
theorem dX5_layRows_68 : decode cX5_layRows 68 = .ok (.goto (-61), 3) := by decide +kernel
theorem dX5_layRows_71 : decode cX5_layRows 71 = .ok (.return_, 1) := by decide +kernel
theorem dX5_isMirrored_0 : decode cX5_isMirrored 0 = .ok (.iconst 1, 1) := by decide +kernel
theorem dX5_isMirrored_1 : decode cX5_isMirrored 1 = .ok (.istore_n 2, 1) := by decide +kernel
theorem dX5_isMirrored_2 : decode cX5_isMirrored 2 = .ok (.iload_n 2, 1) := by decide +kernel
theorem dX5_isMirrored_3 : decode cX5_isMirrored 3 = .ok (.iload_n 1, 1) := by decide +kernel
theorem dX5_isMirrored_4 : decode cX5_isMirrored 4 = .ok (.if_icmp .ge 26, 3) := by decide +kernel
theorem dX5_isMirrored_7 : decode cX5_isMirrored 7 = .ok (.iload_n 0, 1) := by decide +kernel
theorem dX5_isMirrored_8 : decode cX5_isMirrored 8 = .ok (.iload_n 2, 1) := by decide +kernel
theorem dX5_isMirrored_9 : decode cX5_isMirrored 9 = .ok (.invokestatic 39, 3) := by decide +kernel
theorem dX5_isMirrored_12 : decode cX5_isMirrored 12 = .ok (.iload_n 0, 1) := by decide +kernel
theorem dX5_isMirrored_13 : decode cX5_isMirrored 13 = .ok (.iload_n 1, 1) := by decide +kernel
theorem dX5_isMirrored_14 : decode cX5_isMirrored 14 = .ok (.iload_n 2, 1) := by decide +kernel
theorem dX5_isMirrored_15 : decode cX5_isMirrored 15 = .ok (.isub, 1) := by decide +kernel
theorem dX5_isMirrored_16 : decode cX5_isMirrored 16 = .ok (.invokestatic 39, 3) := by decide +kernel
theorem dX5_isMirrored_19 : decode cX5_isMirrored 19 = .ok (.if_icmp .eq 5, 3) := by decide +kernel
theorem dX5_isMirrored_22 : decode cX5_isMirrored 22 = .ok (.iconst 0, 1) := by decide +kernel
theorem dX5_isMirrored_23 : decode cX5_isMirrored 23 = .ok (.ireturn, 1) := by decide +kernel
theorem dX5_isMirrored_24 : decode cX5_isMirrored 24 = .ok (.iinc 2 1, 3) := by decide +kernel
theorem dX5_isMirrored_27 : decode cX5_isMirrored 27 = .ok (.goto (-25), 3) := by decide +kernel
theorem dX5_isMirrored_30 : decode cX5_isMirrored 30 = .ok (.iconst 1, 1) := by decide +kernel
theorem dX5_isMirrored_31 : decode cX5_isMirrored 31 = .ok (.ireturn, 1) := by decide +kernel
theorem dX5_allShifts_0 : decode cX5_allShifts 0 = .ok (.iconst 0, 1) := by decide +kernel
theorem dX5_allShifts_1 : decode cX5_allShifts 1 = .ok (.istore_n 2, 1) := by decide +kernel
theorem dX5_allShifts_2 : decode cX5_allShifts 2 = .ok (.iconst 1, 1) := by decide +kernel
theorem dX5_allShifts_3 : decode cX5_allShifts 3 = .ok (.istore_n 3, 1) := by decide +kernel
theorem dX5_allShifts_4 : decode cX5_allShifts 4 = .ok (.iconst 2, 1) := by decide +kernel
theorem dX5_allShifts_5 : decode cX5_allShifts 5 = .ok (.iload_n 3, 1) := by decide +kernel
theorem dX5_allShifts_6 : decode cX5_allShifts 6 = .ok (.imul, 1) := by decide +kernel
theorem dX5_allShifts_7 : decode cX5_allShifts 7 = .ok (.iload_n 1, 1) := by decide +kernel
theorem dX5_allShifts_8 : decode cX5_allShifts 8 = .ok (.if_icmp .ge 27, 3) := by decide +kernel
theorem dX5_allShifts_11 : decode cX5_allShifts 11 = .ok (.bipush 64, 2) := by decide +kernel
theorem dX5_allShifts_13 : decode cX5_allShifts 13 = .ok (.iload_n 2, 1) := by decide +kernel
theorem dX5_allShifts_14 : decode cX5_allShifts 14 = .ok (.imul, 1) := by decide +kernel
theorem dX5_allShifts_15 : decode cX5_allShifts 15 = .ok (.iload_n 0, 1) := by decide +kernel
theorem dX5_allShifts_16 : decode cX5_allShifts 16 = .ok (.iload_n 0, 1) := by decide +kernel
theorem dX5_allShifts_17 : decode cX5_allShifts 17 = .ok (.iload_n 1, 1) := by decide +kernel
theorem dX5_allShifts_18 : decode cX5_allShifts 18 = .ok (.iload_n 3, 1) := by decide +kernel
theorem dX5_allShifts_19 : decode cX5_allShifts 19 = .ok (.invokestatic 44, 3) := by decide +kernel
theorem dX5_allShifts_22 : decode cX5_allShifts 22 = .ok (.ixor, 1) := by decide +kernel
theorem dX5_allShifts_23 : decode cX5_allShifts 23 = .ok (.iload_n 1, 1) := by decide +kernel
theorem dX5_allShifts_24 : decode cX5_allShifts 24 = .ok (.invokestatic 48, 3) := by decide +kernel
theorem dX5_allShifts_27 : decode cX5_allShifts 27 = .ok (.iadd, 1) := by decide +kernel
theorem dX5_allShifts_28 : decode cX5_allShifts 28 = .ok (.istore_n 2, 1) := by decide +kernel
theorem dX5_allShifts_29 : decode cX5_allShifts 29 = .ok (.iinc 3 1, 3) := by decide +kernel
theorem dX5_allShifts_32 : decode cX5_allShifts 32 = .ok (.goto (-28), 3) := by decide +kernel
theorem dX5_allShifts_35 : decode cX5_allShifts 35 = .ok (.iload_n 2, 1) := by decide +kernel
theorem dX5_allShifts_36 : decode cX5_allShifts 36 = .ok (.ireturn, 1) := by decide +kernel
theorem dX6_init_0 : decode cX6_init 0 = .ok (.aload_n 0, 1) := by decide +kernel
theorem dX6_init_1 : decode cX6_init 1 = .ok (.invokespecial 3, 3) := by decide +kernel
theorem dX6_init_4 : decode cX6_init 4 = .ok (.aload_n 0, 1) := by decide +kernel
theorem dX6_init_5 : decode cX6_init 5 = .ok (.bipush 16, 2) := by decide +kernel
theorem dX6_init_7 : decode cX6_init 7 = .ok (.newarray .long, 2) := by decide +kernel
theorem dX6_init_9 : decode cX6_init 9 = .ok (.putfield 9, 3) := by decide +kernel
theorem dX6_init_12 : decode cX6_init 12 = .ok (.aload_n 0, 1) := by decide +kernel
theorem dX6_init_13 : decode cX6_init 13 = .ok (.bipush 16, 2) := by decide +kernel
theorem dX6_init_15 : decode cX6_init 15 = .ok (.newarray .long, 2) := by decide +kernel
theorem dX6_init_17 : decode cX6_init 17 = .ok (.putfield 15, 3) := by decide +kernel
theorem dX6_init_20 : decode cX6_init 20 = .ok (.return_, 1) := by decide +kernel
theorem dX6_climb_0 : decode cX6_climb 0 = .ok (.aload_n 1, 1) := by decide +kernel
theorem dX6_climb_1 : decode cX6_climb 1 = .ok (.getfield 18, 3) := by decide +kernel
theorem dX6_climb_4 : decode cX6_climb 4 = .ok (.istore_n 2, 1) := by decide +kernel
theorem dX6_climb_5 : decode cX6_climb 5 = .ok (.aload_n 1, 1) := by decide +kernel
theorem dX6_climb_6 : decode cX6_climb 6 = .ok (.iconst 0, 1) := by decide +kernel
theorem dX6_climb_7 : decode cX6_climb 7 = .ok (.aload_n 0, 1) := by decide +kernel
theorem dX6_climb_8 : decode cX6_climb 8 = .ok (.getfield 9, 3) := by decide +kernel
theorem dX6_climb_11 : decode cX6_climb 11 = .ok (.invokestatic 24, 3) := by decide +kernel
theorem dX6_climb_14 : decode cX6_climb 14 = .ok (.aload_n 1, 1) := by decide +kernel
theorem dX6_climb_15 : decode cX6_climb 15 = .ok (.bipush 8, 2) := by decide +kernel
theorem dX6_climb_17 : decode cX6_climb 17 = .ok (.aload_n 0, 1) := by decide +kernel
theorem dX6_climb_18 : decode cX6_climb 18 = .ok (.getfield 15, 3) := by decide +kernel
theorem dX6_climb_21 : decode cX6_climb 21 = .ok (.invokestatic 24, 3) := by decide +kernel
theorem dX6_climb_24 : decode cX6_climb 24 = .ok (.iload_n 2, 1) := by decide +kernel
theorem dX6_climb_25 : decode cX6_climb 25 = .ok (.i2l, 1) := by decide +kernel
theorem dX6_climb_26 : decode cX6_climb 26 = .ok (.iload_n 2, 1) := by decide +kernel
theorem dX6_climb_27 : decode cX6_climb 27 = .ok (.invokestatic 28, 3) := by decide +kernel
theorem dX6_climb_30 : decode cX6_climb 30 = .ok (.lmul, 1) := by decide +kernel
theorem dX6_climb_31 : decode cX6_climb 31 = .ok (.lstore_n 3, 1) := by decide +kernel
theorem dX6_climb_32 : decode cX6_climb 32 = .ok (.iload_n 2, 1) := by decide +kernel
theorem dX6_climb_33 : decode cX6_climb 33 = .ok (.i2l, 1) := by decide +kernel
theorem dX6_climb_34 : decode cX6_climb 34 = .ok (.iload_n 2, 1) := by decide +kernel
theorem dX6_climb_35 : decode cX6_climb 35 = .ok (.bipush 8, 2) := by decide +kernel
theorem dX6_climb_37 : decode cX6_climb 37 = .ok (.isub, 1) := by decide +kernel
theorem dX6_climb_38 : decode cX6_climb 38 = .ok (.invokestatic 28, 3) := by decide +kernel
theorem dX6_climb_41 : decode cX6_climb 41 = .ok (.lmul, 1) := by decide +kernel
theorem dX6_climb_42 : decode cX6_climb 42 = .ok (.lstore 5, 2) := by decide +kernel
theorem dX6_climb_44 : decode cX6_climb 44 = .ok (.aload_n 1, 1) := by decide +kernel
theorem dX6_climb_45 : decode cX6_climb 45 = .ok (.iconst 0, 1) := by decide +kernel
theorem dX6_climb_46 : decode cX6_climb 46 = .ok (.invokestatic 32, 3) := by decide +kernel
theorem dX6_climb_49 : decode cX6_climb 49 = .ok (.lstore 7, 2) := by decide +kernel
theorem dX6_climb_51 : decode cX6_climb 51 = .ok (.aload_n 1, 1) := by decide +kernel
theorem dX6_climb_52 : decode cX6_climb 52 = .ok (.bipush 8, 2) := by decide +kernel
theorem dX6_climb_54 : decode cX6_climb 54 = .ok (.invokestatic 32, 3) := by decide +kernel
theorem dX6_climb_57 : decode cX6_climb 57 = .ok (.lstore 9, 2) := by decide +kernel
theorem dX6_climb_59 : decode cX6_climb 59 = .ok (.lload 7, 2) := by decide +kernel
theorem dX6_climb_61 : decode cX6_climb 61 = .ok (.lload_n 3, 1) := by decide +kernel
theorem dX6_climb_62 : decode cX6_climb 62 = .ok (.invokestatic 36, 3) := by decide +kernel
theorem dX6_climb_65 : decode cX6_climb 65 = .ok (.lload 9, 2) := by decide +kernel
theorem dX6_climb_67 : decode cX6_climb 67 = .ok (.lload 5, 2) := by decide +kernel
theorem dX6_climb_69 : decode cX6_climb 69 = .ok (.invokestatic 36, 3) := by decide +kernel
theorem dX6_climb_72 : decode cX6_climb 72 = .ok (.iadd, 1) := by decide +kernel
theorem dX6_climb_73 : decode cX6_climb 73 = .ok (.istore 11, 2) := by decide +kernel
theorem dX6_climb_75 : decode cX6_climb 75 = .ok (.iconst 0, 1) := by decide +kernel
theorem dX6_climb_76 : decode cX6_climb 76 = .ok (.istore 12, 2) := by decide +kernel
theorem dX6_climb_78 : decode cX6_climb 78 = .ok (.iconst 0, 1) := by decide +kernel
theorem dX6_climb_79 : decode cX6_climb 79 = .ok (.istore 13, 2) := by decide +kernel
theorem dX6_climb_81 : decode cX6_climb 81 = .ok (.iconst 1, 1) := by decide +kernel
theorem dX6_climb_82 : decode cX6_climb 82 = .ok (.istore 14, 2) := by decide +kernel
theorem dX6_climb_84 : decode cX6_climb 84 = .ok (.iload 14, 2) := by decide +kernel
theorem dX6_climb_86 : decode cX6_climb 86 = .ok (.iconst 1, 1) := by decide +kernel
theorem dX6_climb_87 : decode cX6_climb 87 = .ok (.iload_n 2, 1) := by decide +kernel
theorem dX6_climb_88 : decode cX6_climb 88 = .ok (.iconst 1, 1) := by decide +kernel
theorem dX6_climb_89 : decode cX6_climb 89 = .ok (.isub, 1) := by decide +kernel
theorem dX6_climb_90 : decode cX6_climb 90 = .ok (.ishl, 1) := by decide +kernel
theorem dX6_climb_91 : decode cX6_climb 91 = .ok (.if_icmp .ge 135, 3) := by decide +kernel
theorem dX6_climb_94 : decode cX6_climb 94 = .ok (.iload 14, 2) := by decide +kernel
theorem dX6_climb_96 : decode cX6_climb 96 = .ok (.invokestatic 40, 3) := by decide +kernel
theorem dX6_climb_99 : decode cX6_climb 99 = .ok (.istore 15, 2) := by decide +kernel
theorem dX6_climb_101 : decode cX6_climb 101 = .ok (.iload 13, 2) := by decide +kernel
theorem dX6_climb_103 : decode cX6_climb 103 = .ok (.iconst 1, 1) := by decide +kernel
theorem dX6_climb_104 : decode cX6_climb 104 = .ok (.iload 15, 2) := by decide +kernel
theorem dX6_climb_106 : decode cX6_climb 106 = .ok (.ishl, 1) := by decide +kernel
theorem dX6_climb_107 : decode cX6_climb 107 = .ok (.ixor, 1) := by decide +kernel
theorem dX6_climb_108 : decode cX6_climb 108 = .ok (.istore 13, 2) := by decide +kernel
theorem dX6_climb_110 : decode cX6_climb 110 = .ok (.iload 13, 2) := by decide +kernel
theorem dX6_climb_112 : decode cX6_climb 112 = .ok (.iload 15, 2) := by decide +kernel
theorem dX6_climb_114 : decode cX6_climb 114 = .ok (.invokestatic 46, 3) := by decide +kernel
theorem dX6_climb_117 : decode cX6_climb 117 = .ok (.istore 16, 2) := by decide +kernel
theorem dX6_climb_119 : decode cX6_climb 119 = .ok (.lload 7, 2) := by decide +kernel
theorem dX6_climb_121 : decode cX6_climb 121 = .ok (.iload 16, 2) := by decide +kernel
theorem dX6_climb_123 : decode cX6_climb 123 = .ok (.ifCond .eq 13, 3) := by decide +kernel
theorem dX6_climb_126 : decode cX6_climb 126 = .ok (.aload_n 0, 1) := by decide +kernel
theorem dX6_climb_127 : decode cX6_climb 127 = .ok (.getfield 9, 3) := by decide +kernel
theorem dX6_climb_130 : decode cX6_climb 130 = .ok (.iload 15, 2) := by decide +kernel
theorem dX6_climb_132 : decode cX6_climb 132 = .ok (.laload, 1) := by decide +kernel
theorem dX6_climb_133 : decode cX6_climb 133 = .ok (.goto 11, 3) := by decide +kernel
theorem dX6_climb_136 : decode cX6_climb 136 = .ok (.aload_n 0, 1) := by decide +kernel
theorem dX6_climb_137 : decode cX6_climb 137 = .ok (.getfield 9, 3) := by decide +kernel
theorem dX6_climb_140 : decode cX6_climb 140 = .ok (.iload 15, 2) := by decide +kernel
theorem dX6_climb_142 : decode cX6_climb 142 = .ok (.laload, 1) := by decide +kernel
theorem dX6_climb_143 : decode cX6_climb 143 = .ok (.lneg, 1) := by decide +kernel
theorem dX6_climb_144 : decode cX6_climb 144 = .ok (.ladd, 1) := by decide +kernel
theorem dX6_climb_145 : decode cX6_climb 145 = .ok (.lstore 7, 2) := by decide +kernel
theorem dX6_climb_147 : decode cX6_climb 147 = .ok (.lload 9, 2) := by decide +kernel
theorem dX6_climb_149 : decode cX6_climb 149 = .ok (.iload 16, 2) := by decide +kernel
theorem dX6_climb_151 : decode cX6_climb 151 = .ok (.ifCond .eq 13, 3) := by decide +kernel
theorem dX6_climb_154 : decode cX6_climb 154 = .ok (.aload_n 0, 1) := by decide +kernel
theorem dX6_climb_155 : decode cX6_climb 155 = .ok (.getfield 15, 3) := by decide +kernel
theorem dX6_climb_158 : decode cX6_climb 158 = .ok (.iload 15, 2) := by decide +kernel
theorem dX6_climb_160 : decode cX6_climb 160 = .ok (.laload, 1) := by decide +kernel
theorem dX6_climb_161 : decode cX6_climb 161 = .ok (.goto 11, 3) := by decide +kernel
theorem dX6_climb_164 : decode cX6_climb 164 = .ok (.aload_n 0, 1) := by decide +kernel
theorem dX6_climb_165 : decode cX6_climb 165 = .ok (.getfield 15, 3) := by decide +kernel
theorem dX6_climb_168 : decode cX6_climb 168 = .ok (.iload 15, 2) := by decide +kernel
theorem dX6_climb_170 : decode cX6_climb 170 = .ok (.laload, 1) := by decide +kernel
theorem dX6_climb_171 : decode cX6_climb 171 = .ok (.lneg, 1) := by decide +kernel
theorem dX6_climb_172 : decode cX6_climb 172 = .ok (.ladd, 1) := by decide +kernel
theorem dX6_climb_173 : decode cX6_climb 173 = .ok (.lstore 9, 2) := by decide +kernel
theorem dX6_climb_175 : decode cX6_climb 175 = .ok (.lload 7, 2) := by decide +kernel
theorem dX6_climb_177 : decode cX6_climb 177 = .ok (.lload_n 3, 1) := by decide +kernel
theorem dX6_climb_178 : decode cX6_climb 178 = .ok (.invokestatic 36, 3) := by decide +kernel
theorem dX6_climb_181 : decode cX6_climb 181 = .ok (.lload 9, 2) := by decide +kernel
theorem dX6_climb_183 : decode cX6_climb 183 = .ok (.lload 5, 2) := by decide +kernel
theorem dX6_climb_185 : decode cX6_climb 185 = .ok (.invokestatic 36, 3) := by decide +kernel
theorem dX6_climb_188 : decode cX6_climb 188 = .ok (.iadd, 1) := by decide +kernel
theorem dX6_climb_189 : decode cX6_climb 189 = .ok (.istore 17, 2) := by decide +kernel
theorem dX6_climb_191 : decode cX6_climb 191 = .ok (.iload 17, 2) := by decide +kernel
theorem dX6_climb_193 : decode cX6_climb 193 = .ok (.iload 11, 2) := by decide +kernel
theorem dX6_climb_195 : decode cX6_climb 195 = .ok (.if_icmp .gt 17, 3) := by decide +kernel
theorem dX6_climb_198 : decode cX6_climb 198 = .ok (.iload 17, 2) := by decide +kernel
theorem dX6_climb_200 : decode cX6_climb 200 = .ok (.iload 11, 2) := by decide +kernel
theorem dX6_climb_202 : decode cX6_climb 202 = .ok (.if_icmp .ne 18, 3) := by decide +kernel
theorem dX6_climb_205 : decode cX6_climb 205 = .ok (.iload 13, 2) := by decide +kernel
theorem dX6_climb_207 : decode cX6_climb 207 = .ok (.iload 12, 2) := by decide +kernel
theorem dX6_climb_209 : decode cX6_climb 209 = .ok (.if_icmp .ge 11, 3) := by decide +kernel
theorem dX6_climb_212 : decode cX6_climb 212 = .ok (.iload 17, 2) := by decide +kernel
theorem dX6_climb_214 : decode cX6_climb 214 = .ok (.istore 11, 2) := by decide +kernel
theorem dX6_climb_216 : decode cX6_climb 216 = .ok (.iload 13, 2) := by decide +kernel
theorem dX6_climb_218 : decode cX6_climb 218 = .ok (.istore 12, 2) := by decide +kernel
theorem dX6_climb_220 : decode cX6_climb 220 = .ok (.iinc 14 1, 3) := by decide +kernel
theorem dX6_climb_223 : decode cX6_climb 223 = .ok (.goto (-139), 3) := by decide +kernel
theorem dX6_climb_226 : decode cX6_climb 226 = .ok (.aload_n 1, 1) := by decide +kernel
theorem dX6_climb_227 : decode cX6_climb 227 = .ok (.iconst 2, 1) := by decide +kernel
theorem dX6_climb_228 : decode cX6_climb 228 = .ok (.iload 11, 2) := by decide +kernel
theorem dX6_climb_230 : decode cX6_climb 230 = .ok (.imul, 1) := by decide +kernel
theorem dX6_climb_231 : decode cX6_climb 231 = .ok (.iload_n 2, 1) := by decide +kernel
theorem dX6_climb_232 : decode cX6_climb 232 = .ok (.iload_n 2, 1) := by decide +kernel
theorem dX6_climb_233 : decode cX6_climb 233 = .ok (.imul, 1) := by decide +kernel
theorem dX6_climb_234 : decode cX6_climb 234 = .ok (.isub, 1) := by decide +kernel
theorem dX6_climb_235 : decode cX6_climb 235 = .ok (.putfield 50, 3) := by decide +kernel
theorem dX6_climb_238 : decode cX6_climb 238 = .ok (.aload_n 1, 1) := by decide +kernel
theorem dX6_climb_239 : decode cX6_climb 239 = .ok (.iload 12, 2) := by decide +kernel
theorem dX6_climb_241 : decode cX6_climb 241 = .ok (.putfield 53, 3) := by decide +kernel
theorem dX6_climb_244 : decode cX6_climb 244 = .ok (.aload_n 1, 1) := by decide +kernel
theorem dX6_climb_245 : decode cX6_climb 245 = .ok (.iconst 1, 1) := by decide +kernel
theorem dX6_climb_246 : decode cX6_climb 246 = .ok (.putfield 56, 3) := by decide +kernel
theorem dX6_climb_249 : decode cX6_climb 249 = .ok (.return_, 1) := by decide +kernel
theorem dX6_lanes_0 : decode cX6_lanes 0 = .ok (.iload_n 0, 1) := by decide +kernel
theorem dX6_lanes_1 : decode cX6_lanes 1 = .ok (.ifCond .gt 5, 3) := by decide +kernel
theorem dX6_lanes_4 : decode cX6_lanes 4 = .ok (.lconst 0, 1) := by decide +kernel
theorem dX6_lanes_5 : decode cX6_lanes 5 = .ok (.lreturn, 1) := by decide +kernel
theorem dX6_lanes_6 : decode cX6_lanes 6 = .ok (.iload_n 0, 1) := by decide +kernel
theorem dX6_lanes_7 : decode cX6_lanes 7 = .ok (.bipush 8, 2) := by decide +kernel
theorem dX6_lanes_9 : decode cX6_lanes 9 = .ok (.if_icmp .lt 9, 3) := by decide +kernel
theorem dX6_lanes_12 : decode cX6_lanes 12 = .ok (.ldc2_w 60, 3) := by decide +kernel
theorem dX6_lanes_15 : decode cX6_lanes 15 = .ok (.goto 14, 3) := by decide +kernel
theorem dX6_lanes_18 : decode cX6_lanes 18 = .ok (.ldc2_w 60, 3) := by decide +kernel
theorem dX6_lanes_21 : decode cX6_lanes 21 = .ok (.bipush 8, 2) := by decide +kernel
theorem dX6_lanes_23 : decode cX6_lanes 23 = .ok (.bipush 8, 2) := by decide +kernel
theorem dX6_lanes_25 : decode cX6_lanes 25 = .ok (.iload_n 0, 1) := by decide +kernel
theorem dX6_lanes_26 : decode cX6_lanes 26 = .ok (.isub, 1) := by decide +kernel
theorem dX6_lanes_27 : decode cX6_lanes 27 = .ok (.imul, 1) := by decide +kernel
theorem dX6_lanes_28 : decode cX6_lanes 28 = .ok (.lushr, 1) := by decide +kernel
theorem dX6_lanes_29 : decode cX6_lanes 29 = .ok (.lreturn, 1) := by decide +kernel
theorem dX6_plusCounts_0 : decode cX6_plusCounts 0 = .ok (.lconst 0, 1) := by decide +kernel
theorem dX6_plusCounts_1 : decode cX6_plusCounts 1 = .ok (.lstore_n 2, 1) := by decide +kernel
theorem dX6_plusCounts_2 : decode cX6_plusCounts 2 = .ok (.iload_n 1, 1) := by decide +kernel
theorem dX6_plusCounts_3 : decode cX6_plusCounts 3 = .ok (.istore 4, 2) := by decide +kernel
theorem dX6_plusCounts_5 : decode cX6_plusCounts 5 = .ok (.iload 4, 2) := by decide +kernel
theorem dX6_plusCounts_7 : decode cX6_plusCounts 7 = .ok (.aload_n 0, 1) := by decide +kernel
theorem dX6_plusCounts_8 : decode cX6_plusCounts 8 = .ok (.getfield 18, 3) := by decide +kernel
theorem dX6_plusCounts_11 : decode cX6_plusCounts 11 = .ok (.if_icmp .ge 49, 3) := by decide +kernel
theorem dX6_plusCounts_14 : decode cX6_plusCounts 14 = .ok (.iload 4, 2) := by decide +kernel
theorem dX6_plusCounts_16 : decode cX6_plusCounts 16 = .ok (.iload_n 1, 1) := by decide +kernel
theorem dX6_plusCounts_17 : decode cX6_plusCounts 17 = .ok (.bipush 8, 2) := by decide +kernel
theorem dX6_plusCounts_19 : decode cX6_plusCounts 19 = .ok (.iadd, 1) := by decide +kernel
theorem dX6_plusCounts_20 : decode cX6_plusCounts 20 = .ok (.if_icmp .ge 40, 3) := by decide +kernel
theorem dX6_plusCounts_23 : decode cX6_plusCounts 23 = .ok (.aload_n 0, 1) := by decide +kernel
theorem dX6_plusCounts_24 : decode cX6_plusCounts 24 = .ok (.getfield 18, 3) := by decide +kernel
theorem dX6_plusCounts_27 : decode cX6_plusCounts 27 = .ok (.aload_n 0, 1) := by decide +kernel
theorem dX6_plusCounts_28 : decode cX6_plusCounts 28 = .ok (.getfield 62, 3) := by decide +kernel
theorem dX6_plusCounts_31 : decode cX6_plusCounts 31 = .ok (.iload 4, 2) := by decide +kernel
theorem dX6_plusCounts_33 : decode cX6_plusCounts 33 = .ok (.iaload, 1) := by decide +kernel
theorem dX6_plusCounts_34 : decode cX6_plusCounts 34 = .ok (.invokestatic 66, 3) := by decide +kernel
theorem dX6_plusCounts_37 : decode cX6_plusCounts 37 = .ok (.isub, 1) := by decide +kernel
theorem dX6_plusCounts_38 : decode cX6_plusCounts 38 = .ok (.i2l, 1) := by decide +kernel
theorem dX6_plusCounts_39 : decode cX6_plusCounts 39 = .ok (.lstore 5, 2) := by decide +kernel
theorem dX6_plusCounts_41 : decode cX6_plusCounts 41 = .ok (.lload_n 2, 1) := by decide +kernel
theorem dX6_plusCounts_42 : decode cX6_plusCounts 42 = .ok (.lload 5, 2) := by decide +kernel
theorem dX6_plusCounts_44 : decode cX6_plusCounts 44 = .ok (.bipush 8, 2) := by decide +kernel
theorem dX6_plusCounts_46 : decode cX6_plusCounts 46 = .ok (.iload 4, 2) := by decide +kernel
theorem dX6_plusCounts_48 : decode cX6_plusCounts 48 = .ok (.iload_n 1, 1) := by decide +kernel
theorem dX6_plusCounts_49 : decode cX6_plusCounts 49 = .ok (.isub, 1) := by decide +kernel
theorem dX6_plusCounts_50 : decode cX6_plusCounts 50 = .ok (.imul, 1) := by decide +kernel
theorem dX6_plusCounts_51 : decode cX6_plusCounts 51 = .ok (.lshl, 1) := by decide +kernel
theorem dX6_plusCounts_52 : decode cX6_plusCounts 52 = .ok (.lor, 1) := by decide +kernel
theorem dX6_plusCounts_53 : decode cX6_plusCounts 53 = .ok (.lstore_n 2, 1) := by decide +kernel
theorem dX6_plusCounts_54 : decode cX6_plusCounts 54 = .ok (.iinc 4 1, 3) := by decide +kernel
theorem dX6_plusCounts_57 : decode cX6_plusCounts 57 = .ok (.goto (-52), 3) := by decide +kernel
theorem dX6_plusCounts_60 : decode cX6_plusCounts 60 = .ok (.lload_n 2, 1) := by decide +kernel
theorem dX6_plusCounts_61 : decode cX6_plusCounts 61 = .ok (.lreturn, 1) := by decide +kernel
theorem dX6_laySteps_0 : decode cX6_laySteps 0 = .ok (.iconst 0, 1) := by decide +kernel
theorem dX6_laySteps_1 : decode cX6_laySteps 1 = .ok (.istore_n 3, 1) := by decide +kernel
theorem dX6_laySteps_2 : decode cX6_laySteps 2 = .ok (.iload_n 3, 1) := by decide +kernel
theorem dX6_laySteps_3 : decode cX6_laySteps 3 = .ok (.aload_n 0, 1) := by decide +kernel
theorem dX6_laySteps_4 : decode cX6_laySteps 4 = .ok (.getfield 18, 3) := by decide +kernel
theorem dX6_laySteps_7 : decode cX6_laySteps 7 = .ok (.if_icmp .ge 88, 3) := by decide +kernel
theorem dX6_laySteps_10 : decode cX6_laySteps 10 = .ok (.iload_n 3, 1) := by decide +kernel
theorem dX6_laySteps_11 : decode cX6_laySteps 11 = .ok (.aload_n 2, 1) := by decide +kernel
theorem dX6_laySteps_12 : decode cX6_laySteps 12 = .ok (.arraylength, 1) := by decide +kernel
theorem dX6_laySteps_13 : decode cX6_laySteps 13 = .ok (.if_icmp .ge 82, 3) := by decide +kernel
theorem dX6_laySteps_16 : decode cX6_laySteps 16 = .ok (.lconst 0, 1) := by decide +kernel
theorem dX6_laySteps_17 : decode cX6_laySteps 17 = .ok (.lstore 4, 2) := by decide +kernel
theorem dX6_laySteps_19 : decode cX6_laySteps 19 = .ok (.iload_n 1, 1) := by decide +kernel
theorem dX6_laySteps_20 : decode cX6_laySteps 20 = .ok (.istore 6, 2) := by decide +kernel
theorem dX6_laySteps_22 : decode cX6_laySteps 22 = .ok (.iload 6, 2) := by decide +kernel
theorem dX6_laySteps_24 : decode cX6_laySteps 24 = .ok (.aload_n 0, 1) := by decide +kernel
theorem dX6_laySteps_25 : decode cX6_laySteps 25 = .ok (.getfield 18, 3) := by decide +kernel
theorem dX6_laySteps_28 : decode cX6_laySteps 28 = .ok (.if_icmp .ge 42, 3) := by decide +kernel
theorem dX6_laySteps_31 : decode cX6_laySteps 31 = .ok (.iload 6, 2) := by decide +kernel
theorem dX6_laySteps_33 : decode cX6_laySteps 33 = .ok (.iload_n 1, 1) := by decide +kernel
theorem dX6_laySteps_34 : decode cX6_laySteps 34 = .ok (.bipush 8, 2) := by decide +kernel
theorem dX6_laySteps_36 : decode cX6_laySteps 36 = .ok (.iadd, 1) := by decide +kernel
theorem dX6_laySteps_37 : decode cX6_laySteps 37 = .ok (.if_icmp .ge 33, 3) := by decide +kernel
theorem dX6_laySteps_40 : decode cX6_laySteps 40 = .ok (.aload_n 0, 1) := by decide +kernel
theorem dX6_laySteps_41 : decode cX6_laySteps 41 = .ok (.iload 6, 2) := by decide +kernel
theorem dX6_laySteps_43 : decode cX6_laySteps 43 = .ok (.iload_n 3, 1) := by decide +kernel
theorem dX6_laySteps_44 : decode cX6_laySteps 44 = .ok (.invokevirtual 69, 3) := by decide +kernel
theorem dX6_laySteps_47 : decode cX6_laySteps 47 = .ok (.ifCond .eq 17, 3) := by decide +kernel
theorem dX6_laySteps_50 : decode cX6_laySteps 50 = .ok (.lload 4, 2) := by decide +kernel
theorem dX6_laySteps_52 : decode cX6_laySteps 52 = .ok (.lconst 1, 1) := by decide +kernel
theorem dX6_laySteps_53 : decode cX6_laySteps 53 = .ok (.bipush 8, 2) := by decide +kernel
theorem dX6_laySteps_55 : decode cX6_laySteps 55 = .ok (.iload 6, 2) := by decide +kernel
theorem dX6_laySteps_57 : decode cX6_laySteps 57 = .ok (.iload_n 1, 1) := by decide +kernel
theorem dX6_laySteps_58 : decode cX6_laySteps 58 = .ok (.isub, 1) := by decide +kernel
theorem dX6_laySteps_59 : decode cX6_laySteps 59 = .ok (.imul, 1) := by decide +kernel
theorem dX6_laySteps_60 : decode cX6_laySteps 60 = .ok (.lshl, 1) := by decide +kernel
theorem dX6_laySteps_61 : decode cX6_laySteps 61 = .ok (.lor, 1) := by decide +kernel
theorem dX6_laySteps_62 : decode cX6_laySteps 62 = .ok (.lstore 4, 2) := by decide +kernel
theorem dX6_laySteps_64 : decode cX6_laySteps 64 = .ok (.iinc 6 1, 3) := by decide +kernel
theorem dX6_laySteps_67 : decode cX6_laySteps 67 = .ok (.goto (-45), 3) := by decide +kernel
theorem dX6_laySteps_70 : decode cX6_laySteps 70 = .ok (.aload_n 2, 1) := by decide +kernel
theorem dX6_laySteps_71 : decode cX6_laySteps 71 = .ok (.iload_n 3, 1) := by decide +kernel
theorem dX6_laySteps_72 : decode cX6_laySteps 72 = .ok (.ldc2_w 72, 3) := by decide +kernel
theorem dX6_laySteps_75 : decode cX6_laySteps 75 = .ok (.lload 4, 2) := by decide +kernel
theorem dX6_laySteps_77 : decode cX6_laySteps 77 = .ok (.lmul, 1) := by decide +kernel
theorem dX6_laySteps_78 : decode cX6_laySteps 78 = .ok (.aload_n 0, 1) := by decide +kernel
theorem dX6_laySteps_79 : decode cX6_laySteps 79 = .ok (.getfield 18, 3) := by decide +kernel
theorem dX6_laySteps_82 : decode cX6_laySteps 82 = .ok (.iload_n 1, 1) := by decide +kernel
theorem dX6_laySteps_83 : decode cX6_laySteps 83 = .ok (.isub, 1) := by decide +kernel
theorem dX6_laySteps_84 : decode cX6_laySteps 84 = .ok (.invokestatic 28, 3) := by decide +kernel
theorem dX6_laySteps_87 : decode cX6_laySteps 87 = .ok (.lsub, 1) := by decide +kernel
theorem dX6_laySteps_88 : decode cX6_laySteps 88 = .ok (.lastore, 1) := by decide +kernel
theorem dX6_laySteps_89 : decode cX6_laySteps 89 = .ok (.iinc 3 1, 3) := by decide +kernel
theorem dX6_laySteps_92 : decode cX6_laySteps 92 = .ok (.goto (-90), 3) := by decide +kernel
theorem dX6_laySteps_95 : decode cX6_laySteps 95 = .ok (.return_, 1) := by decide +kernel
theorem dX6_greaterSides_0 : decode cX6_greaterSides 0 = .ok (.lload_n 2, 1) := by decide +kernel
theorem dX6_greaterSides_1 : decode cX6_greaterSides 1 = .ok (.lload_n 0, 1) := by decide +kernel
theorem dX6_greaterSides_2 : decode cX6_greaterSides 2 = .ok (.lsub, 1) := by decide +kernel
theorem dX6_greaterSides_3 : decode cX6_greaterSides 3 = .ok (.lstore 4, 2) := by decide +kernel
theorem dX6_greaterSides_5 : decode cX6_greaterSides 5 = .ok (.lload_n 0, 1) := by decide +kernel
theorem dX6_greaterSides_6 : decode cX6_greaterSides 6 = .ok (.ldc2_w 74, 3) := by decide +kernel
theorem dX6_greaterSides_9 : decode cX6_greaterSides 9 = .ok (.lor, 1) := by decide +kernel
theorem dX6_greaterSides_10 : decode cX6_greaterSides 10 = .ok (.lload 4, 2) := by decide +kernel
theorem dX6_greaterSides_12 : decode cX6_greaterSides 12 = .ok (.lsub, 1) := by decide +kernel
theorem dX6_greaterSides_13 : decode cX6_greaterSides 13 = .ok (.bipush 7, 2) := by decide +kernel
theorem dX6_greaterSides_15 : decode cX6_greaterSides 15 = .ok (.lushr, 1) := by decide +kernel
theorem dX6_greaterSides_16 : decode cX6_greaterSides 16 = .ok (.ldc2_w 60, 3) := by decide +kernel
theorem dX6_greaterSides_19 : decode cX6_greaterSides 19 = .ok (.land, 1) := by decide +kernel
theorem dX6_greaterSides_20 : decode cX6_greaterSides 20 = .ok (.lstore 6, 2) := by decide +kernel
theorem dX6_greaterSides_22 : decode cX6_greaterSides 22 = .ok (.lload 6, 2) := by decide +kernel
theorem dX6_greaterSides_24 : decode cX6_greaterSides 24 = .ok (.bipush 8, 2) := by decide +kernel
theorem dX6_greaterSides_26 : decode cX6_greaterSides 26 = .ok (.lshl, 1) := by decide +kernel
theorem dX6_greaterSides_27 : decode cX6_greaterSides 27 = .ok (.lload 6, 2) := by decide +kernel
theorem dX6_greaterSides_29 : decode cX6_greaterSides 29 = .ok (.lsub, 1) := by decide +kernel
theorem dX6_greaterSides_30 : decode cX6_greaterSides 30 = .ok (.lstore 8, 2) := by decide +kernel
theorem dX6_greaterSides_32 : decode cX6_greaterSides 32 = .ok (.lload_n 0, 1) := by decide +kernel
theorem dX6_greaterSides_33 : decode cX6_greaterSides 33 = .ok (.lload 8, 2) := by decide +kernel
theorem dX6_greaterSides_35 : decode cX6_greaterSides 35 = .ok (.land, 1) := by decide +kernel
theorem dX6_greaterSides_36 : decode cX6_greaterSides 36 = .ok (.lload 4, 2) := by decide +kernel
theorem dX6_greaterSides_38 : decode cX6_greaterSides 38 = .ok (.lload 8, 2) := by decide +kernel
theorem dX6_greaterSides_40 : decode cX6_greaterSides 40 = .ok (.ldc2_w 76, 3) := by decide +kernel
theorem dX6_greaterSides_43 : decode cX6_greaterSides 43 = .ok (.lxor, 1) := by decide +kernel
theorem dX6_greaterSides_44 : decode cX6_greaterSides 44 = .ok (.land, 1) := by decide +kernel
theorem dX6_greaterSides_45 : decode cX6_greaterSides 45 = .ok (.lor, 1) := by decide +kernel
theorem dX6_greaterSides_46 : decode cX6_greaterSides 46 = .ok (.lstore 10, 2) := by decide +kernel
theorem dX6_greaterSides_48 : decode cX6_greaterSides 48 = .ok (.lload 10, 2) := by decide +kernel
theorem dX6_greaterSides_50 : decode cX6_greaterSides 50 = .ok (.ldc2_w 60, 3) := by decide +kernel
theorem dX6_greaterSides_53 : decode cX6_greaterSides 53 = .ok (.lmul, 1) := by decide +kernel
theorem dX6_greaterSides_54 : decode cX6_greaterSides 54 = .ok (.bipush 56, 2) := by decide +kernel
theorem dX6_greaterSides_56 : decode cX6_greaterSides 56 = .ok (.lushr, 1) := by decide +kernel
theorem dX6_greaterSides_57 : decode cX6_greaterSides 57 = .ok (.l2i, 1) := by decide +kernel
theorem dX6_greaterSides_58 : decode cX6_greaterSides 58 = .ok (.ireturn, 1) := by decide +kernel
theorem dX7_init_0 : decode cX7_init 0 = .ok (.aload_n 0, 1) := by decide +kernel
theorem dX7_init_1 : decode cX7_init 1 = .ok (.invokespecial 3, 3) := by decide +kernel
theorem dX7_init_4 : decode cX7_init 4 = .ok (.aload_n 0, 1) := by decide +kernel
theorem dX7_init_5 : decode cX7_init 5 = .ok (.bipush 28, 2) := by decide +kernel
theorem dX7_init_7 : decode cX7_init 7 = .ok (.newarray .int, 2) := by decide +kernel
theorem dX7_init_9 : decode cX7_init 9 = .ok (.putfield 9, 3) := by decide +kernel
theorem dX7_init_12 : decode cX7_init 12 = .ok (.aload_n 0, 1) := by decide +kernel
theorem dX7_init_13 : decode cX7_init 13 = .ok (.bipush 28, 2) := by decide +kernel
theorem dX7_init_15 : decode cX7_init 15 = .ok (.newarray .int, 2) := by decide +kernel
theorem dX7_init_17 : decode cX7_init 17 = .ok (.putfield 15, 3) := by decide +kernel
theorem dX7_init_20 : decode cX7_init 20 = .ok (.aload_n 0, 1) := by decide +kernel
theorem dX7_init_21 : decode cX7_init 21 = .ok (.bipush 28, 2) := by decide +kernel
theorem dX7_init_23 : decode cX7_init 23 = .ok (.newarray .int, 2) := by decide +kernel
theorem dX7_init_25 : decode cX7_init 25 = .ok (.putfield 18, 3) := by decide +kernel
theorem dX7_init_28 : decode cX7_init 28 = .ok (.return_, 1) := by decide +kernel
theorem dX7_begin_0 : decode cX7_begin 0 = .ok (.aload_n 0, 1) := by decide +kernel
theorem dX7_begin_1 : decode cX7_begin 1 = .ok (.iload_n 1, 1) := by decide +kernel
theorem dX7_begin_2 : decode cX7_begin 2 = .ok (.putfield 21, 3) := by decide +kernel
theorem dX7_begin_5 : decode cX7_begin 5 = .ok (.aload_n 0, 1) := by decide +kernel
theorem dX7_begin_6 : decode cX7_begin 6 = .ok (.getfield 9, 3) := by decide +kernel
theorem dX7_begin_9 : decode cX7_begin 9 = .ok (.iconst 0, 1) := by decide +kernel
theorem dX7_begin_10 : decode cX7_begin 10 = .ok (.invokestatic 25, 3) := by decide +kernel
theorem dX7_begin_13 : decode cX7_begin 13 = .ok (.aload_n 0, 1) := by decide +kernel
theorem dX7_begin_14 : decode cX7_begin 14 = .ok (.invokevirtual 31, 3) := by decide +kernel
theorem dX7_begin_17 : decode cX7_begin 17 = .ok (.return_, 1) := by decide +kernel
theorem dX7_beginTrail_0 : decode cX7_beginTrail 0 = .ok (.iconst 0, 1) := by decide +kernel
theorem dX7_beginTrail_1 : decode cX7_beginTrail 1 = .ok (.istore_n 1, 1) := by decide +kernel
theorem dX7_beginTrail_2 : decode cX7_beginTrail 2 = .ok (.iload_n 1, 1) := by decide +kernel
theorem dX7_beginTrail_3 : decode cX7_beginTrail 3 = .ok (.bipush 28, 2) := by decide +kernel
theorem dX7_beginTrail_5 : decode cX7_beginTrail 5 = .ok (.if_icmp .ge 27, 3) := by decide +kernel
theorem dX7_beginTrail_8 : decode cX7_beginTrail 8 = .ok (.aload_n 0, 1) := by decide +kernel
theorem dX7_beginTrail_9 : decode cX7_beginTrail 9 = .ok (.getfield 15, 3) := by decide +kernel
theorem dX7_beginTrail_12 : decode cX7_beginTrail 12 = .ok (.iload_n 1, 1) := by decide +kernel
theorem dX7_beginTrail_13 : decode cX7_beginTrail 13 = .ok (.iconst 2, 1) := by decide +kernel
theorem dX7_beginTrail_14 : decode cX7_beginTrail 14 = .ok (.iload_n 1, 1) := by decide +kernel
theorem dX7_beginTrail_15 : decode cX7_beginTrail 15 = .ok (.imul, 1) := by decide +kernel
theorem dX7_beginTrail_16 : decode cX7_beginTrail 16 = .ok (.iastore, 1) := by decide +kernel
theorem dX7_beginTrail_17 : decode cX7_beginTrail 17 = .ok (.aload_n 0, 1) := by decide +kernel
theorem dX7_beginTrail_18 : decode cX7_beginTrail 18 = .ok (.getfield 18, 3) := by decide +kernel
theorem dX7_beginTrail_21 : decode cX7_beginTrail 21 = .ok (.iload_n 1, 1) := by decide +kernel
theorem dX7_beginTrail_22 : decode cX7_beginTrail 22 = .ok (.iconst 2, 1) := by decide +kernel
theorem dX7_beginTrail_23 : decode cX7_beginTrail 23 = .ok (.iload_n 1, 1) := by decide +kernel
theorem dX7_beginTrail_24 : decode cX7_beginTrail 24 = .ok (.imul, 1) := by decide +kernel
theorem dX7_beginTrail_25 : decode cX7_beginTrail 25 = .ok (.iastore, 1) := by decide +kernel
theorem dX7_beginTrail_26 : decode cX7_beginTrail 26 = .ok (.iinc 1 1, 3) := by decide +kernel
theorem dX7_beginTrail_29 : decode cX7_beginTrail 29 = .ok (.goto (-27), 3) := by decide +kernel
theorem dX7_beginTrail_32 : decode cX7_beginTrail 32 = .ok (.aload_n 0, 1) := by decide +kernel
theorem dX7_beginTrail_33 : decode cX7_beginTrail 33 = .ok (.iconst 0, 1) := by decide +kernel
theorem dX7_beginTrail_34 : decode cX7_beginTrail 34 = .ok (.putfield 34, 3) := by decide +kernel
theorem dX7_beginTrail_37 : decode cX7_beginTrail 37 = .ok (.aload_n 0, 1) := by decide +kernel
theorem dX7_beginTrail_38 : decode cX7_beginTrail 38 = .ok (.iconst 0, 1) := by decide +kernel
theorem dX7_beginTrail_39 : decode cX7_beginTrail 39 = .ok (.putfield 38, 3) := by decide +kernel
theorem dX7_beginTrail_42 : decode cX7_beginTrail 42 = .ok (.return_, 1) := by decide +kernel
theorem dX7_layRows_0 : decode cX7_layRows 0 = .ok (.aload_n 0, 1) := by decide +kernel
theorem dX7_layRows_1 : decode cX7_layRows 1 = .ok (.iload_n 2, 1) := by decide +kernel
theorem dX7_layRows_2 : decode cX7_layRows 2 = .ok (.invokevirtual 41, 3) := by decide +kernel
theorem dX7_layRows_5 : decode cX7_layRows 5 = .ok (.iconst 0, 1) := by decide +kernel
theorem dX7_layRows_6 : decode cX7_layRows 6 = .ok (.istore_n 3, 1) := by decide +kernel
theorem dX7_layRows_7 : decode cX7_layRows 7 = .ok (.iload_n 3, 1) := by decide +kernel
theorem dX7_layRows_8 : decode cX7_layRows 8 = .ok (.iload_n 2, 1) := by decide +kernel
theorem dX7_layRows_9 : decode cX7_layRows 9 = .ok (.if_icmp .ge 24, 3) := by decide +kernel
theorem dX7_layRows_12 : decode cX7_layRows 12 = .ok (.iload_n 3, 1) := by decide +kernel
theorem dX7_layRows_13 : decode cX7_layRows 13 = .ok (.aload_n 1, 1) := by decide +kernel
theorem dX7_layRows_14 : decode cX7_layRows 14 = .ok (.arraylength, 1) := by decide +kernel
theorem dX7_layRows_15 : decode cX7_layRows 15 = .ok (.if_icmp .ge 18, 3) := by decide +kernel
theorem dX7_layRows_18 : decode cX7_layRows 18 = .ok (.aload_n 0, 1) := by decide +kernel
theorem dX7_layRows_19 : decode cX7_layRows 19 = .ok (.getfield 9, 3) := by decide +kernel
theorem dX7_layRows_22 : decode cX7_layRows 22 = .ok (.iload_n 3, 1) := by decide +kernel
theorem dX7_layRows_23 : decode cX7_layRows 23 = .ok (.aload_n 1, 1) := by decide +kernel
theorem dX7_layRows_24 : decode cX7_layRows 24 = .ok (.iload_n 3, 1) := by decide +kernel
theorem dX7_layRows_25 : decode cX7_layRows 25 = .ok (.iaload, 1) := by decide +kernel
theorem dX7_layRows_26 : decode cX7_layRows 26 = .ok (.iastore, 1) := by decide +kernel
theorem dX7_layRows_27 : decode cX7_layRows 27 = .ok (.iinc 3 1, 3) := by decide +kernel
theorem dX7_layRows_30 : decode cX7_layRows 30 = .ok (.goto (-23), 3) := by decide +kernel
theorem dX7_layRows_33 : decode cX7_layRows 33 = .ok (.return_, 1) := by decide +kernel
theorem dX7_has_0 : decode cX7_has 0 = .ok (.iload_n 1, 1) := by decide +kernel
theorem dX7_has_1 : decode cX7_has 1 = .ok (.ifCond .lt 15, 3) := by decide +kernel
theorem dX7_has_4 : decode cX7_has 4 = .ok (.iload_n 1, 1) := by decide +kernel
theorem dX7_has_5 : decode cX7_has 5 = .ok (.aload_n 0, 1) := by decide +kernel
theorem dX7_has_6 : decode cX7_has 6 = .ok (.getfield 21, 3) := by decide +kernel
theorem dX7_has_9 : decode cX7_has 9 = .ok (.if_icmp .ge 7, 3) := by decide +kernel
theorem dX7_has_12 : decode cX7_has 12 = .ok (.iconst 1, 1) := by decide +kernel
theorem dX7_has_13 : decode cX7_has 13 = .ok (.goto 4, 3) := by decide +kernel
theorem dX7_has_16 : decode cX7_has 16 = .ok (.iconst 0, 1) := by decide +kernel
theorem dX7_has_17 : decode cX7_has 17 = .ok (.ireturn, 1) := by decide +kernel
theorem dX7_mask_0 : decode cX7_mask 0 = .ok (.iconst 1, 1) := by decide +kernel
theorem dX7_mask_1 : decode cX7_mask 1 = .ok (.aload_n 0, 1) := by decide +kernel
theorem dX7_mask_2 : decode cX7_mask 2 = .ok (.getfield 21, 3) := by decide +kernel
theorem dX7_mask_5 : decode cX7_mask 5 = .ok (.ishl, 1) := by decide +kernel
theorem dX7_mask_6 : decode cX7_mask 6 = .ok (.iconst 1, 1) := by decide +kernel
theorem dX7_mask_7 : decode cX7_mask 7 = .ok (.isub, 1) := by decide +kernel
theorem dX7_mask_8 : decode cX7_mask 8 = .ok (.ireturn, 1) := by decide +kernel
theorem dX7_isMinus_0 : decode cX7_isMinus 0 = .ok (.aload_n 0, 1) := by decide +kernel
theorem dX7_isMinus_1 : decode cX7_isMinus 1 = .ok (.getfield 9, 3) := by decide +kernel
theorem dX7_isMinus_4 : decode cX7_isMinus 4 = .ok (.iload_n 1, 1) := by decide +kernel
theorem dX7_isMinus_5 : decode cX7_isMinus 5 = .ok (.iaload, 1) := by decide +kernel
theorem dX7_isMinus_6 : decode cX7_isMinus 6 = .ok (.iload_n 2, 1) := by decide +kernel
theorem dX7_isMinus_7 : decode cX7_isMinus 7 = .ok (.invokestatic 45, 3) := by decide +kernel
theorem dX7_isMinus_10 : decode cX7_isMinus 10 = .ok (.ireturn, 1) := by decide +kernel
theorem dX7_setMinus_0 : decode cX7_setMinus 0 = .ok (.aload_n 0, 1) := by decide +kernel
theorem dX7_setMinus_1 : decode cX7_setMinus 1 = .ok (.getfield 9, 3) := by decide +kernel
theorem dX7_setMinus_4 : decode cX7_setMinus 4 = .ok (.iload_n 1, 1) := by decide +kernel
theorem dX7_setMinus_5 : decode cX7_setMinus 5 = .ok (.dup2, 1) := by decide +kernel
theorem dX7_setMinus_6 : decode cX7_setMinus 6 = .ok (.iaload, 1) := by decide +kernel
theorem dX7_setMinus_7 : decode cX7_setMinus 7 = .ok (.iconst 1, 1) := by decide +kernel
theorem dX7_setMinus_8 : decode cX7_setMinus 8 = .ok (.iload_n 2, 1) := by decide +kernel
theorem dX7_setMinus_9 : decode cX7_setMinus 9 = .ok (.ishl, 1) := by decide +kernel
theorem dX7_setMinus_10 : decode cX7_setMinus 10 = .ok (.ior, 1) := by decide +kernel
theorem dX7_setMinus_11 : decode cX7_setMinus 11 = .ok (.iastore, 1) := by decide +kernel
theorem dX7_setMinus_12 : decode cX7_setMinus 12 = .ok (.return_, 1) := by decide +kernel
theorem dX7_line_0 : decode cX7_line 0 = .ok (.iload_n 1, 1) := by decide +kernel
theorem dX7_line_1 : decode cX7_line 1 = .ok (.ifCond .eq 10, 3) := by decide +kernel
theorem dX7_line_4 : decode cX7_line 4 = .ok (.aload_n 0, 1) := by decide +kernel
theorem dX7_line_5 : decode cX7_line 5 = .ok (.getfield 9, 3) := by decide +kernel
theorem dX7_line_8 : decode cX7_line 8 = .ok (.iload_n 2, 1) := by decide +kernel
theorem dX7_line_9 : decode cX7_line 9 = .ok (.iaload, 1) := by decide +kernel
theorem dX7_line_10 : decode cX7_line 10 = .ok (.ireturn, 1) := by decide +kernel
theorem dX7_line_11 : decode cX7_line 11 = .ok (.iconst 0, 1) := by decide +kernel
theorem dX7_line_12 : decode cX7_line 12 = .ok (.istore_n 3, 1) := by decide +kernel
theorem dX7_line_13 : decode cX7_line 13 = .ok (.iconst 0, 1) := by decide +kernel
theorem dX7_line_14 : decode cX7_line 14 = .ok (.istore 4, 2) := by decide +kernel
theorem dX7_line_16 : decode cX7_line 16 = .ok (.iload 4, 2) := by decide +kernel
theorem dX7_line_18 : decode cX7_line 18 = .ok (.aload_n 0, 1) := by decide +kernel
theorem dX7_line_19 : decode cX7_line 19 = .ok (.getfield 21, 3) := by decide +kernel
theorem dX7_line_22 : decode cX7_line 22 = .ok (.if_icmp .ge 26, 3) := by decide +kernel
theorem dX7_line_25 : decode cX7_line 25 = .ok (.iload_n 3, 1) := by decide +kernel
theorem dX7_line_26 : decode cX7_line 26 = .ok (.aload_n 0, 1) := by decide +kernel
theorem dX7_line_27 : decode cX7_line 27 = .ok (.getfield 9, 3) := by decide +kernel
theorem dX7_line_30 : decode cX7_line 30 = .ok (.iload 4, 2) := by decide +kernel
theorem dX7_line_32 : decode cX7_line 32 = .ok (.iaload, 1) := by decide +kernel
theorem dX7_line_33 : decode cX7_line 33 = .ok (.iload_n 2, 1) := by decide +kernel
theorem dX7_line_34 : decode cX7_line 34 = .ok (.ishr, 1) := by decide +kernel
theorem dX7_line_35 : decode cX7_line 35 = .ok (.iconst 1, 1) := by decide +kernel
theorem dX7_line_36 : decode cX7_line 36 = .ok (.iand, 1) := by decide +kernel
theorem dX7_line_37 : decode cX7_line 37 = .ok (.iload 4, 2) := by decide +kernel
theorem dX7_line_39 : decode cX7_line 39 = .ok (.ishl, 1) := by decide +kernel
theorem dX7_line_40 : decode cX7_line 40 = .ok (.ior, 1) := by decide +kernel
theorem dX7_line_41 : decode cX7_line 41 = .ok (.istore_n 3, 1) := by decide +kernel
theorem dX7_line_42 : decode cX7_line 42 = .ok (.iinc 4 1, 3) := by decide +kernel
theorem dX7_line_45 : decode cX7_line 45 = .ok (.goto (-29), 3) := by decide +kernel
theorem dX7_line_48 : decode cX7_line 48 = .ok (.iload_n 3, 1) := by decide +kernel
theorem dX7_line_49 : decode cX7_line 49 = .ok (.ireturn, 1) := by decide +kernel
theorem dX7_copyLines_0 : decode cX7_copyLines 0 = .ok (.iconst 0, 1) := by decide +kernel
theorem dX7_copyLines_1 : decode cX7_copyLines 1 = .ok (.istore_n 3, 1) := by decide +kernel
theorem dX7_copyLines_2 : decode cX7_copyLines 2 = .ok (.iload_n 3, 1) := by decide +kernel
theorem dX7_copyLines_3 : decode cX7_copyLines 3 = .ok (.aload_n 0, 1) := by decide +kernel
theorem dX7_copyLines_4 : decode cX7_copyLines 4 = .ok (.getfield 21, 3) := by decide +kernel
theorem dX7_copyLines_7 : decode cX7_copyLines 7 = .ok (.if_icmp .ge 24, 3) := by decide +kernel
theorem dX7_copyLines_10 : decode cX7_copyLines 10 = .ok (.iload_n 3, 1) := by decide +kernel
theorem dX7_copyLines_11 : decode cX7_copyLines 11 = .ok (.aload_n 2, 1) := by decide +kernel
theorem dX7_copyLines_12 : decode cX7_copyLines 12 = .ok (.arraylength, 1) := by decide +kernel
theorem dX7_copyLines_13 : decode cX7_copyLines 13 = .ok (.if_icmp .ge 18, 3) := by decide +kernel
theorem dX7_copyLines_16 : decode cX7_copyLines 16 = .ok (.aload_n 2, 1) := by decide +kernel
theorem dX7_copyLines_17 : decode cX7_copyLines 17 = .ok (.iload_n 3, 1) := by decide +kernel
theorem dX7_copyLines_18 : decode cX7_copyLines 18 = .ok (.aload_n 0, 1) := by decide +kernel
theorem dX7_copyLines_19 : decode cX7_copyLines 19 = .ok (.iload_n 1, 1) := by decide +kernel
theorem dX7_copyLines_20 : decode cX7_copyLines 20 = .ok (.iload_n 3, 1) := by decide +kernel
theorem dX7_copyLines_21 : decode cX7_copyLines 21 = .ok (.invokevirtual 49, 3) := by decide +kernel
theorem dX7_copyLines_24 : decode cX7_copyLines 24 = .ok (.iastore, 1) := by decide +kernel
theorem dX7_copyLines_25 : decode cX7_copyLines 25 = .ok (.iinc 3 1, 3) := by decide +kernel
theorem dX7_copyLines_28 : decode cX7_copyLines 28 = .ok (.goto (-26), 3) := by decide +kernel
theorem dX7_copyLines_31 : decode cX7_copyLines 31 = .ok (.return_, 1) := by decide +kernel
theorem dX7_signLine_0 : decode cX7_signLine 0 = .ok (.aload_n 0, 1) := by decide +kernel
theorem dX7_signLine_1 : decode cX7_signLine 1 = .ok (.iconst 0, 1) := by decide +kernel
theorem dX7_signLine_2 : decode cX7_signLine 2 = .ok (.putfield 38, 3) := by decide +kernel
theorem dX7_signLine_5 : decode cX7_signLine 5 = .ok (.iload_n 1, 1) := by decide +kernel
theorem dX7_signLine_6 : decode cX7_signLine 6 = .ok (.ifCond .eq 27, 3) := by decide +kernel
theorem dX7_signLine_9 : decode cX7_signLine 9 = .ok (.aload_n 0, 1) := by decide +kernel
theorem dX7_signLine_10 : decode cX7_signLine 10 = .ok (.getfield 9, 3) := by decide +kernel
theorem dX7_signLine_13 : decode cX7_signLine 13 = .ok (.iload_n 2, 1) := by decide +kernel
theorem dX7_signLine_14 : decode cX7_signLine 14 = .ok (.dup2, 1) := by decide +kernel
theorem dX7_signLine_15 : decode cX7_signLine 15 = .ok (.iaload, 1) := by decide +kernel
theorem dX7_signLine_16 : decode cX7_signLine 16 = .ok (.aload_n 0, 1) := by decide +kernel
theorem dX7_signLine_17 : decode cX7_signLine 17 = .ok (.invokevirtual 53, 3) := by decide +kernel
theorem dX7_signLine_20 : decode cX7_signLine 20 = .ok (.ixor, 1) := by decide +kernel
theorem dX7_signLine_21 : decode cX7_signLine 21 = .ok (.iastore, 1) := by decide +kernel
theorem dX7_signLine_22 : decode cX7_signLine 22 = .ok (.aload_n 0, 1) := by decide +kernel
theorem dX7_signLine_23 : decode cX7_signLine 23 = .ok (.getfield 15, 3) := by decide +kernel
theorem dX7_signLine_26 : decode cX7_signLine 26 = .ok (.iload_n 2, 1) := by decide +kernel
theorem dX7_signLine_27 : decode cX7_signLine 27 = .ok (.dup2, 1) := by decide +kernel
theorem dX7_signLine_28 : decode cX7_signLine 28 = .ok (.iaload, 1) := by decide +kernel
theorem dX7_signLine_29 : decode cX7_signLine 29 = .ok (.iconst 1, 1) := by decide +kernel
theorem dX7_signLine_30 : decode cX7_signLine 30 = .ok (.ixor, 1) := by decide +kernel
theorem dX7_signLine_31 : decode cX7_signLine 31 = .ok (.iastore, 1) := by decide +kernel
theorem dX7_signLine_32 : decode cX7_signLine 32 = .ok (.return_, 1) := by decide +kernel
theorem dX7_signLine_33 : decode cX7_signLine 33 = .ok (.iconst 0, 1) := by decide +kernel
theorem dX7_signLine_34 : decode cX7_signLine 34 = .ok (.istore_n 3, 1) := by decide +kernel
theorem dX7_signLine_35 : decode cX7_signLine 35 = .ok (.iload_n 3, 1) := by decide +kernel
theorem dX7_signLine_36 : decode cX7_signLine 36 = .ok (.aload_n 0, 1) := by decide +kernel
theorem dX7_signLine_37 : decode cX7_signLine 37 = .ok (.getfield 21, 3) := by decide +kernel
theorem dX7_signLine_40 : decode cX7_signLine 40 = .ok (.if_icmp .ge 21, 3) := by decide +kernel
theorem dX7_signLine_43 : decode cX7_signLine 43 = .ok (.aload_n 0, 1) := by decide +kernel
theorem dX7_signLine_44 : decode cX7_signLine 44 = .ok (.getfield 9, 3) := by decide +kernel
theorem dX7_signLine_47 : decode cX7_signLine 47 = .ok (.iload_n 3, 1) := by decide +kernel
theorem dX7_signLine_48 : decode cX7_signLine 48 = .ok (.dup2, 1) := by decide +kernel
theorem dX7_signLine_49 : decode cX7_signLine 49 = .ok (.iaload, 1) := by decide +kernel
theorem dX7_signLine_50 : decode cX7_signLine 50 = .ok (.iconst 1, 1) := by decide +kernel
theorem dX7_signLine_51 : decode cX7_signLine 51 = .ok (.iload_n 2, 1) := by decide +kernel
theorem dX7_signLine_52 : decode cX7_signLine 52 = .ok (.ishl, 1) := by decide +kernel
theorem dX7_signLine_53 : decode cX7_signLine 53 = .ok (.ixor, 1) := by decide +kernel
theorem dX7_signLine_54 : decode cX7_signLine 54 = .ok (.iastore, 1) := by decide +kernel
theorem dX7_signLine_55 : decode cX7_signLine 55 = .ok (.iinc 3 1, 3) := by decide +kernel
theorem dX7_signLine_58 : decode cX7_signLine 58 = .ok (.goto (-23), 3) := by decide +kernel
theorem dX7_signLine_61 : decode cX7_signLine 61 = .ok (.aload_n 0, 1) := by decide +kernel
theorem dX7_signLine_62 : decode cX7_signLine 62 = .ok (.getfield 18, 3) := by decide +kernel
theorem dX7_signLine_65 : decode cX7_signLine 65 = .ok (.iload_n 2, 1) := by decide +kernel
theorem dX7_signLine_66 : decode cX7_signLine 66 = .ok (.dup2, 1) := by decide +kernel
theorem dX7_signLine_67 : decode cX7_signLine 67 = .ok (.iaload, 1) := by decide +kernel
theorem dX7_signLine_68 : decode cX7_signLine 68 = .ok (.iconst 1, 1) := by decide +kernel
theorem dX7_signLine_69 : decode cX7_signLine 69 = .ok (.ixor, 1) := by decide +kernel
theorem dX7_signLine_70 : decode cX7_signLine 70 = .ok (.iastore, 1) := by decide +kernel
theorem dX7_signLine_71 : decode cX7_signLine 71 = .ok (.return_, 1) := by decide +kernel
theorem dX7_exchangeLines_0 : decode cX7_exchangeLines 0 = .ok (.aload_n 0, 1) := by decide +kernel
theorem dX7_exchangeLines_1 : decode cX7_exchangeLines 1 = .ok (.iconst 0, 1) := by decide +kernel
theorem dX7_exchangeLines_2 : decode cX7_exchangeLines 2 = .ok (.putfield 38, 3) := by decide +kernel
theorem dX7_exchangeLines_5 : decode cX7_exchangeLines 5 = .ok (.iload_n 1, 1) := by decide +kernel
theorem dX7_exchangeLines_6 : decode cX7_exchangeLines 6 = .ok (.ifCond .eq 22, 3) := by decide +kernel
theorem dX7_exchangeLines_9 : decode cX7_exchangeLines 9 = .ok (.aload_n 0, 1) := by decide +kernel
theorem dX7_exchangeLines_10 : decode cX7_exchangeLines 10 = .ok (.getfield 9, 3) := by decide +kernel
theorem dX7_exchangeLines_13 : decode cX7_exchangeLines 13 = .ok (.iload_n 2, 1) := by decide +kernel
theorem dX7_exchangeLines_14 : decode cX7_exchangeLines 14 = .ok (.iload_n 3, 1) := by decide +kernel
theorem dX7_exchangeLines_15 : decode cX7_exchangeLines 15 = .ok (.invokestatic 57, 3) := by decide +kernel
theorem dX7_exchangeLines_18 : decode cX7_exchangeLines 18 = .ok (.aload_n 0, 1) := by decide +kernel
theorem dX7_exchangeLines_19 : decode cX7_exchangeLines 19 = .ok (.getfield 15, 3) := by decide +kernel
theorem dX7_exchangeLines_22 : decode cX7_exchangeLines 22 = .ok (.iload_n 2, 1) := by decide +kernel
theorem dX7_exchangeLines_23 : decode cX7_exchangeLines 23 = .ok (.iload_n 3, 1) := by decide +kernel
theorem dX7_exchangeLines_24 : decode cX7_exchangeLines 24 = .ok (.invokestatic 57, 3) := by decide +kernel
theorem dX7_exchangeLines_27 : decode cX7_exchangeLines 27 = .ok (.return_, 1) := by decide +kernel
theorem dX7_exchangeLines_28 : decode cX7_exchangeLines 28 = .ok (.iconst 0, 1) := by decide +kernel
theorem dX7_exchangeLines_29 : decode cX7_exchangeLines 29 = .ok (.istore 4, 2) := by decide +kernel
theorem dX7_exchangeLines_31 : decode cX7_exchangeLines 31 = .ok (.iload 4, 2) := by decide +kernel
theorem dX7_exchangeLines_33 : decode cX7_exchangeLines 33 = .ok (.aload_n 0, 1) := by decide +kernel
theorem dX7_exchangeLines_34 : decode cX7_exchangeLines 34 = .ok (.getfield 21, 3) := by decide +kernel
theorem dX7_exchangeLines_37 : decode cX7_exchangeLines 37 = .ok (.if_icmp .ge 51, 3) := by decide +kernel
theorem dX7_exchangeLines_40 : decode cX7_exchangeLines 40 = .ok (.aload_n 0, 1) := by decide +kernel
theorem dX7_exchangeLines_41 : decode cX7_exchangeLines 41 = .ok (.getfield 9, 3) := by decide +kernel
theorem dX7_exchangeLines_44 : decode cX7_exchangeLines 44 = .ok (.iload 4, 2) := by decide +kernel
theorem dX7_exchangeLines_46 : decode cX7_exchangeLines 46 = .ok (.iaload, 1) := by decide +kernel
theorem dX7_exchangeLines_47 : decode cX7_exchangeLines 47 = .ok (.iload_n 2, 1) := by decide +kernel
theorem dX7_exchangeLines_48 : decode cX7_exchangeLines 48 = .ok (.ishr, 1) := by decide +kernel
theorem dX7_exchangeLines_49 : decode cX7_exchangeLines 49 = .ok (.aload_n 0, 1) := by decide +kernel
theorem dX7_exchangeLines_50 : decode cX7_exchangeLines 50 = .ok (.getfield 9, 3) := by decide +kernel
theorem dX7_exchangeLines_53 : decode cX7_exchangeLines 53 = .ok (.iload 4, 2) := by decide +kernel
theorem dX7_exchangeLines_55 : decode cX7_exchangeLines 55 = .ok (.iaload, 1) := by decide +kernel
theorem dX7_exchangeLines_56 : decode cX7_exchangeLines 56 = .ok (.iload_n 3, 1) := by decide +kernel
theorem dX7_exchangeLines_57 : decode cX7_exchangeLines 57 = .ok (.ishr, 1) := by decide +kernel
theorem dX7_exchangeLines_58 : decode cX7_exchangeLines 58 = .ok (.ixor, 1) := by decide +kernel
theorem dX7_exchangeLines_59 : decode cX7_exchangeLines 59 = .ok (.iconst 1, 1) := by decide +kernel
theorem dX7_exchangeLines_60 : decode cX7_exchangeLines 60 = .ok (.iand, 1) := by decide +kernel
theorem dX7_exchangeLines_61 : decode cX7_exchangeLines 61 = .ok (.istore 5, 2) := by decide +kernel
theorem dX7_exchangeLines_63 : decode cX7_exchangeLines 63 = .ok (.aload_n 0, 1) := by decide +kernel
theorem dX7_exchangeLines_64 : decode cX7_exchangeLines 64 = .ok (.getfield 9, 3) := by decide +kernel
theorem dX7_exchangeLines_67 : decode cX7_exchangeLines 67 = .ok (.iload 4, 2) := by decide +kernel
theorem dX7_exchangeLines_69 : decode cX7_exchangeLines 69 = .ok (.dup2, 1) := by decide +kernel
theorem dX7_exchangeLines_70 : decode cX7_exchangeLines 70 = .ok (.iaload, 1) := by decide +kernel
theorem dX7_exchangeLines_71 : decode cX7_exchangeLines 71 = .ok (.iload 5, 2) := by decide +kernel
theorem dX7_exchangeLines_73 : decode cX7_exchangeLines 73 = .ok (.iload_n 2, 1) := by decide +kernel
theorem dX7_exchangeLines_74 : decode cX7_exchangeLines 74 = .ok (.ishl, 1) := by decide +kernel
theorem dX7_exchangeLines_75 : decode cX7_exchangeLines 75 = .ok (.iload 5, 2) := by decide +kernel
theorem dX7_exchangeLines_77 : decode cX7_exchangeLines 77 = .ok (.iload_n 3, 1) := by decide +kernel
theorem dX7_exchangeLines_78 : decode cX7_exchangeLines 78 = .ok (.ishl, 1) := by decide +kernel
theorem dX7_exchangeLines_79 : decode cX7_exchangeLines 79 = .ok (.ior, 1) := by decide +kernel
theorem dX7_exchangeLines_80 : decode cX7_exchangeLines 80 = .ok (.ixor, 1) := by decide +kernel
theorem dX7_exchangeLines_81 : decode cX7_exchangeLines 81 = .ok (.iastore, 1) := by decide +kernel
theorem dX7_exchangeLines_82 : decode cX7_exchangeLines 82 = .ok (.iinc 4 1, 3) := by decide +kernel
theorem dX7_exchangeLines_85 : decode cX7_exchangeLines 85 = .ok (.goto (-54), 3) := by decide +kernel
theorem dX7_exchangeLines_88 : decode cX7_exchangeLines 88 = .ok (.aload_n 0, 1) := by decide +kernel
theorem dX7_exchangeLines_89 : decode cX7_exchangeLines 89 = .ok (.getfield 18, 3) := by decide +kernel
theorem dX7_exchangeLines_92 : decode cX7_exchangeLines 92 = .ok (.iload_n 2, 1) := by decide +kernel
theorem dX7_exchangeLines_93 : decode cX7_exchangeLines 93 = .ok (.iload_n 3, 1) := by decide +kernel
theorem dX7_exchangeLines_94 : decode cX7_exchangeLines 94 = .ok (.invokestatic 57, 3) := by decide +kernel
theorem dX7_exchangeLines_97 : decode cX7_exchangeLines 97 = .ok (.return_, 1) := by decide +kernel
theorem dX7_exchangeNumbers_0 : decode cX7_exchangeNumbers 0 = .ok (.aload_n 0, 1) := by decide +kernel
theorem dX7_exchangeNumbers_1 : decode cX7_exchangeNumbers 1 = .ok (.iload_n 1, 1) := by decide +kernel
theorem dX7_exchangeNumbers_2 : decode cX7_exchangeNumbers 2 = .ok (.iaload, 1) := by decide +kernel
theorem dX7_exchangeNumbers_3 : decode cX7_exchangeNumbers 3 = .ok (.istore_n 3, 1) := by decide +kernel
theorem dX7_exchangeNumbers_4 : decode cX7_exchangeNumbers 4 = .ok (.aload_n 0, 1) := by decide +kernel
theorem dX7_exchangeNumbers_5 : decode cX7_exchangeNumbers 5 = .ok (.iload_n 1, 1) := by decide +kernel
theorem dX7_exchangeNumbers_6 : decode cX7_exchangeNumbers 6 = .ok (.aload_n 0, 1) := by decide +kernel
theorem dX7_exchangeNumbers_7 : decode cX7_exchangeNumbers 7 = .ok (.iload_n 2, 1) := by decide +kernel
theorem dX7_exchangeNumbers_8 : decode cX7_exchangeNumbers 8 = .ok (.iaload, 1) := by decide +kernel
theorem dX7_exchangeNumbers_9 : decode cX7_exchangeNumbers 9 = .ok (.iastore, 1) := by decide +kernel
theorem dX7_exchangeNumbers_10 : decode cX7_exchangeNumbers 10 = .ok (.aload_n 0, 1) := by decide +kernel
theorem dX7_exchangeNumbers_11 : decode cX7_exchangeNumbers 11 = .ok (.iload_n 2, 1) := by decide +kernel
theorem dX7_exchangeNumbers_12 : decode cX7_exchangeNumbers 12 = .ok (.iload_n 3, 1) := by decide +kernel
theorem dX7_exchangeNumbers_13 : decode cX7_exchangeNumbers 13 = .ok (.iastore, 1) := by decide +kernel
theorem dX7_exchangeNumbers_14 : decode cX7_exchangeNumbers 14 = .ok (.return_, 1) := by decide +kernel
theorem dX7_transpose_0 : decode cX7_transpose 0 = .ok (.iconst 0, 1) := by decide +kernel
theorem dX7_transpose_1 : decode cX7_transpose 1 = .ok (.istore_n 1, 1) := by decide +kernel
theorem dX7_transpose_2 : decode cX7_transpose 2 = .ok (.iload_n 1, 1) := by decide +kernel
theorem dX7_transpose_3 : decode cX7_transpose 3 = .ok (.aload_n 0, 1) := by decide +kernel
theorem dX7_transpose_4 : decode cX7_transpose 4 = .ok (.getfield 21, 3) := by decide +kernel
theorem dX7_transpose_7 : decode cX7_transpose 7 = .ok (.if_icmp .ge 66, 3) := by decide +kernel
theorem dX7_transpose_10 : decode cX7_transpose 10 = .ok (.iconst 0, 1) := by decide +kernel
theorem dX7_transpose_11 : decode cX7_transpose 11 = .ok (.istore_n 2, 1) := by decide +kernel
theorem dX7_transpose_12 : decode cX7_transpose 12 = .ok (.iload_n 2, 1) := by decide +kernel
theorem dX7_transpose_13 : decode cX7_transpose 13 = .ok (.iload_n 1, 1) := by decide +kernel
theorem dX7_transpose_14 : decode cX7_transpose 14 = .ok (.if_icmp .ge 53, 3) := by decide +kernel
theorem dX7_transpose_17 : decode cX7_transpose 17 = .ok (.aload_n 0, 1) := by decide +kernel
theorem dX7_transpose_18 : decode cX7_transpose 18 = .ok (.getfield 9, 3) := by decide +kernel
theorem dX7_transpose_21 : decode cX7_transpose 21 = .ok (.iload_n 1, 1) := by decide +kernel
theorem dX7_transpose_22 : decode cX7_transpose 22 = .ok (.iaload, 1) := by decide +kernel
theorem dX7_transpose_23 : decode cX7_transpose 23 = .ok (.iload_n 2, 1) := by decide +kernel
theorem dX7_transpose_24 : decode cX7_transpose 24 = .ok (.ishr, 1) := by decide +kernel
theorem dX7_transpose_25 : decode cX7_transpose 25 = .ok (.aload_n 0, 1) := by decide +kernel
theorem dX7_transpose_26 : decode cX7_transpose 26 = .ok (.getfield 9, 3) := by decide +kernel
theorem dX7_transpose_29 : decode cX7_transpose 29 = .ok (.iload_n 2, 1) := by decide +kernel
theorem dX7_transpose_30 : decode cX7_transpose 30 = .ok (.iaload, 1) := by decide +kernel
theorem dX7_transpose_31 : decode cX7_transpose 31 = .ok (.iload_n 1, 1) := by decide +kernel
theorem dX7_transpose_32 : decode cX7_transpose 32 = .ok (.ishr, 1) := by decide +kernel
theorem dX7_transpose_33 : decode cX7_transpose 33 = .ok (.ixor, 1) := by decide +kernel
theorem dX7_transpose_34 : decode cX7_transpose 34 = .ok (.iconst 1, 1) := by decide +kernel
theorem dX7_transpose_35 : decode cX7_transpose 35 = .ok (.iand, 1) := by decide +kernel
theorem dX7_transpose_36 : decode cX7_transpose 36 = .ok (.istore_n 3, 1) := by decide +kernel
theorem dX7_transpose_37 : decode cX7_transpose 37 = .ok (.aload_n 0, 1) := by decide +kernel
theorem dX7_transpose_38 : decode cX7_transpose 38 = .ok (.getfield 9, 3) := by decide +kernel
theorem dX7_transpose_41 : decode cX7_transpose 41 = .ok (.iload_n 1, 1) := by decide +kernel
theorem dX7_transpose_42 : decode cX7_transpose 42 = .ok (.dup2, 1) := by decide +kernel
theorem dX7_transpose_43 : decode cX7_transpose 43 = .ok (.iaload, 1) := by decide +kernel
theorem dX7_transpose_44 : decode cX7_transpose 44 = .ok (.iload_n 3, 1) := by decide +kernel
theorem dX7_transpose_45 : decode cX7_transpose 45 = .ok (.iload_n 2, 1) := by decide +kernel
theorem dX7_transpose_46 : decode cX7_transpose 46 = .ok (.ishl, 1) := by decide +kernel
theorem dX7_transpose_47 : decode cX7_transpose 47 = .ok (.ixor, 1) := by decide +kernel
theorem dX7_transpose_48 : decode cX7_transpose 48 = .ok (.iastore, 1) := by decide +kernel
theorem dX7_transpose_49 : decode cX7_transpose 49 = .ok (.aload_n 0, 1) := by decide +kernel
theorem dX7_transpose_50 : decode cX7_transpose 50 = .ok (.getfield 9, 3) := by decide +kernel
theorem dX7_transpose_53 : decode cX7_transpose 53 = .ok (.iload_n 2, 1) := by decide +kernel
theorem dX7_transpose_54 : decode cX7_transpose 54 = .ok (.dup2, 1) := by decide +kernel
theorem dX7_transpose_55 : decode cX7_transpose 55 = .ok (.iaload, 1) := by decide +kernel
theorem dX7_transpose_56 : decode cX7_transpose 56 = .ok (.iload_n 3, 1) := by decide +kernel
theorem dX7_transpose_57 : decode cX7_transpose 57 = .ok (.iload_n 1, 1) := by decide +kernel
theorem dX7_transpose_58 : decode cX7_transpose 58 = .ok (.ishl, 1) := by decide +kernel
theorem dX7_transpose_59 : decode cX7_transpose 59 = .ok (.ixor, 1) := by decide +kernel
theorem dX7_transpose_60 : decode cX7_transpose 60 = .ok (.iastore, 1) := by decide +kernel
theorem dX7_transpose_61 : decode cX7_transpose 61 = .ok (.iinc 2 1, 3) := by decide +kernel
theorem dX7_transpose_64 : decode cX7_transpose 64 = .ok (.goto (-52), 3) := by decide +kernel
theorem dX7_transpose_67 : decode cX7_transpose 67 = .ok (.iinc 1 1, 3) := by decide +kernel
theorem dX7_transpose_70 : decode cX7_transpose 70 = .ok (.goto (-68), 3) := by decide +kernel
theorem dX7_transpose_73 : decode cX7_transpose 73 = .ok (.aload_n 0, 1) := by decide +kernel
theorem dX7_transpose_74 : decode cX7_transpose 74 = .ok (.getfield 15, 3) := by decide +kernel
theorem dX7_transpose_77 : decode cX7_transpose 77 = .ok (.astore_n 1, 1) := by decide +kernel
theorem dX7_transpose_78 : decode cX7_transpose 78 = .ok (.aload_n 0, 1) := by decide +kernel
theorem dX7_transpose_79 : decode cX7_transpose 79 = .ok (.aload_n 0, 1) := by decide +kernel
theorem dX7_transpose_80 : decode cX7_transpose 80 = .ok (.getfield 18, 3) := by decide +kernel
theorem dX7_transpose_83 : decode cX7_transpose 83 = .ok (.putfield 15, 3) := by decide +kernel
theorem dX7_transpose_86 : decode cX7_transpose 86 = .ok (.aload_n 0, 1) := by decide +kernel
theorem dX7_transpose_87 : decode cX7_transpose 87 = .ok (.aload_n 1, 1) := by decide +kernel
theorem dX7_transpose_88 : decode cX7_transpose 88 = .ok (.putfield 18, 3) := by decide +kernel
theorem dX7_transpose_91 : decode cX7_transpose 91 = .ok (.aload_n 0, 1) := by decide +kernel
theorem dX7_transpose_92 : decode cX7_transpose 92 = .ok (.aload_n 0, 1) := by decide +kernel
theorem dX7_transpose_93 : decode cX7_transpose 93 = .ok (.getfield 34, 3) := by decide +kernel
theorem dX7_transpose_96 : decode cX7_transpose 96 = .ok (.ifCond .ne 7, 3) := by decide +kernel
theorem dX7_transpose_99 : decode cX7_transpose 99 = .ok (.iconst 1, 1) := by decide +kernel
theorem dX7_transpose_100 : decode cX7_transpose 100 = .ok (.goto 4, 3) := by decide +kernel
theorem dX7_transpose_103 : decode cX7_transpose 103 = .ok (.iconst 0, 1) := by decide +kernel
theorem dX7_transpose_104 : decode cX7_transpose 104 = .ok (.putfield 34, 3) := by decide +kernel
theorem dX7_transpose_107 : decode cX7_transpose 107 = .ok (.aload_n 0, 1) := by decide +kernel
theorem dX7_transpose_108 : decode cX7_transpose 108 = .ok (.iconst 0, 1) := by decide +kernel
theorem dX7_transpose_109 : decode cX7_transpose 109 = .ok (.putfield 38, 3) := by decide +kernel
theorem dX7_transpose_112 : decode cX7_transpose 112 = .ok (.return_, 1) := by decide +kernel
theorem dX7_switchRows_0 : decode cX7_switchRows 0 = .ok (.aload_n 0, 1) := by decide +kernel
theorem dX7_switchRows_1 : decode cX7_switchRows 1 = .ok (.getfield 9, 3) := by decide +kernel
theorem dX7_switchRows_4 : decode cX7_switchRows 4 = .ok (.iload_n 1, 1) := by decide +kernel
theorem dX7_switchRows_5 : decode cX7_switchRows 5 = .ok (.iaload, 1) := by decide +kernel
theorem dX7_switchRows_6 : decode cX7_switchRows 6 = .ok (.aload_n 0, 1) := by decide +kernel
theorem dX7_switchRows_7 : decode cX7_switchRows 7 = .ok (.getfield 9, 3) := by decide +kernel
theorem dX7_switchRows_10 : decode cX7_switchRows 10 = .ok (.iload_n 2, 1) := by decide +kernel
theorem dX7_switchRows_11 : decode cX7_switchRows 11 = .ok (.iaload, 1) := by decide +kernel
theorem dX7_switchRows_12 : decode cX7_switchRows 12 = .ok (.ixor, 1) := by decide +kernel
theorem dX7_switchRows_13 : decode cX7_switchRows 13 = .ok (.aload_n 0, 1) := by decide +kernel
theorem dX7_switchRows_14 : decode cX7_switchRows 14 = .ok (.getfield 9, 3) := by decide +kernel
theorem dX7_switchRows_17 : decode cX7_switchRows 17 = .ok (.iload_n 3, 1) := by decide +kernel
theorem dX7_switchRows_18 : decode cX7_switchRows 18 = .ok (.iaload, 1) := by decide +kernel
theorem dX7_switchRows_19 : decode cX7_switchRows 19 = .ok (.ixor, 1) := by decide +kernel
theorem dX7_switchRows_20 : decode cX7_switchRows 20 = .ok (.aload_n 0, 1) := by decide +kernel
theorem dX7_switchRows_21 : decode cX7_switchRows 21 = .ok (.getfield 9, 3) := by decide +kernel
theorem dX7_switchRows_24 : decode cX7_switchRows 24 = .ok (.iload 4, 2) := by decide +kernel
theorem dX7_switchRows_26 : decode cX7_switchRows 26 = .ok (.iaload, 1) := by decide +kernel
theorem dX7_switchRows_27 : decode cX7_switchRows 27 = .ok (.ixor, 1) := by decide +kernel
theorem dX7_switchRows_28 : decode cX7_switchRows 28 = .ok (.istore 6, 2) := by decide +kernel
theorem dX7_switchRows_30 : decode cX7_switchRows 30 = .ok (.iload 6, 2) := by decide +kernel
theorem dX7_switchRows_32 : decode cX7_switchRows 32 = .ok (.aload_n 0, 1) := by decide +kernel
theorem dX7_switchRows_33 : decode cX7_switchRows 33 = .ok (.getfield 21, 3) := by decide +kernel
theorem dX7_switchRows_36 : decode cX7_switchRows 36 = .ok (.invokestatic 61, 3) := by decide +kernel
theorem dX7_switchRows_39 : decode cX7_switchRows 39 = .ok (.invokestatic 65, 3) := by decide +kernel
theorem dX7_switchRows_42 : decode cX7_switchRows 42 = .ok (.aload_n 0, 1) := by decide +kernel
theorem dX7_switchRows_43 : decode cX7_switchRows 43 = .ok (.getfield 21, 3) := by decide +kernel
theorem dX7_switchRows_46 : decode cX7_switchRows 46 = .ok (.if_icmp .eq 5, 3) := by decide +kernel
theorem dX7_switchRows_49 : decode cX7_switchRows 49 = .ok (.iconst 0, 1) := by decide +kernel
theorem dX7_switchRows_50 : decode cX7_switchRows 50 = .ok (.ireturn, 1) := by decide +kernel
theorem dX7_switchRows_51 : decode cX7_switchRows 51 = .ok (.aload_n 0, 1) := by decide +kernel
theorem dX7_switchRows_52 : decode cX7_switchRows 52 = .ok (.invokevirtual 53, 3) := by decide +kernel
theorem dX7_switchRows_55 : decode cX7_switchRows 55 = .ok (.aload_n 0, 1) := by decide +kernel
theorem dX7_switchRows_56 : decode cX7_switchRows 56 = .ok (.getfield 9, 3) := by decide +kernel
theorem dX7_switchRows_59 : decode cX7_switchRows 59 = .ok (.iload_n 1, 1) := by decide +kernel
theorem dX7_switchRows_60 : decode cX7_switchRows 60 = .ok (.iaload, 1) := by decide +kernel
theorem dX7_switchRows_61 : decode cX7_switchRows 61 = .ok (.aload_n 0, 1) := by decide +kernel
theorem dX7_switchRows_62 : decode cX7_switchRows 62 = .ok (.getfield 9, 3) := by decide +kernel
theorem dX7_switchRows_65 : decode cX7_switchRows 65 = .ok (.iload_n 2, 1) := by decide +kernel
theorem dX7_switchRows_66 : decode cX7_switchRows 66 = .ok (.iaload, 1) := by decide +kernel
theorem dX7_switchRows_67 : decode cX7_switchRows 67 = .ok (.ixor, 1) := by decide +kernel
theorem dX7_switchRows_68 : decode cX7_switchRows 68 = .ok (.iload 5, 2) := by decide +kernel
theorem dX7_switchRows_70 : decode cX7_switchRows 70 = .ok (.invokestatic 71, 3) := by decide +kernel
theorem dX7_switchRows_73 : decode cX7_switchRows 73 = .ok (.iand, 1) := by decide +kernel
theorem dX7_switchRows_74 : decode cX7_switchRows 74 = .ok (.aload_n 0, 1) := by decide +kernel
theorem dX7_switchRows_75 : decode cX7_switchRows 75 = .ok (.getfield 9, 3) := by decide +kernel
theorem dX7_switchRows_78 : decode cX7_switchRows 78 = .ok (.iload_n 1, 1) := by decide +kernel
theorem dX7_switchRows_79 : decode cX7_switchRows 79 = .ok (.iaload, 1) := by decide +kernel
theorem dX7_switchRows_80 : decode cX7_switchRows 80 = .ok (.aload_n 0, 1) := by decide +kernel
theorem dX7_switchRows_81 : decode cX7_switchRows 81 = .ok (.getfield 9, 3) := by decide +kernel
theorem dX7_switchRows_84 : decode cX7_switchRows 84 = .ok (.iload_n 3, 1) := by decide +kernel
theorem dX7_switchRows_85 : decode cX7_switchRows 85 = .ok (.iaload, 1) := by decide +kernel
theorem dX7_switchRows_86 : decode cX7_switchRows 86 = .ok (.ixor, 1) := by decide +kernel
theorem dX7_switchRows_87 : decode cX7_switchRows 87 = .ok (.iload 5, 2) := by decide +kernel
theorem dX7_switchRows_89 : decode cX7_switchRows 89 = .ok (.invokestatic 71, 3) := by decide +kernel
theorem dX7_switchRows_92 : decode cX7_switchRows 92 = .ok (.iand, 1) := by decide +kernel
theorem dX7_switchRows_93 : decode cX7_switchRows 93 = .ok (.aload_n 0, 1) := by decide +kernel
theorem dX7_switchRows_94 : decode cX7_switchRows 94 = .ok (.getfield 9, 3) := by decide +kernel
theorem dX7_switchRows_97 : decode cX7_switchRows 97 = .ok (.iload_n 1, 1) := by decide +kernel
theorem dX7_switchRows_98 : decode cX7_switchRows 98 = .ok (.iaload, 1) := by decide +kernel
theorem dX7_switchRows_99 : decode cX7_switchRows 99 = .ok (.aload_n 0, 1) := by decide +kernel
theorem dX7_switchRows_100 : decode cX7_switchRows 100 = .ok (.getfield 9, 3) := by decide +kernel
theorem dX7_switchRows_103 : decode cX7_switchRows 103 = .ok (.iload 4, 2) := by decide +kernel
theorem dX7_switchRows_105 : decode cX7_switchRows 105 = .ok (.iaload, 1) := by decide +kernel
theorem dX7_switchRows_106 : decode cX7_switchRows 106 = .ok (.ixor, 1) := by decide +kernel
theorem dX7_switchRows_107 : decode cX7_switchRows 107 = .ok (.iload 5, 2) := by decide +kernel
theorem dX7_switchRows_109 : decode cX7_switchRows 109 = .ok (.invokestatic 71, 3) := by decide +kernel
theorem dX7_switchRows_112 : decode cX7_switchRows 112 = .ok (.iand, 1) := by decide +kernel
theorem dX7_switchRows_113 : decode cX7_switchRows 113 = .ok (.istore 7, 2) := by decide +kernel
theorem dX7_switchRows_115 : decode cX7_switchRows 115 = .ok (.aload_n 0, 1) := by decide +kernel
theorem dX7_switchRows_116 : decode cX7_switchRows 116 = .ok (.getfield 9, 3) := by decide +kernel
theorem dX7_switchRows_119 : decode cX7_switchRows 119 = .ok (.iload_n 1, 1) := by decide +kernel
theorem dX7_switchRows_120 : decode cX7_switchRows 120 = .ok (.dup2, 1) := by decide +kernel
theorem dX7_switchRows_121 : decode cX7_switchRows 121 = .ok (.iaload, 1) := by decide +kernel
theorem dX7_switchRows_122 : decode cX7_switchRows 122 = .ok (.iload 7, 2) := by decide +kernel
theorem dX7_switchRows_124 : decode cX7_switchRows 124 = .ok (.ixor, 1) := by decide +kernel
theorem dX7_switchRows_125 : decode cX7_switchRows 125 = .ok (.iastore, 1) := by decide +kernel
theorem dX7_switchRows_126 : decode cX7_switchRows 126 = .ok (.aload_n 0, 1) := by decide +kernel
theorem dX7_switchRows_127 : decode cX7_switchRows 127 = .ok (.getfield 9, 3) := by decide +kernel
theorem dX7_switchRows_130 : decode cX7_switchRows 130 = .ok (.iload_n 2, 1) := by decide +kernel
theorem dX7_switchRows_131 : decode cX7_switchRows 131 = .ok (.dup2, 1) := by decide +kernel
theorem dX7_switchRows_132 : decode cX7_switchRows 132 = .ok (.iaload, 1) := by decide +kernel
theorem dX7_switchRows_133 : decode cX7_switchRows 133 = .ok (.iload 7, 2) := by decide +kernel
theorem dX7_switchRows_135 : decode cX7_switchRows 135 = .ok (.ixor, 1) := by decide +kernel
theorem dX7_switchRows_136 : decode cX7_switchRows 136 = .ok (.iastore, 1) := by decide +kernel
theorem dX7_switchRows_137 : decode cX7_switchRows 137 = .ok (.aload_n 0, 1) := by decide +kernel
theorem dX7_switchRows_138 : decode cX7_switchRows 138 = .ok (.getfield 9, 3) := by decide +kernel
theorem dX7_switchRows_141 : decode cX7_switchRows 141 = .ok (.iload_n 3, 1) := by decide +kernel
theorem dX7_switchRows_142 : decode cX7_switchRows 142 = .ok (.dup2, 1) := by decide +kernel
theorem dX7_switchRows_143 : decode cX7_switchRows 143 = .ok (.iaload, 1) := by decide +kernel
theorem dX7_switchRows_144 : decode cX7_switchRows 144 = .ok (.iload 7, 2) := by decide +kernel
theorem dX7_switchRows_146 : decode cX7_switchRows 146 = .ok (.ixor, 1) := by decide +kernel
theorem dX7_switchRows_147 : decode cX7_switchRows 147 = .ok (.iastore, 1) := by decide +kernel
theorem dX7_switchRows_148 : decode cX7_switchRows 148 = .ok (.aload_n 0, 1) := by decide +kernel
theorem dX7_switchRows_149 : decode cX7_switchRows 149 = .ok (.getfield 9, 3) := by decide +kernel
theorem dX7_switchRows_152 : decode cX7_switchRows 152 = .ok (.iload 4, 2) := by decide +kernel
theorem dX7_switchRows_154 : decode cX7_switchRows 154 = .ok (.dup2, 1) := by decide +kernel
theorem dX7_switchRows_155 : decode cX7_switchRows 155 = .ok (.iaload, 1) := by decide +kernel
theorem dX7_switchRows_156 : decode cX7_switchRows 156 = .ok (.iload 7, 2) := by decide +kernel
theorem dX7_switchRows_158 : decode cX7_switchRows 158 = .ok (.ixor, 1) := by decide +kernel
theorem dX7_switchRows_159 : decode cX7_switchRows 159 = .ok (.iastore, 1) := by decide +kernel
theorem dX7_switchRows_160 : decode cX7_switchRows 160 = .ok (.aload_n 0, 1) := by decide +kernel
theorem dX7_switchRows_161 : decode cX7_switchRows 161 = .ok (.invokevirtual 31, 3) := by decide +kernel
theorem dX7_switchRows_164 : decode cX7_switchRows 164 = .ok (.iconst 1, 1) := by decide +kernel
theorem dX7_switchRows_165 : decode cX7_switchRows 165 = .ok (.ireturn, 1) := by decide +kernel
theorem dX7_firstSlantPair_0 : decode cX7_firstSlantPair 0 = .ok (.iconst 0, 1) := by decide +kernel
theorem dX7_firstSlantPair_1 : decode cX7_firstSlantPair 1 = .ok (.istore_n 1, 1) := by decide +kernel
theorem dX7_firstSlantPair_2 : decode cX7_firstSlantPair 2 = .ok (.iload_n 1, 1) := by decide +kernel
theorem dX7_firstSlantPair_3 : decode cX7_firstSlantPair 3 = .ok (.aload_n 0, 1) := by decide +kernel
theorem dX7_firstSlantPair_4 : decode cX7_firstSlantPair 4 = .ok (.getfield 21, 3) := by decide +kernel
theorem dX7_firstSlantPair_7 : decode cX7_firstSlantPair 7 = .ok (.if_icmp .ge 57, 3) := by decide +kernel
theorem dX7_firstSlantPair_10 : decode cX7_firstSlantPair 10 = .ok (.iload_n 1, 1) := by decide +kernel
theorem dX7_firstSlantPair_11 : decode cX7_firstSlantPair 11 = .ok (.iconst 1, 1) := by decide +kernel
theorem dX7_firstSlantPair_12 : decode cX7_firstSlantPair 12 = .ok (.iadd, 1) := by decide +kernel
theorem dX7_firstSlantPair_13 : decode cX7_firstSlantPair 13 = .ok (.istore_n 2, 1) := by decide +kernel
theorem dX7_firstSlantPair_14 : decode cX7_firstSlantPair 14 = .ok (.iload_n 2, 1) := by decide +kernel
theorem dX7_firstSlantPair_15 : decode cX7_firstSlantPair 15 = .ok (.aload_n 0, 1) := by decide +kernel
theorem dX7_firstSlantPair_16 : decode cX7_firstSlantPair 16 = .ok (.getfield 21, 3) := by decide +kernel
theorem dX7_firstSlantPair_19 : decode cX7_firstSlantPair 19 = .ok (.if_icmp .ge 39, 3) := by decide +kernel
theorem dX7_firstSlantPair_22 : decode cX7_firstSlantPair 22 = .ok (.aload_n 0, 1) := by decide +kernel
theorem dX7_firstSlantPair_23 : decode cX7_firstSlantPair 23 = .ok (.getfield 9, 3) := by decide +kernel
theorem dX7_firstSlantPair_26 : decode cX7_firstSlantPair 26 = .ok (.iload_n 1, 1) := by decide +kernel
theorem dX7_firstSlantPair_27 : decode cX7_firstSlantPair 27 = .ok (.iaload, 1) := by decide +kernel
theorem dX7_firstSlantPair_28 : decode cX7_firstSlantPair 28 = .ok (.aload_n 0, 1) := by decide +kernel
theorem dX7_firstSlantPair_29 : decode cX7_firstSlantPair 29 = .ok (.getfield 9, 3) := by decide +kernel
theorem dX7_firstSlantPair_32 : decode cX7_firstSlantPair 32 = .ok (.iload_n 2, 1) := by decide +kernel
theorem dX7_firstSlantPair_33 : decode cX7_firstSlantPair 33 = .ok (.iaload, 1) := by decide +kernel
theorem dX7_firstSlantPair_34 : decode cX7_firstSlantPair 34 = .ok (.ixor, 1) := by decide +kernel
theorem dX7_firstSlantPair_35 : decode cX7_firstSlantPair 35 = .ok (.aload_n 0, 1) := by decide +kernel
theorem dX7_firstSlantPair_36 : decode cX7_firstSlantPair 36 = .ok (.getfield 21, 3) := by decide +kernel
theorem dX7_firstSlantPair_39 : decode cX7_firstSlantPair 39 = .ok (.invokestatic 61, 3) := by decide +kernel
theorem dX7_firstSlantPair_42 : decode cX7_firstSlantPair 42 = .ok (.ifCond .eq 10, 3) := by decide +kernel
theorem dX7_firstSlantPair_45 : decode cX7_firstSlantPair 45 = .ok (.bipush 28, 2) := by decide +kernel
theorem dX7_firstSlantPair_47 : decode cX7_firstSlantPair 47 = .ok (.iload_n 1, 1) := by decide +kernel
theorem dX7_firstSlantPair_48 : decode cX7_firstSlantPair 48 = .ok (.imul, 1) := by decide +kernel
theorem dX7_firstSlantPair_49 : decode cX7_firstSlantPair 49 = .ok (.iload_n 2, 1) := by decide +kernel
theorem dX7_firstSlantPair_50 : decode cX7_firstSlantPair 50 = .ok (.iadd, 1) := by decide +kernel
theorem dX7_firstSlantPair_51 : decode cX7_firstSlantPair 51 = .ok (.ireturn, 1) := by decide +kernel
theorem dX7_firstSlantPair_52 : decode cX7_firstSlantPair 52 = .ok (.iinc 2 1, 3) := by decide +kernel
theorem dX7_firstSlantPair_55 : decode cX7_firstSlantPair 55 = .ok (.goto (-41), 3) := by decide +kernel
theorem dX7_firstSlantPair_58 : decode cX7_firstSlantPair 58 = .ok (.iinc 1 1, 3) := by decide +kernel
theorem dX7_firstSlantPair_61 : decode cX7_firstSlantPair 61 = .ok (.goto (-59), 3) := by decide +kernel
theorem dX7_firstSlantPair_64 : decode cX7_firstSlantPair 64 = .ok (.bipush (-2), 2) := by decide +kernel
theorem dX7_firstSlantPair_66 : decode cX7_firstSlantPair 66 = .ok (.ireturn, 1) := by decide +kernel
theorem dX7_countSlantPairs_0 : decode cX7_countSlantPairs 0 = .ok (.iconst 0, 1) := by decide +kernel
theorem dX7_countSlantPairs_1 : decode cX7_countSlantPairs 1 = .ok (.istore_n 1, 1) := by decide +kernel
theorem dX7_countSlantPairs_2 : decode cX7_countSlantPairs 2 = .ok (.iconst 0, 1) := by decide +kernel
theorem dX7_countSlantPairs_3 : decode cX7_countSlantPairs 3 = .ok (.istore_n 2, 1) := by decide +kernel
theorem dX7_countSlantPairs_4 : decode cX7_countSlantPairs 4 = .ok (.iload_n 2, 1) := by decide +kernel
theorem dX7_countSlantPairs_5 : decode cX7_countSlantPairs 5 = .ok (.aload_n 0, 1) := by decide +kernel
theorem dX7_countSlantPairs_6 : decode cX7_countSlantPairs 6 = .ok (.getfield 21, 3) := by decide +kernel
theorem dX7_countSlantPairs_9 : decode cX7_countSlantPairs 9 = .ok (.if_icmp .ge 53, 3) := by decide +kernel
theorem dX7_countSlantPairs_12 : decode cX7_countSlantPairs 12 = .ok (.iload_n 2, 1) := by decide +kernel
theorem dX7_countSlantPairs_13 : decode cX7_countSlantPairs 13 = .ok (.iconst 1, 1) := by decide +kernel
theorem dX7_countSlantPairs_14 : decode cX7_countSlantPairs 14 = .ok (.iadd, 1) := by decide +kernel
theorem dX7_countSlantPairs_15 : decode cX7_countSlantPairs 15 = .ok (.istore_n 3, 1) := by decide +kernel
theorem dX7_countSlantPairs_16 : decode cX7_countSlantPairs 16 = .ok (.iload_n 3, 1) := by decide +kernel
theorem dX7_countSlantPairs_17 : decode cX7_countSlantPairs 17 = .ok (.aload_n 0, 1) := by decide +kernel
theorem dX7_countSlantPairs_18 : decode cX7_countSlantPairs 18 = .ok (.getfield 21, 3) := by decide +kernel
theorem dX7_countSlantPairs_21 : decode cX7_countSlantPairs 21 = .ok (.if_icmp .ge 35, 3) := by decide +kernel
theorem dX7_countSlantPairs_24 : decode cX7_countSlantPairs 24 = .ok (.aload_n 0, 1) := by decide +kernel
theorem dX7_countSlantPairs_25 : decode cX7_countSlantPairs 25 = .ok (.getfield 9, 3) := by decide +kernel
theorem dX7_countSlantPairs_28 : decode cX7_countSlantPairs 28 = .ok (.iload_n 2, 1) := by decide +kernel
theorem dX7_countSlantPairs_29 : decode cX7_countSlantPairs 29 = .ok (.iaload, 1) := by decide +kernel
theorem dX7_countSlantPairs_30 : decode cX7_countSlantPairs 30 = .ok (.aload_n 0, 1) := by decide +kernel
theorem dX7_countSlantPairs_31 : decode cX7_countSlantPairs 31 = .ok (.getfield 9, 3) := by decide +kernel
theorem dX7_countSlantPairs_34 : decode cX7_countSlantPairs 34 = .ok (.iload_n 3, 1) := by decide +kernel
theorem dX7_countSlantPairs_35 : decode cX7_countSlantPairs 35 = .ok (.iaload, 1) := by decide +kernel
theorem dX7_countSlantPairs_36 : decode cX7_countSlantPairs 36 = .ok (.ixor, 1) := by decide +kernel
theorem dX7_countSlantPairs_37 : decode cX7_countSlantPairs 37 = .ok (.aload_n 0, 1) := by decide +kernel
theorem dX7_countSlantPairs_38 : decode cX7_countSlantPairs 38 = .ok (.getfield 21, 3) := by decide +kernel
theorem dX7_countSlantPairs_41 : decode cX7_countSlantPairs 41 = .ok (.invokestatic 61, 3) := by decide +kernel
theorem dX7_countSlantPairs_44 : decode cX7_countSlantPairs 44 = .ok (.ifCond .eq 6, 3) := by decide +kernel
theorem dX7_countSlantPairs_47 : decode cX7_countSlantPairs 47 = .ok (.iinc 1 1, 3) := by decide +kernel
theorem dX7_countSlantPairs_50 : decode cX7_countSlantPairs 50 = .ok (.iinc 3 1, 3) := by decide +kernel
theorem dX7_countSlantPairs_53 : decode cX7_countSlantPairs 53 = .ok (.goto (-37), 3) := by decide +kernel
theorem dX7_countSlantPairs_56 : decode cX7_countSlantPairs 56 = .ok (.iinc 2 1, 3) := by decide +kernel
theorem dX7_countSlantPairs_59 : decode cX7_countSlantPairs 59 = .ok (.goto (-55), 3) := by decide +kernel
theorem dX7_countSlantPairs_62 : decode cX7_countSlantPairs 62 = .ok (.iload_n 1, 1) := by decide +kernel
theorem dX7_countSlantPairs_63 : decode cX7_countSlantPairs 63 = .ok (.ireturn, 1) := by decide +kernel
theorem dX7_designBlock_0 : decode cX7_designBlock 0 = .ok (.aload_n 0, 1) := by decide +kernel
theorem dX7_designBlock_1 : decode cX7_designBlock 1 = .ok (.getfield 9, 3) := by decide +kernel
theorem dX7_designBlock_4 : decode cX7_designBlock 4 = .ok (.iload_n 3, 1) := by decide +kernel
theorem dX7_designBlock_5 : decode cX7_designBlock 5 = .ok (.iaload, 1) := by decide +kernel
theorem dX7_designBlock_6 : decode cX7_designBlock 6 = .ok (.aload_n 0, 1) := by decide +kernel
theorem dX7_designBlock_7 : decode cX7_designBlock 7 = .ok (.getfield 9, 3) := by decide +kernel
theorem dX7_designBlock_10 : decode cX7_designBlock 10 = .ok (.iload_n 1, 1) := by decide +kernel
theorem dX7_designBlock_11 : decode cX7_designBlock 11 = .ok (.iaload, 1) := by decide +kernel
theorem dX7_designBlock_12 : decode cX7_designBlock 12 = .ok (.ixor, 1) := by decide +kernel
theorem dX7_designBlock_13 : decode cX7_designBlock 13 = .ok (.iload_n 2, 1) := by decide +kernel
theorem dX7_designBlock_14 : decode cX7_designBlock 14 = .ok (.invokestatic 71, 3) := by decide +kernel
theorem dX7_designBlock_17 : decode cX7_designBlock 17 = .ok (.aload_n 0, 1) := by decide +kernel
theorem dX7_designBlock_18 : decode cX7_designBlock 18 = .ok (.invokevirtual 53, 3) := by decide +kernel
theorem dX7_designBlock_21 : decode cX7_designBlock 21 = .ok (.iand, 1) := by decide +kernel
theorem dX7_designBlock_22 : decode cX7_designBlock 22 = .ok (.iconst 1, 1) := by decide +kernel
theorem dX7_designBlock_23 : decode cX7_designBlock 23 = .ok (.iload_n 2, 1) := by decide +kernel
theorem dX7_designBlock_24 : decode cX7_designBlock 24 = .ok (.ishl, 1) := by decide +kernel
theorem dX7_designBlock_25 : decode cX7_designBlock 25 = .ok (.iconst (-1), 1) := by decide +kernel
theorem dX7_designBlock_26 : decode cX7_designBlock 26 = .ok (.ixor, 1) := by decide +kernel
theorem dX7_designBlock_27 : decode cX7_designBlock 27 = .ok (.iand, 1) := by decide +kernel
theorem dX7_designBlock_28 : decode cX7_designBlock 28 = .ok (.ireturn, 1) := by decide +kernel
theorem dX8_init_0 : decode cX8_init 0 = .ok (.aload_n 0, 1) := by decide +kernel
theorem dX8_init_1 : decode cX8_init 1 = .ok (.invokespecial 1, 3) := by decide +kernel
theorem dX8_init_4 : decode cX8_init 4 = .ok (.aload_n 0, 1) := by decide +kernel
theorem dX8_init_5 : decode cX8_init 5 = .ok (.bipush 6, 2) := by decide +kernel
theorem dX8_init_7 : decode cX8_init 7 = .ok (.anewarray 9, 3) := by decide +kernel
theorem dX8_init_10 : decode cX8_init 10 = .ok (.putfield 11, 3) := by decide +kernel
theorem dX8_init_13 : decode cX8_init 13 = .ok (.iconst 0, 1) := by decide +kernel
theorem dX8_init_14 : decode cX8_init 14 = .ok (.istore_n 1, 1) := by decide +kernel
theorem dX8_init_15 : decode cX8_init 15 = .ok (.iload_n 1, 1) := by decide +kernel
theorem dX8_init_16 : decode cX8_init 16 = .ok (.bipush 6, 2) := by decide +kernel
theorem dX8_init_18 : decode cX8_init 18 = .ok (.if_icmp .ge 22, 3) := by decide +kernel
theorem dX8_init_21 : decode cX8_init 21 = .ok (.aload_n 0, 1) := by decide +kernel
theorem dX8_init_22 : decode cX8_init 22 = .ok (.getfield 11, 3) := by decide +kernel
theorem dX8_init_25 : decode cX8_init 25 = .ok (.iload_n 1, 1) := by decide +kernel
theorem dX8_init_26 : decode cX8_init 26 = .ok (.new 9, 3) := by decide +kernel
theorem dX8_init_29 : decode cX8_init 29 = .ok (.dup, 1) := by decide +kernel
theorem dX8_init_30 : decode cX8_init 30 = .ok (.invokespecial 15, 3) := by decide +kernel
theorem dX8_init_33 : decode cX8_init 33 = .ok (.aastore, 1) := by decide +kernel
theorem dX8_init_34 : decode cX8_init 34 = .ok (.iinc 1 1, 3) := by decide +kernel
theorem dX8_init_37 : decode cX8_init 37 = .ok (.goto (-22), 3) := by decide +kernel
theorem dX8_init_40 : decode cX8_init 40 = .ok (.aload_n 0, 1) := by decide +kernel
theorem dX8_init_41 : decode cX8_init 41 = .ok (.bipush 28, 2) := by decide +kernel
theorem dX8_init_43 : decode cX8_init 43 = .ok (.newarray .int, 2) := by decide +kernel
theorem dX8_init_45 : decode cX8_init 45 = .ok (.putfield 16, 3) := by decide +kernel
theorem dX8_init_48 : decode cX8_init 48 = .ok (.aload_n 0, 1) := by decide +kernel
theorem dX8_init_49 : decode cX8_init 49 = .ok (.bipush 28, 2) := by decide +kernel
theorem dX8_init_51 : decode cX8_init 51 = .ok (.newarray .int, 2) := by decide +kernel
theorem dX8_init_53 : decode cX8_init 53 = .ok (.putfield 20, 3) := by decide +kernel
theorem dX8_init_56 : decode cX8_init 56 = .ok (.aload_n 0, 1) := by decide +kernel
theorem dX8_init_57 : decode cX8_init 57 = .ok (.bipush 28, 2) := by decide +kernel
theorem dX8_init_59 : decode cX8_init 59 = .ok (.newarray .int, 2) := by decide +kernel
theorem dX8_init_61 : decode cX8_init 61 = .ok (.putfield 23, 3) := by decide +kernel
theorem dX8_init_64 : decode cX8_init 64 = .ok (.aload_n 0, 1) := by decide +kernel
theorem dX8_init_65 : decode cX8_init 65 = .ok (.new 26, 3) := by decide +kernel
theorem dX8_init_68 : decode cX8_init 68 = .ok (.dup, 1) := by decide +kernel
theorem dX8_init_69 : decode cX8_init 69 = .ok (.invokespecial 28, 3) := by decide +kernel
theorem dX8_init_72 : decode cX8_init 72 = .ok (.putfield 29, 3) := by decide +kernel
theorem dX8_init_75 : decode cX8_init 75 = .ok (.aload_n 0, 1) := by decide +kernel
theorem dX8_init_76 : decode cX8_init 76 = .ok (.new 33, 3) := by decide +kernel
theorem dX8_init_79 : decode cX8_init 79 = .ok (.dup, 1) := by decide +kernel
theorem dX8_init_80 : decode cX8_init 80 = .ok (.invokespecial 35, 3) := by decide +kernel
theorem dX8_init_83 : decode cX8_init 83 = .ok (.putfield 36, 3) := by decide +kernel
theorem dX8_init_86 : decode cX8_init 86 = .ok (.aload_n 0, 1) := by decide +kernel
theorem dX8_init_87 : decode cX8_init 87 = .ok (.new 40, 3) := by decide +kernel
theorem dX8_init_90 : decode cX8_init 90 = .ok (.dup, 1) := by decide +kernel
theorem dX8_init_91 : decode cX8_init 91 = .ok (.invokespecial 42, 3) := by decide +kernel
theorem dX8_init_94 : decode cX8_init 94 = .ok (.putfield 43, 3) := by decide +kernel
theorem dX8_init_97 : decode cX8_init 97 = .ok (.aload_n 0, 1) := by decide +kernel
theorem dX8_init_98 : decode cX8_init 98 = .ok (.new 47, 3) := by decide +kernel
theorem dX8_init_101 : decode cX8_init 101 = .ok (.dup, 1) := by decide +kernel
theorem dX8_init_102 : decode cX8_init 102 = .ok (.invokespecial 49, 3) := by decide +kernel
theorem dX8_init_105 : decode cX8_init 105 = .ok (.putfield 50, 3) := by decide +kernel
theorem dX8_init_108 : decode cX8_init 108 = .ok (.aload_n 0, 1) := by decide +kernel
theorem dX8_init_109 : decode cX8_init 109 = .ok (.new 54, 3) := by decide +kernel
theorem dX8_init_112 : decode cX8_init 112 = .ok (.dup, 1) := by decide +kernel
theorem dX8_init_113 : decode cX8_init 113 = .ok (.invokespecial 56, 3) := by decide +kernel
theorem dX8_init_116 : decode cX8_init 116 = .ok (.putfield 57, 3) := by decide +kernel
theorem dX8_init_119 : decode cX8_init 119 = .ok (.aload_n 0, 1) := by decide +kernel
theorem dX8_init_120 : decode cX8_init 120 = .ok (.new 61, 3) := by decide +kernel
theorem dX8_init_123 : decode cX8_init 123 = .ok (.dup, 1) := by decide +kernel
theorem dX8_init_124 : decode cX8_init 124 = .ok (.invokespecial 63, 3) := by decide +kernel
theorem dX8_init_127 : decode cX8_init 127 = .ok (.putfield 64, 3) := by decide +kernel
theorem dX8_init_130 : decode cX8_init 130 = .ok (.return_, 1) := by decide +kernel
theorem dX8_tell_0 : decode cX8_tell 0 = .ok (.aload_n 0, 1) := by decide +kernel
theorem dX8_tell_1 : decode cX8_tell 1 = .ok (.getfield 68, 3) := by decide +kernel
theorem dX8_tell_4 : decode cX8_tell 4 = .ok (.bipush 28, 2) := by decide +kernel
theorem dX8_tell_6 : decode cX8_tell 6 = .ok (.if_icmp .ge 13, 3) := by decide +kernel
theorem dX8_tell_9 : decode cX8_tell 9 = .ok (.iload_n 1, 1) := by decide +kernel
theorem dX8_tell_10 : decode cX8_tell 10 = .ok (.ifCond .lt 9, 3) := by decide +kernel
theorem dX8_tell_13 : decode cX8_tell 13 = .ok (.iload_n 1, 1) := by decide +kernel
theorem dX8_tell_14 : decode cX8_tell 14 = .ok (.ldc 72, 2) := by decide +kernel
theorem dX8_tell_16 : decode cX8_tell 16 = .ok (.if_icmp .lt 5, 3) := by decide +kernel
theorem dX8_tell_19 : decode cX8_tell 19 = .ok (.iconst (-1), 1) := by decide +kernel
theorem dX8_tell_20 : decode cX8_tell 20 = .ok (.ireturn, 1) := by decide +kernel
theorem dX8_tell_21 : decode cX8_tell 21 = .ok (.aload_n 0, 1) := by decide +kernel
theorem dX8_tell_22 : decode cX8_tell 22 = .ok (.getfield 16, 3) := by decide +kernel
theorem dX8_tell_25 : decode cX8_tell 25 = .ok (.aload_n 0, 1) := by decide +kernel
theorem dX8_tell_26 : decode cX8_tell 26 = .ok (.getfield 68, 3) := by decide +kernel
theorem dX8_tell_29 : decode cX8_tell 29 = .ok (.iload_n 1, 1) := by decide +kernel
theorem dX8_tell_30 : decode cX8_tell 30 = .ok (.iastore, 1) := by decide +kernel
theorem dX8_tell_31 : decode cX8_tell 31 = .ok (.aload_n 0, 1) := by decide +kernel
theorem dX8_tell_32 : decode cX8_tell 32 = .ok (.dup, 1) := by decide +kernel
theorem dX8_tell_33 : decode cX8_tell 33 = .ok (.getfield 68, 3) := by decide +kernel
theorem dX8_tell_36 : decode cX8_tell 36 = .ok (.iconst 1, 1) := by decide +kernel
theorem dX8_tell_37 : decode cX8_tell 37 = .ok (.iadd, 1) := by decide +kernel
theorem dX8_tell_38 : decode cX8_tell 38 = .ok (.putfield 68, 3) := by decide +kernel
theorem dX8_tell_41 : decode cX8_tell 41 = .ok (.aload_n 0, 1) := by decide +kernel
theorem dX8_tell_42 : decode cX8_tell 42 = .ok (.getfield 68, 3) := by decide +kernel
theorem dX8_tell_45 : decode cX8_tell 45 = .ok (.ireturn, 1) := by decide +kernel
theorem dX8_take_0 : decode cX8_take 0 = .ok (.aload_n 0, 1) := by decide +kernel
theorem dX8_take_1 : decode cX8_take 1 = .ok (.invokevirtual 73, 3) := by decide +kernel
theorem dX8_take_4 : decode cX8_take 4 = .ok (.istore_n 1, 1) := by decide +kernel
theorem dX8_take_5 : decode cX8_take 5 = .ok (.iload_n 1, 1) := by decide +kernel
theorem dX8_take_6 : decode cX8_take 6 = .ok (.iconst (-1), 1) := by decide +kernel
theorem dX8_take_7 : decode cX8_take 7 = .ok (.if_icmp .eq 21, 3) := by decide +kernel
theorem dX8_take_10 : decode cX8_take 10 = .ok (.aload_n 0, 1) := by decide +kernel
theorem dX8_take_11 : decode cX8_take 11 = .ok (.getfield 68, 3) := by decide +kernel
theorem dX8_take_14 : decode cX8_take 14 = .ok (.ifCond .eq 14, 3) := by decide +kernel
theorem dX8_take_17 : decode cX8_take 17 = .ok (.aload_n 0, 1) := by decide +kernel
theorem dX8_take_18 : decode cX8_take 18 = .ok (.aload_n 0, 1) := by decide +kernel
theorem dX8_take_19 : decode cX8_take 19 = .ok (.getfield 68, 3) := by decide +kernel
theorem dX8_take_22 : decode cX8_take 22 = .ok (.invokevirtual 77, 3) := by decide +kernel
theorem dX8_take_25 : decode cX8_take 25 = .ok (.ifCond .ne 5, 3) := by decide +kernel
theorem dX8_take_28 : decode cX8_take 28 = .ok (.iconst (-1), 1) := by decide +kernel
theorem dX8_take_29 : decode cX8_take 29 = .ok (.ireturn, 1) := by decide +kernel
theorem dX8_take_30 : decode cX8_take 30 = .ok (.aload_n 0, 1) := by decide +kernel
theorem dX8_take_31 : decode cX8_take 31 = .ok (.getfield 11, 3) := by decide +kernel
theorem dX8_take_34 : decode cX8_take 34 = .ok (.iload_n 1, 1) := by decide +kernel
theorem dX8_take_35 : decode cX8_take 35 = .ok (.aaload, 1) := by decide +kernel
theorem dX8_take_36 : decode cX8_take 36 = .ok (.aload_n 0, 1) := by decide +kernel
theorem dX8_take_37 : decode cX8_take 37 = .ok (.getfield 16, 3) := by decide +kernel
theorem dX8_take_40 : decode cX8_take 40 = .ok (.aload_n 0, 1) := by decide +kernel
theorem dX8_take_41 : decode cX8_take 41 = .ok (.getfield 68, 3) := by decide +kernel
theorem dX8_take_44 : decode cX8_take 44 = .ok (.invokevirtual 81, 3) := by decide +kernel
theorem dX8_take_47 : decode cX8_take 47 = .ok (.aload_n 0, 1) := by decide +kernel
theorem dX8_take_48 : decode cX8_take 48 = .ok (.iconst 0, 1) := by decide +kernel
theorem dX8_take_49 : decode cX8_take 49 = .ok (.putfield 68, 3) := by decide +kernel
theorem dX8_take_52 : decode cX8_take 52 = .ok (.iload_n 1, 1) := by decide +kernel
theorem dX8_take_53 : decode cX8_take 53 = .ok (.ireturn, 1) := by decide +kernel
theorem dX8_residues_0 : decode cX8_residues 0 = .ok (.aload_n 0, 1) := by decide +kernel
theorem dX8_residues_1 : decode cX8_residues 1 = .ok (.invokevirtual 73, 3) := by decide +kernel
theorem dX8_residues_4 : decode cX8_residues 4 = .ok (.istore_n 2, 1) := by decide +kernel
theorem dX8_residues_5 : decode cX8_residues 5 = .ok (.iload_n 2, 1) := by decide +kernel
theorem dX8_residues_6 : decode cX8_residues 6 = .ok (.iconst (-1), 1) := by decide +kernel
theorem dX8_residues_7 : decode cX8_residues 7 = .ok (.if_icmp .eq 17, 3) := by decide +kernel
theorem dX8_residues_10 : decode cX8_residues 10 = .ok (.iload_n 1, 1) := by decide +kernel
theorem dX8_residues_11 : decode cX8_residues 11 = .ok (.invokestatic 85, 3) := by decide +kernel
theorem dX8_residues_14 : decode cX8_residues 14 = .ok (.ifCond .eq 10, 3) := by decide +kernel
theorem dX8_residues_17 : decode cX8_residues 17 = .ok (.iload_n 1, 1) := by decide +kernel
theorem dX8_residues_18 : decode cX8_residues 18 = .ok (.iconst 4, 1) := by decide +kernel
theorem dX8_residues_19 : decode cX8_residues 19 = .ok (.irem, 1) := by decide +kernel
theorem dX8_residues_20 : decode cX8_residues 20 = .ok (.iconst 3, 1) := by decide +kernel
theorem dX8_residues_21 : decode cX8_residues 21 = .ok (.if_icmp .eq 5, 3) := by decide +kernel
theorem dX8_residues_24 : decode cX8_residues 24 = .ok (.iconst (-1), 1) := by decide +kernel
theorem dX8_residues_25 : decode cX8_residues 25 = .ok (.ireturn, 1) := by decide +kernel
theorem dX8_residues_26 : decode cX8_residues 26 = .ok (.aload_n 0, 1) := by decide +kernel
theorem dX8_residues_27 : decode cX8_residues 27 = .ok (.getfield 11, 3) := by decide +kernel
theorem dX8_residues_30 : decode cX8_residues 30 = .ok (.iload_n 2, 1) := by decide +kernel
theorem dX8_residues_31 : decode cX8_residues 31 = .ok (.aaload, 1) := by decide +kernel
theorem dX8_residues_32 : decode cX8_residues 32 = .ok (.astore_n 3, 1) := by decide +kernel
theorem dX8_residues_33 : decode cX8_residues 33 = .ok (.aload_n 3, 1) := by decide +kernel
theorem dX8_residues_34 : decode cX8_residues 34 = .ok (.iload_n 1, 1) := by decide +kernel
theorem dX8_residues_35 : decode cX8_residues 35 = .ok (.iconst 1, 1) := by decide +kernel
theorem dX8_residues_36 : decode cX8_residues 36 = .ok (.iadd, 1) := by decide +kernel
theorem dX8_residues_37 : decode cX8_residues 37 = .ok (.invokevirtual 91, 3) := by decide +kernel
theorem dX8_residues_40 : decode cX8_residues 40 = .ok (.iload_n 1, 1) := by decide +kernel
theorem dX8_residues_41 : decode cX8_residues 41 = .ok (.invokestatic 95, 3) := by decide +kernel
theorem dX8_residues_44 : decode cX8_residues 44 = .ok (.istore 4, 2) := by decide +kernel
theorem dX8_residues_46 : decode cX8_residues 46 = .ok (.iconst 1, 1) := by decide +kernel
theorem dX8_residues_47 : decode cX8_residues 47 = .ok (.istore 5, 2) := by decide +kernel
theorem dX8_residues_49 : decode cX8_residues 49 = .ok (.iload 5, 2) := by decide +kernel
theorem dX8_residues_51 : decode cX8_residues 51 = .ok (.iload_n 1, 1) := by decide +kernel
theorem dX8_residues_52 : decode cX8_residues 52 = .ok (.if_icmp .gt 66, 3) := by decide +kernel
theorem dX8_residues_55 : decode cX8_residues 55 = .ok (.aload_n 3, 1) := by decide +kernel
theorem dX8_residues_56 : decode cX8_residues 56 = .ok (.iload 5, 2) := by decide +kernel
theorem dX8_residues_58 : decode cX8_residues 58 = .ok (.iconst 0, 1) := by decide +kernel
theorem dX8_residues_59 : decode cX8_residues 59 = .ok (.invokevirtual 98, 3) := by decide +kernel
theorem dX8_residues_62 : decode cX8_residues 62 = .ok (.iconst 1, 1) := by decide +kernel
theorem dX8_residues_63 : decode cX8_residues 63 = .ok (.istore 6, 2) := by decide +kernel
theorem dX8_residues_65 : decode cX8_residues 65 = .ok (.iload 6, 2) := by decide +kernel
theorem dX8_residues_67 : decode cX8_residues 67 = .ok (.iload_n 1, 1) := by decide +kernel
theorem dX8_residues_68 : decode cX8_residues 68 = .ok (.if_icmp .gt 44, 3) := by decide +kernel
theorem dX8_residues_71 : decode cX8_residues 71 = .ok (.iload 6, 2) := by decide +kernel
theorem dX8_residues_73 : decode cX8_residues 73 = .ok (.iload 5, 2) := by decide +kernel
theorem dX8_residues_75 : decode cX8_residues 75 = .ok (.if_icmp .eq 31, 3) := by decide +kernel
theorem dX8_residues_78 : decode cX8_residues 78 = .ok (.iload 4, 2) := by decide +kernel
theorem dX8_residues_80 : decode cX8_residues 80 = .ok (.iload_n 1, 1) := by decide +kernel
theorem dX8_residues_81 : decode cX8_residues 81 = .ok (.iload 6, 2) := by decide +kernel
theorem dX8_residues_83 : decode cX8_residues 83 = .ok (.iconst 1, 1) := by decide +kernel
theorem dX8_residues_84 : decode cX8_residues 84 = .ok (.isub, 1) := by decide +kernel
theorem dX8_residues_85 : decode cX8_residues 85 = .ok (.iload 5, 2) := by decide +kernel
theorem dX8_residues_87 : decode cX8_residues 87 = .ok (.iconst 1, 1) := by decide +kernel
theorem dX8_residues_88 : decode cX8_residues 88 = .ok (.isub, 1) := by decide +kernel
theorem dX8_residues_89 : decode cX8_residues 89 = .ok (.invokestatic 102, 3) := by decide +kernel
theorem dX8_residues_92 : decode cX8_residues 92 = .ok (.invokestatic 106, 3) := by decide +kernel
theorem dX8_residues_95 : decode cX8_residues 95 = .ok (.ifCond .ne 11, 3) := by decide +kernel
theorem dX8_residues_98 : decode cX8_residues 98 = .ok (.aload_n 3, 1) := by decide +kernel
theorem dX8_residues_99 : decode cX8_residues 99 = .ok (.iload 5, 2) := by decide +kernel
theorem dX8_residues_101 : decode cX8_residues 101 = .ok (.iload 6, 2) := by decide +kernel
theorem dX8_residues_103 : decode cX8_residues 103 = .ok (.invokevirtual 98, 3) := by decide +kernel
theorem dX8_residues_106 : decode cX8_residues 106 = .ok (.iinc 6 1, 3) := by decide +kernel
theorem dX8_residues_109 : decode cX8_residues 109 = .ok (.goto (-44), 3) := by decide +kernel
theorem dX8_residues_112 : decode cX8_residues 112 = .ok (.iinc 5 1, 3) := by decide +kernel
theorem dX8_residues_115 : decode cX8_residues 115 = .ok (.goto (-66), 3) := by decide +kernel
theorem dX8_residues_118 : decode cX8_residues 118 = .ok (.iload_n 2, 1) := by decide +kernel
theorem dX8_residues_119 : decode cX8_residues 119 = .ok (.ireturn, 1) := by decide +kernel
theorem dX8_twice_0 : decode cX8_twice 0 = .ok (.aload_n 0, 1) := by decide +kernel
theorem dX8_twice_1 : decode cX8_twice 1 = .ok (.invokevirtual 73, 3) := by decide +kernel
theorem dX8_twice_4 : decode cX8_twice 4 = .ok (.istore_n 2, 1) := by decide +kernel
theorem dX8_twice_5 : decode cX8_twice 5 = .ok (.iload_n 2, 1) := by decide +kernel
theorem dX8_twice_6 : decode cX8_twice 6 = .ok (.iconst (-1), 1) := by decide +kernel
theorem dX8_twice_7 : decode cX8_twice 7 = .ok (.if_icmp .eq 27, 3) := by decide +kernel
theorem dX8_twice_10 : decode cX8_twice 10 = .ok (.iload_n 1, 1) := by decide +kernel
theorem dX8_twice_11 : decode cX8_twice 11 = .ok (.invokestatic 85, 3) := by decide +kernel
theorem dX8_twice_14 : decode cX8_twice 14 = .ok (.ifCond .eq 20, 3) := by decide +kernel
theorem dX8_twice_17 : decode cX8_twice 17 = .ok (.iload_n 1, 1) := by decide +kernel
theorem dX8_twice_18 : decode cX8_twice 18 = .ok (.iconst 4, 1) := by decide +kernel
theorem dX8_twice_19 : decode cX8_twice 19 = .ok (.irem, 1) := by decide +kernel
theorem dX8_twice_20 : decode cX8_twice 20 = .ok (.iconst 1, 1) := by decide +kernel
theorem dX8_twice_21 : decode cX8_twice 21 = .ok (.if_icmp .ne 13, 3) := by decide +kernel
theorem dX8_twice_24 : decode cX8_twice 24 = .ok (.iconst 2, 1) := by decide +kernel
theorem dX8_twice_25 : decode cX8_twice 25 = .ok (.iload_n 1, 1) := by decide +kernel
theorem dX8_twice_26 : decode cX8_twice 26 = .ok (.imul, 1) := by decide +kernel
theorem dX8_twice_27 : decode cX8_twice 27 = .ok (.iconst 2, 1) := by decide +kernel
theorem dX8_twice_28 : decode cX8_twice 28 = .ok (.iadd, 1) := by decide +kernel
theorem dX8_twice_29 : decode cX8_twice 29 = .ok (.bipush 28, 2) := by decide +kernel
theorem dX8_twice_31 : decode cX8_twice 31 = .ok (.if_icmp .le 5, 3) := by decide +kernel
theorem dX8_twice_34 : decode cX8_twice 34 = .ok (.iconst (-1), 1) := by decide +kernel
theorem dX8_twice_35 : decode cX8_twice 35 = .ok (.ireturn, 1) := by decide +kernel
theorem dX8_twice_36 : decode cX8_twice 36 = .ok (.aload_n 0, 1) := by decide +kernel
theorem dX8_twice_37 : decode cX8_twice 37 = .ok (.getfield 11, 3) := by decide +kernel
theorem dX8_twice_40 : decode cX8_twice 40 = .ok (.iload_n 2, 1) := by decide +kernel
theorem dX8_twice_41 : decode cX8_twice 41 = .ok (.aaload, 1) := by decide +kernel
theorem dX8_twice_42 : decode cX8_twice 42 = .ok (.astore_n 3, 1) := by decide +kernel
theorem dX8_twice_43 : decode cX8_twice 43 = .ok (.aload_n 3, 1) := by decide +kernel
theorem dX8_twice_44 : decode cX8_twice 44 = .ok (.iconst 2, 1) := by decide +kernel
theorem dX8_twice_45 : decode cX8_twice 45 = .ok (.iload_n 1, 1) := by decide +kernel
theorem dX8_twice_46 : decode cX8_twice 46 = .ok (.imul, 1) := by decide +kernel
theorem dX8_twice_47 : decode cX8_twice 47 = .ok (.iconst 2, 1) := by decide +kernel
theorem dX8_twice_48 : decode cX8_twice 48 = .ok (.iadd, 1) := by decide +kernel
theorem dX8_twice_49 : decode cX8_twice 49 = .ok (.invokevirtual 91, 3) := by decide +kernel
theorem dX8_twice_52 : decode cX8_twice 52 = .ok (.iload_n 1, 1) := by decide +kernel
theorem dX8_twice_53 : decode cX8_twice 53 = .ok (.invokestatic 95, 3) := by decide +kernel
theorem dX8_twice_56 : decode cX8_twice 56 = .ok (.istore 4, 2) := by decide +kernel
theorem dX8_twice_58 : decode cX8_twice 58 = .ok (.iconst 0, 1) := by decide +kernel
theorem dX8_twice_59 : decode cX8_twice 59 = .ok (.istore 5, 2) := by decide +kernel
theorem dX8_twice_61 : decode cX8_twice 61 = .ok (.iload 5, 2) := by decide +kernel
theorem dX8_twice_63 : decode cX8_twice 63 = .ok (.iload_n 1, 1) := by decide +kernel
theorem dX8_twice_64 : decode cX8_twice 64 = .ok (.if_icmp .gt 42, 3) := by decide +kernel
theorem dX8_twice_67 : decode cX8_twice 67 = .ok (.iconst 0, 1) := by decide +kernel
theorem dX8_twice_68 : decode cX8_twice 68 = .ok (.istore 6, 2) := by decide +kernel
theorem dX8_twice_70 : decode cX8_twice 70 = .ok (.iload 6, 2) := by decide +kernel
theorem dX8_twice_72 : decode cX8_twice 72 = .ok (.iload_n 1, 1) := by decide +kernel
theorem dX8_twice_73 : decode cX8_twice 73 = .ok (.if_icmp .gt 27, 3) := by decide +kernel
theorem dX8_twice_76 : decode cX8_twice 76 = .ok (.aload_n 3, 1) := by decide +kernel
theorem dX8_twice_77 : decode cX8_twice 77 = .ok (.iload 5, 2) := by decide +kernel
theorem dX8_twice_79 : decode cX8_twice 79 = .ok (.iload 6, 2) := by decide +kernel
theorem dX8_twice_81 : decode cX8_twice 81 = .ok (.iload_n 1, 1) := by decide +kernel
theorem dX8_twice_82 : decode cX8_twice 82 = .ok (.iload 4, 2) := by decide +kernel
theorem dX8_twice_84 : decode cX8_twice 84 = .ok (.iload 5, 2) := by decide +kernel
theorem dX8_twice_86 : decode cX8_twice 86 = .ok (.iload 6, 2) := by decide +kernel
theorem dX8_twice_88 : decode cX8_twice 88 = .ok (.invokestatic 110, 3) := by decide +kernel
theorem dX8_twice_91 : decode cX8_twice 91 = .ok (.invokestatic 114, 3) := by decide +kernel
theorem dX8_twice_94 : decode cX8_twice 94 = .ok (.iinc 6 1, 3) := by decide +kernel
theorem dX8_twice_97 : decode cX8_twice 97 = .ok (.goto (-27), 3) := by decide +kernel
theorem dX8_twice_100 : decode cX8_twice 100 = .ok (.iinc 5 1, 3) := by decide +kernel
theorem dX8_twice_103 : decode cX8_twice 103 = .ok (.goto (-42), 3) := by decide +kernel
theorem dX8_twice_106 : decode cX8_twice 106 = .ok (.iload_n 2, 1) := by decide +kernel
theorem dX8_twice_107 : decode cX8_twice 107 = .ok (.ireturn, 1) := by decide +kernel
theorem dX8_doubled_0 : decode cX8_doubled 0 = .ok (.aload_n 0, 1) := by decide +kernel
theorem dX8_doubled_1 : decode cX8_doubled 1 = .ok (.iload_n 1, 1) := by decide +kernel
theorem dX8_doubled_2 : decode cX8_doubled 2 = .ok (.invokevirtual 118, 3) := by decide +kernel
theorem dX8_doubled_5 : decode cX8_doubled 5 = .ok (.astore_n 2, 1) := by decide +kernel
theorem dX8_doubled_6 : decode cX8_doubled 6 = .ok (.aload_n 0, 1) := by decide +kernel
theorem dX8_doubled_7 : decode cX8_doubled 7 = .ok (.invokevirtual 73, 3) := by decide +kernel
theorem dX8_doubled_10 : decode cX8_doubled 10 = .ok (.istore_n 3, 1) := by decide +kernel
theorem dX8_doubled_11 : decode cX8_doubled 11 = .ok (.aload_n 2, 1) := by decide +kernel
theorem dX8_doubled_12 : decode cX8_doubled 12 = .ok (.ifnull 19, 3) := by decide +kernel
theorem dX8_doubled_15 : decode cX8_doubled 15 = .ok (.iload_n 3, 1) := by decide +kernel
theorem dX8_doubled_16 : decode cX8_doubled 16 = .ok (.iconst (-1), 1) := by decide +kernel
theorem dX8_doubled_17 : decode cX8_doubled 17 = .ok (.if_icmp .eq 14, 3) := by decide +kernel
theorem dX8_doubled_20 : decode cX8_doubled 20 = .ok (.iconst 2, 1) := by decide +kernel
theorem dX8_doubled_21 : decode cX8_doubled 21 = .ok (.aload_n 2, 1) := by decide +kernel
theorem dX8_doubled_22 : decode cX8_doubled 22 = .ok (.getfield 122, 3) := by decide +kernel
