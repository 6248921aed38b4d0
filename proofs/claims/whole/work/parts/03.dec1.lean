theorem dX8_doubled_25 : decode cX8_doubled 25 = .ok (.imul, 1) := by decide +kernel
theorem dX8_doubled_26 : decode cX8_doubled 26 = .ok (.bipush 28, 2) := by decide +kernel
theorem dX8_doubled_28 : decode cX8_doubled 28 = .ok (.if_icmp .le 5, 3) := by decide +kernel
theorem dX8_doubled_31 : decode cX8_doubled 31 = .ok (.iconst (-1), 1) := by decide +kernel
theorem dX8_doubled_32 : decode cX8_doubled 32 = .ok (.ireturn, 1) := by decide +kernel
theorem dX8_doubled_33 : decode cX8_doubled 33 = .ok (.aload_n 2, 1) := by decide +kernel
theorem dX8_doubled_34 : decode cX8_doubled 34 = .ok (.getfield 122, 3) := by decide +kernel
theorem dX8_doubled_37 : decode cX8_doubled 37 = .ok (.istore 4, 2) := by decide +kernel
theorem dX8_doubled_39 : decode cX8_doubled 39 = .ok (.aload_n 0, 1) := by decide +kernel
theorem dX8_doubled_40 : decode cX8_doubled 40 = .ok (.getfield 11, 3) := by decide +kernel
theorem dX8_doubled_43 : decode cX8_doubled 43 = .ok (.iload_n 3, 1) := by decide +kernel
theorem dX8_doubled_44 : decode cX8_doubled 44 = .ok (.aaload, 1) := by decide +kernel
theorem dX8_doubled_45 : decode cX8_doubled 45 = .ok (.astore 5, 2) := by decide +kernel
theorem dX8_doubled_47 : decode cX8_doubled 47 = .ok (.aload 5, 2) := by decide +kernel
theorem dX8_doubled_49 : decode cX8_doubled 49 = .ok (.iconst 2, 1) := by decide +kernel
theorem dX8_doubled_50 : decode cX8_doubled 50 = .ok (.iload 4, 2) := by decide +kernel
theorem dX8_doubled_52 : decode cX8_doubled 52 = .ok (.imul, 1) := by decide +kernel
theorem dX8_doubled_53 : decode cX8_doubled 53 = .ok (.invokevirtual 91, 3) := by decide +kernel
theorem dX8_doubled_56 : decode cX8_doubled 56 = .ok (.iconst 0, 1) := by decide +kernel
theorem dX8_doubled_57 : decode cX8_doubled 57 = .ok (.istore 6, 2) := by decide +kernel
theorem dX8_doubled_59 : decode cX8_doubled 59 = .ok (.iload 6, 2) := by decide +kernel
theorem dX8_doubled_61 : decode cX8_doubled 61 = .ok (.iload 4, 2) := by decide +kernel
theorem dX8_doubled_63 : decode cX8_doubled 63 = .ok (.if_icmp .ge 58, 3) := by decide +kernel
theorem dX8_doubled_66 : decode cX8_doubled 66 = .ok (.aload_n 2, 1) := by decide +kernel
theorem dX8_doubled_67 : decode cX8_doubled 67 = .ok (.getfield 125, 3) := by decide +kernel
theorem dX8_doubled_70 : decode cX8_doubled 70 = .ok (.iload 6, 2) := by decide +kernel
theorem dX8_doubled_72 : decode cX8_doubled 72 = .ok (.iaload, 1) := by decide +kernel
theorem dX8_doubled_73 : decode cX8_doubled 73 = .ok (.istore 7, 2) := by decide +kernel
theorem dX8_doubled_75 : decode cX8_doubled 75 = .ok (.aload 5, 2) := by decide +kernel
theorem dX8_doubled_77 : decode cX8_doubled 77 = .ok (.getfield 125, 3) := by decide +kernel
theorem dX8_doubled_80 : decode cX8_doubled 80 = .ok (.iload 6, 2) := by decide +kernel
theorem dX8_doubled_82 : decode cX8_doubled 82 = .ok (.iload 7, 2) := by decide +kernel
theorem dX8_doubled_84 : decode cX8_doubled 84 = .ok (.iload 7, 2) := by decide +kernel
theorem dX8_doubled_86 : decode cX8_doubled 86 = .ok (.iload 4, 2) := by decide +kernel
theorem dX8_doubled_88 : decode cX8_doubled 88 = .ok (.ishl, 1) := by decide +kernel
theorem dX8_doubled_89 : decode cX8_doubled 89 = .ok (.ior, 1) := by decide +kernel
theorem dX8_doubled_90 : decode cX8_doubled 90 = .ok (.iastore, 1) := by decide +kernel
theorem dX8_doubled_91 : decode cX8_doubled 91 = .ok (.aload 5, 2) := by decide +kernel
theorem dX8_doubled_93 : decode cX8_doubled 93 = .ok (.getfield 125, 3) := by decide +kernel
theorem dX8_doubled_96 : decode cX8_doubled 96 = .ok (.iload 4, 2) := by decide +kernel
theorem dX8_doubled_98 : decode cX8_doubled 98 = .ok (.iload 6, 2) := by decide +kernel
theorem dX8_doubled_100 : decode cX8_doubled 100 = .ok (.iadd, 1) := by decide +kernel
theorem dX8_doubled_101 : decode cX8_doubled 101 = .ok (.iload 7, 2) := by decide +kernel
theorem dX8_doubled_103 : decode cX8_doubled 103 = .ok (.iload 7, 2) := by decide +kernel
theorem dX8_doubled_105 : decode cX8_doubled 105 = .ok (.aload_n 2, 1) := by decide +kernel
theorem dX8_doubled_106 : decode cX8_doubled 106 = .ok (.invokevirtual 128, 3) := by decide +kernel
theorem dX8_doubled_109 : decode cX8_doubled 109 = .ok (.ixor, 1) := by decide +kernel
theorem dX8_doubled_110 : decode cX8_doubled 110 = .ok (.iload 4, 2) := by decide +kernel
theorem dX8_doubled_112 : decode cX8_doubled 112 = .ok (.ishl, 1) := by decide +kernel
theorem dX8_doubled_113 : decode cX8_doubled 113 = .ok (.ior, 1) := by decide +kernel
theorem dX8_doubled_114 : decode cX8_doubled 114 = .ok (.iastore, 1) := by decide +kernel
theorem dX8_doubled_115 : decode cX8_doubled 115 = .ok (.iinc 6 1, 3) := by decide +kernel
theorem dX8_doubled_118 : decode cX8_doubled 118 = .ok (.goto (-59), 3) := by decide +kernel
theorem dX8_doubled_121 : decode cX8_doubled 121 = .ok (.iload_n 3, 1) := by decide +kernel
theorem dX8_doubled_122 : decode cX8_doubled 122 = .ok (.ireturn, 1) := by decide +kernel
theorem dX8_product_0 : decode cX8_product 0 = .ok (.aload_n 0, 1) := by decide +kernel
theorem dX8_product_1 : decode cX8_product 1 = .ok (.iload_n 1, 1) := by decide +kernel
theorem dX8_product_2 : decode cX8_product 2 = .ok (.invokevirtual 118, 3) := by decide +kernel
theorem dX8_product_5 : decode cX8_product 5 = .ok (.astore_n 3, 1) := by decide +kernel
theorem dX8_product_6 : decode cX8_product 6 = .ok (.aload_n 0, 1) := by decide +kernel
theorem dX8_product_7 : decode cX8_product 7 = .ok (.iload_n 2, 1) := by decide +kernel
theorem dX8_product_8 : decode cX8_product 8 = .ok (.invokevirtual 118, 3) := by decide +kernel
theorem dX8_product_11 : decode cX8_product 11 = .ok (.astore 4, 2) := by decide +kernel
theorem dX8_product_13 : decode cX8_product 13 = .ok (.aload_n 0, 1) := by decide +kernel
theorem dX8_product_14 : decode cX8_product 14 = .ok (.invokevirtual 73, 3) := by decide +kernel
theorem dX8_product_17 : decode cX8_product 17 = .ok (.istore 5, 2) := by decide +kernel
theorem dX8_product_19 : decode cX8_product 19 = .ok (.aload_n 3, 1) := by decide +kernel
theorem dX8_product_20 : decode cX8_product 20 = .ok (.ifnull 29, 3) := by decide +kernel
theorem dX8_product_23 : decode cX8_product 23 = .ok (.aload 4, 2) := by decide +kernel
theorem dX8_product_25 : decode cX8_product 25 = .ok (.ifnull 24, 3) := by decide +kernel
theorem dX8_product_28 : decode cX8_product 28 = .ok (.iload 5, 2) := by decide +kernel
theorem dX8_product_30 : decode cX8_product 30 = .ok (.iconst (-1), 1) := by decide +kernel
theorem dX8_product_31 : decode cX8_product 31 = .ok (.if_icmp .eq 18, 3) := by decide +kernel
theorem dX8_product_34 : decode cX8_product 34 = .ok (.aload_n 3, 1) := by decide +kernel
theorem dX8_product_35 : decode cX8_product 35 = .ok (.getfield 122, 3) := by decide +kernel
theorem dX8_product_38 : decode cX8_product 38 = .ok (.aload 4, 2) := by decide +kernel
theorem dX8_product_40 : decode cX8_product 40 = .ok (.getfield 122, 3) := by decide +kernel
theorem dX8_product_43 : decode cX8_product 43 = .ok (.imul, 1) := by decide +kernel
theorem dX8_product_44 : decode cX8_product 44 = .ok (.bipush 28, 2) := by decide +kernel
theorem dX8_product_46 : decode cX8_product 46 = .ok (.if_icmp .le 5, 3) := by decide +kernel
theorem dX8_product_49 : decode cX8_product 49 = .ok (.iconst (-1), 1) := by decide +kernel
theorem dX8_product_50 : decode cX8_product 50 = .ok (.ireturn, 1) := by decide +kernel
theorem dX8_product_51 : decode cX8_product 51 = .ok (.aload 4, 2) := by decide +kernel
theorem dX8_product_53 : decode cX8_product 53 = .ok (.getfield 122, 3) := by decide +kernel
theorem dX8_product_56 : decode cX8_product 56 = .ok (.istore 6, 2) := by decide +kernel
theorem dX8_product_58 : decode cX8_product 58 = .ok (.aload_n 0, 1) := by decide +kernel
theorem dX8_product_59 : decode cX8_product 59 = .ok (.getfield 11, 3) := by decide +kernel
theorem dX8_product_62 : decode cX8_product 62 = .ok (.iload 5, 2) := by decide +kernel
theorem dX8_product_64 : decode cX8_product 64 = .ok (.aaload, 1) := by decide +kernel
theorem dX8_product_65 : decode cX8_product 65 = .ok (.astore 7, 2) := by decide +kernel
theorem dX8_product_67 : decode cX8_product 67 = .ok (.aload 7, 2) := by decide +kernel
theorem dX8_product_69 : decode cX8_product 69 = .ok (.aload_n 3, 1) := by decide +kernel
theorem dX8_product_70 : decode cX8_product 70 = .ok (.getfield 122, 3) := by decide +kernel
theorem dX8_product_73 : decode cX8_product 73 = .ok (.iload 6, 2) := by decide +kernel
theorem dX8_product_75 : decode cX8_product 75 = .ok (.imul, 1) := by decide +kernel
theorem dX8_product_76 : decode cX8_product 76 = .ok (.invokevirtual 91, 3) := by decide +kernel
theorem dX8_product_79 : decode cX8_product 79 = .ok (.iconst 0, 1) := by decide +kernel
theorem dX8_product_80 : decode cX8_product 80 = .ok (.istore 8, 2) := by decide +kernel
theorem dX8_product_82 : decode cX8_product 82 = .ok (.iload 8, 2) := by decide +kernel
theorem dX8_product_84 : decode cX8_product 84 = .ok (.aload_n 3, 1) := by decide +kernel
theorem dX8_product_85 : decode cX8_product 85 = .ok (.getfield 122, 3) := by decide +kernel
theorem dX8_product_88 : decode cX8_product 88 = .ok (.if_icmp .ge 49, 3) := by decide +kernel
theorem dX8_product_91 : decode cX8_product 91 = .ok (.iconst 0, 1) := by decide +kernel
theorem dX8_product_92 : decode cX8_product 92 = .ok (.istore 9, 2) := by decide +kernel
theorem dX8_product_94 : decode cX8_product 94 = .ok (.iload 9, 2) := by decide +kernel
theorem dX8_product_96 : decode cX8_product 96 = .ok (.iload 6, 2) := by decide +kernel
theorem dX8_product_98 : decode cX8_product 98 = .ok (.if_icmp .ge 33, 3) := by decide +kernel
theorem dX8_product_101 : decode cX8_product 101 = .ok (.aload 7, 2) := by decide +kernel
theorem dX8_product_103 : decode cX8_product 103 = .ok (.getfield 125, 3) := by decide +kernel
theorem dX8_product_106 : decode cX8_product 106 = .ok (.iload 8, 2) := by decide +kernel
theorem dX8_product_108 : decode cX8_product 108 = .ok (.iload 6, 2) := by decide +kernel
theorem dX8_product_110 : decode cX8_product 110 = .ok (.imul, 1) := by decide +kernel
theorem dX8_product_111 : decode cX8_product 111 = .ok (.iload 9, 2) := by decide +kernel
theorem dX8_product_113 : decode cX8_product 113 = .ok (.iadd, 1) := by decide +kernel
theorem dX8_product_114 : decode cX8_product 114 = .ok (.aload_n 3, 1) := by decide +kernel
theorem dX8_product_115 : decode cX8_product 115 = .ok (.iload 8, 2) := by decide +kernel
theorem dX8_product_117 : decode cX8_product 117 = .ok (.aload 4, 2) := by decide +kernel
theorem dX8_product_119 : decode cX8_product 119 = .ok (.iload 9, 2) := by decide +kernel
theorem dX8_product_121 : decode cX8_product 121 = .ok (.invokestatic 131, 3) := by decide +kernel
theorem dX8_product_124 : decode cX8_product 124 = .ok (.iastore, 1) := by decide +kernel
theorem dX8_product_125 : decode cX8_product 125 = .ok (.iinc 9 1, 3) := by decide +kernel
theorem dX8_product_128 : decode cX8_product 128 = .ok (.goto (-34), 3) := by decide +kernel
theorem dX8_product_131 : decode cX8_product 131 = .ok (.iinc 8 1, 3) := by decide +kernel
theorem dX8_product_134 : decode cX8_product 134 = .ok (.goto (-52), 3) := by decide +kernel
theorem dX8_product_137 : decode cX8_product 137 = .ok (.iload 5, 2) := by decide +kernel
theorem dX8_product_139 : decode cX8_product 139 = .ok (.ireturn, 1) := by decide +kernel
theorem dX8_four_0 : decode cX8_four 0 = .ok (.aload_n 0, 1) := by decide +kernel
theorem dX8_four_1 : decode cX8_four 1 = .ok (.invokevirtual 73, 3) := by decide +kernel
theorem dX8_four_4 : decode cX8_four 4 = .ok (.istore 6, 2) := by decide +kernel
theorem dX8_four_6 : decode cX8_four 6 = .ok (.iload 6, 2) := by decide +kernel
theorem dX8_four_8 : decode cX8_four 8 = .ok (.iconst (-1), 1) := by decide +kernel
theorem dX8_four_9 : decode cX8_four 9 = .ok (.if_icmp .eq 14, 3) := by decide +kernel
theorem dX8_four_12 : decode cX8_four 12 = .ok (.iload_n 1, 1) := by decide +kernel
theorem dX8_four_13 : decode cX8_four 13 = .ok (.iconst 1, 1) := by decide +kernel
theorem dX8_four_14 : decode cX8_four 14 = .ok (.if_icmp .lt 9, 3) := by decide +kernel
theorem dX8_four_17 : decode cX8_four 17 = .ok (.iload_n 1, 1) := by decide +kernel
theorem dX8_four_18 : decode cX8_four 18 = .ok (.bipush 7, 2) := by decide +kernel
theorem dX8_four_20 : decode cX8_four 20 = .ok (.if_icmp .le 5, 3) := by decide +kernel
theorem dX8_four_23 : decode cX8_four 23 = .ok (.iconst (-1), 1) := by decide +kernel
theorem dX8_four_24 : decode cX8_four 24 = .ok (.ireturn, 1) := by decide +kernel
theorem dX8_four_25 : decode cX8_four 25 = .ok (.iload_n 2, 1) := by decide +kernel
theorem dX8_four_26 : decode cX8_four 26 = .ok (.iload_n 1, 1) := by decide +kernel
theorem dX8_four_27 : decode cX8_four 27 = .ok (.invokestatic 135, 3) := by decide +kernel
theorem dX8_four_30 : decode cX8_four 30 = .ok (.ifCond .eq 29, 3) := by decide +kernel
theorem dX8_four_33 : decode cX8_four 33 = .ok (.iload_n 3, 1) := by decide +kernel
theorem dX8_four_34 : decode cX8_four 34 = .ok (.iload_n 1, 1) := by decide +kernel
theorem dX8_four_35 : decode cX8_four 35 = .ok (.invokestatic 135, 3) := by decide +kernel
theorem dX8_four_38 : decode cX8_four 38 = .ok (.ifCond .eq 21, 3) := by decide +kernel
theorem dX8_four_41 : decode cX8_four 41 = .ok (.iload 4, 2) := by decide +kernel
theorem dX8_four_43 : decode cX8_four 43 = .ok (.iload_n 1, 1) := by decide +kernel
theorem dX8_four_44 : decode cX8_four 44 = .ok (.invokestatic 135, 3) := by decide +kernel
theorem dX8_four_47 : decode cX8_four 47 = .ok (.ifCond .eq 12, 3) := by decide +kernel
theorem dX8_four_50 : decode cX8_four 50 = .ok (.iload 5, 2) := by decide +kernel
theorem dX8_four_52 : decode cX8_four 52 = .ok (.iload_n 1, 1) := by decide +kernel
theorem dX8_four_53 : decode cX8_four 53 = .ok (.invokestatic 135, 3) := by decide +kernel
theorem dX8_four_56 : decode cX8_four 56 = .ok (.ifCond .ne 5, 3) := by decide +kernel
theorem dX8_four_59 : decode cX8_four 59 = .ok (.iconst (-1), 1) := by decide +kernel
theorem dX8_four_60 : decode cX8_four 60 = .ok (.ireturn, 1) := by decide +kernel
theorem dX8_four_61 : decode cX8_four 61 = .ok (.iconst 1, 1) := by decide +kernel
theorem dX8_four_62 : decode cX8_four 62 = .ok (.iload_n 1, 1) := by decide +kernel
theorem dX8_four_63 : decode cX8_four 63 = .ok (.ishl, 1) := by decide +kernel
theorem dX8_four_64 : decode cX8_four 64 = .ok (.iconst 1, 1) := by decide +kernel
theorem dX8_four_65 : decode cX8_four 65 = .ok (.isub, 1) := by decide +kernel
theorem dX8_four_66 : decode cX8_four 66 = .ok (.istore 7, 2) := by decide +kernel
theorem dX8_four_68 : decode cX8_four 68 = .ok (.aload_n 0, 1) := by decide +kernel
theorem dX8_four_69 : decode cX8_four 69 = .ok (.getfield 11, 3) := by decide +kernel
theorem dX8_four_72 : decode cX8_four 72 = .ok (.iload 6, 2) := by decide +kernel
theorem dX8_four_74 : decode cX8_four 74 = .ok (.aaload, 1) := by decide +kernel
theorem dX8_four_75 : decode cX8_four 75 = .ok (.astore 8, 2) := by decide +kernel
theorem dX8_four_77 : decode cX8_four 77 = .ok (.aload 8, 2) := by decide +kernel
theorem dX8_four_79 : decode cX8_four 79 = .ok (.iconst 4, 1) := by decide +kernel
theorem dX8_four_80 : decode cX8_four 80 = .ok (.iload_n 1, 1) := by decide +kernel
theorem dX8_four_81 : decode cX8_four 81 = .ok (.imul, 1) := by decide +kernel
theorem dX8_four_82 : decode cX8_four 82 = .ok (.invokevirtual 91, 3) := by decide +kernel
theorem dX8_four_85 : decode cX8_four 85 = .ok (.iconst 0, 1) := by decide +kernel
theorem dX8_four_86 : decode cX8_four 86 = .ok (.istore 9, 2) := by decide +kernel
theorem dX8_four_88 : decode cX8_four 88 = .ok (.iload 9, 2) := by decide +kernel
theorem dX8_four_90 : decode cX8_four 90 = .ok (.iload_n 1, 1) := by decide +kernel
theorem dX8_four_91 : decode cX8_four 91 = .ok (.if_icmp .ge 155, 3) := by decide +kernel
theorem dX8_four_94 : decode cX8_four 94 = .ok (.iload_n 2, 1) := by decide +kernel
theorem dX8_four_95 : decode cX8_four 95 = .ok (.iload_n 1, 1) := by decide +kernel
theorem dX8_four_96 : decode cX8_four 96 = .ok (.iload 9, 2) := by decide +kernel
theorem dX8_four_98 : decode cX8_four 98 = .ok (.invokestatic 138, 3) := by decide +kernel
theorem dX8_four_101 : decode cX8_four 101 = .ok (.istore 10, 2) := by decide +kernel
theorem dX8_four_103 : decode cX8_four 103 = .ok (.iload_n 3, 1) := by decide +kernel
theorem dX8_four_104 : decode cX8_four 104 = .ok (.iload_n 1, 1) := by decide +kernel
theorem dX8_four_105 : decode cX8_four 105 = .ok (.iload 9, 2) := by decide +kernel
theorem dX8_four_107 : decode cX8_four 107 = .ok (.invokestatic 138, 3) := by decide +kernel
theorem dX8_four_110 : decode cX8_four 110 = .ok (.istore 11, 2) := by decide +kernel
theorem dX8_four_112 : decode cX8_four 112 = .ok (.iload 4, 2) := by decide +kernel
theorem dX8_four_114 : decode cX8_four 114 = .ok (.iload_n 1, 1) := by decide +kernel
theorem dX8_four_115 : decode cX8_four 115 = .ok (.iload 9, 2) := by decide +kernel
theorem dX8_four_117 : decode cX8_four 117 = .ok (.invokestatic 138, 3) := by decide +kernel
theorem dX8_four_120 : decode cX8_four 120 = .ok (.istore 12, 2) := by decide +kernel
theorem dX8_four_122 : decode cX8_four 122 = .ok (.iload 5, 2) := by decide +kernel
theorem dX8_four_124 : decode cX8_four 124 = .ok (.iload_n 1, 1) := by decide +kernel
theorem dX8_four_125 : decode cX8_four 125 = .ok (.iload 9, 2) := by decide +kernel
theorem dX8_four_127 : decode cX8_four 127 = .ok (.invokestatic 138, 3) := by decide +kernel
theorem dX8_four_130 : decode cX8_four 130 = .ok (.istore 13, 2) := by decide +kernel
theorem dX8_four_132 : decode cX8_four 132 = .ok (.aload 8, 2) := by decide +kernel
theorem dX8_four_134 : decode cX8_four 134 = .ok (.getfield 125, 3) := by decide +kernel
theorem dX8_four_137 : decode cX8_four 137 = .ok (.iload 9, 2) := by decide +kernel
theorem dX8_four_139 : decode cX8_four 139 = .ok (.iload_n 1, 1) := by decide +kernel
theorem dX8_four_140 : decode cX8_four 140 = .ok (.iload 10, 2) := by decide +kernel
theorem dX8_four_142 : decode cX8_four 142 = .ok (.iload 11, 2) := by decide +kernel
theorem dX8_four_144 : decode cX8_four 144 = .ok (.iload 12, 2) := by decide +kernel
theorem dX8_four_146 : decode cX8_four 146 = .ok (.iload 13, 2) := by decide +kernel
theorem dX8_four_148 : decode cX8_four 148 = .ok (.invokestatic 141, 3) := by decide +kernel
theorem dX8_four_151 : decode cX8_four 151 = .ok (.iastore, 1) := by decide +kernel
theorem dX8_four_152 : decode cX8_four 152 = .ok (.aload 8, 2) := by decide +kernel
theorem dX8_four_154 : decode cX8_four 154 = .ok (.getfield 125, 3) := by decide +kernel
theorem dX8_four_157 : decode cX8_four 157 = .ok (.iload_n 1, 1) := by decide +kernel
theorem dX8_four_158 : decode cX8_four 158 = .ok (.iload 9, 2) := by decide +kernel
theorem dX8_four_160 : decode cX8_four 160 = .ok (.iadd, 1) := by decide +kernel
theorem dX8_four_161 : decode cX8_four 161 = .ok (.iload_n 1, 1) := by decide +kernel
theorem dX8_four_162 : decode cX8_four 162 = .ok (.iload 11, 2) := by decide +kernel
theorem dX8_four_164 : decode cX8_four 164 = .ok (.iload 7, 2) := by decide +kernel
theorem dX8_four_166 : decode cX8_four 166 = .ok (.ixor, 1) := by decide +kernel
theorem dX8_four_167 : decode cX8_four 167 = .ok (.iload 10, 2) := by decide +kernel
theorem dX8_four_169 : decode cX8_four 169 = .ok (.iload 13, 2) := by decide +kernel
theorem dX8_four_171 : decode cX8_four 171 = .ok (.iload 7, 2) := by decide +kernel
theorem dX8_four_173 : decode cX8_four 173 = .ok (.ixor, 1) := by decide +kernel
theorem dX8_four_174 : decode cX8_four 174 = .ok (.iload 12, 2) := by decide +kernel
theorem dX8_four_176 : decode cX8_four 176 = .ok (.invokestatic 141, 3) := by decide +kernel
theorem dX8_four_179 : decode cX8_four 179 = .ok (.iastore, 1) := by decide +kernel
theorem dX8_four_180 : decode cX8_four 180 = .ok (.aload 8, 2) := by decide +kernel
theorem dX8_four_182 : decode cX8_four 182 = .ok (.getfield 125, 3) := by decide +kernel
theorem dX8_four_185 : decode cX8_four 185 = .ok (.iconst 2, 1) := by decide +kernel
theorem dX8_four_186 : decode cX8_four 186 = .ok (.iload_n 1, 1) := by decide +kernel
theorem dX8_four_187 : decode cX8_four 187 = .ok (.imul, 1) := by decide +kernel
theorem dX8_four_188 : decode cX8_four 188 = .ok (.iload 9, 2) := by decide +kernel
theorem dX8_four_190 : decode cX8_four 190 = .ok (.iadd, 1) := by decide +kernel
theorem dX8_four_191 : decode cX8_four 191 = .ok (.iload_n 1, 1) := by decide +kernel
theorem dX8_four_192 : decode cX8_four 192 = .ok (.iload 12, 2) := by decide +kernel
theorem dX8_four_194 : decode cX8_four 194 = .ok (.iload 7, 2) := by decide +kernel
theorem dX8_four_196 : decode cX8_four 196 = .ok (.ixor, 1) := by decide +kernel
theorem dX8_four_197 : decode cX8_four 197 = .ok (.iload 13, 2) := by decide +kernel
theorem dX8_four_199 : decode cX8_four 199 = .ok (.iload 10, 2) := by decide +kernel
theorem dX8_four_201 : decode cX8_four 201 = .ok (.iload 11, 2) := by decide +kernel
theorem dX8_four_203 : decode cX8_four 203 = .ok (.iload 7, 2) := by decide +kernel
theorem dX8_four_205 : decode cX8_four 205 = .ok (.ixor, 1) := by decide +kernel
theorem dX8_four_206 : decode cX8_four 206 = .ok (.invokestatic 141, 3) := by decide +kernel
theorem dX8_four_209 : decode cX8_four 209 = .ok (.iastore, 1) := by decide +kernel
theorem dX8_four_210 : decode cX8_four 210 = .ok (.aload 8, 2) := by decide +kernel
theorem dX8_four_212 : decode cX8_four 212 = .ok (.getfield 125, 3) := by decide +kernel
theorem dX8_four_215 : decode cX8_four 215 = .ok (.iconst 3, 1) := by decide +kernel
theorem dX8_four_216 : decode cX8_four 216 = .ok (.iload_n 1, 1) := by decide +kernel
theorem dX8_four_217 : decode cX8_four 217 = .ok (.imul, 1) := by decide +kernel
theorem dX8_four_218 : decode cX8_four 218 = .ok (.iload 9, 2) := by decide +kernel
theorem dX8_four_220 : decode cX8_four 220 = .ok (.iadd, 1) := by decide +kernel
theorem dX8_four_221 : decode cX8_four 221 = .ok (.iload_n 1, 1) := by decide +kernel
theorem dX8_four_222 : decode cX8_four 222 = .ok (.iload 13, 2) := by decide +kernel
theorem dX8_four_224 : decode cX8_four 224 = .ok (.iload 7, 2) := by decide +kernel
theorem dX8_four_226 : decode cX8_four 226 = .ok (.ixor, 1) := by decide +kernel
theorem dX8_four_227 : decode cX8_four 227 = .ok (.iload 12, 2) := by decide +kernel
theorem dX8_four_229 : decode cX8_four 229 = .ok (.iload 7, 2) := by decide +kernel
theorem dX8_four_231 : decode cX8_four 231 = .ok (.ixor, 1) := by decide +kernel
theorem dX8_four_232 : decode cX8_four 232 = .ok (.iload 11, 2) := by decide +kernel
theorem dX8_four_234 : decode cX8_four 234 = .ok (.iload 10, 2) := by decide +kernel
theorem dX8_four_236 : decode cX8_four 236 = .ok (.invokestatic 141, 3) := by decide +kernel
theorem dX8_four_239 : decode cX8_four 239 = .ok (.iastore, 1) := by decide +kernel
theorem dX8_four_240 : decode cX8_four 240 = .ok (.iinc 9 1, 3) := by decide +kernel
theorem dX8_four_243 : decode cX8_four 243 = .ok (.goto (-155), 3) := by decide +kernel
theorem dX8_four_246 : decode cX8_four 246 = .ok (.iload 6, 2) := by decide +kernel
theorem dX8_four_248 : decode cX8_four 248 = .ok (.ireturn, 1) := by decide +kernel
theorem dX8_bordered_0 : decode cX8_bordered 0 = .ok (.aload_n 0, 1) := by decide +kernel
theorem dX8_bordered_1 : decode cX8_bordered 1 = .ok (.invokevirtual 73, 3) := by decide +kernel
theorem dX8_bordered_4 : decode cX8_bordered 4 = .ok (.istore_n 3, 1) := by decide +kernel
theorem dX8_bordered_5 : decode cX8_bordered 5 = .ok (.iload_n 3, 1) := by decide +kernel
theorem dX8_bordered_6 : decode cX8_bordered 6 = .ok (.iconst (-1), 1) := by decide +kernel
theorem dX8_bordered_7 : decode cX8_bordered 7 = .ok (.if_icmp .eq 22, 3) := by decide +kernel
theorem dX8_bordered_10 : decode cX8_bordered 10 = .ok (.iload_n 1, 1) := by decide +kernel
theorem dX8_bordered_11 : decode cX8_bordered 11 = .ok (.iconst 1, 1) := by decide +kernel
theorem dX8_bordered_12 : decode cX8_bordered 12 = .ok (.if_icmp .lt 17, 3) := by decide +kernel
theorem dX8_bordered_15 : decode cX8_bordered 15 = .ok (.iload_n 1, 1) := by decide +kernel
theorem dX8_bordered_16 : decode cX8_bordered 16 = .ok (.bipush 28, 2) := by decide +kernel
theorem dX8_bordered_18 : decode cX8_bordered 18 = .ok (.if_icmp .ge 11, 3) := by decide +kernel
theorem dX8_bordered_21 : decode cX8_bordered 21 = .ok (.iload_n 2, 1) := by decide +kernel
theorem dX8_bordered_22 : decode cX8_bordered 22 = .ok (.iload_n 1, 1) := by decide +kernel
theorem dX8_bordered_23 : decode cX8_bordered 23 = .ok (.invokestatic 135, 3) := by decide +kernel
theorem dX8_bordered_26 : decode cX8_bordered 26 = .ok (.ifCond .ne 5, 3) := by decide +kernel
theorem dX8_bordered_29 : decode cX8_bordered 29 = .ok (.iconst (-1), 1) := by decide +kernel
theorem dX8_bordered_30 : decode cX8_bordered 30 = .ok (.ireturn, 1) := by decide +kernel
theorem dX8_bordered_31 : decode cX8_bordered 31 = .ok (.aload_n 0, 1) := by decide +kernel
theorem dX8_bordered_32 : decode cX8_bordered 32 = .ok (.getfield 11, 3) := by decide +kernel
theorem dX8_bordered_35 : decode cX8_bordered 35 = .ok (.iload_n 3, 1) := by decide +kernel
theorem dX8_bordered_36 : decode cX8_bordered 36 = .ok (.aaload, 1) := by decide +kernel
theorem dX8_bordered_37 : decode cX8_bordered 37 = .ok (.astore 4, 2) := by decide +kernel
theorem dX8_bordered_39 : decode cX8_bordered 39 = .ok (.aload 4, 2) := by decide +kernel
theorem dX8_bordered_41 : decode cX8_bordered 41 = .ok (.iload_n 1, 1) := by decide +kernel
theorem dX8_bordered_42 : decode cX8_bordered 42 = .ok (.iconst 1, 1) := by decide +kernel
theorem dX8_bordered_43 : decode cX8_bordered 43 = .ok (.iadd, 1) := by decide +kernel
theorem dX8_bordered_44 : decode cX8_bordered 44 = .ok (.invokevirtual 91, 3) := by decide +kernel
theorem dX8_bordered_47 : decode cX8_bordered 47 = .ok (.iconst 0, 1) := by decide +kernel
theorem dX8_bordered_48 : decode cX8_bordered 48 = .ok (.istore 5, 2) := by decide +kernel
theorem dX8_bordered_50 : decode cX8_bordered 50 = .ok (.iload 5, 2) := by decide +kernel
theorem dX8_bordered_52 : decode cX8_bordered 52 = .ok (.iload_n 1, 1) := by decide +kernel
theorem dX8_bordered_53 : decode cX8_bordered 53 = .ok (.if_icmp .ge 28, 3) := by decide +kernel
theorem dX8_bordered_56 : decode cX8_bordered 56 = .ok (.aload 4, 2) := by decide +kernel
theorem dX8_bordered_58 : decode cX8_bordered 58 = .ok (.getfield 125, 3) := by decide +kernel
theorem dX8_bordered_61 : decode cX8_bordered 61 = .ok (.iload 5, 2) := by decide +kernel
theorem dX8_bordered_63 : decode cX8_bordered 63 = .ok (.iconst 1, 1) := by decide +kernel
theorem dX8_bordered_64 : decode cX8_bordered 64 = .ok (.iadd, 1) := by decide +kernel
theorem dX8_bordered_65 : decode cX8_bordered 65 = .ok (.iload_n 2, 1) := by decide +kernel
theorem dX8_bordered_66 : decode cX8_bordered 66 = .ok (.iload_n 1, 1) := by decide +kernel
theorem dX8_bordered_67 : decode cX8_bordered 67 = .ok (.iload 5, 2) := by decide +kernel
theorem dX8_bordered_69 : decode cX8_bordered 69 = .ok (.invokestatic 138, 3) := by decide +kernel
theorem dX8_bordered_72 : decode cX8_bordered 72 = .ok (.iconst 1, 1) := by decide +kernel
theorem dX8_bordered_73 : decode cX8_bordered 73 = .ok (.ishl, 1) := by decide +kernel
theorem dX8_bordered_74 : decode cX8_bordered 74 = .ok (.iastore, 1) := by decide +kernel
theorem dX8_bordered_75 : decode cX8_bordered 75 = .ok (.iinc 5 1, 3) := by decide +kernel
theorem dX8_bordered_78 : decode cX8_bordered 78 = .ok (.goto (-28), 3) := by decide +kernel
theorem dX8_bordered_81 : decode cX8_bordered 81 = .ok (.iload_n 3, 1) := by decide +kernel
theorem dX8_bordered_82 : decode cX8_bordered 82 = .ok (.ireturn, 1) := by decide +kernel
theorem dX8_completed_0 : decode cX8_completed 0 = .ok (.aload_n 0, 1) := by decide +kernel
theorem dX8_completed_1 : decode cX8_completed 1 = .ok (.invokevirtual 73, 3) := by decide +kernel
theorem dX8_completed_4 : decode cX8_completed 4 = .ok (.istore_n 2, 1) := by decide +kernel
theorem dX8_completed_5 : decode cX8_completed 5 = .ok (.iload_n 2, 1) := by decide +kernel
theorem dX8_completed_6 : decode cX8_completed 6 = .ok (.iconst (-1), 1) := by decide +kernel
theorem dX8_completed_7 : decode cX8_completed 7 = .ok (.if_icmp .eq 30, 3) := by decide +kernel
theorem dX8_completed_10 : decode cX8_completed 10 = .ok (.iload_n 1, 1) := by decide +kernel
theorem dX8_completed_11 : decode cX8_completed 11 = .ok (.iconst 1, 1) := by decide +kernel
theorem dX8_completed_12 : decode cX8_completed 12 = .ok (.if_icmp .eq 27, 3) := by decide +kernel
theorem dX8_completed_15 : decode cX8_completed 15 = .ok (.iload_n 1, 1) := by decide +kernel
theorem dX8_completed_16 : decode cX8_completed 16 = .ok (.iconst 2, 1) := by decide +kernel
theorem dX8_completed_17 : decode cX8_completed 17 = .ok (.if_icmp .eq 22, 3) := by decide +kernel
theorem dX8_completed_20 : decode cX8_completed 20 = .ok (.iload_n 1, 1) := by decide +kernel
theorem dX8_completed_21 : decode cX8_completed 21 = .ok (.iconst 4, 1) := by decide +kernel
theorem dX8_completed_22 : decode cX8_completed 22 = .ok (.if_icmp .eq 17, 3) := by decide +kernel
theorem dX8_completed_25 : decode cX8_completed 25 = .ok (.iload_n 1, 1) := by decide +kernel
theorem dX8_completed_26 : decode cX8_completed 26 = .ok (.bipush 8, 2) := by decide +kernel
theorem dX8_completed_28 : decode cX8_completed 28 = .ok (.if_icmp .eq 11, 3) := by decide +kernel
theorem dX8_completed_31 : decode cX8_completed 31 = .ok (.iload_n 1, 1) := by decide +kernel
theorem dX8_completed_32 : decode cX8_completed 32 = .ok (.bipush 12, 2) := by decide +kernel
theorem dX8_completed_34 : decode cX8_completed 34 = .ok (.if_icmp .eq 5, 3) := by decide +kernel
theorem dX8_completed_37 : decode cX8_completed 37 = .ok (.iconst (-1), 1) := by decide +kernel
theorem dX8_completed_38 : decode cX8_completed 38 = .ok (.ireturn, 1) := by decide +kernel
theorem dX8_completed_39 : decode cX8_completed 39 = .ok (.aload_n 0, 1) := by decide +kernel
theorem dX8_completed_40 : decode cX8_completed 40 = .ok (.getfield 68, 3) := by decide +kernel
theorem dX8_completed_43 : decode cX8_completed 43 = .ok (.iload_n 1, 1) := by decide +kernel
theorem dX8_completed_44 : decode cX8_completed 44 = .ok (.if_icmp .gt 30, 3) := by decide +kernel
theorem dX8_completed_47 : decode cX8_completed 47 = .ok (.aload_n 0, 1) := by decide +kernel
theorem dX8_completed_48 : decode cX8_completed 48 = .ok (.iload_n 1, 1) := by decide +kernel
theorem dX8_completed_49 : decode cX8_completed 49 = .ok (.invokevirtual 77, 3) := by decide +kernel
theorem dX8_completed_52 : decode cX8_completed 52 = .ok (.ifCond .eq 22, 3) := by decide +kernel
theorem dX8_completed_55 : decode cX8_completed 55 = .ok (.aload_n 0, 1) := by decide +kernel
theorem dX8_completed_56 : decode cX8_completed 56 = .ok (.getfield 29, 3) := by decide +kernel
theorem dX8_completed_59 : decode cX8_completed 59 = .ok (.aload_n 0, 1) := by decide +kernel
theorem dX8_completed_60 : decode cX8_completed 60 = .ok (.getfield 16, 3) := by decide +kernel
theorem dX8_completed_63 : decode cX8_completed 63 = .ok (.aload_n 0, 1) := by decide +kernel
theorem dX8_completed_64 : decode cX8_completed 64 = .ok (.getfield 68, 3) := by decide +kernel
theorem dX8_completed_67 : decode cX8_completed 67 = .ok (.iload_n 1, 1) := by decide +kernel
theorem dX8_completed_68 : decode cX8_completed 68 = .ok (.invokevirtual 145, 3) := by decide +kernel
theorem dX8_completed_71 : decode cX8_completed 71 = .ok (.ifCond .ne 5, 3) := by decide +kernel
theorem dX8_completed_74 : decode cX8_completed 74 = .ok (.iconst (-1), 1) := by decide +kernel
theorem dX8_completed_75 : decode cX8_completed 75 = .ok (.ireturn, 1) := by decide +kernel
theorem dX8_completed_76 : decode cX8_completed 76 = .ok (.aload_n 0, 1) := by decide +kernel
theorem dX8_completed_77 : decode cX8_completed 77 = .ok (.getfield 11, 3) := by decide +kernel
theorem dX8_completed_80 : decode cX8_completed 80 = .ok (.iload_n 2, 1) := by decide +kernel
theorem dX8_completed_81 : decode cX8_completed 81 = .ok (.aaload, 1) := by decide +kernel
theorem dX8_completed_82 : decode cX8_completed 82 = .ok (.aload_n 0, 1) := by decide +kernel
theorem dX8_completed_83 : decode cX8_completed 83 = .ok (.getfield 29, 3) := by decide +kernel
theorem dX8_completed_86 : decode cX8_completed 86 = .ok (.getfield 149, 3) := by decide +kernel
theorem dX8_completed_89 : decode cX8_completed 89 = .ok (.iload_n 1, 1) := by decide +kernel
theorem dX8_completed_90 : decode cX8_completed 90 = .ok (.invokevirtual 81, 3) := by decide +kernel
theorem dX8_completed_93 : decode cX8_completed 93 = .ok (.aload_n 0, 1) := by decide +kernel
theorem dX8_completed_94 : decode cX8_completed 94 = .ok (.iconst 0, 1) := by decide +kernel
theorem dX8_completed_95 : decode cX8_completed 95 = .ok (.putfield 68, 3) := by decide +kernel
theorem dX8_completed_98 : decode cX8_completed 98 = .ok (.iload_n 2, 1) := by decide +kernel
theorem dX8_completed_99 : decode cX8_completed 99 = .ok (.ireturn, 1) := by decide +kernel
theorem dX8_copy_0 : decode cX8_copy 0 = .ok (.aload_n 0, 1) := by decide +kernel
theorem dX8_copy_1 : decode cX8_copy 1 = .ok (.iload_n 1, 1) := by decide +kernel
theorem dX8_copy_2 : decode cX8_copy 2 = .ok (.invokevirtual 118, 3) := by decide +kernel
theorem dX8_copy_5 : decode cX8_copy 5 = .ok (.astore_n 2, 1) := by decide +kernel
theorem dX8_copy_6 : decode cX8_copy 6 = .ok (.aload_n 0, 1) := by decide +kernel
theorem dX8_copy_7 : decode cX8_copy 7 = .ok (.invokevirtual 73, 3) := by decide +kernel
theorem dX8_copy_10 : decode cX8_copy 10 = .ok (.istore_n 3, 1) := by decide +kernel
theorem dX8_copy_11 : decode cX8_copy 11 = .ok (.aload_n 2, 1) := by decide +kernel
theorem dX8_copy_12 : decode cX8_copy 12 = .ok (.ifnull 8, 3) := by decide +kernel
theorem dX8_copy_15 : decode cX8_copy 15 = .ok (.iload_n 3, 1) := by decide +kernel
theorem dX8_copy_16 : decode cX8_copy 16 = .ok (.iconst (-1), 1) := by decide +kernel
theorem dX8_copy_17 : decode cX8_copy 17 = .ok (.if_icmp .ne 5, 3) := by decide +kernel
theorem dX8_copy_20 : decode cX8_copy 20 = .ok (.iconst (-1), 1) := by decide +kernel
theorem dX8_copy_21 : decode cX8_copy 21 = .ok (.ireturn, 1) := by decide +kernel
theorem dX8_copy_22 : decode cX8_copy 22 = .ok (.aload_n 0, 1) := by decide +kernel
theorem dX8_copy_23 : decode cX8_copy 23 = .ok (.getfield 11, 3) := by decide +kernel
theorem dX8_copy_26 : decode cX8_copy 26 = .ok (.iload_n 3, 1) := by decide +kernel
theorem dX8_copy_27 : decode cX8_copy 27 = .ok (.aaload, 1) := by decide +kernel
theorem dX8_copy_28 : decode cX8_copy 28 = .ok (.aload_n 2, 1) := by decide +kernel
theorem dX8_copy_29 : decode cX8_copy 29 = .ok (.getfield 125, 3) := by decide +kernel
theorem dX8_copy_32 : decode cX8_copy 32 = .ok (.aload_n 2, 1) := by decide +kernel
theorem dX8_copy_33 : decode cX8_copy 33 = .ok (.getfield 122, 3) := by decide +kernel
theorem dX8_copy_36 : decode cX8_copy 36 = .ok (.invokevirtual 81, 3) := by decide +kernel
theorem dX8_copy_39 : decode cX8_copy 39 = .ok (.iload_n 3, 1) := by decide +kernel
theorem dX8_copy_40 : decode cX8_copy 40 = .ok (.ireturn, 1) := by decide +kernel
theorem dX8_drop_0 : decode cX8_drop 0 = .ok (.aload_n 0, 1) := by decide +kernel
theorem dX8_drop_1 : decode cX8_drop 1 = .ok (.iload_n 1, 1) := by decide +kernel
theorem dX8_drop_2 : decode cX8_drop 2 = .ok (.invokevirtual 118, 3) := by decide +kernel
theorem dX8_drop_5 : decode cX8_drop 5 = .ok (.astore_n 2, 1) := by decide +kernel
theorem dX8_drop_6 : decode cX8_drop 6 = .ok (.aload_n 2, 1) := by decide +kernel
theorem dX8_drop_7 : decode cX8_drop 7 = .ok (.ifnonnull 5, 3) := by decide +kernel
theorem dX8_drop_10 : decode cX8_drop 10 = .ok (.iconst 0, 1) := by decide +kernel
theorem dX8_drop_11 : decode cX8_drop 11 = .ok (.ireturn, 1) := by decide +kernel
theorem dX8_drop_12 : decode cX8_drop 12 = .ok (.aload_n 2, 1) := by decide +kernel
theorem dX8_drop_13 : decode cX8_drop 13 = .ok (.iconst 0, 1) := by decide +kernel
theorem dX8_drop_14 : decode cX8_drop 14 = .ok (.putfield 122, 3) := by decide +kernel
theorem dX8_drop_17 : decode cX8_drop 17 = .ok (.iconst 1, 1) := by decide +kernel
theorem dX8_drop_18 : decode cX8_drop 18 = .ok (.ireturn, 1) := by decide +kernel
theorem dX8_sign_0 : decode cX8_sign 0 = .ok (.aload_n 0, 1) := by decide +kernel
theorem dX8_sign_1 : decode cX8_sign 1 = .ok (.iload_n 1, 1) := by decide +kernel
theorem dX8_sign_2 : decode cX8_sign 2 = .ok (.invokevirtual 118, 3) := by decide +kernel
theorem dX8_sign_5 : decode cX8_sign 5 = .ok (.astore 4, 2) := by decide +kernel
theorem dX8_sign_7 : decode cX8_sign 7 = .ok (.aload 4, 2) := by decide +kernel
theorem dX8_sign_9 : decode cX8_sign 9 = .ok (.ifnull 12, 3) := by decide +kernel
theorem dX8_sign_12 : decode cX8_sign 12 = .ok (.aload 4, 2) := by decide +kernel
theorem dX8_sign_14 : decode cX8_sign 14 = .ok (.iload_n 3, 1) := by decide +kernel
theorem dX8_sign_15 : decode cX8_sign 15 = .ok (.invokevirtual 150, 3) := by decide +kernel
theorem dX8_sign_18 : decode cX8_sign 18 = .ok (.ifCond .ne 5, 3) := by decide +kernel
theorem dX8_sign_21 : decode cX8_sign 21 = .ok (.iconst 0, 1) := by decide +kernel
theorem dX8_sign_22 : decode cX8_sign 22 = .ok (.ireturn, 1) := by decide +kernel
theorem dX8_sign_23 : decode cX8_sign 23 = .ok (.aload 4, 2) := by decide +kernel
theorem dX8_sign_25 : decode cX8_sign 25 = .ok (.iload_n 2, 1) := by decide +kernel
theorem dX8_sign_26 : decode cX8_sign 26 = .ok (.iload_n 3, 1) := by decide +kernel
theorem dX8_sign_27 : decode cX8_sign 27 = .ok (.invokevirtual 153, 3) := by decide +kernel
theorem dX8_sign_30 : decode cX8_sign 30 = .ok (.iconst 1, 1) := by decide +kernel
theorem dX8_sign_31 : decode cX8_sign 31 = .ok (.ireturn, 1) := by decide +kernel
theorem dX8_exchange_0 : decode cX8_exchange 0 = .ok (.aload_n 0, 1) := by decide +kernel
theorem dX8_exchange_1 : decode cX8_exchange 1 = .ok (.iload_n 1, 1) := by decide +kernel
theorem dX8_exchange_2 : decode cX8_exchange 2 = .ok (.invokevirtual 118, 3) := by decide +kernel
theorem dX8_exchange_5 : decode cX8_exchange 5 = .ok (.astore 5, 2) := by decide +kernel
theorem dX8_exchange_7 : decode cX8_exchange 7 = .ok (.aload 5, 2) := by decide +kernel
theorem dX8_exchange_9 : decode cX8_exchange 9 = .ok (.ifnull 28, 3) := by decide +kernel
theorem dX8_exchange_12 : decode cX8_exchange 12 = .ok (.aload 5, 2) := by decide +kernel
theorem dX8_exchange_14 : decode cX8_exchange 14 = .ok (.iload_n 3, 1) := by decide +kernel
theorem dX8_exchange_15 : decode cX8_exchange 15 = .ok (.invokevirtual 150, 3) := by decide +kernel
theorem dX8_exchange_18 : decode cX8_exchange 18 = .ok (.ifCond .eq 19, 3) := by decide +kernel
theorem dX8_exchange_21 : decode cX8_exchange 21 = .ok (.aload 5, 2) := by decide +kernel
theorem dX8_exchange_23 : decode cX8_exchange 23 = .ok (.iload 4, 2) := by decide +kernel
theorem dX8_exchange_25 : decode cX8_exchange 25 = .ok (.invokevirtual 150, 3) := by decide +kernel
theorem dX8_exchange_28 : decode cX8_exchange 28 = .ok (.ifCond .eq 9, 3) := by decide +kernel
theorem dX8_exchange_31 : decode cX8_exchange 31 = .ok (.iload_n 3, 1) := by decide +kernel
theorem dX8_exchange_32 : decode cX8_exchange 32 = .ok (.iload 4, 2) := by decide +kernel
theorem dX8_exchange_34 : decode cX8_exchange 34 = .ok (.if_icmp .ne 5, 3) := by decide +kernel
theorem dX8_exchange_37 : decode cX8_exchange 37 = .ok (.iconst 0, 1) := by decide +kernel
theorem dX8_exchange_38 : decode cX8_exchange 38 = .ok (.ireturn, 1) := by decide +kernel
theorem dX8_exchange_39 : decode cX8_exchange 39 = .ok (.aload 5, 2) := by decide +kernel
theorem dX8_exchange_41 : decode cX8_exchange 41 = .ok (.iload_n 2, 1) := by decide +kernel
theorem dX8_exchange_42 : decode cX8_exchange 42 = .ok (.iload_n 3, 1) := by decide +kernel
theorem dX8_exchange_43 : decode cX8_exchange 43 = .ok (.iload 4, 2) := by decide +kernel
theorem dX8_exchange_45 : decode cX8_exchange 45 = .ok (.invokevirtual 157, 3) := by decide +kernel
theorem dX8_exchange_48 : decode cX8_exchange 48 = .ok (.iconst 1, 1) := by decide +kernel
theorem dX8_exchange_49 : decode cX8_exchange 49 = .ok (.ireturn, 1) := by decide +kernel
theorem dX8_turn_0 : decode cX8_turn 0 = .ok (.aload_n 0, 1) := by decide +kernel
theorem dX8_turn_1 : decode cX8_turn 1 = .ok (.iload_n 1, 1) := by decide +kernel
theorem dX8_turn_2 : decode cX8_turn 2 = .ok (.invokevirtual 118, 3) := by decide +kernel
theorem dX8_turn_5 : decode cX8_turn 5 = .ok (.astore_n 2, 1) := by decide +kernel
theorem dX8_turn_6 : decode cX8_turn 6 = .ok (.aload_n 2, 1) := by decide +kernel
theorem dX8_turn_7 : decode cX8_turn 7 = .ok (.ifnonnull 5, 3) := by decide +kernel
theorem dX8_turn_10 : decode cX8_turn 10 = .ok (.iconst 0, 1) := by decide +kernel
theorem dX8_turn_11 : decode cX8_turn 11 = .ok (.ireturn, 1) := by decide +kernel
theorem dX8_turn_12 : decode cX8_turn 12 = .ok (.aload_n 2, 1) := by decide +kernel
theorem dX8_turn_13 : decode cX8_turn 13 = .ok (.invokevirtual 161, 3) := by decide +kernel
theorem dX8_turn_16 : decode cX8_turn 16 = .ok (.iconst 1, 1) := by decide +kernel
theorem dX8_turn_17 : decode cX8_turn 17 = .ok (.ireturn, 1) := by decide +kernel
theorem dX8_switched_0 : decode cX8_switched 0 = .ok (.aload_n 0, 1) := by decide +kernel
theorem dX8_switched_1 : decode cX8_switched 1 = .ok (.iload_n 1, 1) := by decide +kernel
theorem dX8_switched_2 : decode cX8_switched 2 = .ok (.invokevirtual 118, 3) := by decide +kernel
theorem dX8_switched_5 : decode cX8_switched 5 = .ok (.astore 7, 2) := by decide +kernel
theorem dX8_switched_7 : decode cX8_switched 7 = .ok (.aload 7, 2) := by decide +kernel
theorem dX8_switched_9 : decode cX8_switched 9 = .ok (.ifnull 51, 3) := by decide +kernel
theorem dX8_switched_12 : decode cX8_switched 12 = .ok (.aload 7, 2) := by decide +kernel
theorem dX8_switched_14 : decode cX8_switched 14 = .ok (.iload 6, 2) := by decide +kernel
theorem dX8_switched_16 : decode cX8_switched 16 = .ok (.invokevirtual 150, 3) := by decide +kernel
theorem dX8_switched_19 : decode cX8_switched 19 = .ok (.ifCond .eq 41, 3) := by decide +kernel
theorem dX8_switched_22 : decode cX8_switched 22 = .ok (.aload 7, 2) := by decide +kernel
theorem dX8_switched_24 : decode cX8_switched 24 = .ok (.iload_n 2, 1) := by decide +kernel
theorem dX8_switched_25 : decode cX8_switched 25 = .ok (.invokevirtual 150, 3) := by decide +kernel
theorem dX8_switched_28 : decode cX8_switched 28 = .ok (.ifCond .eq 32, 3) := by decide +kernel
theorem dX8_switched_31 : decode cX8_switched 31 = .ok (.aload 7, 2) := by decide +kernel
theorem dX8_switched_33 : decode cX8_switched 33 = .ok (.iload_n 3, 1) := by decide +kernel
theorem dX8_switched_34 : decode cX8_switched 34 = .ok (.invokevirtual 150, 3) := by decide +kernel
theorem dX8_switched_37 : decode cX8_switched 37 = .ok (.ifCond .eq 23, 3) := by decide +kernel
theorem dX8_switched_40 : decode cX8_switched 40 = .ok (.aload 7, 2) := by decide +kernel
theorem dX8_switched_42 : decode cX8_switched 42 = .ok (.iload 4, 2) := by decide +kernel
theorem dX8_switched_44 : decode cX8_switched 44 = .ok (.invokevirtual 150, 3) := by decide +kernel
theorem dX8_switched_47 : decode cX8_switched 47 = .ok (.ifCond .eq 13, 3) := by decide +kernel
theorem dX8_switched_50 : decode cX8_switched 50 = .ok (.aload 7, 2) := by decide +kernel
theorem dX8_switched_52 : decode cX8_switched 52 = .ok (.iload 5, 2) := by decide +kernel
theorem dX8_switched_54 : decode cX8_switched 54 = .ok (.invokevirtual 150, 3) := by decide +kernel
theorem dX8_switched_57 : decode cX8_switched 57 = .ok (.ifCond .ne 5, 3) := by decide +kernel
theorem dX8_switched_60 : decode cX8_switched 60 = .ok (.iconst 0, 1) := by decide +kernel
theorem dX8_switched_61 : decode cX8_switched 61 = .ok (.ireturn, 1) := by decide +kernel
theorem dX8_switched_62 : decode cX8_switched 62 = .ok (.iload_n 2, 1) := by decide +kernel
theorem dX8_switched_63 : decode cX8_switched 63 = .ok (.iload_n 3, 1) := by decide +kernel
theorem dX8_switched_64 : decode cX8_switched 64 = .ok (.if_icmp .eq 34, 3) := by decide +kernel
theorem dX8_switched_67 : decode cX8_switched 67 = .ok (.iload_n 2, 1) := by decide +kernel
theorem dX8_switched_68 : decode cX8_switched 68 = .ok (.iload 4, 2) := by decide +kernel
theorem dX8_switched_70 : decode cX8_switched 70 = .ok (.if_icmp .eq 28, 3) := by decide +kernel
theorem dX8_switched_73 : decode cX8_switched 73 = .ok (.iload_n 2, 1) := by decide +kernel
theorem dX8_switched_74 : decode cX8_switched 74 = .ok (.iload 5, 2) := by decide +kernel
theorem dX8_switched_76 : decode cX8_switched 76 = .ok (.if_icmp .eq 22, 3) := by decide +kernel
theorem dX8_switched_79 : decode cX8_switched 79 = .ok (.iload_n 3, 1) := by decide +kernel
theorem dX8_switched_80 : decode cX8_switched 80 = .ok (.iload 4, 2) := by decide +kernel
theorem dX8_switched_82 : decode cX8_switched 82 = .ok (.if_icmp .eq 16, 3) := by decide +kernel
theorem dX8_switched_85 : decode cX8_switched 85 = .ok (.iload_n 3, 1) := by decide +kernel
theorem dX8_switched_86 : decode cX8_switched 86 = .ok (.iload 5, 2) := by decide +kernel
theorem dX8_switched_88 : decode cX8_switched 88 = .ok (.if_icmp .eq 10, 3) := by decide +kernel
theorem dX8_switched_91 : decode cX8_switched 91 = .ok (.iload 4, 2) := by decide +kernel
theorem dX8_switched_93 : decode cX8_switched 93 = .ok (.iload 5, 2) := by decide +kernel
theorem dX8_switched_95 : decode cX8_switched 95 = .ok (.if_icmp .ne 5, 3) := by decide +kernel
theorem dX8_switched_98 : decode cX8_switched 98 = .ok (.iconst 0, 1) := by decide +kernel
theorem dX8_switched_99 : decode cX8_switched 99 = .ok (.ireturn, 1) := by decide +kernel
theorem dX8_switched_100 : decode cX8_switched 100 = .ok (.aload 7, 2) := by decide +kernel
theorem dX8_switched_102 : decode cX8_switched 102 = .ok (.iload_n 2, 1) := by decide +kernel
theorem dX8_switched_103 : decode cX8_switched 103 = .ok (.iload_n 3, 1) := by decide +kernel
theorem dX8_switched_104 : decode cX8_switched 104 = .ok (.iload 4, 2) := by decide +kernel
theorem dX8_switched_106 : decode cX8_switched 106 = .ok (.iload 5, 2) := by decide +kernel
theorem dX8_switched_108 : decode cX8_switched 108 = .ok (.iload 6, 2) := by decide +kernel
theorem dX8_switched_110 : decode cX8_switched 110 = .ok (.invokevirtual 164, 3) := by decide +kernel
theorem dX8_switched_113 : decode cX8_switched 113 = .ok (.ireturn, 1) := by decide +kernel
theorem dX8_norm_0 : decode cX8_norm 0 = .ok (.aload_n 0, 1) := by decide +kernel
theorem dX8_norm_1 : decode cX8_norm 1 = .ok (.iload_n 1, 1) := by decide +kernel
theorem dX8_norm_2 : decode cX8_norm 2 = .ok (.invokevirtual 118, 3) := by decide +kernel
theorem dX8_norm_5 : decode cX8_norm 5 = .ok (.astore_n 2, 1) := by decide +kernel
theorem dX8_norm_6 : decode cX8_norm 6 = .ok (.aload_n 2, 1) := by decide +kernel
theorem dX8_norm_7 : decode cX8_norm 7 = .ok (.ifnonnull 5, 3) := by decide +kernel
theorem dX8_norm_10 : decode cX8_norm 10 = .ok (.iconst (-1), 1) := by decide +kernel
theorem dX8_norm_11 : decode cX8_norm 11 = .ok (.ireturn, 1) := by decide +kernel
theorem dX8_norm_12 : decode cX8_norm 12 = .ok (.iconst 0, 1) := by decide +kernel
theorem dX8_norm_13 : decode cX8_norm 13 = .ok (.istore_n 3, 1) := by decide +kernel
theorem dX8_norm_14 : decode cX8_norm 14 = .ok (.iconst 0, 1) := by decide +kernel
theorem dX8_norm_15 : decode cX8_norm 15 = .ok (.istore 4, 2) := by decide +kernel
theorem dX8_norm_17 : decode cX8_norm 17 = .ok (.iload 4, 2) := by decide +kernel
theorem dX8_norm_19 : decode cX8_norm 19 = .ok (.aload_n 2, 1) := by decide +kernel
theorem dX8_norm_20 : decode cX8_norm 20 = .ok (.getfield 122, 3) := by decide +kernel
theorem dX8_norm_23 : decode cX8_norm 23 = .ok (.if_icmp .ge 29, 3) := by decide +kernel
theorem dX8_norm_26 : decode cX8_norm 26 = .ok (.aload_n 2, 1) := by decide +kernel
theorem dX8_norm_27 : decode cX8_norm 27 = .ok (.iconst 0, 1) := by decide +kernel
theorem dX8_norm_28 : decode cX8_norm 28 = .ok (.iload 4, 2) := by decide +kernel
theorem dX8_norm_30 : decode cX8_norm 30 = .ok (.invokevirtual 168, 3) := by decide +kernel
theorem dX8_norm_33 : decode cX8_norm 33 = .ok (.ifCond .eq 13, 3) := by decide +kernel
theorem dX8_norm_36 : decode cX8_norm 36 = .ok (.aload_n 2, 1) := by decide +kernel
theorem dX8_norm_37 : decode cX8_norm 37 = .ok (.iconst 0, 1) := by decide +kernel
theorem dX8_norm_38 : decode cX8_norm 38 = .ok (.iload 4, 2) := by decide +kernel
theorem dX8_norm_40 : decode cX8_norm 40 = .ok (.invokevirtual 153, 3) := by decide +kernel
theorem dX8_norm_43 : decode cX8_norm 43 = .ok (.iinc 3 1, 3) := by decide +kernel
theorem dX8_norm_46 : decode cX8_norm 46 = .ok (.iinc 4 1, 3) := by decide +kernel
theorem dX8_norm_49 : decode cX8_norm 49 = .ok (.goto (-32), 3) := by decide +kernel
theorem dX8_norm_52 : decode cX8_norm 52 = .ok (.iconst 0, 1) := by decide +kernel
theorem dX8_norm_53 : decode cX8_norm 53 = .ok (.istore 4, 2) := by decide +kernel
theorem dX8_norm_55 : decode cX8_norm 55 = .ok (.iload 4, 2) := by decide +kernel
theorem dX8_norm_57 : decode cX8_norm 57 = .ok (.aload_n 2, 1) := by decide +kernel
theorem dX8_norm_58 : decode cX8_norm 58 = .ok (.getfield 122, 3) := by decide +kernel
theorem dX8_norm_61 : decode cX8_norm 61 = .ok (.if_icmp .ge 29, 3) := by decide +kernel
theorem dX8_norm_64 : decode cX8_norm 64 = .ok (.aload_n 2, 1) := by decide +kernel
theorem dX8_norm_65 : decode cX8_norm 65 = .ok (.iload 4, 2) := by decide +kernel
theorem dX8_norm_67 : decode cX8_norm 67 = .ok (.iconst 0, 1) := by decide +kernel
theorem dX8_norm_68 : decode cX8_norm 68 = .ok (.invokevirtual 168, 3) := by decide +kernel
theorem dX8_norm_71 : decode cX8_norm 71 = .ok (.ifCond .eq 13, 3) := by decide +kernel
theorem dX8_norm_74 : decode cX8_norm 74 = .ok (.aload_n 2, 1) := by decide +kernel
theorem dX8_norm_75 : decode cX8_norm 75 = .ok (.iconst 1, 1) := by decide +kernel
theorem dX8_norm_76 : decode cX8_norm 76 = .ok (.iload 4, 2) := by decide +kernel
theorem dX8_norm_78 : decode cX8_norm 78 = .ok (.invokevirtual 153, 3) := by decide +kernel
theorem dX8_norm_81 : decode cX8_norm 81 = .ok (.iinc 3 1, 3) := by decide +kernel
theorem dX8_norm_84 : decode cX8_norm 84 = .ok (.iinc 4 1, 3) := by decide +kernel
theorem dX8_norm_87 : decode cX8_norm 87 = .ok (.goto (-32), 3) := by decide +kernel
theorem dX8_norm_90 : decode cX8_norm 90 = .ok (.iload_n 3, 1) := by decide +kernel
theorem dX8_norm_91 : decode cX8_norm 91 = .ok (.ireturn, 1) := by decide +kernel
theorem dX8_order_0 : decode cX8_order 0 = .ok (.iload_n 1, 1) := by decide +kernel
theorem dX8_order_1 : decode cX8_order 1 = .ok (.ifCond .lt 9, 3) := by decide +kernel
theorem dX8_order_4 : decode cX8_order 4 = .ok (.iload_n 1, 1) := by decide +kernel
theorem dX8_order_5 : decode cX8_order 5 = .ok (.bipush 6, 2) := by decide +kernel
theorem dX8_order_7 : decode cX8_order 7 = .ok (.if_icmp .lt 5, 3) := by decide +kernel
theorem dX8_order_10 : decode cX8_order 10 = .ok (.iconst (-1), 1) := by decide +kernel
theorem dX8_order_11 : decode cX8_order 11 = .ok (.ireturn, 1) := by decide +kernel
theorem dX8_order_12 : decode cX8_order 12 = .ok (.aload_n 0, 1) := by decide +kernel
theorem dX8_order_13 : decode cX8_order 13 = .ok (.getfield 11, 3) := by decide +kernel
theorem dX8_order_16 : decode cX8_order 16 = .ok (.iload_n 1, 1) := by decide +kernel
theorem dX8_order_17 : decode cX8_order 17 = .ok (.aaload, 1) := by decide +kernel
theorem dX8_order_18 : decode cX8_order 18 = .ok (.getfield 122, 3) := by decide +kernel
theorem dX8_order_21 : decode cX8_order 21 = .ok (.ireturn, 1) := by decide +kernel
theorem dX8_bits_0 : decode cX8_bits 0 = .ok (.aload_n 0, 1) := by decide +kernel
theorem dX8_bits_1 : decode cX8_bits 1 = .ok (.iload_n 1, 1) := by decide +kernel
theorem dX8_bits_2 : decode cX8_bits 2 = .ok (.invokevirtual 118, 3) := by decide +kernel
theorem dX8_bits_5 : decode cX8_bits 5 = .ok (.astore 4, 2) := by decide +kernel
theorem dX8_bits_7 : decode cX8_bits 7 = .ok (.aload 4, 2) := by decide +kernel
theorem dX8_bits_9 : decode cX8_bits 9 = .ok (.ifnull 12, 3) := by decide +kernel
theorem dX8_bits_12 : decode cX8_bits 12 = .ok (.aload 4, 2) := by decide +kernel
theorem dX8_bits_14 : decode cX8_bits 14 = .ok (.iload_n 3, 1) := by decide +kernel
theorem dX8_bits_15 : decode cX8_bits 15 = .ok (.invokevirtual 150, 3) := by decide +kernel
theorem dX8_bits_18 : decode cX8_bits 18 = .ok (.ifCond .ne 5, 3) := by decide +kernel
theorem dX8_bits_21 : decode cX8_bits 21 = .ok (.iconst (-1), 1) := by decide +kernel
theorem dX8_bits_22 : decode cX8_bits 22 = .ok (.ireturn, 1) := by decide +kernel
theorem dX8_bits_23 : decode cX8_bits 23 = .ok (.aload 4, 2) := by decide +kernel
theorem dX8_bits_25 : decode cX8_bits 25 = .ok (.iload_n 2, 1) := by decide +kernel
theorem dX8_bits_26 : decode cX8_bits 26 = .ok (.iload_n 3, 1) := by decide +kernel
theorem dX8_bits_27 : decode cX8_bits 27 = .ok (.invokevirtual 171, 3) := by decide +kernel
theorem dX8_bits_30 : decode cX8_bits 30 = .ok (.ireturn, 1) := by decide +kernel
theorem dX8_trail_0 : decode cX8_trail 0 = .ok (.aload_n 0, 1) := by decide +kernel
theorem dX8_trail_1 : decode cX8_trail 1 = .ok (.iload_n 1, 1) := by decide +kernel
theorem dX8_trail_2 : decode cX8_trail 2 = .ok (.invokevirtual 118, 3) := by decide +kernel
theorem dX8_trail_5 : decode cX8_trail 5 = .ok (.astore 5, 2) := by decide +kernel
theorem dX8_trail_7 : decode cX8_trail 7 = .ok (.aload 5, 2) := by decide +kernel
theorem dX8_trail_9 : decode cX8_trail 9 = .ok (.ifnull 12, 3) := by decide +kernel
theorem dX8_trail_12 : decode cX8_trail 12 = .ok (.aload 5, 2) := by decide +kernel
theorem dX8_trail_14 : decode cX8_trail 14 = .ok (.iload_n 3, 1) := by decide +kernel
theorem dX8_trail_15 : decode cX8_trail 15 = .ok (.invokevirtual 150, 3) := by decide +kernel
theorem dX8_trail_18 : decode cX8_trail 18 = .ok (.ifCond .ne 5, 3) := by decide +kernel
theorem dX8_trail_21 : decode cX8_trail 21 = .ok (.iconst (-1), 1) := by decide +kernel
theorem dX8_trail_22 : decode cX8_trail 22 = .ok (.ireturn, 1) := by decide +kernel
theorem dX8_trail_23 : decode cX8_trail 23 = .ok (.iload_n 2, 1) := by decide +kernel
theorem dX8_trail_24 : decode cX8_trail 24 = .ok (.ifCond .eq 13, 3) := by decide +kernel
theorem dX8_trail_27 : decode cX8_trail 27 = .ok (.aload 5, 2) := by decide +kernel
theorem dX8_trail_29 : decode cX8_trail 29 = .ok (.getfield 175, 3) := by decide +kernel
theorem dX8_trail_32 : decode cX8_trail 32 = .ok (.iload_n 3, 1) := by decide +kernel
theorem dX8_trail_33 : decode cX8_trail 33 = .ok (.iaload, 1) := by decide +kernel
theorem dX8_trail_34 : decode cX8_trail 34 = .ok (.goto 10, 3) := by decide +kernel
theorem dX8_trail_37 : decode cX8_trail 37 = .ok (.aload 5, 2) := by decide +kernel
theorem dX8_trail_39 : decode cX8_trail 39 = .ok (.getfield 178, 3) := by decide +kernel
theorem dX8_trail_42 : decode cX8_trail 42 = .ok (.iload_n 3, 1) := by decide +kernel
theorem dX8_trail_43 : decode cX8_trail 43 = .ok (.iaload, 1) := by decide +kernel
theorem dX8_trail_44 : decode cX8_trail 44 = .ok (.istore 6, 2) := by decide +kernel
theorem dX8_trail_46 : decode cX8_trail 46 = .ok (.iload 4, 2) := by decide +kernel
theorem dX8_trail_48 : decode cX8_trail 48 = .ok (.tableswitch 53 0 2 #[28, 33, 38], 28) := by decide +kernel
theorem dX8_trail_76 : decode cX8_trail 76 = .ok (.iload 6, 2) := by decide +kernel
theorem dX8_trail_78 : decode cX8_trail 78 = .ok (.iconst 1, 1) := by decide +kernel
theorem dX8_trail_79 : decode cX8_trail 79 = .ok (.ishr, 1) := by decide +kernel
theorem dX8_trail_80 : decode cX8_trail 80 = .ok (.ireturn, 1) := by decide +kernel
theorem dX8_trail_81 : decode cX8_trail 81 = .ok (.iload 6, 2) := by decide +kernel
theorem dX8_trail_83 : decode cX8_trail 83 = .ok (.iconst 1, 1) := by decide +kernel
theorem dX8_trail_84 : decode cX8_trail 84 = .ok (.iand, 1) := by decide +kernel
theorem dX8_trail_85 : decode cX8_trail 85 = .ok (.ireturn, 1) := by decide +kernel
theorem dX8_trail_86 : decode cX8_trail 86 = .ok (.iload_n 2, 1) := by decide +kernel
theorem dX8_trail_87 : decode cX8_trail 87 = .ok (.aload 5, 2) := by decide +kernel
theorem dX8_trail_89 : decode cX8_trail 89 = .ok (.getfield 181, 3) := by decide +kernel
theorem dX8_trail_92 : decode cX8_trail 92 = .ok (.if_icmp .eq 7, 3) := by decide +kernel
theorem dX8_trail_95 : decode cX8_trail 95 = .ok (.iconst 1, 1) := by decide +kernel
theorem dX8_trail_96 : decode cX8_trail 96 = .ok (.goto 4, 3) := by decide +kernel
theorem dX8_trail_99 : decode cX8_trail 99 = .ok (.iconst 0, 1) := by decide +kernel
theorem dX8_trail_100 : decode cX8_trail 100 = .ok (.ireturn, 1) := by decide +kernel
theorem dX8_trail_101 : decode cX8_trail 101 = .ok (.iconst (-1), 1) := by decide +kernel
theorem dX8_trail_102 : decode cX8_trail 102 = .ok (.ireturn, 1) := by decide +kernel
theorem dX8_along_0 : decode cX8_along 0 = .ok (.aload_n 0, 1) := by decide +kernel
theorem dX8_along_1 : decode cX8_along 1 = .ok (.iload_n 1, 1) := by decide +kernel
theorem dX8_along_2 : decode cX8_along 2 = .ok (.invokevirtual 118, 3) := by decide +kernel
theorem dX8_along_5 : decode cX8_along 5 = .ok (.astore 5, 2) := by decide +kernel
theorem dX8_along_7 : decode cX8_along 7 = .ok (.aload 5, 2) := by decide +kernel
theorem dX8_along_9 : decode cX8_along 9 = .ok (.ifnull 22, 3) := by decide +kernel
theorem dX8_along_12 : decode cX8_along 12 = .ok (.aload 5, 2) := by decide +kernel
theorem dX8_along_14 : decode cX8_along 14 = .ok (.iload_n 3, 1) := by decide +kernel
theorem dX8_along_15 : decode cX8_along 15 = .ok (.invokevirtual 150, 3) := by decide +kernel
theorem dX8_along_18 : decode cX8_along 18 = .ok (.ifCond .eq 13, 3) := by decide +kernel
theorem dX8_along_21 : decode cX8_along 21 = .ok (.aload 5, 2) := by decide +kernel
theorem dX8_along_23 : decode cX8_along 23 = .ok (.iload 4, 2) := by decide +kernel
theorem dX8_along_25 : decode cX8_along 25 = .ok (.invokevirtual 150, 3) := by decide +kernel
theorem dX8_along_28 : decode cX8_along 28 = .ok (.ifCond .ne 7, 3) := by decide +kernel
theorem dX8_along_31 : decode cX8_along 31 = .ok (.sipush (-1000), 3) := by decide +kernel
theorem dX8_along_34 : decode cX8_along 34 = .ok (.ireturn, 1) := by decide +kernel
theorem dX8_along_35 : decode cX8_along 35 = .ok (.aload 5, 2) := by decide +kernel
theorem dX8_along_37 : decode cX8_along 37 = .ok (.iload_n 2, 1) := by decide +kernel
theorem dX8_along_38 : decode cX8_along 38 = .ok (.iload_n 3, 1) := by decide +kernel
theorem dX8_along_39 : decode cX8_along 39 = .ok (.invokevirtual 171, 3) := by decide +kernel
theorem dX8_along_42 : decode cX8_along 42 = .ok (.aload 5, 2) := by decide +kernel
theorem dX8_along_44 : decode cX8_along 44 = .ok (.iload_n 2, 1) := by decide +kernel
theorem dX8_along_45 : decode cX8_along 45 = .ok (.iload 4, 2) := by decide +kernel
theorem dX8_along_47 : decode cX8_along 47 = .ok (.invokevirtual 171, 3) := by decide +kernel
theorem dX8_along_50 : decode cX8_along 50 = .ok (.ixor, 1) := by decide +kernel
theorem dX8_along_51 : decode cX8_along 51 = .ok (.aload 5, 2) := by decide +kernel
theorem dX8_along_53 : decode cX8_along 53 = .ok (.getfield 122, 3) := by decide +kernel
theorem dX8_along_56 : decode cX8_along 56 = .ok (.invokestatic 185, 3) := by decide +kernel
theorem dX8_along_59 : decode cX8_along 59 = .ok (.ireturn, 1) := by decide +kernel
theorem dX8_perpendicular_0 : decode cX8_perpendicular 0 = .ok (.aload_n 0, 1) := by decide +kernel
theorem dX8_perpendicular_1 : decode cX8_perpendicular 1 = .ok (.iload_n 1, 1) := by decide +kernel
theorem dX8_perpendicular_2 : decode cX8_perpendicular 2 = .ok (.invokevirtual 118, 3) := by decide +kernel
theorem dX8_perpendicular_5 : decode cX8_perpendicular 5 = .ok (.astore_n 3, 1) := by decide +kernel
theorem dX8_perpendicular_6 : decode cX8_perpendicular 6 = .ok (.aload_n 3, 1) := by decide +kernel
theorem dX8_perpendicular_7 : decode cX8_perpendicular 7 = .ok (.ifnonnull 5, 3) := by decide +kernel
theorem dX8_perpendicular_10 : decode cX8_perpendicular 10 = .ok (.iconst (-1), 1) := by decide +kernel
theorem dX8_perpendicular_11 : decode cX8_perpendicular 11 = .ok (.ireturn, 1) := by decide +kernel
theorem dX8_perpendicular_12 : decode cX8_perpendicular 12 = .ok (.iload_n 2, 1) := by decide +kernel
theorem dX8_perpendicular_13 : decode cX8_perpendicular 13 = .ok (.tableswitch 52 0 2 #[27, 42, 47], 27) := by decide +kernel
theorem dX8_perpendicular_40 : decode cX8_perpendicular 40 = .ok (.aload_n 3, 1) := by decide +kernel
theorem dX8_perpendicular_41 : decode cX8_perpendicular 41 = .ok (.invokevirtual 189, 3) := by decide +kernel
theorem dX8_perpendicular_44 : decode cX8_perpendicular 44 = .ok (.bipush (-2), 2) := by decide +kernel
theorem dX8_perpendicular_46 : decode cX8_perpendicular 46 = .ok (.if_icmp .ne 7, 3) := by decide +kernel
theorem dX8_perpendicular_49 : decode cX8_perpendicular 49 = .ok (.iconst 1, 1) := by decide +kernel
theorem dX8_perpendicular_50 : decode cX8_perpendicular 50 = .ok (.goto 4, 3) := by decide +kernel
theorem dX8_perpendicular_53 : decode cX8_perpendicular 53 = .ok (.iconst 0, 1) := by decide +kernel
theorem dX8_perpendicular_54 : decode cX8_perpendicular 54 = .ok (.ireturn, 1) := by decide +kernel
theorem dX8_perpendicular_55 : decode cX8_perpendicular 55 = .ok (.aload_n 3, 1) := by decide +kernel
theorem dX8_perpendicular_56 : decode cX8_perpendicular 56 = .ok (.invokevirtual 189, 3) := by decide +kernel
theorem dX8_perpendicular_59 : decode cX8_perpendicular 59 = .ok (.ireturn, 1) := by decide +kernel
theorem dX8_perpendicular_60 : decode cX8_perpendicular 60 = .ok (.aload_n 3, 1) := by decide +kernel
theorem dX8_perpendicular_61 : decode cX8_perpendicular 61 = .ok (.invokevirtual 192, 3) := by decide +kernel
theorem dX8_perpendicular_64 : decode cX8_perpendicular 64 = .ok (.ireturn, 1) := by decide +kernel
theorem dX8_perpendicular_65 : decode cX8_perpendicular 65 = .ok (.iconst (-1), 1) := by decide +kernel
theorem dX8_perpendicular_66 : decode cX8_perpendicular 66 = .ok (.ireturn, 1) := by decide +kernel
theorem dX8_sum_0 : decode cX8_sum 0 = .ok (.aload_n 0, 1) := by decide +kernel
theorem dX8_sum_1 : decode cX8_sum 1 = .ok (.iload_n 1, 1) := by decide +kernel
theorem dX8_sum_2 : decode cX8_sum 2 = .ok (.invokevirtual 118, 3) := by decide +kernel
theorem dX8_sum_5 : decode cX8_sum 5 = .ok (.astore_n 2, 1) := by decide +kernel
theorem dX8_sum_6 : decode cX8_sum 6 = .ok (.aload_n 2, 1) := by decide +kernel
theorem dX8_sum_7 : decode cX8_sum 7 = .ok (.ifnonnull 7, 3) := by decide +kernel
theorem dX8_sum_10 : decode cX8_sum 10 = .ok (.sipush (-1000), 3) := by decide +kernel
theorem dX8_sum_13 : decode cX8_sum 13 = .ok (.ireturn, 1) := by decide +kernel
theorem dX8_sum_14 : decode cX8_sum 14 = .ok (.iconst 0, 1) := by decide +kernel
theorem dX8_sum_15 : decode cX8_sum 15 = .ok (.istore_n 3, 1) := by decide +kernel
theorem dX8_sum_16 : decode cX8_sum 16 = .ok (.iconst 0, 1) := by decide +kernel
theorem dX8_sum_17 : decode cX8_sum 17 = .ok (.istore 4, 2) := by decide +kernel
theorem dX8_sum_19 : decode cX8_sum 19 = .ok (.iload 4, 2) := by decide +kernel
theorem dX8_sum_21 : decode cX8_sum 21 = .ok (.aload_n 2, 1) := by decide +kernel
theorem dX8_sum_22 : decode cX8_sum 22 = .ok (.getfield 122, 3) := by decide +kernel
theorem dX8_sum_25 : decode cX8_sum 25 = .ok (.if_icmp .ge 26, 3) := by decide +kernel
theorem dX8_sum_28 : decode cX8_sum 28 = .ok (.iload_n 3, 1) := by decide +kernel
theorem dX8_sum_29 : decode cX8_sum 29 = .ok (.aload_n 2, 1) := by decide +kernel
theorem dX8_sum_30 : decode cX8_sum 30 = .ok (.getfield 125, 3) := by decide +kernel
theorem dX8_sum_33 : decode cX8_sum 33 = .ok (.iload 4, 2) := by decide +kernel
theorem dX8_sum_35 : decode cX8_sum 35 = .ok (.iaload, 1) := by decide +kernel
theorem dX8_sum_36 : decode cX8_sum 36 = .ok (.aload_n 2, 1) := by decide +kernel
theorem dX8_sum_37 : decode cX8_sum 37 = .ok (.getfield 122, 3) := by decide +kernel
theorem dX8_sum_40 : decode cX8_sum 40 = .ok (.invokestatic 185, 3) := by decide +kernel
theorem dX8_sum_43 : decode cX8_sum 43 = .ok (.iadd, 1) := by decide +kernel
theorem dX8_sum_44 : decode cX8_sum 44 = .ok (.istore_n 3, 1) := by decide +kernel
theorem dX8_sum_45 : decode cX8_sum 45 = .ok (.iinc 4 1, 3) := by decide +kernel
theorem dX8_sum_48 : decode cX8_sum 48 = .ok (.goto (-29), 3) := by decide +kernel
theorem dX8_sum_51 : decode cX8_sum 51 = .ok (.iload_n 3, 1) := by decide +kernel
theorem dX8_sum_52 : decode cX8_sum 52 = .ok (.ireturn, 1) := by decide +kernel
theorem dX8_best_0 : decode cX8_best 0 = .ok (.aload_n 0, 1) := by decide +kernel
theorem dX8_best_1 : decode cX8_best 1 = .ok (.iload_n 1, 1) := by decide +kernel
theorem dX8_best_2 : decode cX8_best 2 = .ok (.invokevirtual 118, 3) := by decide +kernel
theorem dX8_best_5 : decode cX8_best 5 = .ok (.astore_n 3, 1) := by decide +kernel
theorem dX8_best_6 : decode cX8_best 6 = .ok (.aload_n 3, 1) := by decide +kernel
theorem dX8_best_7 : decode cX8_best 7 = .ok (.ifnull 12, 3) := by decide +kernel
theorem dX8_best_10 : decode cX8_best 10 = .ok (.iload_n 2, 1) := by decide +kernel
theorem dX8_best_11 : decode cX8_best 11 = .ok (.ifCond .lt 8, 3) := by decide +kernel
theorem dX8_best_14 : decode cX8_best 14 = .ok (.iload_n 2, 1) := by decide +kernel
theorem dX8_best_15 : decode cX8_best 15 = .ok (.iconst 1, 1) := by decide +kernel
theorem dX8_best_16 : decode cX8_best 16 = .ok (.if_icmp .le 5, 3) := by decide +kernel
theorem dX8_best_19 : decode cX8_best 19 = .ok (.iconst (-1), 1) := by decide +kernel
theorem dX8_best_20 : decode cX8_best 20 = .ok (.ireturn, 1) := by decide +kernel
theorem dX8_best_21 : decode cX8_best 21 = .ok (.aload_n 3, 1) := by decide +kernel
theorem dX8_best_22 : decode cX8_best 22 = .ok (.getfield 122, 3) := by decide +kernel
theorem dX8_best_25 : decode cX8_best 25 = .ok (.bipush 16, 2) := by decide +kernel
theorem dX8_best_27 : decode cX8_best 27 = .ok (.if_icmp .le 6, 3) := by decide +kernel
theorem dX8_best_30 : decode cX8_best 30 = .ok (.bipush (-2), 2) := by decide +kernel
theorem dX8_best_32 : decode cX8_best 32 = .ok (.ireturn, 1) := by decide +kernel
theorem dX8_best_33 : decode cX8_best 33 = .ok (.aload_n 3, 1) := by decide +kernel
theorem dX8_best_34 : decode cX8_best 34 = .ok (.getfield 195, 3) := by decide +kernel
theorem dX8_best_37 : decode cX8_best 37 = .ok (.ifCond .ne 11, 3) := by decide +kernel
theorem dX8_best_40 : decode cX8_best 40 = .ok (.aload_n 0, 1) := by decide +kernel
theorem dX8_best_41 : decode cX8_best 41 = .ok (.getfield 50, 3) := by decide +kernel
theorem dX8_best_44 : decode cX8_best 44 = .ok (.aload_n 3, 1) := by decide +kernel
theorem dX8_best_45 : decode cX8_best 45 = .ok (.invokevirtual 198, 3) := by decide +kernel
theorem dX8_best_48 : decode cX8_best 48 = .ok (.iload_n 2, 1) := by decide +kernel
theorem dX8_best_49 : decode cX8_best 49 = .ok (.ifCond .ne 10, 3) := by decide +kernel
theorem dX8_best_52 : decode cX8_best 52 = .ok (.aload_n 3, 1) := by decide +kernel
theorem dX8_best_53 : decode cX8_best 53 = .ok (.getfield 202, 3) := by decide +kernel
theorem dX8_best_56 : decode cX8_best 56 = .ok (.goto 7, 3) := by decide +kernel
theorem dX8_best_59 : decode cX8_best 59 = .ok (.aload_n 3, 1) := by decide +kernel
theorem dX8_best_60 : decode cX8_best 60 = .ok (.getfield 205, 3) := by decide +kernel
theorem dX8_best_63 : decode cX8_best 63 = .ok (.ireturn, 1) := by decide +kernel
theorem dX8_tally_0 : decode cX8_tally 0 = .ok (.aload_n 0, 1) := by decide +kernel
theorem dX8_tally_1 : decode cX8_tally 1 = .ok (.iload_n 1, 1) := by decide +kernel
theorem dX8_tally_2 : decode cX8_tally 2 = .ok (.invokevirtual 118, 3) := by decide +kernel
theorem dX8_tally_5 : decode cX8_tally 5 = .ok (.astore 4, 2) := by decide +kernel
theorem dX8_tally_7 : decode cX8_tally 7 = .ok (.aload 4, 2) := by decide +kernel
theorem dX8_tally_9 : decode cX8_tally 9 = .ok (.ifnull 7, 3) := by decide +kernel
theorem dX8_tally_12 : decode cX8_tally 12 = .ok (.iload_n 3, 1) := by decide +kernel
theorem dX8_tally_13 : decode cX8_tally 13 = .ok (.ifCond .ge 5, 3) := by decide +kernel
theorem dX8_tally_16 : decode cX8_tally 16 = .ok (.iconst (-1), 1) := by decide +kernel
theorem dX8_tally_17 : decode cX8_tally 17 = .ok (.ireturn, 1) := by decide +kernel
theorem dX8_tally_18 : decode cX8_tally 18 = .ok (.aload 4, 2) := by decide +kernel
theorem dX8_tally_20 : decode cX8_tally 20 = .ok (.iload_n 2, 1) := by decide +kernel
theorem dX8_tally_21 : decode cX8_tally 21 = .ok (.aload_n 0, 1) := by decide +kernel
theorem dX8_tally_22 : decode cX8_tally 22 = .ok (.getfield 23, 3) := by decide +kernel
theorem dX8_tally_25 : decode cX8_tally 25 = .ok (.invokevirtual 208, 3) := by decide +kernel
theorem dX8_tally_28 : decode cX8_tally 28 = .ok (.aload 4, 2) := by decide +kernel
theorem dX8_tally_30 : decode cX8_tally 30 = .ok (.getfield 122, 3) := by decide +kernel
theorem dX8_tally_33 : decode cX8_tally 33 = .ok (.istore 5, 2) := by decide +kernel
theorem dX8_tally_35 : decode cX8_tally 35 = .ok (.iconst 0, 1) := by decide +kernel
theorem dX8_tally_36 : decode cX8_tally 36 = .ok (.istore 6, 2) := by decide +kernel
theorem dX8_tally_38 : decode cX8_tally 38 = .ok (.iconst 0, 1) := by decide +kernel
theorem dX8_tally_39 : decode cX8_tally 39 = .ok (.istore 7, 2) := by decide +kernel
theorem dX8_tally_41 : decode cX8_tally 41 = .ok (.iload 7, 2) := by decide +kernel
theorem dX8_tally_43 : decode cX8_tally 43 = .ok (.iload 5, 2) := by decide +kernel
theorem dX8_tally_45 : decode cX8_tally 45 = .ok (.if_icmp .ge 33, 3) := by decide +kernel
theorem dX8_tally_48 : decode cX8_tally 48 = .ok (.iload 6, 2) := by decide +kernel
theorem dX8_tally_50 : decode cX8_tally 50 = .ok (.aload_n 0, 1) := by decide +kernel
theorem dX8_tally_51 : decode cX8_tally 51 = .ok (.iload 5, 2) := by decide +kernel
theorem dX8_tally_53 : decode cX8_tally 53 = .ok (.iload 7, 2) := by decide +kernel
theorem dX8_tally_55 : decode cX8_tally 55 = .ok (.iconst 1, 1) := by decide +kernel
theorem dX8_tally_56 : decode cX8_tally 56 = .ok (.iadd, 1) := by decide +kernel
theorem dX8_tally_57 : decode cX8_tally 57 = .ok (.iconst (-1), 1) := by decide +kernel
theorem dX8_tally_58 : decode cX8_tally 58 = .ok (.aload_n 0, 1) := by decide +kernel
theorem dX8_tally_59 : decode cX8_tally 59 = .ok (.getfield 23, 3) := by decide +kernel
theorem dX8_tally_62 : decode cX8_tally 62 = .ok (.iload 7, 2) := by decide +kernel
theorem dX8_tally_64 : decode cX8_tally 64 = .ok (.iaload, 1) := by decide +kernel
theorem dX8_tally_65 : decode cX8_tally 65 = .ok (.iload_n 3, 1) := by decide +kernel
theorem dX8_tally_66 : decode cX8_tally 66 = .ok (.invokevirtual 212, 3) := by decide +kernel
theorem dX8_tally_69 : decode cX8_tally 69 = .ok (.iadd, 1) := by decide +kernel
theorem dX8_tally_70 : decode cX8_tally 70 = .ok (.istore 6, 2) := by decide +kernel
theorem dX8_tally_72 : decode cX8_tally 72 = .ok (.iinc 7 1, 3) := by decide +kernel
theorem dX8_tally_75 : decode cX8_tally 75 = .ok (.goto (-34), 3) := by decide +kernel
theorem dX8_tally_78 : decode cX8_tally 78 = .ok (.iload 6, 2) := by decide +kernel
theorem dX8_tally_80 : decode cX8_tally 80 = .ok (.ireturn, 1) := by decide +kernel
theorem dX8_part_0 : decode cX8_part 0 = .ok (.aload_n 0, 1) := by decide +kernel
theorem dX8_part_1 : decode cX8_part 1 = .ok (.iload_n 1, 1) := by decide +kernel
theorem dX8_part_2 : decode cX8_part 2 = .ok (.invokevirtual 118, 3) := by decide +kernel
theorem dX8_part_5 : decode cX8_part 5 = .ok (.astore 5, 2) := by decide +kernel
theorem dX8_part_7 : decode cX8_part 7 = .ok (.aload 5, 2) := by decide +kernel
theorem dX8_part_9 : decode cX8_part 9 = .ok (.ifnull 17, 3) := by decide +kernel
theorem dX8_part_12 : decode cX8_part 12 = .ok (.aload 5, 2) := by decide +kernel
theorem dX8_part_14 : decode cX8_part 14 = .ok (.iload_n 3, 1) := by decide +kernel
theorem dX8_part_15 : decode cX8_part 15 = .ok (.invokevirtual 150, 3) := by decide +kernel
theorem dX8_part_18 : decode cX8_part 18 = .ok (.ifCond .eq 8, 3) := by decide +kernel
theorem dX8_part_21 : decode cX8_part 21 = .ok (.iload 4, 2) := by decide +kernel
theorem dX8_part_23 : decode cX8_part 23 = .ok (.ifCond .ge 5, 3) := by decide +kernel
theorem dX8_part_26 : decode cX8_part 26 = .ok (.iconst (-1), 1) := by decide +kernel
theorem dX8_part_27 : decode cX8_part 27 = .ok (.ireturn, 1) := by decide +kernel
theorem dX8_part_28 : decode cX8_part 28 = .ok (.aload 5, 2) := by decide +kernel
theorem dX8_part_30 : decode cX8_part 30 = .ok (.iload_n 2, 1) := by decide +kernel
theorem dX8_part_31 : decode cX8_part 31 = .ok (.aload_n 0, 1) := by decide +kernel
theorem dX8_part_32 : decode cX8_part 32 = .ok (.getfield 23, 3) := by decide +kernel
theorem dX8_part_35 : decode cX8_part 35 = .ok (.invokevirtual 208, 3) := by decide +kernel
theorem dX8_part_38 : decode cX8_part 38 = .ok (.aload_n 0, 1) := by decide +kernel
theorem dX8_part_39 : decode cX8_part 39 = .ok (.aload 5, 2) := by decide +kernel
theorem dX8_part_41 : decode cX8_part 41 = .ok (.getfield 122, 3) := by decide +kernel
theorem dX8_part_44 : decode cX8_part 44 = .ok (.iconst 0, 1) := by decide +kernel
theorem dX8_part_45 : decode cX8_part 45 = .ok (.iload_n 3, 1) := by decide +kernel
theorem dX8_part_46 : decode cX8_part 46 = .ok (.aload_n 0, 1) := by decide +kernel
theorem dX8_part_47 : decode cX8_part 47 = .ok (.getfield 23, 3) := by decide +kernel
theorem dX8_part_50 : decode cX8_part 50 = .ok (.iload_n 3, 1) := by decide +kernel
theorem dX8_part_51 : decode cX8_part 51 = .ok (.iaload, 1) := by decide +kernel
theorem dX8_part_52 : decode cX8_part 52 = .ok (.iload 4, 2) := by decide +kernel
theorem dX8_part_54 : decode cX8_part 54 = .ok (.invokevirtual 212, 3) := by decide +kernel
theorem dX8_part_57 : decode cX8_part 57 = .ok (.ireturn, 1) := by decide +kernel
theorem dX8_form_0 : decode cX8_form 0 = .ok (.aload_n 0, 1) := by decide +kernel
theorem dX8_form_1 : decode cX8_form 1 = .ok (.iload_n 1, 1) := by decide +kernel
theorem dX8_form_2 : decode cX8_form 2 = .ok (.invokevirtual 118, 3) := by decide +kernel
theorem dX8_form_5 : decode cX8_form 5 = .ok (.astore_n 3, 1) := by decide +kernel
theorem dX8_form_6 : decode cX8_form 6 = .ok (.aload_n 3, 1) := by decide +kernel
theorem dX8_form_7 : decode cX8_form 7 = .ok (.ifnull 11, 3) := by decide +kernel
theorem dX8_form_10 : decode cX8_form 10 = .ok (.aload_n 3, 1) := by decide +kernel
theorem dX8_form_11 : decode cX8_form 11 = .ok (.iload_n 2, 1) := by decide +kernel
theorem dX8_form_12 : decode cX8_form 12 = .ok (.invokevirtual 150, 3) := by decide +kernel
theorem dX8_form_15 : decode cX8_form 15 = .ok (.ifCond .ne 5, 3) := by decide +kernel
theorem dX8_form_18 : decode cX8_form 18 = .ok (.iconst (-1), 1) := by decide +kernel
theorem dX8_form_19 : decode cX8_form 19 = .ok (.ireturn, 1) := by decide +kernel
theorem dX8_form_20 : decode cX8_form 20 = .ok (.aload_n 3, 1) := by decide +kernel
theorem dX8_form_21 : decode cX8_form 21 = .ok (.getfield 122, 3) := by decide +kernel
theorem dX8_form_24 : decode cX8_form 24 = .ok (.bipush 6, 2) := by decide +kernel
theorem dX8_form_26 : decode cX8_form 26 = .ok (.if_icmp .le 6, 3) := by decide +kernel
theorem dX8_form_29 : decode cX8_form 29 = .ok (.bipush (-2), 2) := by decide +kernel
theorem dX8_form_31 : decode cX8_form 31 = .ok (.ireturn, 1) := by decide +kernel
theorem dX8_form_32 : decode cX8_form 32 = .ok (.aload_n 0, 1) := by decide +kernel
theorem dX8_form_33 : decode cX8_form 33 = .ok (.getfield 43, 3) := by decide +kernel
theorem dX8_form_36 : decode cX8_form 36 = .ok (.aload_n 3, 1) := by decide +kernel
theorem dX8_form_37 : decode cX8_form 37 = .ok (.invokevirtual 215, 3) := by decide +kernel
theorem dX8_form_40 : decode cX8_form 40 = .ok (.aload_n 0, 1) := by decide +kernel
theorem dX8_form_41 : decode cX8_form 41 = .ok (.getfield 43, 3) := by decide +kernel
theorem dX8_form_44 : decode cX8_form 44 = .ok (.getfield 217, 3) := by decide +kernel
theorem dX8_form_47 : decode cX8_form 47 = .ok (.iload_n 2, 1) := by decide +kernel
theorem dX8_form_48 : decode cX8_form 48 = .ok (.iaload, 1) := by decide +kernel
theorem dX8_form_49 : decode cX8_form 49 = .ok (.ireturn, 1) := by decide +kernel
theorem dX8_determinant_0 : decode cX8_determinant 0 = .ok (.aload_n 0, 1) := by decide +kernel
theorem dX8_determinant_1 : decode cX8_determinant 1 = .ok (.iload_n 1, 1) := by decide +kernel
theorem dX8_determinant_2 : decode cX8_determinant 2 = .ok (.invokevirtual 118, 3) := by decide +kernel
theorem dX8_determinant_5 : decode cX8_determinant 5 = .ok (.astore_n 2, 1) := by decide +kernel
theorem dX8_determinant_6 : decode cX8_determinant 6 = .ok (.aload_n 2, 1) := by decide +kernel
theorem dX8_determinant_7 : decode cX8_determinant 7 = .ok (.ifnull 12, 3) := by decide +kernel
theorem dX8_determinant_10 : decode cX8_determinant 10 = .ok (.aload_n 2, 1) := by decide +kernel
theorem dX8_determinant_11 : decode cX8_determinant 11 = .ok (.getfield 122, 3) := by decide +kernel
theorem dX8_determinant_14 : decode cX8_determinant 14 = .ok (.bipush 12, 2) := by decide +kernel
theorem dX8_determinant_16 : decode cX8_determinant 16 = .ok (.if_icmp .le 7, 3) := by decide +kernel
theorem dX8_determinant_19 : decode cX8_determinant 19 = .ok (.ldc2_w 220, 3) := by decide +kernel
theorem dX8_determinant_22 : decode cX8_determinant 22 = .ok (.lreturn, 1) := by decide +kernel
theorem dX8_determinant_23 : decode cX8_determinant 23 = .ok (.aload_n 0, 1) := by decide +kernel
theorem dX8_determinant_24 : decode cX8_determinant 24 = .ok (.getfield 57, 3) := by decide +kernel
theorem dX8_determinant_27 : decode cX8_determinant 27 = .ok (.aload_n 2, 1) := by decide +kernel
theorem dX8_determinant_28 : decode cX8_determinant 28 = .ok (.invokevirtual 222, 3) := by decide +kernel
theorem dX8_determinant_31 : decode cX8_determinant 31 = .ok (.lreturn, 1) := by decide +kernel
theorem dX8_like_0 : decode cX8_like 0 = .ok (.aload_n 0, 1) := by decide +kernel
theorem dX8_like_1 : decode cX8_like 1 = .ok (.iload_n 1, 1) := by decide +kernel
theorem dX8_like_2 : decode cX8_like 2 = .ok (.invokevirtual 118, 3) := by decide +kernel
theorem dX8_like_5 : decode cX8_like 5 = .ok (.astore_n 3, 1) := by decide +kernel
theorem dX8_like_6 : decode cX8_like 6 = .ok (.aload_n 0, 1) := by decide +kernel
theorem dX8_like_7 : decode cX8_like 7 = .ok (.iload_n 2, 1) := by decide +kernel
theorem dX8_like_8 : decode cX8_like 8 = .ok (.invokevirtual 118, 3) := by decide +kernel
theorem dX8_like_11 : decode cX8_like 11 = .ok (.astore 4, 2) := by decide +kernel
theorem dX8_like_13 : decode cX8_like 13 = .ok (.aload_n 3, 1) := by decide +kernel
theorem dX8_like_14 : decode cX8_like 14 = .ok (.ifnull 8, 3) := by decide +kernel
theorem dX8_like_17 : decode cX8_like 17 = .ok (.aload 4, 2) := by decide +kernel
theorem dX8_like_19 : decode cX8_like 19 = .ok (.ifnonnull 5, 3) := by decide +kernel
theorem dX8_like_22 : decode cX8_like 22 = .ok (.iconst (-1), 1) := by decide +kernel
theorem dX8_like_23 : decode cX8_like 23 = .ok (.ireturn, 1) := by decide +kernel
theorem dX8_like_24 : decode cX8_like 24 = .ok (.aload_n 3, 1) := by decide +kernel
theorem dX8_like_25 : decode cX8_like 25 = .ok (.aload 4, 2) := by decide +kernel
theorem dX8_like_27 : decode cX8_like 27 = .ok (.invokestatic 226, 3) := by decide +kernel
theorem dX8_like_30 : decode cX8_like 30 = .ok (.ifCond .ne 6, 3) := by decide +kernel
theorem dX8_like_33 : decode cX8_like 33 = .ok (.bipush (-2), 2) := by decide +kernel
theorem dX8_like_35 : decode cX8_like 35 = .ok (.ireturn, 1) := by decide +kernel
theorem dX8_like_36 : decode cX8_like 36 = .ok (.aload_n 0, 1) := by decide +kernel
theorem dX8_like_37 : decode cX8_like 37 = .ok (.getfield 36, 3) := by decide +kernel
theorem dX8_like_40 : decode cX8_like 40 = .ok (.aload_n 3, 1) := by decide +kernel
theorem dX8_like_41 : decode cX8_like 41 = .ok (.aload 4, 2) := by decide +kernel
theorem dX8_like_43 : decode cX8_like 43 = .ok (.invokevirtual 230, 3) := by decide +kernel
theorem dX8_like_46 : decode cX8_like 46 = .ok (.ifCond .eq 7, 3) := by decide +kernel
theorem dX8_like_49 : decode cX8_like 49 = .ok (.iconst 1, 1) := by decide +kernel
theorem dX8_like_50 : decode cX8_like 50 = .ok (.goto 4, 3) := by decide +kernel
theorem dX8_like_53 : decode cX8_like 53 = .ok (.iconst 0, 1) := by decide +kernel
theorem dX8_like_54 : decode cX8_like 54 = .ok (.ireturn, 1) := by decide +kernel
theorem dX8_image_0 : decode cX8_image 0 = .ok (.aload_n 0, 1) := by decide +kernel
theorem dX8_image_1 : decode cX8_image 1 = .ok (.iload_n 1, 1) := by decide +kernel
theorem dX8_image_2 : decode cX8_image 2 = .ok (.invokevirtual 118, 3) := by decide +kernel
theorem dX8_image_5 : decode cX8_image 5 = .ok (.astore 5, 2) := by decide +kernel
theorem dX8_image_7 : decode cX8_image 7 = .ok (.aload_n 0, 1) := by decide +kernel
theorem dX8_image_8 : decode cX8_image 8 = .ok (.iload_n 2, 1) := by decide +kernel
theorem dX8_image_9 : decode cX8_image 9 = .ok (.invokevirtual 118, 3) := by decide +kernel
theorem dX8_image_12 : decode cX8_image 12 = .ok (.astore 6, 2) := by decide +kernel
theorem dX8_image_14 : decode cX8_image 14 = .ok (.aload 5, 2) := by decide +kernel
theorem dX8_image_16 : decode cX8_image 16 = .ok (.ifnull 18, 3) := by decide +kernel
theorem dX8_image_19 : decode cX8_image 19 = .ok (.aload 6, 2) := by decide +kernel
theorem dX8_image_21 : decode cX8_image 21 = .ok (.ifnull 13, 3) := by decide +kernel
theorem dX8_image_24 : decode cX8_image 24 = .ok (.aload 5, 2) := by decide +kernel
theorem dX8_image_26 : decode cX8_image 26 = .ok (.iload 4, 2) := by decide +kernel
theorem dX8_image_28 : decode cX8_image 28 = .ok (.invokevirtual 150, 3) := by decide +kernel
theorem dX8_image_31 : decode cX8_image 31 = .ok (.ifCond .ne 5, 3) := by decide +kernel
theorem dX8_image_34 : decode cX8_image 34 = .ok (.iconst (-1), 1) := by decide +kernel
theorem dX8_image_35 : decode cX8_image 35 = .ok (.ireturn, 1) := by decide +kernel
theorem dX8_image_36 : decode cX8_image 36 = .ok (.aload 5, 2) := by decide +kernel
theorem dX8_image_38 : decode cX8_image 38 = .ok (.aload 6, 2) := by decide +kernel
theorem dX8_image_40 : decode cX8_image 40 = .ok (.invokestatic 226, 3) := by decide +kernel
theorem dX8_image_43 : decode cX8_image 43 = .ok (.ifCond .eq 17, 3) := by decide +kernel
theorem dX8_image_46 : decode cX8_image 46 = .ok (.aload_n 0, 1) := by decide +kernel
theorem dX8_image_47 : decode cX8_image 47 = .ok (.getfield 36, 3) := by decide +kernel
theorem dX8_image_50 : decode cX8_image 50 = .ok (.aload 5, 2) := by decide +kernel
theorem dX8_image_52 : decode cX8_image 52 = .ok (.aload 6, 2) := by decide +kernel
theorem dX8_image_54 : decode cX8_image 54 = .ok (.invokevirtual 230, 3) := by decide +kernel
theorem dX8_image_57 : decode cX8_image 57 = .ok (.ifCond .ne 6, 3) := by decide +kernel
theorem dX8_image_60 : decode cX8_image 60 = .ok (.bipush (-2), 2) := by decide +kernel
theorem dX8_image_62 : decode cX8_image 62 = .ok (.ireturn, 1) := by decide +kernel
theorem dX8_image_63 : decode cX8_image 63 = .ok (.iload_n 3, 1) := by decide +kernel
theorem dX8_image_64 : decode cX8_image 64 = .ok (.ifCond .eq 16, 3) := by decide +kernel
theorem dX8_image_67 : decode cX8_image 67 = .ok (.aload_n 0, 1) := by decide +kernel
theorem dX8_image_68 : decode cX8_image 68 = .ok (.getfield 36, 3) := by decide +kernel
theorem dX8_image_71 : decode cX8_image 71 = .ok (.getfield 233, 3) := by decide +kernel
theorem dX8_image_74 : decode cX8_image 74 = .ok (.iload 4, 2) := by decide +kernel
theorem dX8_image_76 : decode cX8_image 76 = .ok (.iaload, 1) := by decide +kernel
theorem dX8_image_77 : decode cX8_image 77 = .ok (.goto 12, 3) := by decide +kernel
theorem dX8_image_80 : decode cX8_image 80 = .ok (.aload_n 0, 1) := by decide +kernel
theorem dX8_image_81 : decode cX8_image 81 = .ok (.getfield 36, 3) := by decide +kernel
theorem dX8_image_84 : decode cX8_image 84 = .ok (.iload 4, 2) := by decide +kernel
theorem dX8_image_86 : decode cX8_image 86 = .ok (.invokevirtual 236, 3) := by decide +kernel
theorem dX8_image_89 : decode cX8_image 89 = .ok (.ireturn, 1) := by decide +kernel
theorem dX8_symmetries_0 : decode cX8_symmetries 0 = .ok (.aload_n 0, 1) := by decide +kernel
theorem dX8_symmetries_1 : decode cX8_symmetries 1 = .ok (.iload_n 1, 1) := by decide +kernel
theorem dX8_symmetries_2 : decode cX8_symmetries 2 = .ok (.invokevirtual 118, 3) := by decide +kernel
theorem dX8_symmetries_5 : decode cX8_symmetries 5 = .ok (.astore_n 2, 1) := by decide +kernel
theorem dX8_symmetries_6 : decode cX8_symmetries 6 = .ok (.aload_n 2, 1) := by decide +kernel
theorem dX8_symmetries_7 : decode cX8_symmetries 7 = .ok (.ifnonnull 7, 3) := by decide +kernel
theorem dX8_symmetries_10 : decode cX8_symmetries 10 = .ok (.ldc2_w 239, 3) := by decide +kernel
theorem dX8_symmetries_13 : decode cX8_symmetries 13 = .ok (.lreturn, 1) := by decide +kernel
theorem dX8_symmetries_14 : decode cX8_symmetries 14 = .ok (.aload_n 2, 1) := by decide +kernel
theorem dX8_symmetries_15 : decode cX8_symmetries 15 = .ok (.aload_n 2, 1) := by decide +kernel
theorem dX8_symmetries_16 : decode cX8_symmetries 16 = .ok (.invokestatic 226, 3) := by decide +kernel
theorem dX8_symmetries_19 : decode cX8_symmetries 19 = .ok (.ifCond .ne 7, 3) := by decide +kernel
theorem dX8_symmetries_22 : decode cX8_symmetries 22 = .ok (.ldc2_w 241, 3) := by decide +kernel
theorem dX8_symmetries_25 : decode cX8_symmetries 25 = .ok (.lreturn, 1) := by decide +kernel
theorem dX8_symmetries_26 : decode cX8_symmetries 26 = .ok (.aload_n 0, 1) := by decide +kernel
theorem dX8_symmetries_27 : decode cX8_symmetries 27 = .ok (.getfield 36, 3) := by decide +kernel
theorem dX8_symmetries_30 : decode cX8_symmetries 30 = .ok (.aload_n 2, 1) := by decide +kernel
theorem dX8_symmetries_31 : decode cX8_symmetries 31 = .ok (.invokevirtual 243, 3) := by decide +kernel
theorem dX8_symmetries_34 : decode cX8_symmetries 34 = .ok (.lreturn, 1) := by decide +kernel
theorem dX8_joined_0 : decode cX8_joined 0 = .ok (.aload_n 0, 1) := by decide +kernel
theorem dX8_joined_1 : decode cX8_joined 1 = .ok (.iload_n 1, 1) := by decide +kernel
theorem dX8_joined_2 : decode cX8_joined 2 = .ok (.invokevirtual 118, 3) := by decide +kernel
theorem dX8_joined_5 : decode cX8_joined 5 = .ok (.astore 4, 2) := by decide +kernel
theorem dX8_joined_7 : decode cX8_joined 7 = .ok (.aload 4, 2) := by decide +kernel
theorem dX8_joined_9 : decode cX8_joined 9 = .ok (.ifnull 21, 3) := by decide +kernel
theorem dX8_joined_12 : decode cX8_joined 12 = .ok (.aload 4, 2) := by decide +kernel
theorem dX8_joined_14 : decode cX8_joined 14 = .ok (.iload_n 2, 1) := by decide +kernel
theorem dX8_joined_15 : decode cX8_joined 15 = .ok (.invokestatic 246, 3) := by decide +kernel
theorem dX8_joined_18 : decode cX8_joined 18 = .ok (.ifCond .eq 12, 3) := by decide +kernel
theorem dX8_joined_21 : decode cX8_joined 21 = .ok (.aload 4, 2) := by decide +kernel
theorem dX8_joined_23 : decode cX8_joined 23 = .ok (.iload_n 3, 1) := by decide +kernel
theorem dX8_joined_24 : decode cX8_joined 24 = .ok (.invokestatic 246, 3) := by decide +kernel
theorem dX8_joined_27 : decode cX8_joined 27 = .ok (.ifCond .ne 5, 3) := by decide +kernel
theorem dX8_joined_30 : decode cX8_joined 30 = .ok (.iconst (-1), 1) := by decide +kernel
theorem dX8_joined_31 : decode cX8_joined 31 = .ok (.ireturn, 1) := by decide +kernel
theorem dX8_joined_32 : decode cX8_joined 32 = .ok (.aload 4, 2) := by decide +kernel
theorem dX8_joined_34 : decode cX8_joined 34 = .ok (.getfield 122, 3) := by decide +kernel
theorem dX8_joined_37 : decode cX8_joined 37 = .ok (.istore 5, 2) := by decide +kernel
theorem dX8_joined_39 : decode cX8_joined 39 = .ok (.iload_n 2, 1) := by decide +kernel
theorem dX8_joined_40 : decode cX8_joined 40 = .ok (.iload_n 3, 1) := by decide +kernel
theorem dX8_joined_41 : decode cX8_joined 41 = .ok (.invokestatic 250, 3) := by decide +kernel
theorem dX8_joined_44 : decode cX8_joined 44 = .ok (.istore 6, 2) := by decide +kernel
theorem dX8_joined_46 : decode cX8_joined 46 = .ok (.iload_n 2, 1) := by decide +kernel
theorem dX8_joined_47 : decode cX8_joined 47 = .ok (.iload_n 3, 1) := by decide +kernel
theorem dX8_joined_48 : decode cX8_joined 48 = .ok (.invokestatic 255, 3) := by decide +kernel
theorem dX8_joined_51 : decode cX8_joined 51 = .ok (.iconst 2, 1) := by decide +kernel
theorem dX8_joined_52 : decode cX8_joined 52 = .ok (.iload 5, 2) := by decide +kernel
theorem dX8_joined_54 : decode cX8_joined 54 = .ok (.imul, 1) := by decide +kernel
theorem dX8_joined_55 : decode cX8_joined 55 = .ok (.isub, 1) := by decide +kernel
theorem dX8_joined_56 : decode cX8_joined 56 = .ok (.istore 7, 2) := by decide +kernel
theorem dX8_joined_58 : decode cX8_joined 58 = .ok (.iload 6, 2) := by decide +kernel
theorem dX8_joined_60 : decode cX8_joined 60 = .ok (.iconst 2, 1) := by decide +kernel
theorem dX8_joined_61 : decode cX8_joined 61 = .ok (.iload 5, 2) := by decide +kernel
theorem dX8_joined_63 : decode cX8_joined 63 = .ok (.imul, 1) := by decide +kernel
theorem dX8_joined_64 : decode cX8_joined 64 = .ok (.if_icmp .ge 8, 3) := by decide +kernel
theorem dX8_joined_67 : decode cX8_joined 67 = .ok (.iload 7, 2) := by decide +kernel
theorem dX8_joined_69 : decode cX8_joined 69 = .ok (.ifCond .ge 5, 3) := by decide +kernel
theorem dX8_joined_72 : decode cX8_joined 72 = .ok (.iconst 0, 1) := by decide +kernel
theorem dX8_joined_73 : decode cX8_joined 73 = .ok (.ireturn, 1) := by decide +kernel
theorem dX8_joined_74 : decode cX8_joined 74 = .ok (.iload 6, 2) := by decide +kernel
theorem dX8_joined_76 : decode cX8_joined 76 = .ok (.iload 7, 2) := by decide +kernel
theorem dX8_joined_78 : decode cX8_joined 78 = .ok (.ixor, 1) := by decide +kernel
theorem dX8_joined_79 : decode cX8_joined 79 = .ok (.iconst 1, 1) := by decide +kernel
theorem dX8_joined_80 : decode cX8_joined 80 = .ok (.iand, 1) := by decide +kernel
theorem dX8_joined_81 : decode cX8_joined 81 = .ok (.ifCond .eq 7, 3) := by decide +kernel
theorem dX8_joined_84 : decode cX8_joined 84 = .ok (.iconst 1, 1) := by decide +kernel
theorem dX8_joined_85 : decode cX8_joined 85 = .ok (.goto 4, 3) := by decide +kernel
theorem dX8_joined_88 : decode cX8_joined 88 = .ok (.iconst 0, 1) := by decide +kernel
theorem dX8_joined_89 : decode cX8_joined 89 = .ok (.istore 8, 2) := by decide +kernel
theorem dX8_joined_91 : decode cX8_joined 91 = .ok (.aload 4, 2) := by decide +kernel
theorem dX8_joined_93 : decode cX8_joined 93 = .ok (.iload 6, 2) := by decide +kernel
theorem dX8_joined_95 : decode cX8_joined 95 = .ok (.iconst 1, 1) := by decide +kernel
theorem dX8_joined_96 : decode cX8_joined 96 = .ok (.ishr, 1) := by decide +kernel
theorem dX8_joined_97 : decode cX8_joined 97 = .ok (.iload 7, 2) := by decide +kernel
theorem dX8_joined_99 : decode cX8_joined 99 = .ok (.iconst 1, 1) := by decide +kernel
theorem dX8_joined_100 : decode cX8_joined 100 = .ok (.ishr, 1) := by decide +kernel
theorem dX8_joined_101 : decode cX8_joined 101 = .ok (.invokevirtual 168, 3) := by decide +kernel
theorem dX8_joined_104 : decode cX8_joined 104 = .ok (.iload 8, 2) := by decide +kernel
theorem dX8_joined_106 : decode cX8_joined 106 = .ok (.if_icmp .ne 7, 3) := by decide +kernel
theorem dX8_joined_109 : decode cX8_joined 109 = .ok (.iconst 1, 1) := by decide +kernel
theorem dX8_joined_110 : decode cX8_joined 110 = .ok (.goto 4, 3) := by decide +kernel
theorem dX8_joined_113 : decode cX8_joined 113 = .ok (.iconst 0, 1) := by decide +kernel
theorem dX8_joined_114 : decode cX8_joined 114 = .ok (.ireturn, 1) := by decide +kernel
theorem dX8_common_0 : decode cX8_common 0 = .ok (.aload_n 0, 1) := by decide +kernel
theorem dX8_common_1 : decode cX8_common 1 = .ok (.iload_n 1, 1) := by decide +kernel
theorem dX8_common_2 : decode cX8_common 2 = .ok (.invokevirtual 118, 3) := by decide +kernel
theorem dX8_common_5 : decode cX8_common 5 = .ok (.astore 4, 2) := by decide +kernel
theorem dX8_common_7 : decode cX8_common 7 = .ok (.aload 4, 2) := by decide +kernel
theorem dX8_common_9 : decode cX8_common 9 = .ok (.ifnull 21, 3) := by decide +kernel
theorem dX8_common_12 : decode cX8_common 12 = .ok (.aload 4, 2) := by decide +kernel
theorem dX8_common_14 : decode cX8_common 14 = .ok (.iload_n 2, 1) := by decide +kernel
theorem dX8_common_15 : decode cX8_common 15 = .ok (.invokestatic 246, 3) := by decide +kernel
theorem dX8_common_18 : decode cX8_common 18 = .ok (.ifCond .eq 12, 3) := by decide +kernel
theorem dX8_common_21 : decode cX8_common 21 = .ok (.aload 4, 2) := by decide +kernel
theorem dX8_common_23 : decode cX8_common 23 = .ok (.iload_n 3, 1) := by decide +kernel
theorem dX8_common_24 : decode cX8_common 24 = .ok (.invokestatic 246, 3) := by decide +kernel
theorem dX8_common_27 : decode cX8_common 27 = .ok (.ifCond .ne 5, 3) := by decide +kernel
theorem dX8_common_30 : decode cX8_common 30 = .ok (.iconst (-1), 1) := by decide +kernel
theorem dX8_common_31 : decode cX8_common 31 = .ok (.ireturn, 1) := by decide +kernel
theorem dX8_common_32 : decode cX8_common 32 = .ok (.aload 4, 2) := by decide +kernel
theorem dX8_common_34 : decode cX8_common 34 = .ok (.getfield 122, 3) := by decide +kernel
theorem dX8_common_37 : decode cX8_common 37 = .ok (.istore 5, 2) := by decide +kernel
theorem dX8_common_39 : decode cX8_common 39 = .ok (.iload_n 2, 1) := by decide +kernel
theorem dX8_common_40 : decode cX8_common 40 = .ok (.iconst 2, 1) := by decide +kernel
theorem dX8_common_41 : decode cX8_common 41 = .ok (.iload 5, 2) := by decide +kernel
theorem dX8_common_43 : decode cX8_common 43 = .ok (.imul, 1) := by decide +kernel
theorem dX8_common_44 : decode cX8_common 44 = .ok (.if_icmp .ge 7, 3) := by decide +kernel
theorem dX8_common_47 : decode cX8_common 47 = .ok (.iconst 1, 1) := by decide +kernel
theorem dX8_common_48 : decode cX8_common 48 = .ok (.goto 4, 3) := by decide +kernel
theorem dX8_common_51 : decode cX8_common 51 = .ok (.iconst 0, 1) := by decide +kernel
theorem dX8_common_52 : decode cX8_common 52 = .ok (.istore 6, 2) := by decide +kernel
theorem dX8_common_54 : decode cX8_common 54 = .ok (.iload 6, 2) := by decide +kernel
theorem dX8_common_56 : decode cX8_common 56 = .ok (.iload_n 3, 1) := by decide +kernel
theorem dX8_common_57 : decode cX8_common 57 = .ok (.iconst 2, 1) := by decide +kernel
theorem dX8_common_58 : decode cX8_common 58 = .ok (.iload 5, 2) := by decide +kernel
theorem dX8_common_60 : decode cX8_common 60 = .ok (.imul, 1) := by decide +kernel
theorem dX8_common_61 : decode cX8_common 61 = .ok (.if_icmp .ge 7, 3) := by decide +kernel
theorem dX8_common_64 : decode cX8_common 64 = .ok (.iconst 1, 1) := by decide +kernel
theorem dX8_common_65 : decode cX8_common 65 = .ok (.goto 4, 3) := by decide +kernel
theorem dX8_common_68 : decode cX8_common 68 = .ok (.iconst 0, 1) := by decide +kernel
theorem dX8_common_69 : decode cX8_common 69 = .ok (.if_icmp .eq 5, 3) := by decide +kernel
theorem dX8_common_72 : decode cX8_common 72 = .ok (.iconst 0, 1) := by decide +kernel
theorem dX8_common_73 : decode cX8_common 73 = .ok (.ireturn, 1) := by decide +kernel
theorem dX8_common_74 : decode cX8_common 74 = .ok (.iload 6, 2) := by decide +kernel
theorem dX8_common_76 : decode cX8_common 76 = .ok (.ifCond .eq 7, 3) := by decide +kernel
theorem dX8_common_79 : decode cX8_common 79 = .ok (.iload_n 2, 1) := by decide +kernel
theorem dX8_common_80 : decode cX8_common 80 = .ok (.goto 9, 3) := by decide +kernel
theorem dX8_common_83 : decode cX8_common 83 = .ok (.iload_n 2, 1) := by decide +kernel
theorem dX8_common_84 : decode cX8_common 84 = .ok (.iconst 2, 1) := by decide +kernel
theorem dX8_common_85 : decode cX8_common 85 = .ok (.iload 5, 2) := by decide +kernel
theorem dX8_common_87 : decode cX8_common 87 = .ok (.imul, 1) := by decide +kernel
theorem dX8_common_88 : decode cX8_common 88 = .ok (.isub, 1) := by decide +kernel
theorem dX8_common_89 : decode cX8_common 89 = .ok (.istore 7, 2) := by decide +kernel
theorem dX8_common_91 : decode cX8_common 91 = .ok (.iload 6, 2) := by decide +kernel
theorem dX8_common_93 : decode cX8_common 93 = .ok (.ifCond .eq 7, 3) := by decide +kernel
theorem dX8_common_96 : decode cX8_common 96 = .ok (.iload_n 3, 1) := by decide +kernel
theorem dX8_common_97 : decode cX8_common 97 = .ok (.goto 9, 3) := by decide +kernel
theorem dX8_common_100 : decode cX8_common 100 = .ok (.iload_n 3, 1) := by decide +kernel
theorem dX8_common_101 : decode cX8_common 101 = .ok (.iconst 2, 1) := by decide +kernel
theorem dX8_common_102 : decode cX8_common 102 = .ok (.iload 5, 2) := by decide +kernel
theorem dX8_common_104 : decode cX8_common 104 = .ok (.imul, 1) := by decide +kernel
theorem dX8_common_105 : decode cX8_common 105 = .ok (.isub, 1) := by decide +kernel
theorem dX8_common_106 : decode cX8_common 106 = .ok (.istore 8, 2) := by decide +kernel
theorem dX8_common_108 : decode cX8_common 108 = .ok (.aload 4, 2) := by decide +kernel
theorem dX8_common_110 : decode cX8_common 110 = .ok (.iload 6, 2) := by decide +kernel
theorem dX8_common_112 : decode cX8_common 112 = .ok (.iload 7, 2) := by decide +kernel
theorem dX8_common_114 : decode cX8_common 114 = .ok (.iconst 1, 1) := by decide +kernel
theorem dX8_common_115 : decode cX8_common 115 = .ok (.ishr, 1) := by decide +kernel
theorem dX8_common_116 : decode cX8_common 116 = .ok (.invokevirtual 171, 3) := by decide +kernel
theorem dX8_common_119 : decode cX8_common 119 = .ok (.aload 4, 2) := by decide +kernel
theorem dX8_common_121 : decode cX8_common 121 = .ok (.iload 6, 2) := by decide +kernel
theorem dX8_common_123 : decode cX8_common 123 = .ok (.iload 8, 2) := by decide +kernel
theorem dX8_common_125 : decode cX8_common 125 = .ok (.iconst 1, 1) := by decide +kernel
theorem dX8_common_126 : decode cX8_common 126 = .ok (.ishr, 1) := by decide +kernel
theorem dX8_common_127 : decode cX8_common 127 = .ok (.invokevirtual 171, 3) := by decide +kernel
theorem dX8_common_130 : decode cX8_common 130 = .ok (.ixor, 1) := by decide +kernel
theorem dX8_common_131 : decode cX8_common 131 = .ok (.invokestatic 258, 3) := by decide +kernel
theorem dX8_common_134 : decode cX8_common 134 = .ok (.istore 9, 2) := by decide +kernel
theorem dX8_common_136 : decode cX8_common 136 = .ok (.iload 7, 2) := by decide +kernel
theorem dX8_common_138 : decode cX8_common 138 = .ok (.iload 8, 2) := by decide +kernel
theorem dX8_common_140 : decode cX8_common 140 = .ok (.ixor, 1) := by decide +kernel
theorem dX8_common_141 : decode cX8_common 141 = .ok (.iconst 1, 1) := by decide +kernel
theorem dX8_common_142 : decode cX8_common 142 = .ok (.iand, 1) := by decide +kernel
theorem dX8_common_143 : decode cX8_common 143 = .ok (.ifCond .ne 11, 3) := by decide +kernel
theorem dX8_common_146 : decode cX8_common 146 = .ok (.iload 5, 2) := by decide +kernel
theorem dX8_common_148 : decode cX8_common 148 = .ok (.iload 9, 2) := by decide +kernel
theorem dX8_common_150 : decode cX8_common 150 = .ok (.isub, 1) := by decide +kernel
theorem dX8_common_151 : decode cX8_common 151 = .ok (.goto 5, 3) := by decide +kernel
theorem dX8_common_154 : decode cX8_common 154 = .ok (.iload 9, 2) := by decide +kernel
theorem dX8_common_156 : decode cX8_common 156 = .ok (.ireturn, 1) := by decide +kernel
theorem dX8_block_0 : decode cX8_block 0 = .ok (.aload_n 0, 1) := by decide +kernel
theorem dX8_block_1 : decode cX8_block 1 = .ok (.iload_n 1, 1) := by decide +kernel
theorem dX8_block_2 : decode cX8_block 2 = .ok (.invokevirtual 118, 3) := by decide +kernel
theorem dX8_block_5 : decode cX8_block 5 = .ok (.astore 5, 2) := by decide +kernel
theorem dX8_block_7 : decode cX8_block 7 = .ok (.aload 5, 2) := by decide +kernel
theorem dX8_block_9 : decode cX8_block 9 = .ok (.ifnull 23, 3) := by decide +kernel
theorem dX8_block_12 : decode cX8_block 12 = .ok (.aload 5, 2) := by decide +kernel
theorem dX8_block_14 : decode cX8_block 14 = .ok (.iload_n 2, 1) := by decide +kernel
theorem dX8_block_15 : decode cX8_block 15 = .ok (.iload_n 3, 1) := by decide +kernel
theorem dX8_block_16 : decode cX8_block 16 = .ok (.invokestatic 263, 3) := by decide +kernel
theorem dX8_block_19 : decode cX8_block 19 = .ok (.ifCond .eq 13, 3) := by decide +kernel
theorem dX8_block_22 : decode cX8_block 22 = .ok (.aload 5, 2) := by decide +kernel
theorem dX8_block_24 : decode cX8_block 24 = .ok (.iload 4, 2) := by decide +kernel
theorem dX8_block_26 : decode cX8_block 26 = .ok (.invokevirtual 150, 3) := by decide +kernel
theorem dX8_block_29 : decode cX8_block 29 = .ok (.ifCond .ne 5, 3) := by decide +kernel
theorem dX8_block_32 : decode cX8_block 32 = .ok (.iconst (-1), 1) := by decide +kernel
theorem dX8_block_33 : decode cX8_block 33 = .ok (.ireturn, 1) := by decide +kernel
theorem dX8_block_34 : decode cX8_block 34 = .ok (.iload 4, 2) := by decide +kernel
theorem dX8_block_36 : decode cX8_block 36 = .ok (.iload_n 2, 1) := by decide +kernel
theorem dX8_block_37 : decode cX8_block 37 = .ok (.if_icmp .ne 8, 3) := by decide +kernel
theorem dX8_block_40 : decode cX8_block 40 = .ok (.bipush (-2), 2) := by decide +kernel
theorem dX8_block_42 : decode cX8_block 42 = .ok (.goto 12, 3) := by decide +kernel
theorem dX8_block_45 : decode cX8_block 45 = .ok (.aload 5, 2) := by decide +kernel
theorem dX8_block_47 : decode cX8_block 47 = .ok (.iload_n 2, 1) := by decide +kernel
theorem dX8_block_48 : decode cX8_block 48 = .ok (.iload_n 3, 1) := by decide +kernel
theorem dX8_block_49 : decode cX8_block 49 = .ok (.iload 4, 2) := by decide +kernel
theorem dX8_block_51 : decode cX8_block 51 = .ok (.invokevirtual 267, 3) := by decide +kernel
theorem dX8_block_54 : decode cX8_block 54 = .ok (.ireturn, 1) := by decide +kernel
theorem dX8_through_0 : decode cX8_through 0 = .ok (.aload_n 0, 1) := by decide +kernel
theorem dX8_through_1 : decode cX8_through 1 = .ok (.iload_n 1, 1) := by decide +kernel
theorem dX8_through_2 : decode cX8_through 2 = .ok (.invokevirtual 118, 3) := by decide +kernel
theorem dX8_through_5 : decode cX8_through 5 = .ok (.astore 5, 2) := by decide +kernel
theorem dX8_through_7 : decode cX8_through 7 = .ok (.aload 5, 2) := by decide +kernel
theorem dX8_through_9 : decode cX8_through 9 = .ok (.ifnull 35, 3) := by decide +kernel
theorem dX8_through_12 : decode cX8_through 12 = .ok (.aload 5, 2) := by decide +kernel
theorem dX8_through_14 : decode cX8_through 14 = .ok (.iload_n 2, 1) := by decide +kernel
theorem dX8_through_15 : decode cX8_through 15 = .ok (.iload_n 3, 1) := by decide +kernel
theorem dX8_through_16 : decode cX8_through 16 = .ok (.invokestatic 263, 3) := by decide +kernel
theorem dX8_through_19 : decode cX8_through 19 = .ok (.ifCond .eq 25, 3) := by decide +kernel
theorem dX8_through_22 : decode cX8_through 22 = .ok (.iload 4, 2) := by decide +kernel
theorem dX8_through_24 : decode cX8_through 24 = .ok (.aload 5, 2) := by decide +kernel
theorem dX8_through_26 : decode cX8_through 26 = .ok (.getfield 122, 3) := by decide +kernel
theorem dX8_through_29 : decode cX8_through 29 = .ok (.invokestatic 135, 3) := by decide +kernel
theorem dX8_through_32 : decode cX8_through 32 = .ok (.ifCond .eq 12, 3) := by decide +kernel
theorem dX8_through_35 : decode cX8_through 35 = .ok (.iload 4, 2) := by decide +kernel
theorem dX8_through_37 : decode cX8_through 37 = .ok (.iload_n 3, 1) := by decide +kernel
theorem dX8_through_38 : decode cX8_through 38 = .ok (.invokestatic 106, 3) := by decide +kernel
theorem dX8_through_41 : decode cX8_through 41 = .ok (.ifCond .eq 5, 3) := by decide +kernel
theorem dX8_through_44 : decode cX8_through 44 = .ok (.iconst (-1), 1) := by decide +kernel
theorem dX8_through_45 : decode cX8_through 45 = .ok (.ireturn, 1) := by decide +kernel
theorem dX8_through_46 : decode cX8_through 46 = .ok (.iconst 0, 1) := by decide +kernel
theorem dX8_through_47 : decode cX8_through 47 = .ok (.istore 6, 2) := by decide +kernel
theorem dX8_through_49 : decode cX8_through 49 = .ok (.iconst 0, 1) := by decide +kernel
theorem dX8_through_50 : decode cX8_through 50 = .ok (.istore 7, 2) := by decide +kernel
theorem dX8_through_52 : decode cX8_through 52 = .ok (.iload 7, 2) := by decide +kernel
theorem dX8_through_54 : decode cX8_through 54 = .ok (.aload 5, 2) := by decide +kernel
theorem dX8_through_56 : decode cX8_through 56 = .ok (.getfield 122, 3) := by decide +kernel
theorem dX8_through_59 : decode cX8_through 59 = .ok (.if_icmp .ge 35, 3) := by decide +kernel
theorem dX8_through_62 : decode cX8_through 62 = .ok (.iload 7, 2) := by decide +kernel
theorem dX8_through_64 : decode cX8_through 64 = .ok (.iload_n 2, 1) := by decide +kernel
theorem dX8_through_65 : decode cX8_through 65 = .ok (.if_icmp .eq 23, 3) := by decide +kernel
theorem dX8_through_68 : decode cX8_through 68 = .ok (.iload 4, 2) := by decide +kernel
theorem dX8_through_70 : decode cX8_through 70 = .ok (.aload 5, 2) := by decide +kernel
theorem dX8_through_72 : decode cX8_through 72 = .ok (.iload_n 2, 1) := by decide +kernel
theorem dX8_through_73 : decode cX8_through 73 = .ok (.iload_n 3, 1) := by decide +kernel
theorem dX8_through_74 : decode cX8_through 74 = .ok (.iload 7, 2) := by decide +kernel
theorem dX8_through_76 : decode cX8_through 76 = .ok (.invokevirtual 267, 3) := by decide +kernel
theorem dX8_through_79 : decode cX8_through 79 = .ok (.iconst (-1), 1) := by decide +kernel
theorem dX8_through_80 : decode cX8_through 80 = .ok (.ixor, 1) := by decide +kernel
theorem dX8_through_81 : decode cX8_through 81 = .ok (.iand, 1) := by decide +kernel
theorem dX8_through_82 : decode cX8_through 82 = .ok (.ifCond .ne 6, 3) := by decide +kernel
theorem dX8_through_85 : decode cX8_through 85 = .ok (.iinc 6 1, 3) := by decide +kernel
theorem dX8_through_88 : decode cX8_through 88 = .ok (.iinc 7 1, 3) := by decide +kernel
theorem dX8_through_91 : decode cX8_through 91 = .ok (.goto (-39), 3) := by decide +kernel
theorem dX8_through_94 : decode cX8_through 94 = .ok (.iload 6, 2) := by decide +kernel
theorem dX8_through_96 : decode cX8_through 96 = .ok (.ireturn, 1) := by decide +kernel
theorem dX8_halves_0 : decode cX8_halves 0 = .ok (.aload_n 0, 1) := by decide +kernel
theorem dX8_halves_1 : decode cX8_halves 1 = .ok (.iload_n 1, 1) := by decide +kernel
theorem dX8_halves_2 : decode cX8_halves 2 = .ok (.invokevirtual 118, 3) := by decide +kernel
theorem dX8_halves_5 : decode cX8_halves 5 = .ok (.astore 4, 2) := by decide +kernel
theorem dX8_halves_7 : decode cX8_halves 7 = .ok (.aload 4, 2) := by decide +kernel
theorem dX8_halves_9 : decode cX8_halves 9 = .ok (.ifnull 24, 3) := by decide +kernel
theorem dX8_halves_12 : decode cX8_halves 12 = .ok (.aload 4, 2) := by decide +kernel
theorem dX8_halves_14 : decode cX8_halves 14 = .ok (.iload_n 2, 1) := by decide +kernel
theorem dX8_halves_15 : decode cX8_halves 15 = .ok (.invokevirtual 150, 3) := by decide +kernel
theorem dX8_halves_18 : decode cX8_halves 18 = .ok (.ifCond .eq 15, 3) := by decide +kernel
theorem dX8_halves_21 : decode cX8_halves 21 = .ok (.iload_n 3, 1) := by decide +kernel
theorem dX8_halves_22 : decode cX8_halves 22 = .ok (.aload 4, 2) := by decide +kernel
theorem dX8_halves_24 : decode cX8_halves 24 = .ok (.getfield 122, 3) := by decide +kernel
theorem dX8_halves_27 : decode cX8_halves 27 = .ok (.invokestatic 135, 3) := by decide +kernel
theorem dX8_halves_30 : decode cX8_halves 30 = .ok (.ifCond .ne 5, 3) := by decide +kernel
theorem dX8_halves_33 : decode cX8_halves 33 = .ok (.iconst (-1), 1) := by decide +kernel
theorem dX8_halves_34 : decode cX8_halves 34 = .ok (.ireturn, 1) := by decide +kernel
theorem dX8_halves_35 : decode cX8_halves 35 = .ok (.iconst 0, 1) := by decide +kernel
theorem dX8_halves_36 : decode cX8_halves 36 = .ok (.istore 5, 2) := by decide +kernel
theorem dX8_halves_38 : decode cX8_halves 38 = .ok (.iconst 0, 1) := by decide +kernel
theorem dX8_halves_39 : decode cX8_halves 39 = .ok (.istore 6, 2) := by decide +kernel
theorem dX8_halves_41 : decode cX8_halves 41 = .ok (.iload 6, 2) := by decide +kernel
theorem dX8_halves_43 : decode cX8_halves 43 = .ok (.aload 4, 2) := by decide +kernel
theorem dX8_halves_45 : decode cX8_halves 45 = .ok (.getfield 122, 3) := by decide +kernel
theorem dX8_halves_48 : decode cX8_halves 48 = .ok (.if_icmp .ge 61, 3) := by decide +kernel
theorem dX8_halves_51 : decode cX8_halves 51 = .ok (.aload 4, 2) := by decide +kernel
theorem dX8_halves_53 : decode cX8_halves 53 = .ok (.getfield 125, 3) := by decide +kernel
theorem dX8_halves_56 : decode cX8_halves 56 = .ok (.iload 6, 2) := by decide +kernel
theorem dX8_halves_58 : decode cX8_halves 58 = .ok (.iaload, 1) := by decide +kernel
theorem dX8_halves_59 : decode cX8_halves 59 = .ok (.aload 4, 2) := by decide +kernel
theorem dX8_halves_61 : decode cX8_halves 61 = .ok (.getfield 125, 3) := by decide +kernel
theorem dX8_halves_64 : decode cX8_halves 64 = .ok (.iload_n 2, 1) := by decide +kernel
theorem dX8_halves_65 : decode cX8_halves 65 = .ok (.iaload, 1) := by decide +kernel
theorem dX8_halves_66 : decode cX8_halves 66 = .ok (.ixor, 1) := by decide +kernel
theorem dX8_halves_67 : decode cX8_halves 67 = .ok (.istore 7, 2) := by decide +kernel
theorem dX8_halves_69 : decode cX8_halves 69 = .ok (.iload 6, 2) := by decide +kernel
theorem dX8_halves_71 : decode cX8_halves 71 = .ok (.iload_n 2, 1) := by decide +kernel
theorem dX8_halves_72 : decode cX8_halves 72 = .ok (.if_icmp .eq 13, 3) := by decide +kernel
theorem dX8_halves_75 : decode cX8_halves 75 = .ok (.iload_n 3, 1) := by decide +kernel
theorem dX8_halves_76 : decode cX8_halves 76 = .ok (.iload 7, 2) := by decide +kernel
theorem dX8_halves_78 : decode cX8_halves 78 = .ok (.iand, 1) := by decide +kernel
theorem dX8_halves_79 : decode cX8_halves 79 = .ok (.ifCond .ne 6, 3) := by decide +kernel
theorem dX8_halves_82 : decode cX8_halves 82 = .ok (.iinc 5 1, 3) := by decide +kernel
theorem dX8_halves_85 : decode cX8_halves 85 = .ok (.iload 6, 2) := by decide +kernel
theorem dX8_halves_87 : decode cX8_halves 87 = .ok (.iload_n 2, 1) := by decide +kernel
theorem dX8_halves_88 : decode cX8_halves 88 = .ok (.if_icmp .eq 15, 3) := by decide +kernel
theorem dX8_halves_91 : decode cX8_halves 91 = .ok (.iload_n 3, 1) := by decide +kernel
theorem dX8_halves_92 : decode cX8_halves 92 = .ok (.iload 7, 2) := by decide +kernel
theorem dX8_halves_94 : decode cX8_halves 94 = .ok (.iconst (-1), 1) := by decide +kernel
theorem dX8_halves_95 : decode cX8_halves 95 = .ok (.ixor, 1) := by decide +kernel
theorem dX8_halves_96 : decode cX8_halves 96 = .ok (.iand, 1) := by decide +kernel
theorem dX8_halves_97 : decode cX8_halves 97 = .ok (.ifCond .ne 6, 3) := by decide +kernel
theorem dX8_halves_100 : decode cX8_halves 100 = .ok (.iinc 5 1, 3) := by decide +kernel
theorem dX8_halves_103 : decode cX8_halves 103 = .ok (.iinc 6 1, 3) := by decide +kernel
theorem dX8_halves_106 : decode cX8_halves 106 = .ok (.goto (-65), 3) := by decide +kernel
theorem dX8_halves_109 : decode cX8_halves 109 = .ok (.iload 5, 2) := by decide +kernel
theorem dX8_halves_111 : decode cX8_halves 111 = .ok (.ireturn, 1) := by decide +kernel
theorem dX8_nearest_0 : decode cX8_nearest 0 = .ok (.aload_n 0, 1) := by decide +kernel
theorem dX8_nearest_1 : decode cX8_nearest 1 = .ok (.iload_n 1, 1) := by decide +kernel
theorem dX8_nearest_2 : decode cX8_nearest 2 = .ok (.invokevirtual 118, 3) := by decide +kernel
theorem dX8_nearest_5 : decode cX8_nearest 5 = .ok (.astore 4, 2) := by decide +kernel
theorem dX8_nearest_7 : decode cX8_nearest 7 = .ok (.aload 4, 2) := by decide +kernel
theorem dX8_nearest_9 : decode cX8_nearest 9 = .ok (.ifnull 24, 3) := by decide +kernel
theorem dX8_nearest_12 : decode cX8_nearest 12 = .ok (.iload_n 2, 1) := by decide +kernel
theorem dX8_nearest_13 : decode cX8_nearest 13 = .ok (.aload 4, 2) := by decide +kernel
theorem dX8_nearest_15 : decode cX8_nearest 15 = .ok (.getfield 122, 3) := by decide +kernel
theorem dX8_nearest_18 : decode cX8_nearest 18 = .ok (.invokestatic 135, 3) := by decide +kernel
theorem dX8_nearest_21 : decode cX8_nearest 21 = .ok (.ifCond .eq 12, 3) := by decide +kernel
theorem dX8_nearest_24 : decode cX8_nearest 24 = .ok (.iload_n 3, 1) := by decide +kernel
theorem dX8_nearest_25 : decode cX8_nearest 25 = .ok (.ifCond .lt 8, 3) := by decide +kernel
theorem dX8_nearest_28 : decode cX8_nearest 28 = .ok (.iload_n 3, 1) := by decide +kernel
theorem dX8_nearest_29 : decode cX8_nearest 29 = .ok (.iconst 3, 1) := by decide +kernel
theorem dX8_nearest_30 : decode cX8_nearest 30 = .ok (.if_icmp .le 5, 3) := by decide +kernel
theorem dX8_nearest_33 : decode cX8_nearest 33 = .ok (.iconst (-1), 1) := by decide +kernel
theorem dX8_nearest_34 : decode cX8_nearest 34 = .ok (.ireturn, 1) := by decide +kernel
theorem dX8_nearest_35 : decode cX8_nearest 35 = .ok (.iconst 0, 1) := by decide +kernel
theorem dX8_nearest_36 : decode cX8_nearest 36 = .ok (.istore 5, 2) := by decide +kernel
theorem dX8_nearest_38 : decode cX8_nearest 38 = .ok (.aload 4, 2) := by decide +kernel
theorem dX8_nearest_40 : decode cX8_nearest 40 = .ok (.getfield 122, 3) := by decide +kernel
theorem dX8_nearest_43 : decode cX8_nearest 43 = .ok (.iconst 1, 1) := by decide +kernel
theorem dX8_nearest_44 : decode cX8_nearest 44 = .ok (.iadd, 1) := by decide +kernel
theorem dX8_nearest_45 : decode cX8_nearest 45 = .ok (.istore 6, 2) := by decide +kernel
theorem dX8_nearest_47 : decode cX8_nearest 47 = .ok (.iconst 0, 1) := by decide +kernel
theorem dX8_nearest_48 : decode cX8_nearest 48 = .ok (.istore 7, 2) := by decide +kernel
theorem dX8_nearest_50 : decode cX8_nearest 50 = .ok (.iconst 0, 1) := by decide +kernel
theorem dX8_nearest_51 : decode cX8_nearest 51 = .ok (.istore 8, 2) := by decide +kernel
theorem dX8_nearest_53 : decode cX8_nearest 53 = .ok (.iload 8, 2) := by decide +kernel
theorem dX8_nearest_55 : decode cX8_nearest 55 = .ok (.iconst 2, 1) := by decide +kernel
theorem dX8_nearest_56 : decode cX8_nearest 56 = .ok (.aload 4, 2) := by decide +kernel
theorem dX8_nearest_58 : decode cX8_nearest 58 = .ok (.getfield 122, 3) := by decide +kernel
theorem dX8_nearest_61 : decode cX8_nearest 61 = .ok (.imul, 1) := by decide +kernel
theorem dX8_nearest_62 : decode cX8_nearest 62 = .ok (.if_icmp .ge 76, 3) := by decide +kernel
theorem dX8_nearest_65 : decode cX8_nearest 65 = .ok (.aload 4, 2) := by decide +kernel
theorem dX8_nearest_67 : decode cX8_nearest 67 = .ok (.getfield 125, 3) := by decide +kernel
theorem dX8_nearest_70 : decode cX8_nearest 70 = .ok (.iload 8, 2) := by decide +kernel
theorem dX8_nearest_72 : decode cX8_nearest 72 = .ok (.iconst 1, 1) := by decide +kernel
theorem dX8_nearest_73 : decode cX8_nearest 73 = .ok (.ishr, 1) := by decide +kernel
theorem dX8_nearest_74 : decode cX8_nearest 74 = .ok (.iaload, 1) := by decide +kernel
theorem dX8_nearest_75 : decode cX8_nearest 75 = .ok (.iload_n 2, 1) := by decide +kernel
theorem dX8_nearest_76 : decode cX8_nearest 76 = .ok (.ixor, 1) := by decide +kernel
theorem dX8_nearest_77 : decode cX8_nearest 77 = .ok (.invokestatic 258, 3) := by decide +kernel
theorem dX8_nearest_80 : decode cX8_nearest 80 = .ok (.istore 9, 2) := by decide +kernel
theorem dX8_nearest_82 : decode cX8_nearest 82 = .ok (.iload 8, 2) := by decide +kernel
theorem dX8_nearest_84 : decode cX8_nearest 84 = .ok (.iconst 1, 1) := by decide +kernel
theorem dX8_nearest_85 : decode cX8_nearest 85 = .ok (.iand, 1) := by decide +kernel
theorem dX8_nearest_86 : decode cX8_nearest 86 = .ok (.ifCond .ne 8, 3) := by decide +kernel
theorem dX8_nearest_89 : decode cX8_nearest 89 = .ok (.iload 9, 2) := by decide +kernel
theorem dX8_nearest_91 : decode cX8_nearest 91 = .ok (.goto 11, 3) := by decide +kernel
theorem dX8_nearest_94 : decode cX8_nearest 94 = .ok (.aload 4, 2) := by decide +kernel
theorem dX8_nearest_96 : decode cX8_nearest 96 = .ok (.getfield 122, 3) := by decide +kernel
theorem dX8_nearest_99 : decode cX8_nearest 99 = .ok (.iload 9, 2) := by decide +kernel
theorem dX8_nearest_101 : decode cX8_nearest 101 = .ok (.isub, 1) := by decide +kernel
theorem dX8_nearest_102 : decode cX8_nearest 102 = .ok (.istore 10, 2) := by decide +kernel
theorem dX8_nearest_104 : decode cX8_nearest 104 = .ok (.iload 10, 2) := by decide +kernel
theorem dX8_nearest_106 : decode cX8_nearest 106 = .ok (.iload 6, 2) := by decide +kernel
theorem dX8_nearest_108 : decode cX8_nearest 108 = .ok (.if_icmp .ge 14, 3) := by decide +kernel
theorem dX8_nearest_111 : decode cX8_nearest 111 = .ok (.iload 10, 2) := by decide +kernel
theorem dX8_nearest_113 : decode cX8_nearest 113 = .ok (.istore 6, 2) := by decide +kernel
theorem dX8_nearest_115 : decode cX8_nearest 115 = .ok (.iload 8, 2) := by decide +kernel
theorem dX8_nearest_117 : decode cX8_nearest 117 = .ok (.istore 5, 2) := by decide +kernel
theorem dX8_nearest_119 : decode cX8_nearest 119 = .ok (.iconst 0, 1) := by decide +kernel
theorem dX8_nearest_120 : decode cX8_nearest 120 = .ok (.istore 7, 2) := by decide +kernel
theorem dX8_nearest_122 : decode cX8_nearest 122 = .ok (.iload 10, 2) := by decide +kernel
theorem dX8_nearest_124 : decode cX8_nearest 124 = .ok (.iload 6, 2) := by decide +kernel
theorem dX8_nearest_126 : decode cX8_nearest 126 = .ok (.if_icmp .ne 6, 3) := by decide +kernel
theorem dX8_nearest_129 : decode cX8_nearest 129 = .ok (.iinc 7 1, 3) := by decide +kernel
theorem dX8_nearest_132 : decode cX8_nearest 132 = .ok (.iinc 8 1, 3) := by decide +kernel
theorem dX8_nearest_135 : decode cX8_nearest 135 = .ok (.goto (-82), 3) := by decide +kernel
theorem dX8_nearest_138 : decode cX8_nearest 138 = .ok (.iload_n 3, 1) := by decide +kernel
theorem dX8_nearest_139 : decode cX8_nearest 139 = .ok (.tableswitch 38 0 2 #[25, 30, 35], 25) := by decide +kernel
theorem dX8_nearest_164 : decode cX8_nearest 164 = .ok (.iload 5, 2) := by decide +kernel
theorem dX8_nearest_166 : decode cX8_nearest 166 = .ok (.iconst 1, 1) := by decide +kernel
theorem dX8_nearest_167 : decode cX8_nearest 167 = .ok (.ishr, 1) := by decide +kernel
theorem dX8_nearest_168 : decode cX8_nearest 168 = .ok (.ireturn, 1) := by decide +kernel
theorem dX8_nearest_169 : decode cX8_nearest 169 = .ok (.iload 5, 2) := by decide +kernel
theorem dX8_nearest_171 : decode cX8_nearest 171 = .ok (.iconst 1, 1) := by decide +kernel
theorem dX8_nearest_172 : decode cX8_nearest 172 = .ok (.iand, 1) := by decide +kernel
theorem dX8_nearest_173 : decode cX8_nearest 173 = .ok (.ireturn, 1) := by decide +kernel
theorem dX8_nearest_174 : decode cX8_nearest 174 = .ok (.iload 6, 2) := by decide +kernel
theorem dX8_nearest_176 : decode cX8_nearest 176 = .ok (.ireturn, 1) := by decide +kernel
theorem dX8_nearest_177 : decode cX8_nearest 177 = .ok (.iload 7, 2) := by decide +kernel
theorem dX8_nearest_179 : decode cX8_nearest 179 = .ok (.ireturn, 1) := by decide +kernel
theorem dX8_signal_0 : decode cX8_signal 0 = .ok (.iload_n 1, 1) := by decide +kernel
theorem dX8_signal_1 : decode cX8_signal 1 = .ok (.ifCond .lt 23, 3) := by decide +kernel
theorem dX8_signal_4 : decode cX8_signal 4 = .ok (.iload_n 1, 1) := by decide +kernel
theorem dX8_signal_5 : decode cX8_signal 5 = .ok (.bipush 28, 2) := by decide +kernel
theorem dX8_signal_7 : decode cX8_signal 7 = .ok (.if_icmp .ge 17, 3) := by decide +kernel
theorem dX8_signal_10 : decode cX8_signal 10 = .ok (.iload_n 2, 1) := by decide +kernel
theorem dX8_signal_11 : decode cX8_signal 11 = .ok (.sipush (-999), 3) := by decide +kernel
theorem dX8_signal_14 : decode cX8_signal 14 = .ok (.if_icmp .lt 10, 3) := by decide +kernel
theorem dX8_signal_17 : decode cX8_signal 17 = .ok (.iload_n 2, 1) := by decide +kernel
theorem dX8_signal_18 : decode cX8_signal 18 = .ok (.sipush 999, 3) := by decide +kernel
theorem dX8_signal_21 : decode cX8_signal 21 = .ok (.if_icmp .le 7, 3) := by decide +kernel
theorem dX8_signal_24 : decode cX8_signal 24 = .ok (.sipush (-1000), 3) := by decide +kernel
theorem dX8_signal_27 : decode cX8_signal 27 = .ok (.ireturn, 1) := by decide +kernel
theorem dX8_signal_28 : decode cX8_signal 28 = .ok (.aload_n 0, 1) := by decide +kernel
theorem dX8_signal_29 : decode cX8_signal 29 = .ok (.getfield 20, 3) := by decide +kernel
theorem dX8_signal_32 : decode cX8_signal 32 = .ok (.iload_n 1, 1) := by decide +kernel
theorem dX8_signal_33 : decode cX8_signal 33 = .ok (.iaload, 1) := by decide +kernel
theorem dX8_signal_34 : decode cX8_signal 34 = .ok (.istore_n 3, 1) := by decide +kernel
theorem dX8_signal_35 : decode cX8_signal 35 = .ok (.aload_n 0, 1) := by decide +kernel
theorem dX8_signal_36 : decode cX8_signal 36 = .ok (.getfield 20, 3) := by decide +kernel
theorem dX8_signal_39 : decode cX8_signal 39 = .ok (.iload_n 1, 1) := by decide +kernel
theorem dX8_signal_40 : decode cX8_signal 40 = .ok (.iload_n 2, 1) := by decide +kernel
theorem dX8_signal_41 : decode cX8_signal 41 = .ok (.iastore, 1) := by decide +kernel
theorem dX8_signal_42 : decode cX8_signal 42 = .ok (.iload_n 3, 1) := by decide +kernel
theorem dX8_signal_43 : decode cX8_signal 43 = .ok (.ireturn, 1) := by decide +kernel
theorem dX8_spectrum_0 : decode cX8_spectrum 0 = .ok (.aload_n 0, 1) := by decide +kernel
theorem dX8_spectrum_1 : decode cX8_spectrum 1 = .ok (.iload_n 1, 1) := by decide +kernel
theorem dX8_spectrum_2 : decode cX8_spectrum 2 = .ok (.invokevirtual 118, 3) := by decide +kernel
theorem dX8_spectrum_5 : decode cX8_spectrum 5 = .ok (.astore 4, 2) := by decide +kernel
theorem dX8_spectrum_7 : decode cX8_spectrum 7 = .ok (.aload 4, 2) := by decide +kernel
theorem dX8_spectrum_9 : decode cX8_spectrum 9 = .ok (.ifnull 12, 3) := by decide +kernel
theorem dX8_spectrum_12 : decode cX8_spectrum 12 = .ok (.aload 4, 2) := by decide +kernel
theorem dX8_spectrum_14 : decode cX8_spectrum 14 = .ok (.iload_n 2, 1) := by decide +kernel
theorem dX8_spectrum_15 : decode cX8_spectrum 15 = .ok (.invokevirtual 150, 3) := by decide +kernel
theorem dX8_spectrum_18 : decode cX8_spectrum 18 = .ok (.ifCond .ne 7, 3) := by decide +kernel
theorem dX8_spectrum_21 : decode cX8_spectrum 21 = .ok (.ldc_w 270, 3) := by decide +kernel
theorem dX8_spectrum_24 : decode cX8_spectrum 24 = .ok (.ireturn, 1) := by decide +kernel
theorem dX8_spectrum_25 : decode cX8_spectrum 25 = .ok (.iload_n 3, 1) := by decide +kernel
theorem dX8_spectrum_26 : decode cX8_spectrum 26 = .ok (.ifCond .ne 11, 3) := by decide +kernel
theorem dX8_spectrum_29 : decode cX8_spectrum 29 = .ok (.aload_n 0, 1) := by decide +kernel
theorem dX8_spectrum_30 : decode cX8_spectrum 30 = .ok (.aload 4, 2) := by decide +kernel
theorem dX8_spectrum_32 : decode cX8_spectrum 32 = .ok (.iload_n 2, 1) := by decide +kernel
theorem dX8_spectrum_33 : decode cX8_spectrum 33 = .ok (.invokevirtual 271, 3) := by decide +kernel
theorem dX8_spectrum_36 : decode cX8_spectrum 36 = .ok (.ireturn, 1) := by decide +kernel
theorem dX8_spectrum_37 : decode cX8_spectrum 37 = .ok (.iconst 0, 1) := by decide +kernel
theorem dX8_spectrum_38 : decode cX8_spectrum 38 = .ok (.istore 5, 2) := by decide +kernel
theorem dX8_spectrum_40 : decode cX8_spectrum 40 = .ok (.iconst 0, 1) := by decide +kernel
theorem dX8_spectrum_41 : decode cX8_spectrum 41 = .ok (.istore 6, 2) := by decide +kernel
theorem dX8_spectrum_43 : decode cX8_spectrum 43 = .ok (.iload 6, 2) := by decide +kernel
theorem dX8_spectrum_45 : decode cX8_spectrum 45 = .ok (.aload 4, 2) := by decide +kernel
theorem dX8_spectrum_47 : decode cX8_spectrum 47 = .ok (.getfield 122, 3) := by decide +kernel
theorem dX8_spectrum_50 : decode cX8_spectrum 50 = .ok (.if_icmp .ge 43, 3) := by decide +kernel
theorem dX8_spectrum_53 : decode cX8_spectrum 53 = .ok (.aload_n 0, 1) := by decide +kernel
theorem dX8_spectrum_54 : decode cX8_spectrum 54 = .ok (.aload 4, 2) := by decide +kernel
theorem dX8_spectrum_56 : decode cX8_spectrum 56 = .ok (.iload 6, 2) := by decide +kernel
theorem dX8_spectrum_58 : decode cX8_spectrum 58 = .ok (.invokevirtual 271, 3) := by decide +kernel
theorem dX8_spectrum_61 : decode cX8_spectrum 61 = .ok (.istore 7, 2) := by decide +kernel
theorem dX8_spectrum_63 : decode cX8_spectrum 63 = .ok (.iload 5, 2) := by decide +kernel
theorem dX8_spectrum_65 : decode cX8_spectrum 65 = .ok (.aload 4, 2) := by decide +kernel
theorem dX8_spectrum_67 : decode cX8_spectrum 67 = .ok (.iload 6, 2) := by decide +kernel
theorem dX8_spectrum_69 : decode cX8_spectrum 69 = .ok (.iload_n 2, 1) := by decide +kernel
theorem dX8_spectrum_70 : decode cX8_spectrum 70 = .ok (.invokevirtual 168, 3) := by decide +kernel
theorem dX8_spectrum_73 : decode cX8_spectrum 73 = .ok (.ifCond .eq 9, 3) := by decide +kernel
theorem dX8_spectrum_76 : decode cX8_spectrum 76 = .ok (.iload 7, 2) := by decide +kernel
theorem dX8_spectrum_78 : decode cX8_spectrum 78 = .ok (.ineg, 1) := by decide +kernel
theorem dX8_spectrum_79 : decode cX8_spectrum 79 = .ok (.goto 5, 3) := by decide +kernel
theorem dX8_spectrum_82 : decode cX8_spectrum 82 = .ok (.iload 7, 2) := by decide +kernel
theorem dX8_spectrum_84 : decode cX8_spectrum 84 = .ok (.iadd, 1) := by decide +kernel
theorem dX8_spectrum_85 : decode cX8_spectrum 85 = .ok (.istore 5, 2) := by decide +kernel
theorem dX8_spectrum_87 : decode cX8_spectrum 87 = .ok (.iinc 6 1, 3) := by decide +kernel
theorem dX8_spectrum_90 : decode cX8_spectrum 90 = .ok (.goto (-47), 3) := by decide +kernel
theorem dX8_spectrum_93 : decode cX8_spectrum 93 = .ok (.iload 5, 2) := by decide +kernel
theorem dX8_spectrum_95 : decode cX8_spectrum 95 = .ok (.ireturn, 1) := by decide +kernel
theorem dX8_field_0 : decode cX8_field 0 = .ok (.iload_n 1, 1) := by decide +kernel
theorem dX8_field_1 : decode cX8_field 1 = .ok (.invokestatic 85, 3) := by decide +kernel
theorem dX8_field_4 : decode cX8_field 4 = .ok (.ifCond .eq 21, 3) := by decide +kernel
theorem dX8_field_7 : decode cX8_field 7 = .ok (.iload_n 2, 1) := by decide +kernel
theorem dX8_field_8 : decode cX8_field 8 = .ok (.ifCond .lt 17, 3) := by decide +kernel
theorem dX8_field_11 : decode cX8_field 11 = .ok (.iload_n 2, 1) := by decide +kernel
theorem dX8_field_12 : decode cX8_field 12 = .ok (.iload_n 1, 1) := by decide +kernel
theorem dX8_field_13 : decode cX8_field 13 = .ok (.if_icmp .ge 12, 3) := by decide +kernel
theorem dX8_field_16 : decode cX8_field 16 = .ok (.iload_n 3, 1) := by decide +kernel
theorem dX8_field_17 : decode cX8_field 17 = .ok (.ifCond .lt 8, 3) := by decide +kernel
theorem dX8_field_20 : decode cX8_field 20 = .ok (.iload_n 3, 1) := by decide +kernel
theorem dX8_field_21 : decode cX8_field 21 = .ok (.iload_n 1, 1) := by decide +kernel
theorem dX8_field_22 : decode cX8_field 22 = .ok (.if_icmp .lt 5, 3) := by decide +kernel
theorem dX8_field_25 : decode cX8_field 25 = .ok (.iconst (-1), 1) := by decide +kernel
theorem dX8_field_26 : decode cX8_field 26 = .ok (.ireturn, 1) := by decide +kernel
theorem dX8_field_27 : decode cX8_field 27 = .ok (.iload 4, 2) := by decide +kernel
theorem dX8_field_29 : decode cX8_field 29 = .ok (.tableswitch 69 0 3 #[31, 38, 45, 52], 31) := by decide +kernel
theorem dX8_field_60 : decode cX8_field 60 = .ok (.iload_n 1, 1) := by decide +kernel
theorem dX8_field_61 : decode cX8_field 61 = .ok (.iload_n 2, 1) := by decide +kernel
theorem dX8_field_62 : decode cX8_field 62 = .ok (.iload_n 3, 1) := by decide +kernel
theorem dX8_field_63 : decode cX8_field 63 = .ok (.invokestatic 275, 3) := by decide +kernel
theorem dX8_field_66 : decode cX8_field 66 = .ok (.ireturn, 1) := by decide +kernel
theorem dX8_field_67 : decode cX8_field 67 = .ok (.iload_n 1, 1) := by decide +kernel
theorem dX8_field_68 : decode cX8_field 68 = .ok (.iload_n 2, 1) := by decide +kernel
theorem dX8_field_69 : decode cX8_field 69 = .ok (.iload_n 3, 1) := by decide +kernel
theorem dX8_field_70 : decode cX8_field 70 = .ok (.invokestatic 278, 3) := by decide +kernel
theorem dX8_field_73 : decode cX8_field 73 = .ok (.ireturn, 1) := by decide +kernel
theorem dX8_field_74 : decode cX8_field 74 = .ok (.iload_n 1, 1) := by decide +kernel
theorem dX8_field_75 : decode cX8_field 75 = .ok (.iload_n 2, 1) := by decide +kernel
theorem dX8_field_76 : decode cX8_field 76 = .ok (.iload_n 3, 1) := by decide +kernel
theorem dX8_field_77 : decode cX8_field 77 = .ok (.invokestatic 102, 3) := by decide +kernel
theorem dX8_field_80 : decode cX8_field 80 = .ok (.ireturn, 1) := by decide +kernel
theorem dX8_field_81 : decode cX8_field 81 = .ok (.iload_n 1, 1) := by decide +kernel
theorem dX8_field_82 : decode cX8_field 82 = .ok (.invokestatic 95, 3) := by decide +kernel
theorem dX8_field_85 : decode cX8_field 85 = .ok (.iload_n 2, 1) := by decide +kernel
theorem dX8_field_86 : decode cX8_field 86 = .ok (.invokestatic 106, 3) := by decide +kernel
theorem dX8_field_89 : decode cX8_field 89 = .ok (.ifCond .eq 7, 3) := by decide +kernel
theorem dX8_field_92 : decode cX8_field 92 = .ok (.iconst 1, 1) := by decide +kernel
theorem dX8_field_93 : decode cX8_field 93 = .ok (.goto 4, 3) := by decide +kernel
theorem dX8_field_96 : decode cX8_field 96 = .ok (.iconst 0, 1) := by decide +kernel
theorem dX8_field_97 : decode cX8_field 97 = .ok (.ireturn, 1) := by decide +kernel
theorem dX8_field_98 : decode cX8_field 98 = .ok (.iconst (-1), 1) := by decide +kernel
theorem dX8_field_99 : decode cX8_field 99 = .ok (.ireturn, 1) := by decide +kernel
theorem dX8_fours_0 : decode cX8_fours 0 = .ok (.iload_n 1, 1) := by decide +kernel
theorem dX8_fours_1 : decode cX8_fours 1 = .ok (.iconst 1, 1) := by decide +kernel
theorem dX8_fours_2 : decode cX8_fours 2 = .ok (.if_icmp .eq 21, 3) := by decide +kernel
theorem dX8_fours_5 : decode cX8_fours 5 = .ok (.iload_n 1, 1) := by decide +kernel
theorem dX8_fours_6 : decode cX8_fours 6 = .ok (.iconst 3, 1) := by decide +kernel
theorem dX8_fours_7 : decode cX8_fours 7 = .ok (.if_icmp .eq 16, 3) := by decide +kernel
theorem dX8_fours_10 : decode cX8_fours 10 = .ok (.iload_n 1, 1) := by decide +kernel
theorem dX8_fours_11 : decode cX8_fours 11 = .ok (.iconst 5, 1) := by decide +kernel
theorem dX8_fours_12 : decode cX8_fours 12 = .ok (.if_icmp .eq 11, 3) := by decide +kernel
theorem dX8_fours_15 : decode cX8_fours 15 = .ok (.iload_n 1, 1) := by decide +kernel
theorem dX8_fours_16 : decode cX8_fours 16 = .ok (.bipush 7, 2) := by decide +kernel
theorem dX8_fours_18 : decode cX8_fours 18 = .ok (.if_icmp .eq 5, 3) := by decide +kernel
theorem dX8_fours_21 : decode cX8_fours 21 = .ok (.iconst (-1), 1) := by decide +kernel
theorem dX8_fours_22 : decode cX8_fours 22 = .ok (.ireturn, 1) := by decide +kernel
theorem dX8_fours_23 : decode cX8_fours 23 = .ok (.iload_n 2, 1) := by decide +kernel
theorem dX8_fours_24 : decode cX8_fours 24 = .ok (.iconst (-1), 1) := by decide +kernel
theorem dX8_fours_25 : decode cX8_fours 25 = .ok (.if_icmp .ne 21, 3) := by decide +kernel
theorem dX8_fours_28 : decode cX8_fours 28 = .ok (.iload_n 3, 1) := by decide +kernel
theorem dX8_fours_29 : decode cX8_fours 29 = .ok (.ifCond .ne 15, 3) := by decide +kernel
theorem dX8_fours_32 : decode cX8_fours 32 = .ok (.aload_n 0, 1) := by decide +kernel
theorem dX8_fours_33 : decode cX8_fours 33 = .ok (.getfield 64, 3) := by decide +kernel
theorem dX8_fours_36 : decode cX8_fours 36 = .ok (.iload_n 1, 1) := by decide +kernel
theorem dX8_fours_37 : decode cX8_fours 37 = .ok (.iconst (-1), 1) := by decide +kernel
theorem dX8_fours_38 : decode cX8_fours 38 = .ok (.invokevirtual 281, 3) := by decide +kernel
theorem dX8_fours_41 : decode cX8_fours 41 = .ok (.goto 4, 3) := by decide +kernel
theorem dX8_fours_44 : decode cX8_fours 44 = .ok (.iconst (-1), 1) := by decide +kernel
theorem dX8_fours_45 : decode cX8_fours 45 = .ok (.ireturn, 1) := by decide +kernel
theorem dX8_fours_46 : decode cX8_fours 46 = .ok (.iload_n 2, 1) := by decide +kernel
theorem dX8_fours_47 : decode cX8_fours 47 = .ok (.ifCond .lt 25, 3) := by decide +kernel
theorem dX8_fours_50 : decode cX8_fours 50 = .ok (.iload_n 3, 1) := by decide +kernel
theorem dX8_fours_51 : decode cX8_fours 51 = .ok (.ifCond .lt 21, 3) := by decide +kernel
theorem dX8_fours_54 : decode cX8_fours 54 = .ok (.iload_n 3, 1) := by decide +kernel
theorem dX8_fours_55 : decode cX8_fours 55 = .ok (.iconst 3, 1) := by decide +kernel
theorem dX8_fours_56 : decode cX8_fours 56 = .ok (.if_icmp .gt 16, 3) := by decide +kernel
theorem dX8_fours_59 : decode cX8_fours 59 = .ok (.aload_n 0, 1) := by decide +kernel
theorem dX8_fours_60 : decode cX8_fours 60 = .ok (.getfield 64, 3) := by decide +kernel
theorem dX8_fours_63 : decode cX8_fours 63 = .ok (.iload_n 1, 1) := by decide +kernel
theorem dX8_fours_64 : decode cX8_fours 64 = .ok (.iload_n 2, 1) := by decide +kernel
theorem dX8_fours_65 : decode cX8_fours 65 = .ok (.invokevirtual 281, 3) := by decide +kernel
theorem dX8_fours_68 : decode cX8_fours 68 = .ok (.iload_n 2, 1) := by decide +kernel
theorem dX8_fours_69 : decode cX8_fours 69 = .ok (.if_icmp .gt 5, 3) := by decide +kernel
theorem dX8_fours_72 : decode cX8_fours 72 = .ok (.iconst (-1), 1) := by decide +kernel
theorem dX8_fours_73 : decode cX8_fours 73 = .ok (.ireturn, 1) := by decide +kernel
theorem dX8_fours_74 : decode cX8_fours 74 = .ok (.aload_n 0, 1) := by decide +kernel
theorem dX8_fours_75 : decode cX8_fours 75 = .ok (.getfield 64, 3) := by decide +kernel
theorem dX8_fours_78 : decode cX8_fours 78 = .ok (.getfield 284, 3) := by decide +kernel
theorem dX8_fours_81 : decode cX8_fours 81 = .ok (.iload_n 3, 1) := by decide +kernel
theorem dX8_fours_82 : decode cX8_fours 82 = .ok (.iaload, 1) := by decide +kernel
theorem dX8_fours_83 : decode cX8_fours 83 = .ok (.ireturn, 1) := by decide +kernel
theorem dX8_count_0 : decode cX8_count 0 = .ok (.iload_n 1, 1) := by decide +kernel
theorem dX8_count_1 : decode cX8_count 1 = .ok (.tableswitch 54 0 3 #[31, 39, 44, 49], 31) := by decide +kernel
theorem dX8_count_32 : decode cX8_count 32 = .ok (.aload_n 0, 1) := by decide +kernel
theorem dX8_count_33 : decode cX8_count 33 = .ok (.invokevirtual 287, 3) := by decide +kernel
theorem dX8_count_36 : decode cX8_count 36 = .ok (.invokestatic 258, 3) := by decide +kernel
theorem dX8_count_39 : decode cX8_count 39 = .ok (.ireturn, 1) := by decide +kernel
theorem dX8_count_40 : decode cX8_count 40 = .ok (.aload_n 0, 1) := by decide +kernel
theorem dX8_count_41 : decode cX8_count 41 = .ok (.invokevirtual 287, 3) := by decide +kernel
theorem dX8_count_44 : decode cX8_count 44 = .ok (.ireturn, 1) := by decide +kernel
theorem dX8_count_45 : decode cX8_count 45 = .ok (.aload_n 0, 1) := by decide +kernel
theorem dX8_count_46 : decode cX8_count 46 = .ok (.getfield 68, 3) := by decide +kernel
theorem dX8_count_49 : decode cX8_count 49 = .ok (.ireturn, 1) := by decide +kernel
theorem dX8_count_50 : decode cX8_count 50 = .ok (.aload_n 0, 1) := by decide +kernel
theorem dX8_count_51 : decode cX8_count 51 = .ok (.invokevirtual 290, 3) := by decide +kernel
theorem dX8_count_54 : decode cX8_count 54 = .ok (.ireturn, 1) := by decide +kernel
theorem dX8_count_55 : decode cX8_count 55 = .ok (.iconst (-1), 1) := by decide +kernel
theorem dX8_count_56 : decode cX8_count 56 = .ok (.ireturn, 1) := by decide +kernel
theorem dX8_tableAt_0 : decode cX8_tableAt 0 = .ok (.iload_n 1, 1) := by decide +kernel
theorem dX8_tableAt_1 : decode cX8_tableAt 1 = .ok (.ifCond .lt 21, 3) := by decide +kernel
theorem dX8_tableAt_4 : decode cX8_tableAt 4 = .ok (.iload_n 1, 1) := by decide +kernel
theorem dX8_tableAt_5 : decode cX8_tableAt 5 = .ok (.bipush 6, 2) := by decide +kernel
theorem dX8_tableAt_7 : decode cX8_tableAt 7 = .ok (.if_icmp .ge 15, 3) := by decide +kernel
theorem dX8_tableAt_10 : decode cX8_tableAt 10 = .ok (.aload_n 0, 1) := by decide +kernel
theorem dX8_tableAt_11 : decode cX8_tableAt 11 = .ok (.getfield 11, 3) := by decide +kernel
theorem dX8_tableAt_14 : decode cX8_tableAt 14 = .ok (.iload_n 1, 1) := by decide +kernel
theorem dX8_tableAt_15 : decode cX8_tableAt 15 = .ok (.aaload, 1) := by decide +kernel
theorem dX8_tableAt_16 : decode cX8_tableAt 16 = .ok (.getfield 122, 3) := by decide +kernel
theorem dX8_tableAt_19 : decode cX8_tableAt 19 = .ok (.ifCond .ne 5, 3) := by decide +kernel
theorem dX8_tableAt_22 : decode cX8_tableAt 22 = .ok (.aconst_null, 1) := by decide +kernel
theorem dX8_tableAt_23 : decode cX8_tableAt 23 = .ok (.areturn, 1) := by decide +kernel
theorem dX8_tableAt_24 : decode cX8_tableAt 24 = .ok (.aload_n 0, 1) := by decide +kernel
theorem dX8_tableAt_25 : decode cX8_tableAt 25 = .ok (.getfield 11, 3) := by decide +kernel
theorem dX8_tableAt_28 : decode cX8_tableAt 28 = .ok (.iload_n 1, 1) := by decide +kernel
theorem dX8_tableAt_29 : decode cX8_tableAt 29 = .ok (.aaload, 1) := by decide +kernel
theorem dX8_tableAt_30 : decode cX8_tableAt 30 = .ok (.areturn, 1) := by decide +kernel
theorem dX8_emptyPlace_0 : decode cX8_emptyPlace 0 = .ok (.iconst 0, 1) := by decide +kernel
theorem dX8_emptyPlace_1 : decode cX8_emptyPlace 1 = .ok (.istore_n 1, 1) := by decide +kernel
theorem dX8_emptyPlace_2 : decode cX8_emptyPlace 2 = .ok (.iload_n 1, 1) := by decide +kernel
theorem dX8_emptyPlace_3 : decode cX8_emptyPlace 3 = .ok (.bipush 6, 2) := by decide +kernel
theorem dX8_emptyPlace_5 : decode cX8_emptyPlace 5 = .ok (.if_icmp .ge 23, 3) := by decide +kernel
theorem dX8_emptyPlace_8 : decode cX8_emptyPlace 8 = .ok (.aload_n 0, 1) := by decide +kernel
theorem dX8_emptyPlace_9 : decode cX8_emptyPlace 9 = .ok (.getfield 11, 3) := by decide +kernel
theorem dX8_emptyPlace_12 : decode cX8_emptyPlace 12 = .ok (.iload_n 1, 1) := by decide +kernel
theorem dX8_emptyPlace_13 : decode cX8_emptyPlace 13 = .ok (.aaload, 1) := by decide +kernel
theorem dX8_emptyPlace_14 : decode cX8_emptyPlace 14 = .ok (.getfield 122, 3) := by decide +kernel
theorem dX8_emptyPlace_17 : decode cX8_emptyPlace 17 = .ok (.ifCond .ne 5, 3) := by decide +kernel
theorem dX8_emptyPlace_20 : decode cX8_emptyPlace 20 = .ok (.iload_n 1, 1) := by decide +kernel
theorem dX8_emptyPlace_21 : decode cX8_emptyPlace 21 = .ok (.ireturn, 1) := by decide +kernel
theorem dX8_emptyPlace_22 : decode cX8_emptyPlace 22 = .ok (.iinc 1 1, 3) := by decide +kernel
theorem dX8_emptyPlace_25 : decode cX8_emptyPlace 25 = .ok (.goto (-23), 3) := by decide +kernel
theorem dX8_emptyPlace_28 : decode cX8_emptyPlace 28 = .ok (.iconst (-1), 1) := by decide +kernel
theorem dX8_emptyPlace_29 : decode cX8_emptyPlace 29 = .ok (.ireturn, 1) := by decide +kernel
theorem dX8_filledPlaces_0 : decode cX8_filledPlaces 0 = .ok (.iconst 0, 1) := by decide +kernel
theorem dX8_filledPlaces_1 : decode cX8_filledPlaces 1 = .ok (.istore_n 1, 1) := by decide +kernel
theorem dX8_filledPlaces_2 : decode cX8_filledPlaces 2 = .ok (.iconst 0, 1) := by decide +kernel
theorem dX8_filledPlaces_3 : decode cX8_filledPlaces 3 = .ok (.istore_n 2, 1) := by decide +kernel
theorem dX8_filledPlaces_4 : decode cX8_filledPlaces 4 = .ok (.iload_n 2, 1) := by decide +kernel
theorem dX8_filledPlaces_5 : decode cX8_filledPlaces 5 = .ok (.bipush 6, 2) := by decide +kernel
theorem dX8_filledPlaces_7 : decode cX8_filledPlaces 7 = .ok (.if_icmp .ge 27, 3) := by decide +kernel
theorem dX8_filledPlaces_10 : decode cX8_filledPlaces 10 = .ok (.aload_n 0, 1) := by decide +kernel
theorem dX8_filledPlaces_11 : decode cX8_filledPlaces 11 = .ok (.getfield 11, 3) := by decide +kernel
theorem dX8_filledPlaces_14 : decode cX8_filledPlaces 14 = .ok (.iload_n 2, 1) := by decide +kernel
theorem dX8_filledPlaces_15 : decode cX8_filledPlaces 15 = .ok (.aaload, 1) := by decide +kernel
theorem dX8_filledPlaces_16 : decode cX8_filledPlaces 16 = .ok (.getfield 122, 3) := by decide +kernel
theorem dX8_filledPlaces_19 : decode cX8_filledPlaces 19 = .ok (.ifCond .le 9, 3) := by decide +kernel
theorem dX8_filledPlaces_22 : decode cX8_filledPlaces 22 = .ok (.iload_n 1, 1) := by decide +kernel
theorem dX8_filledPlaces_23 : decode cX8_filledPlaces 23 = .ok (.iconst 1, 1) := by decide +kernel
theorem dX8_filledPlaces_24 : decode cX8_filledPlaces 24 = .ok (.iload_n 2, 1) := by decide +kernel
theorem dX8_filledPlaces_25 : decode cX8_filledPlaces 25 = .ok (.ishl, 1) := by decide +kernel
theorem dX8_filledPlaces_26 : decode cX8_filledPlaces 26 = .ok (.ior, 1) := by decide +kernel
theorem dX8_filledPlaces_27 : decode cX8_filledPlaces 27 = .ok (.istore_n 1, 1) := by decide +kernel
theorem dX8_filledPlaces_28 : decode cX8_filledPlaces 28 = .ok (.iinc 2 1, 3) := by decide +kernel
theorem dX8_filledPlaces_31 : decode cX8_filledPlaces 31 = .ok (.goto (-27), 3) := by decide +kernel
theorem dX8_filledPlaces_34 : decode cX8_filledPlaces 34 = .ok (.iload_n 1, 1) := by decide +kernel
theorem dX8_filledPlaces_35 : decode cX8_filledPlaces 35 = .ok (.ireturn, 1) := by decide +kernel
theorem dX8_perpendicularPlaces_0 : decode cX8_perpendicularPlaces 0 = .ok (.iconst 0, 1) := by decide +kernel
theorem dX8_perpendicularPlaces_1 : decode cX8_perpendicularPlaces 1 = .ok (.istore_n 1, 1) := by decide +kernel
theorem dX8_perpendicularPlaces_2 : decode cX8_perpendicularPlaces 2 = .ok (.iconst 0, 1) := by decide +kernel
theorem dX8_perpendicularPlaces_3 : decode cX8_perpendicularPlaces 3 = .ok (.istore_n 2, 1) := by decide +kernel
theorem dX8_perpendicularPlaces_4 : decode cX8_perpendicularPlaces 4 = .ok (.iload_n 2, 1) := by decide +kernel
theorem dX8_perpendicularPlaces_5 : decode cX8_perpendicularPlaces 5 = .ok (.bipush 6, 2) := by decide +kernel
theorem dX8_perpendicularPlaces_7 : decode cX8_perpendicularPlaces 7 = .ok (.if_icmp .ge 41, 3) := by decide +kernel
theorem dX8_perpendicularPlaces_10 : decode cX8_perpendicularPlaces 10 = .ok (.aload_n 0, 1) := by decide +kernel
theorem dX8_perpendicularPlaces_11 : decode cX8_perpendicularPlaces 11 = .ok (.getfield 11, 3) := by decide +kernel
theorem dX8_perpendicularPlaces_14 : decode cX8_perpendicularPlaces 14 = .ok (.iload_n 2, 1) := by decide +kernel
theorem dX8_perpendicularPlaces_15 : decode cX8_perpendicularPlaces 15 = .ok (.aaload, 1) := by decide +kernel
theorem dX8_perpendicularPlaces_16 : decode cX8_perpendicularPlaces 16 = .ok (.getfield 122, 3) := by decide +kernel
theorem dX8_perpendicularPlaces_19 : decode cX8_perpendicularPlaces 19 = .ok (.ifCond .le 23, 3) := by decide +kernel
theorem dX8_perpendicularPlaces_22 : decode cX8_perpendicularPlaces 22 = .ok (.aload_n 0, 1) := by decide +kernel
theorem dX8_perpendicularPlaces_23 : decode cX8_perpendicularPlaces 23 = .ok (.getfield 11, 3) := by decide +kernel
theorem dX8_perpendicularPlaces_26 : decode cX8_perpendicularPlaces 26 = .ok (.iload_n 2, 1) := by decide +kernel
theorem dX8_perpendicularPlaces_27 : decode cX8_perpendicularPlaces 27 = .ok (.aaload, 1) := by decide +kernel
theorem dX8_perpendicularPlaces_28 : decode cX8_perpendicularPlaces 28 = .ok (.invokevirtual 189, 3) := by decide +kernel
theorem dX8_perpendicularPlaces_31 : decode cX8_perpendicularPlaces 31 = .ok (.bipush (-2), 2) := by decide +kernel
theorem dX8_perpendicularPlaces_33 : decode cX8_perpendicularPlaces 33 = .ok (.if_icmp .ne 9, 3) := by decide +kernel
theorem dX8_perpendicularPlaces_36 : decode cX8_perpendicularPlaces 36 = .ok (.iload_n 1, 1) := by decide +kernel
theorem dX8_perpendicularPlaces_37 : decode cX8_perpendicularPlaces 37 = .ok (.iconst 1, 1) := by decide +kernel
theorem dX8_perpendicularPlaces_38 : decode cX8_perpendicularPlaces 38 = .ok (.iload_n 2, 1) := by decide +kernel
theorem dX8_perpendicularPlaces_39 : decode cX8_perpendicularPlaces 39 = .ok (.ishl, 1) := by decide +kernel
theorem dX8_perpendicularPlaces_40 : decode cX8_perpendicularPlaces 40 = .ok (.ior, 1) := by decide +kernel
theorem dX8_perpendicularPlaces_41 : decode cX8_perpendicularPlaces 41 = .ok (.istore_n 1, 1) := by decide +kernel
theorem dX8_perpendicularPlaces_42 : decode cX8_perpendicularPlaces 42 = .ok (.iinc 2 1, 3) := by decide +kernel
theorem dX8_perpendicularPlaces_45 : decode cX8_perpendicularPlaces 45 = .ok (.goto (-41), 3) := by decide +kernel
theorem dX8_perpendicularPlaces_48 : decode cX8_perpendicularPlaces 48 = .ok (.iload_n 1, 1) := by decide +kernel
theorem dX8_perpendicularPlaces_49 : decode cX8_perpendicularPlaces 49 = .ok (.ireturn, 1) := by decide +kernel
theorem dX8_toldFits_0 : decode cX8_toldFits 0 = .ok (.iconst 0, 1) := by decide +kernel
theorem dX8_toldFits_1 : decode cX8_toldFits 1 = .ok (.istore_n 2, 1) := by decide +kernel
theorem dX8_toldFits_2 : decode cX8_toldFits 2 = .ok (.iload_n 2, 1) := by decide +kernel
theorem dX8_toldFits_3 : decode cX8_toldFits 3 = .ok (.aload_n 0, 1) := by decide +kernel
theorem dX8_toldFits_4 : decode cX8_toldFits 4 = .ok (.getfield 68, 3) := by decide +kernel
theorem dX8_toldFits_7 : decode cX8_toldFits 7 = .ok (.if_icmp .ge 24, 3) := by decide +kernel
theorem dX8_toldFits_10 : decode cX8_toldFits 10 = .ok (.aload_n 0, 1) := by decide +kernel
theorem dX8_toldFits_11 : decode cX8_toldFits 11 = .ok (.getfield 16, 3) := by decide +kernel
theorem dX8_toldFits_14 : decode cX8_toldFits 14 = .ok (.iload_n 2, 1) := by decide +kernel
theorem dX8_toldFits_15 : decode cX8_toldFits 15 = .ok (.iaload, 1) := by decide +kernel
theorem dX8_toldFits_16 : decode cX8_toldFits 16 = .ok (.iload_n 1, 1) := by decide +kernel
theorem dX8_toldFits_17 : decode cX8_toldFits 17 = .ok (.invokestatic 135, 3) := by decide +kernel
theorem dX8_toldFits_20 : decode cX8_toldFits 20 = .ok (.ifCond .ne 5, 3) := by decide +kernel
theorem dX8_toldFits_23 : decode cX8_toldFits 23 = .ok (.iconst 0, 1) := by decide +kernel
theorem dX8_toldFits_24 : decode cX8_toldFits 24 = .ok (.ireturn, 1) := by decide +kernel
theorem dX8_toldFits_25 : decode cX8_toldFits 25 = .ok (.iinc 2 1, 3) := by decide +kernel
theorem dX8_toldFits_28 : decode cX8_toldFits 28 = .ok (.goto (-26), 3) := by decide +kernel
theorem dX8_toldFits_31 : decode cX8_toldFits 31 = .ok (.iconst 1, 1) := by decide +kernel
theorem dX8_toldFits_32 : decode cX8_toldFits 32 = .ok (.ireturn, 1) := by decide +kernel
theorem dX8_rowSpectrum_0 : decode cX8_rowSpectrum 0 = .ok (.iconst 0, 1) := by decide +kernel
theorem dX8_rowSpectrum_1 : decode cX8_rowSpectrum 1 = .ok (.istore_n 3, 1) := by decide +kernel
theorem dX8_rowSpectrum_2 : decode cX8_rowSpectrum 2 = .ok (.iconst 0, 1) := by decide +kernel
theorem dX8_rowSpectrum_3 : decode cX8_rowSpectrum 3 = .ok (.istore 4, 2) := by decide +kernel
theorem dX8_rowSpectrum_5 : decode cX8_rowSpectrum 5 = .ok (.iload 4, 2) := by decide +kernel
theorem dX8_rowSpectrum_7 : decode cX8_rowSpectrum 7 = .ok (.aload_n 1, 1) := by decide +kernel
theorem dX8_rowSpectrum_8 : decode cX8_rowSpectrum 8 = .ok (.getfield 122, 3) := by decide +kernel
theorem dX8_rowSpectrum_11 : decode cX8_rowSpectrum 11 = .ok (.if_icmp .ge 40, 3) := by decide +kernel
theorem dX8_rowSpectrum_14 : decode cX8_rowSpectrum 14 = .ok (.iload_n 3, 1) := by decide +kernel
theorem dX8_rowSpectrum_15 : decode cX8_rowSpectrum 15 = .ok (.aload_n 1, 1) := by decide +kernel
theorem dX8_rowSpectrum_16 : decode cX8_rowSpectrum 16 = .ok (.iload_n 2, 1) := by decide +kernel
theorem dX8_rowSpectrum_17 : decode cX8_rowSpectrum 17 = .ok (.iload 4, 2) := by decide +kernel
theorem dX8_rowSpectrum_19 : decode cX8_rowSpectrum 19 = .ok (.invokevirtual 168, 3) := by decide +kernel
theorem dX8_rowSpectrum_22 : decode cX8_rowSpectrum 22 = .ok (.ifCond .eq 14, 3) := by decide +kernel
theorem dX8_rowSpectrum_25 : decode cX8_rowSpectrum 25 = .ok (.aload_n 0, 1) := by decide +kernel
theorem dX8_rowSpectrum_26 : decode cX8_rowSpectrum 26 = .ok (.getfield 20, 3) := by decide +kernel
theorem dX8_rowSpectrum_29 : decode cX8_rowSpectrum 29 = .ok (.iload 4, 2) := by decide +kernel
theorem dX8_rowSpectrum_31 : decode cX8_rowSpectrum 31 = .ok (.iaload, 1) := by decide +kernel
theorem dX8_rowSpectrum_32 : decode cX8_rowSpectrum 32 = .ok (.ineg, 1) := by decide +kernel
theorem dX8_rowSpectrum_33 : decode cX8_rowSpectrum 33 = .ok (.goto 10, 3) := by decide +kernel
theorem dX8_rowSpectrum_36 : decode cX8_rowSpectrum 36 = .ok (.aload_n 0, 1) := by decide +kernel
theorem dX8_rowSpectrum_37 : decode cX8_rowSpectrum 37 = .ok (.getfield 20, 3) := by decide +kernel
theorem dX8_rowSpectrum_40 : decode cX8_rowSpectrum 40 = .ok (.iload 4, 2) := by decide +kernel
theorem dX8_rowSpectrum_42 : decode cX8_rowSpectrum 42 = .ok (.iaload, 1) := by decide +kernel
theorem dX8_rowSpectrum_43 : decode cX8_rowSpectrum 43 = .ok (.iadd, 1) := by decide +kernel
theorem dX8_rowSpectrum_44 : decode cX8_rowSpectrum 44 = .ok (.istore_n 3, 1) := by decide +kernel
theorem dX8_rowSpectrum_45 : decode cX8_rowSpectrum 45 = .ok (.iinc 4 1, 3) := by decide +kernel
theorem dX8_rowSpectrum_48 : decode cX8_rowSpectrum 48 = .ok (.goto (-43), 3) := by decide +kernel
theorem dX8_rowSpectrum_51 : decode cX8_rowSpectrum 51 = .ok (.iload_n 3, 1) := by decide +kernel
theorem dX8_rowSpectrum_52 : decode cX8_rowSpectrum 52 = .ok (.ireturn, 1) := by decide +kernel
theorem dX8_countTriples_0 : decode cX8_countTriples 0 = .ok (.iconst 0, 1) := by decide +kernel
theorem dX8_countTriples_1 : decode cX8_countTriples 1 = .ok (.istore 6, 2) := by decide +kernel
theorem dX8_countTriples_3 : decode cX8_countTriples 3 = .ok (.iload_n 2, 1) := by decide +kernel
theorem dX8_countTriples_4 : decode cX8_countTriples 4 = .ok (.istore 7, 2) := by decide +kernel
theorem dX8_countTriples_6 : decode cX8_countTriples 6 = .ok (.iload 7, 2) := by decide +kernel
theorem dX8_countTriples_8 : decode cX8_countTriples 8 = .ok (.iload_n 1, 1) := by decide +kernel
theorem dX8_countTriples_9 : decode cX8_countTriples 9 = .ok (.if_icmp .ge 108, 3) := by decide +kernel
theorem dX8_countTriples_12 : decode cX8_countTriples 12 = .ok (.iload 7, 2) := by decide +kernel
theorem dX8_countTriples_14 : decode cX8_countTriples 14 = .ok (.iconst 1, 1) := by decide +kernel
theorem dX8_countTriples_15 : decode cX8_countTriples 15 = .ok (.iadd, 1) := by decide +kernel
theorem dX8_countTriples_16 : decode cX8_countTriples 16 = .ok (.istore 8, 2) := by decide +kernel
theorem dX8_countTriples_18 : decode cX8_countTriples 18 = .ok (.iload 8, 2) := by decide +kernel
theorem dX8_countTriples_20 : decode cX8_countTriples 20 = .ok (.iload_n 1, 1) := by decide +kernel
theorem dX8_countTriples_21 : decode cX8_countTriples 21 = .ok (.if_icmp .ge 90, 3) := by decide +kernel
theorem dX8_countTriples_24 : decode cX8_countTriples 24 = .ok (.iload 7, 2) := by decide +kernel
theorem dX8_countTriples_26 : decode cX8_countTriples 26 = .ok (.iload_n 3, 1) := by decide +kernel
theorem dX8_countTriples_27 : decode cX8_countTriples 27 = .ok (.if_icmp .eq 84, 3) := by decide +kernel
theorem dX8_countTriples_30 : decode cX8_countTriples 30 = .ok (.iload 4, 2) := by decide +kernel
theorem dX8_countTriples_32 : decode cX8_countTriples 32 = .ok (.aload_n 0, 1) := by decide +kernel
theorem dX8_countTriples_33 : decode cX8_countTriples 33 = .ok (.getfield 23, 3) := by decide +kernel
theorem dX8_countTriples_36 : decode cX8_countTriples 36 = .ok (.iload 7, 2) := by decide +kernel
theorem dX8_countTriples_38 : decode cX8_countTriples 38 = .ok (.iaload, 1) := by decide +kernel
theorem dX8_countTriples_39 : decode cX8_countTriples 39 = .ok (.ixor, 1) := by decide +kernel
theorem dX8_countTriples_40 : decode cX8_countTriples 40 = .ok (.aload_n 0, 1) := by decide +kernel
theorem dX8_countTriples_41 : decode cX8_countTriples 41 = .ok (.getfield 23, 3) := by decide +kernel
theorem dX8_countTriples_44 : decode cX8_countTriples 44 = .ok (.iload 8, 2) := by decide +kernel
theorem dX8_countTriples_46 : decode cX8_countTriples 46 = .ok (.iaload, 1) := by decide +kernel
theorem dX8_countTriples_47 : decode cX8_countTriples 47 = .ok (.ixor, 1) := by decide +kernel
theorem dX8_countTriples_48 : decode cX8_countTriples 48 = .ok (.istore 9, 2) := by decide +kernel
theorem dX8_countTriples_50 : decode cX8_countTriples 50 = .ok (.iload 8, 2) := by decide +kernel
theorem dX8_countTriples_52 : decode cX8_countTriples 52 = .ok (.iconst 1, 1) := by decide +kernel
theorem dX8_countTriples_53 : decode cX8_countTriples 53 = .ok (.iadd, 1) := by decide +kernel
theorem dX8_countTriples_54 : decode cX8_countTriples 54 = .ok (.istore 10, 2) := by decide +kernel
theorem dX8_countTriples_56 : decode cX8_countTriples 56 = .ok (.iload 10, 2) := by decide +kernel
theorem dX8_countTriples_58 : decode cX8_countTriples 58 = .ok (.iload_n 1, 1) := by decide +kernel
theorem dX8_countTriples_59 : decode cX8_countTriples 59 = .ok (.if_icmp .ge 46, 3) := by decide +kernel
theorem dX8_countTriples_62 : decode cX8_countTriples 62 = .ok (.iload 8, 2) := by decide +kernel
theorem dX8_countTriples_64 : decode cX8_countTriples 64 = .ok (.iload_n 3, 1) := by decide +kernel
theorem dX8_countTriples_65 : decode cX8_countTriples 65 = .ok (.if_icmp .eq 40, 3) := by decide +kernel
theorem dX8_countTriples_68 : decode cX8_countTriples 68 = .ok (.iload 10, 2) := by decide +kernel
theorem dX8_countTriples_70 : decode cX8_countTriples 70 = .ok (.iload_n 3, 1) := by decide +kernel
theorem dX8_countTriples_71 : decode cX8_countTriples 71 = .ok (.if_icmp .eq 28, 3) := by decide +kernel
theorem dX8_countTriples_74 : decode cX8_countTriples 74 = .ok (.iload 9, 2) := by decide +kernel
theorem dX8_countTriples_76 : decode cX8_countTriples 76 = .ok (.aload_n 0, 1) := by decide +kernel
theorem dX8_countTriples_77 : decode cX8_countTriples 77 = .ok (.getfield 23, 3) := by decide +kernel
theorem dX8_countTriples_80 : decode cX8_countTriples 80 = .ok (.iload 10, 2) := by decide +kernel
theorem dX8_countTriples_82 : decode cX8_countTriples 82 = .ok (.iaload, 1) := by decide +kernel
theorem dX8_countTriples_83 : decode cX8_countTriples 83 = .ok (.ixor, 1) := by decide +kernel
theorem dX8_countTriples_84 : decode cX8_countTriples 84 = .ok (.iload_n 1, 1) := by decide +kernel
theorem dX8_countTriples_85 : decode cX8_countTriples 85 = .ok (.invokestatic 185, 3) := by decide +kernel
theorem dX8_countTriples_88 : decode cX8_countTriples 88 = .ok (.invokestatic 293, 3) := by decide +kernel
theorem dX8_countTriples_91 : decode cX8_countTriples 91 = .ok (.iload 5, 2) := by decide +kernel
theorem dX8_countTriples_93 : decode cX8_countTriples 93 = .ok (.if_icmp .ne 6, 3) := by decide +kernel
theorem dX8_countTriples_96 : decode cX8_countTriples 96 = .ok (.iinc 6 1, 3) := by decide +kernel
theorem dX8_countTriples_99 : decode cX8_countTriples 99 = .ok (.iinc 10 1, 3) := by decide +kernel
theorem dX8_countTriples_102 : decode cX8_countTriples 102 = .ok (.goto (-46), 3) := by decide +kernel
theorem dX8_countTriples_105 : decode cX8_countTriples 105 = .ok (.iinc 8 1, 3) := by decide +kernel
theorem dX8_countTriples_108 : decode cX8_countTriples 108 = .ok (.goto (-90), 3) := by decide +kernel
theorem dX8_countTriples_111 : decode cX8_countTriples 111 = .ok (.iinc 7 1, 3) := by decide +kernel
theorem dX8_countTriples_114 : decode cX8_countTriples 114 = .ok (.goto (-108), 3) := by decide +kernel
theorem dX8_countTriples_117 : decode cX8_countTriples 117 = .ok (.iload 6, 2) := by decide +kernel
theorem dX8_countTriples_119 : decode cX8_countTriples 119 = .ok (.ireturn, 1) := by decide +kernel
theorem dX8_inSet_0 : decode cX8_inSet 0 = .ok (.iload_n 0, 1) := by decide +kernel
theorem dX8_inSet_1 : decode cX8_inSet 1 = .ok (.iload_n 1, 1) := by decide +kernel
theorem dX8_inSet_2 : decode cX8_inSet 2 = .ok (.ishr, 1) := by decide +kernel
theorem dX8_inSet_3 : decode cX8_inSet 3 = .ok (.iconst 1, 1) := by decide +kernel
theorem dX8_inSet_4 : decode cX8_inSet 4 = .ok (.iand, 1) := by decide +kernel
theorem dX8_inSet_5 : decode cX8_inSet 5 = .ok (.ifCond .eq 7, 3) := by decide +kernel
theorem dX8_inSet_8 : decode cX8_inSet 8 = .ok (.iconst 1, 1) := by decide +kernel
theorem dX8_inSet_9 : decode cX8_inSet 9 = .ok (.goto 4, 3) := by decide +kernel
theorem dX8_inSet_12 : decode cX8_inSet 12 = .ok (.iconst 0, 1) := by decide +kernel
theorem dX8_inSet_13 : decode cX8_inSet 13 = .ok (.ireturn, 1) := by decide +kernel
theorem dX8_isWord_0 : decode cX8_isWord 0 = .ok (.iload_n 0, 1) := by decide +kernel
theorem dX8_isWord_1 : decode cX8_isWord 1 = .ok (.ifCond .lt 14, 3) := by decide +kernel
theorem dX8_isWord_4 : decode cX8_isWord 4 = .ok (.iload_n 0, 1) := by decide +kernel
theorem dX8_isWord_5 : decode cX8_isWord 5 = .ok (.iconst 1, 1) := by decide +kernel
theorem dX8_isWord_6 : decode cX8_isWord 6 = .ok (.iload_n 1, 1) := by decide +kernel
theorem dX8_isWord_7 : decode cX8_isWord 7 = .ok (.ishl, 1) := by decide +kernel
theorem dX8_isWord_8 : decode cX8_isWord 8 = .ok (.if_icmp .ge 7, 3) := by decide +kernel
theorem dX8_isWord_11 : decode cX8_isWord 11 = .ok (.iconst 1, 1) := by decide +kernel
theorem dX8_isWord_12 : decode cX8_isWord 12 = .ok (.goto 4, 3) := by decide +kernel
theorem dX8_isWord_15 : decode cX8_isWord 15 = .ok (.iconst 0, 1) := by decide +kernel
theorem dX8_isWord_16 : decode cX8_isWord 16 = .ok (.ireturn, 1) := by decide +kernel
theorem dX8_signSum_0 : decode cX8_signSum 0 = .ok (.iload_n 1, 1) := by decide +kernel
theorem dX8_signSum_1 : decode cX8_signSum 1 = .ok (.iconst 2, 1) := by decide +kernel
theorem dX8_signSum_2 : decode cX8_signSum 2 = .ok (.iload_n 0, 1) := by decide +kernel
theorem dX8_signSum_3 : decode cX8_signSum 3 = .ok (.invokestatic 258, 3) := by decide +kernel
theorem dX8_signSum_6 : decode cX8_signSum 6 = .ok (.imul, 1) := by decide +kernel
theorem dX8_signSum_7 : decode cX8_signSum 7 = .ok (.isub, 1) := by decide +kernel
theorem dX8_signSum_8 : decode cX8_signSum 8 = .ok (.ireturn, 1) := by decide +kernel
theorem dX8_alikeAt_0 : decode cX8_alikeAt 0 = .ok (.iload_n 0, 1) := by decide +kernel
theorem dX8_alikeAt_1 : decode cX8_alikeAt 1 = .ok (.iload_n 1, 1) := by decide +kernel
theorem dX8_alikeAt_2 : decode cX8_alikeAt 2 = .ok (.invokestatic 106, 3) := by decide +kernel
theorem dX8_alikeAt_5 : decode cX8_alikeAt 5 = .ok (.ifCond .eq 7, 3) := by decide +kernel
theorem dX8_alikeAt_8 : decode cX8_alikeAt 8 = .ok (.iload_n 0, 1) := by decide +kernel
theorem dX8_alikeAt_9 : decode cX8_alikeAt 9 = .ok (.goto 6, 3) := by decide +kernel
theorem dX8_alikeAt_12 : decode cX8_alikeAt 12 = .ok (.iload_n 0, 1) := by decide +kernel
theorem dX8_alikeAt_13 : decode cX8_alikeAt 13 = .ok (.iconst (-1), 1) := by decide +kernel
theorem dX8_alikeAt_14 : decode cX8_alikeAt 14 = .ok (.ixor, 1) := by decide +kernel
theorem dX8_alikeAt_15 : decode cX8_alikeAt 15 = .ok (.ireturn, 1) := by decide +kernel
theorem dX8_isAgain_0 : decode cX8_isAgain 0 = .ok (.iconst 1, 1) := by decide +kernel
theorem dX8_isAgain_1 : decode cX8_isAgain 1 = .ok (.iload_n 1, 1) := by decide +kernel
theorem dX8_isAgain_2 : decode cX8_isAgain 2 = .ok (.ishl, 1) := by decide +kernel
theorem dX8_isAgain_3 : decode cX8_isAgain 3 = .ok (.iconst 1, 1) := by decide +kernel
theorem dX8_isAgain_4 : decode cX8_isAgain 4 = .ok (.isub, 1) := by decide +kernel
theorem dX8_isAgain_5 : decode cX8_isAgain 5 = .ok (.istore 4, 2) := by decide +kernel
theorem dX8_isAgain_7 : decode cX8_isAgain 7 = .ok (.iconst 0, 1) := by decide +kernel
theorem dX8_isAgain_8 : decode cX8_isAgain 8 = .ok (.istore 5, 2) := by decide +kernel
theorem dX8_isAgain_10 : decode cX8_isAgain 10 = .ok (.iload 5, 2) := by decide +kernel
theorem dX8_isAgain_12 : decode cX8_isAgain 12 = .ok (.iload_n 2, 1) := by decide +kernel
theorem dX8_isAgain_13 : decode cX8_isAgain 13 = .ok (.if_icmp .ge 48, 3) := by decide +kernel
theorem dX8_isAgain_16 : decode cX8_isAgain 16 = .ok (.iload_n 2, 1) := by decide +kernel
theorem dX8_isAgain_17 : decode cX8_isAgain 17 = .ok (.aload_n 0, 1) := by decide +kernel
theorem dX8_isAgain_18 : decode cX8_isAgain 18 = .ok (.arraylength, 1) := by decide +kernel
theorem dX8_isAgain_19 : decode cX8_isAgain 19 = .ok (.if_icmp .ge 42, 3) := by decide +kernel
theorem dX8_isAgain_22 : decode cX8_isAgain 22 = .ok (.aload_n 0, 1) := by decide +kernel
theorem dX8_isAgain_23 : decode cX8_isAgain 23 = .ok (.iload 5, 2) := by decide +kernel
theorem dX8_isAgain_25 : decode cX8_isAgain 25 = .ok (.iaload, 1) := by decide +kernel
theorem dX8_isAgain_26 : decode cX8_isAgain 26 = .ok (.aload_n 0, 1) := by decide +kernel
theorem dX8_isAgain_27 : decode cX8_isAgain 27 = .ok (.iload_n 2, 1) := by decide +kernel
theorem dX8_isAgain_28 : decode cX8_isAgain 28 = .ok (.iaload, 1) := by decide +kernel
theorem dX8_isAgain_29 : decode cX8_isAgain 29 = .ok (.ixor, 1) := by decide +kernel
theorem dX8_isAgain_30 : decode cX8_isAgain 30 = .ok (.istore 6, 2) := by decide +kernel
theorem dX8_isAgain_32 : decode cX8_isAgain 32 = .ok (.iload_n 3, 1) := by decide +kernel
theorem dX8_isAgain_33 : decode cX8_isAgain 33 = .ok (.iload 5, 2) := by decide +kernel
theorem dX8_isAgain_35 : decode cX8_isAgain 35 = .ok (.invokestatic 106, 3) := by decide +kernel
theorem dX8_isAgain_38 : decode cX8_isAgain 38 = .ok (.ifCond .ne 17, 3) := by decide +kernel
theorem dX8_isAgain_41 : decode cX8_isAgain 41 = .ok (.iload 6, 2) := by decide +kernel
theorem dX8_isAgain_43 : decode cX8_isAgain 43 = .ok (.ifCond .eq 10, 3) := by decide +kernel
theorem dX8_isAgain_46 : decode cX8_isAgain 46 = .ok (.iload 6, 2) := by decide +kernel
theorem dX8_isAgain_48 : decode cX8_isAgain 48 = .ok (.iload 4, 2) := by decide +kernel
theorem dX8_isAgain_50 : decode cX8_isAgain 50 = .ok (.if_icmp .ne 5, 3) := by decide +kernel
theorem dX8_isAgain_53 : decode cX8_isAgain 53 = .ok (.iconst 1, 1) := by decide +kernel
theorem dX8_isAgain_54 : decode cX8_isAgain 54 = .ok (.ireturn, 1) := by decide +kernel
theorem dX8_isAgain_55 : decode cX8_isAgain 55 = .ok (.iinc 5 1, 3) := by decide +kernel
theorem dX8_isAgain_58 : decode cX8_isAgain 58 = .ok (.goto (-48), 3) := by decide +kernel
theorem dX8_isAgain_61 : decode cX8_isAgain 61 = .ok (.iconst 0, 1) := by decide +kernel
theorem dX8_isAgain_62 : decode cX8_isAgain 62 = .ok (.ireturn, 1) := by decide +kernel
theorem dX8_shiftedRound_0 : decode cX8_shiftedRound 0 = .ok (.iload_n 0, 1) := by decide +kernel
theorem dX8_shiftedRound_1 : decode cX8_shiftedRound 1 = .ok (.iload_n 2, 1) := by decide +kernel
theorem dX8_shiftedRound_2 : decode cX8_shiftedRound 2 = .ok (.ishl, 1) := by decide +kernel
theorem dX8_shiftedRound_3 : decode cX8_shiftedRound 3 = .ok (.iload_n 0, 1) := by decide +kernel
theorem dX8_shiftedRound_4 : decode cX8_shiftedRound 4 = .ok (.iload_n 1, 1) := by decide +kernel
theorem dX8_shiftedRound_5 : decode cX8_shiftedRound 5 = .ok (.iload_n 2, 1) := by decide +kernel
theorem dX8_shiftedRound_6 : decode cX8_shiftedRound 6 = .ok (.isub, 1) := by decide +kernel
theorem dX8_shiftedRound_7 : decode cX8_shiftedRound 7 = .ok (.iushr, 1) := by decide +kernel
theorem dX8_shiftedRound_8 : decode cX8_shiftedRound 8 = .ok (.ior, 1) := by decide +kernel
theorem dX8_shiftedRound_9 : decode cX8_shiftedRound 9 = .ok (.iconst 1, 1) := by decide +kernel
theorem dX8_shiftedRound_10 : decode cX8_shiftedRound 10 = .ok (.iload_n 1, 1) := by decide +kernel
theorem dX8_shiftedRound_11 : decode cX8_shiftedRound 11 = .ok (.ishl, 1) := by decide +kernel
theorem dX8_shiftedRound_12 : decode cX8_shiftedRound 12 = .ok (.iconst 1, 1) := by decide +kernel
theorem dX8_shiftedRound_13 : decode cX8_shiftedRound 13 = .ok (.isub, 1) := by decide +kernel
theorem dX8_shiftedRound_14 : decode cX8_shiftedRound 14 = .ok (.iand, 1) := by decide +kernel
theorem dX8_shiftedRound_15 : decode cX8_shiftedRound 15 = .ok (.ireturn, 1) := by decide +kernel
theorem dX8_fourWords_0 : decode cX8_fourWords 0 = .ok (.iload_n 1, 1) := by decide +kernel
theorem dX8_fourWords_1 : decode cX8_fourWords 1 = .ok (.iload_n 2, 1) := by decide +kernel
theorem dX8_fourWords_2 : decode cX8_fourWords 2 = .ok (.iload_n 0, 1) := by decide +kernel
theorem dX8_fourWords_3 : decode cX8_fourWords 3 = .ok (.ishl, 1) := by decide +kernel
theorem dX8_fourWords_4 : decode cX8_fourWords 4 = .ok (.ior, 1) := by decide +kernel
theorem dX8_fourWords_5 : decode cX8_fourWords 5 = .ok (.iload_n 3, 1) := by decide +kernel
theorem dX8_fourWords_6 : decode cX8_fourWords 6 = .ok (.iconst 2, 1) := by decide +kernel
theorem dX8_fourWords_7 : decode cX8_fourWords 7 = .ok (.iload_n 0, 1) := by decide +kernel
theorem dX8_fourWords_8 : decode cX8_fourWords 8 = .ok (.imul, 1) := by decide +kernel
theorem dX8_fourWords_9 : decode cX8_fourWords 9 = .ok (.ishl, 1) := by decide +kernel
theorem dX8_fourWords_10 : decode cX8_fourWords 10 = .ok (.ior, 1) := by decide +kernel
theorem dX8_fourWords_11 : decode cX8_fourWords 11 = .ok (.iload 4, 2) := by decide +kernel
theorem dX8_fourWords_13 : decode cX8_fourWords 13 = .ok (.iconst 3, 1) := by decide +kernel
theorem dX8_fourWords_14 : decode cX8_fourWords 14 = .ok (.iload_n 0, 1) := by decide +kernel
theorem dX8_fourWords_15 : decode cX8_fourWords 15 = .ok (.imul, 1) := by decide +kernel
theorem dX8_fourWords_16 : decode cX8_fourWords 16 = .ok (.ishl, 1) := by decide +kernel
theorem dX8_fourWords_17 : decode cX8_fourWords 17 = .ok (.ior, 1) := by decide +kernel
theorem dX8_fourWords_18 : decode cX8_fourWords 18 = .ok (.ireturn, 1) := by decide +kernel
theorem dX8_productRow_0 : decode cX8_productRow 0 = .ok (.aload_n 2, 1) := by decide +kernel
theorem dX8_productRow_1 : decode cX8_productRow 1 = .ok (.getfield 122, 3) := by decide +kernel
theorem dX8_productRow_4 : decode cX8_productRow 4 = .ok (.istore 4, 2) := by decide +kernel
theorem dX8_productRow_6 : decode cX8_productRow 6 = .ok (.aload_n 2, 1) := by decide +kernel
theorem dX8_productRow_7 : decode cX8_productRow 7 = .ok (.getfield 125, 3) := by decide +kernel
theorem dX8_productRow_10 : decode cX8_productRow 10 = .ok (.iload_n 3, 1) := by decide +kernel
theorem dX8_productRow_11 : decode cX8_productRow 11 = .ok (.iaload, 1) := by decide +kernel
theorem dX8_productRow_12 : decode cX8_productRow 12 = .ok (.istore 5, 2) := by decide +kernel
theorem dX8_productRow_14 : decode cX8_productRow 14 = .ok (.iload 5, 2) := by decide +kernel
theorem dX8_productRow_16 : decode cX8_productRow 16 = .ok (.aload_n 2, 1) := by decide +kernel
theorem dX8_productRow_17 : decode cX8_productRow 17 = .ok (.invokevirtual 128, 3) := by decide +kernel
theorem dX8_productRow_20 : decode cX8_productRow 20 = .ok (.ixor, 1) := by decide +kernel
theorem dX8_productRow_21 : decode cX8_productRow 21 = .ok (.istore 6, 2) := by decide +kernel
theorem dX8_productRow_23 : decode cX8_productRow 23 = .ok (.iconst 0, 1) := by decide +kernel
theorem dX8_productRow_24 : decode cX8_productRow 24 = .ok (.istore 7, 2) := by decide +kernel
theorem dX8_productRow_26 : decode cX8_productRow 26 = .ok (.iconst 0, 1) := by decide +kernel
theorem dX8_productRow_27 : decode cX8_productRow 27 = .ok (.istore 8, 2) := by decide +kernel
theorem dX8_productRow_29 : decode cX8_productRow 29 = .ok (.iload 8, 2) := by decide +kernel
theorem dX8_productRow_31 : decode cX8_productRow 31 = .ok (.aload_n 0, 1) := by decide +kernel
theorem dX8_productRow_32 : decode cX8_productRow 32 = .ok (.getfield 122, 3) := by decide +kernel
theorem dX8_productRow_35 : decode cX8_productRow 35 = .ok (.if_icmp .ge 37, 3) := by decide +kernel
theorem dX8_productRow_38 : decode cX8_productRow 38 = .ok (.iload 7, 2) := by decide +kernel
theorem dX8_productRow_40 : decode cX8_productRow 40 = .ok (.aload_n 0, 1) := by decide +kernel
theorem dX8_productRow_41 : decode cX8_productRow 41 = .ok (.iload_n 1, 1) := by decide +kernel
theorem dX8_productRow_42 : decode cX8_productRow 42 = .ok (.iload 8, 2) := by decide +kernel
theorem dX8_productRow_44 : decode cX8_productRow 44 = .ok (.invokevirtual 168, 3) := by decide +kernel
theorem dX8_productRow_47 : decode cX8_productRow 47 = .ok (.ifCond .eq 8, 3) := by decide +kernel
theorem dX8_productRow_50 : decode cX8_productRow 50 = .ok (.iload 6, 2) := by decide +kernel
theorem dX8_productRow_52 : decode cX8_productRow 52 = .ok (.goto 5, 3) := by decide +kernel
theorem dX8_productRow_55 : decode cX8_productRow 55 = .ok (.iload 5, 2) := by decide +kernel
theorem dX8_productRow_57 : decode cX8_productRow 57 = .ok (.iload 8, 2) := by decide +kernel
theorem dX8_productRow_59 : decode cX8_productRow 59 = .ok (.iload 4, 2) := by decide +kernel
theorem dX8_productRow_61 : decode cX8_productRow 61 = .ok (.imul, 1) := by decide +kernel
theorem dX8_productRow_62 : decode cX8_productRow 62 = .ok (.ishl, 1) := by decide +kernel
theorem dX8_productRow_63 : decode cX8_productRow 63 = .ok (.ior, 1) := by decide +kernel
theorem dX8_productRow_64 : decode cX8_productRow 64 = .ok (.istore 7, 2) := by decide +kernel
theorem dX8_productRow_66 : decode cX8_productRow 66 = .ok (.iinc 8 1, 3) := by decide +kernel
theorem dX8_productRow_69 : decode cX8_productRow 69 = .ok (.goto (-40), 3) := by decide +kernel
theorem dX8_productRow_72 : decode cX8_productRow 72 = .ok (.iload 7, 2) := by decide +kernel
theorem dX8_productRow_74 : decode cX8_productRow 74 = .ok (.ireturn, 1) := by decide +kernel
theorem dX8_conference_0 : decode cX8_conference 0 = .ok (.iload_n 2, 1) := by decide +kernel
theorem dX8_conference_1 : decode cX8_conference 1 = .ok (.iload_n 3, 1) := by decide +kernel
theorem dX8_conference_2 : decode cX8_conference 2 = .ok (.if_icmp .ne 5, 3) := by decide +kernel
theorem dX8_conference_5 : decode cX8_conference 5 = .ok (.iconst 0, 1) := by decide +kernel
theorem dX8_conference_6 : decode cX8_conference 6 = .ok (.ireturn, 1) := by decide +kernel
theorem dX8_conference_7 : decode cX8_conference 7 = .ok (.iload_n 2, 1) := by decide +kernel
theorem dX8_conference_8 : decode cX8_conference 8 = .ok (.ifCond .eq 7, 3) := by decide +kernel
theorem dX8_conference_11 : decode cX8_conference 11 = .ok (.iload_n 3, 1) := by decide +kernel
theorem dX8_conference_12 : decode cX8_conference 12 = .ok (.ifCond .ne 5, 3) := by decide +kernel
theorem dX8_conference_15 : decode cX8_conference 15 = .ok (.iconst 1, 1) := by decide +kernel
theorem dX8_conference_16 : decode cX8_conference 16 = .ok (.ireturn, 1) := by decide +kernel
theorem dX8_conference_17 : decode cX8_conference 17 = .ok (.iload_n 1, 1) := by decide +kernel
theorem dX8_conference_18 : decode cX8_conference 18 = .ok (.iload_n 0, 1) := by decide +kernel
theorem dX8_conference_19 : decode cX8_conference 19 = .ok (.iload_n 2, 1) := by decide +kernel
theorem dX8_conference_20 : decode cX8_conference 20 = .ok (.iconst 1, 1) := by decide +kernel
theorem dX8_conference_21 : decode cX8_conference 21 = .ok (.isub, 1) := by decide +kernel
theorem dX8_conference_22 : decode cX8_conference 22 = .ok (.iload_n 3, 1) := by decide +kernel
theorem dX8_conference_23 : decode cX8_conference 23 = .ok (.iconst 1, 1) := by decide +kernel
theorem dX8_conference_24 : decode cX8_conference 24 = .ok (.isub, 1) := by decide +kernel
theorem dX8_conference_25 : decode cX8_conference 25 = .ok (.invokestatic 102, 3) := by decide +kernel
theorem dX8_conference_28 : decode cX8_conference 28 = .ok (.invokestatic 106, 3) := by decide +kernel
theorem dX8_conference_31 : decode cX8_conference 31 = .ok (.ifCond .eq 7, 3) := by decide +kernel
theorem dX8_conference_34 : decode cX8_conference 34 = .ok (.iconst 1, 1) := by decide +kernel
theorem dX8_conference_35 : decode cX8_conference 35 = .ok (.goto 4, 3) := by decide +kernel
theorem dX8_conference_38 : decode cX8_conference 38 = .ok (.iconst (-1), 1) := by decide +kernel
theorem dX8_conference_39 : decode cX8_conference 39 = .ok (.ireturn, 1) := by decide +kernel
theorem dX8_laySmallBlock_0 : decode cX8_laySmallBlock 0 = .ok (.iload_n 3, 1) := by decide +kernel
theorem dX8_laySmallBlock_1 : decode cX8_laySmallBlock 1 = .ok (.ifCond .ne 8, 3) := by decide +kernel
theorem dX8_laySmallBlock_4 : decode cX8_laySmallBlock 4 = .ok (.bipush 14, 2) := by decide +kernel
theorem dX8_laySmallBlock_6 : decode cX8_laySmallBlock 6 = .ok (.goto 14, 3) := by decide +kernel
theorem dX8_laySmallBlock_9 : decode cX8_laySmallBlock 9 = .ok (.iload_n 3, 1) := by decide +kernel
theorem dX8_laySmallBlock_10 : decode cX8_laySmallBlock 10 = .ok (.ifCond .le 8, 3) := by decide +kernel
theorem dX8_laySmallBlock_13 : decode cX8_laySmallBlock 13 = .ok (.bipush 8, 2) := by decide +kernel
theorem dX8_laySmallBlock_15 : decode cX8_laySmallBlock 15 = .ok (.goto 5, 3) := by decide +kernel
theorem dX8_laySmallBlock_18 : decode cX8_laySmallBlock 18 = .ok (.bipush 7, 2) := by decide +kernel
theorem dX8_laySmallBlock_20 : decode cX8_laySmallBlock 20 = .ok (.istore 4, 2) := by decide +kernel
theorem dX8_laySmallBlock_22 : decode cX8_laySmallBlock 22 = .ok (.aload_n 0, 1) := by decide +kernel
theorem dX8_laySmallBlock_23 : decode cX8_laySmallBlock 23 = .ok (.getfield 125, 3) := by decide +kernel
theorem dX8_laySmallBlock_26 : decode cX8_laySmallBlock 26 = .ok (.iconst 2, 1) := by decide +kernel
theorem dX8_laySmallBlock_27 : decode cX8_laySmallBlock 27 = .ok (.iload_n 1, 1) := by decide +kernel
theorem dX8_laySmallBlock_28 : decode cX8_laySmallBlock 28 = .ok (.imul, 1) := by decide +kernel
theorem dX8_laySmallBlock_29 : decode cX8_laySmallBlock 29 = .ok (.dup2, 1) := by decide +kernel
theorem dX8_laySmallBlock_30 : decode cX8_laySmallBlock 30 = .ok (.iaload, 1) := by decide +kernel
theorem dX8_laySmallBlock_31 : decode cX8_laySmallBlock 31 = .ok (.iload 4, 2) := by decide +kernel
theorem dX8_laySmallBlock_33 : decode cX8_laySmallBlock 33 = .ok (.iconst 3, 1) := by decide +kernel
theorem dX8_laySmallBlock_34 : decode cX8_laySmallBlock 34 = .ok (.iand, 1) := by decide +kernel
theorem dX8_laySmallBlock_35 : decode cX8_laySmallBlock 35 = .ok (.iconst 2, 1) := by decide +kernel
theorem dX8_laySmallBlock_36 : decode cX8_laySmallBlock 36 = .ok (.iload_n 2, 1) := by decide +kernel
theorem dX8_laySmallBlock_37 : decode cX8_laySmallBlock 37 = .ok (.imul, 1) := by decide +kernel
theorem dX8_laySmallBlock_38 : decode cX8_laySmallBlock 38 = .ok (.ishl, 1) := by decide +kernel
theorem dX8_laySmallBlock_39 : decode cX8_laySmallBlock 39 = .ok (.ior, 1) := by decide +kernel
theorem dX8_laySmallBlock_40 : decode cX8_laySmallBlock 40 = .ok (.iastore, 1) := by decide +kernel
theorem dX8_laySmallBlock_41 : decode cX8_laySmallBlock 41 = .ok (.aload_n 0, 1) := by decide +kernel
theorem dX8_laySmallBlock_42 : decode cX8_laySmallBlock 42 = .ok (.getfield 125, 3) := by decide +kernel
theorem dX8_laySmallBlock_45 : decode cX8_laySmallBlock 45 = .ok (.iconst 2, 1) := by decide +kernel
theorem dX8_laySmallBlock_46 : decode cX8_laySmallBlock 46 = .ok (.iload_n 1, 1) := by decide +kernel
theorem dX8_laySmallBlock_47 : decode cX8_laySmallBlock 47 = .ok (.imul, 1) := by decide +kernel
theorem dX8_laySmallBlock_48 : decode cX8_laySmallBlock 48 = .ok (.iconst 1, 1) := by decide +kernel
theorem dX8_laySmallBlock_49 : decode cX8_laySmallBlock 49 = .ok (.iadd, 1) := by decide +kernel
theorem dX8_laySmallBlock_50 : decode cX8_laySmallBlock 50 = .ok (.dup2, 1) := by decide +kernel
theorem dX8_laySmallBlock_51 : decode cX8_laySmallBlock 51 = .ok (.iaload, 1) := by decide +kernel
theorem dX8_laySmallBlock_52 : decode cX8_laySmallBlock 52 = .ok (.iload 4, 2) := by decide +kernel
theorem dX8_laySmallBlock_54 : decode cX8_laySmallBlock 54 = .ok (.iconst 2, 1) := by decide +kernel
theorem dX8_laySmallBlock_55 : decode cX8_laySmallBlock 55 = .ok (.ishr, 1) := by decide +kernel
theorem dX8_laySmallBlock_56 : decode cX8_laySmallBlock 56 = .ok (.iconst 2, 1) := by decide +kernel
theorem dX8_laySmallBlock_57 : decode cX8_laySmallBlock 57 = .ok (.iload_n 2, 1) := by decide +kernel
theorem dX8_laySmallBlock_58 : decode cX8_laySmallBlock 58 = .ok (.imul, 1) := by decide +kernel
theorem dX8_laySmallBlock_59 : decode cX8_laySmallBlock 59 = .ok (.ishl, 1) := by decide +kernel
theorem dX8_laySmallBlock_60 : decode cX8_laySmallBlock 60 = .ok (.ior, 1) := by decide +kernel
theorem dX8_laySmallBlock_61 : decode cX8_laySmallBlock 61 = .ok (.iastore, 1) := by decide +kernel
theorem dX8_laySmallBlock_62 : decode cX8_laySmallBlock 62 = .ok (.return_, 1) := by decide +kernel
theorem dX8_canMatch_0 : decode cX8_canMatch 0 = .ok (.aload_n 0, 1) := by decide +kernel
theorem dX8_canMatch_1 : decode cX8_canMatch 1 = .ok (.getfield 122, 3) := by decide +kernel
theorem dX8_canMatch_4 : decode cX8_canMatch 4 = .ok (.aload_n 1, 1) := by decide +kernel
theorem dX8_canMatch_5 : decode cX8_canMatch 5 = .ok (.getfield 122, 3) := by decide +kernel
theorem dX8_canMatch_8 : decode cX8_canMatch 8 = .ok (.if_icmp .ne 12, 3) := by decide +kernel
theorem dX8_canMatch_11 : decode cX8_canMatch 11 = .ok (.aload_n 0, 1) := by decide +kernel
theorem dX8_canMatch_12 : decode cX8_canMatch 12 = .ok (.getfield 122, 3) := by decide +kernel
theorem dX8_canMatch_15 : decode cX8_canMatch 15 = .ok (.bipush 12, 2) := by decide +kernel
theorem dX8_canMatch_17 : decode cX8_canMatch 17 = .ok (.if_icmp .le 5, 3) := by decide +kernel
theorem dX8_canMatch_20 : decode cX8_canMatch 20 = .ok (.iconst 0, 1) := by decide +kernel
theorem dX8_canMatch_21 : decode cX8_canMatch 21 = .ok (.ireturn, 1) := by decide +kernel
theorem dX8_canMatch_22 : decode cX8_canMatch 22 = .ok (.aload_n 0, 1) := by decide +kernel
theorem dX8_canMatch_23 : decode cX8_canMatch 23 = .ok (.getfield 122, 3) := by decide +kernel
theorem dX8_canMatch_26 : decode cX8_canMatch 26 = .ok (.bipush 6, 2) := by decide +kernel
theorem dX8_canMatch_28 : decode cX8_canMatch 28 = .ok (.if_icmp .le 21, 3) := by decide +kernel
theorem dX8_canMatch_31 : decode cX8_canMatch 31 = .ok (.aload_n 0, 1) := by decide +kernel
theorem dX8_canMatch_32 : decode cX8_canMatch 32 = .ok (.invokevirtual 189, 3) := by decide +kernel
theorem dX8_canMatch_35 : decode cX8_canMatch 35 = .ok (.bipush (-2), 2) := by decide +kernel
theorem dX8_canMatch_37 : decode cX8_canMatch 37 = .ok (.if_icmp .ne 16, 3) := by decide +kernel
theorem dX8_canMatch_40 : decode cX8_canMatch 40 = .ok (.aload_n 1, 1) := by decide +kernel
theorem dX8_canMatch_41 : decode cX8_canMatch 41 = .ok (.invokevirtual 189, 3) := by decide +kernel
theorem dX8_canMatch_44 : decode cX8_canMatch 44 = .ok (.bipush (-2), 2) := by decide +kernel
theorem dX8_canMatch_46 : decode cX8_canMatch 46 = .ok (.if_icmp .ne 7, 3) := by decide +kernel
theorem dX8_canMatch_49 : decode cX8_canMatch 49 = .ok (.iconst 1, 1) := by decide +kernel
theorem dX8_canMatch_50 : decode cX8_canMatch 50 = .ok (.goto 4, 3) := by decide +kernel
theorem dX8_canMatch_53 : decode cX8_canMatch 53 = .ok (.iconst 0, 1) := by decide +kernel
theorem dX8_canMatch_54 : decode cX8_canMatch 54 = .ok (.ireturn, 1) := by decide +kernel
theorem dX8_isKnot_0 : decode cX8_isKnot 0 = .ok (.iload_n 1, 1) := by decide +kernel
theorem dX8_isKnot_1 : decode cX8_isKnot 1 = .ok (.ifCond .lt 17, 3) := by decide +kernel
theorem dX8_isKnot_4 : decode cX8_isKnot 4 = .ok (.iload_n 1, 1) := by decide +kernel
theorem dX8_isKnot_5 : decode cX8_isKnot 5 = .ok (.iconst 4, 1) := by decide +kernel
theorem dX8_isKnot_6 : decode cX8_isKnot 6 = .ok (.aload_n 0, 1) := by decide +kernel
theorem dX8_isKnot_7 : decode cX8_isKnot 7 = .ok (.getfield 122, 3) := by decide +kernel
theorem dX8_isKnot_10 : decode cX8_isKnot 10 = .ok (.imul, 1) := by decide +kernel
theorem dX8_isKnot_11 : decode cX8_isKnot 11 = .ok (.if_icmp .ge 7, 3) := by decide +kernel
theorem dX8_isKnot_14 : decode cX8_isKnot 14 = .ok (.iconst 1, 1) := by decide +kernel
theorem dX8_isKnot_15 : decode cX8_isKnot 15 = .ok (.goto 4, 3) := by decide +kernel
theorem dX8_isKnot_18 : decode cX8_isKnot 18 = .ok (.iconst 0, 1) := by decide +kernel
theorem dX8_isKnot_19 : decode cX8_isKnot 19 = .ok (.ireturn, 1) := by decide +kernel
theorem dX8_hasDesign_0 : decode cX8_hasDesign 0 = .ok (.aload_n 0, 1) := by decide +kernel
theorem dX8_hasDesign_1 : decode cX8_hasDesign 1 = .ok (.getfield 122, 3) := by decide +kernel
theorem dX8_hasDesign_4 : decode cX8_hasDesign 4 = .ok (.iconst 4, 1) := by decide +kernel
theorem dX8_hasDesign_5 : decode cX8_hasDesign 5 = .ok (.if_icmp .lt 23, 3) := by decide +kernel
theorem dX8_hasDesign_8 : decode cX8_hasDesign 8 = .ok (.aload_n 0, 1) := by decide +kernel
theorem dX8_hasDesign_9 : decode cX8_hasDesign 9 = .ok (.iload_n 1, 1) := by decide +kernel
theorem dX8_hasDesign_10 : decode cX8_hasDesign 10 = .ok (.invokevirtual 150, 3) := by decide +kernel
theorem dX8_hasDesign_13 : decode cX8_hasDesign 13 = .ok (.ifCond .eq 15, 3) := by decide +kernel
theorem dX8_hasDesign_16 : decode cX8_hasDesign 16 = .ok (.aload_n 0, 1) := by decide +kernel
theorem dX8_hasDesign_17 : decode cX8_hasDesign 17 = .ok (.iload_n 2, 1) := by decide +kernel
theorem dX8_hasDesign_18 : decode cX8_hasDesign 18 = .ok (.invokevirtual 150, 3) := by decide +kernel
theorem dX8_hasDesign_21 : decode cX8_hasDesign 21 = .ok (.ifCond .eq 7, 3) := by decide +kernel
theorem dX8_hasDesign_24 : decode cX8_hasDesign 24 = .ok (.iconst 1, 1) := by decide +kernel
theorem dX8_hasDesign_25 : decode cX8_hasDesign 25 = .ok (.goto 4, 3) := by decide +kernel
theorem dX8_hasDesign_28 : decode cX8_hasDesign 28 = .ok (.iconst 0, 1) := by decide +kernel
theorem dX8_hasDesign_29 : decode cX8_hasDesign 29 = .ok (.ireturn, 1) := by decide +kernel
theorem dX9_init_0 : decode cX9_init 0 = .ok (.aload_n 0, 1) := by decide +kernel
theorem dX9_init_1 : decode cX9_init 1 = .ok (.invokespecial 7, 3) := by decide +kernel
theorem dX9_init_4 : decode cX9_init 4 = .ok (.aload_n 0, 1) := by decide +kernel
theorem dX9_init_5 : decode cX9_init 5 = .ok (.bipush 6, 2) := by decide +kernel
theorem dX9_init_7 : decode cX9_init 7 = .ok (.newarray .int, 2) := by decide +kernel
theorem dX9_init_9 : decode cX9_init 9 = .ok (.putfield 13, 3) := by decide +kernel
theorem dX9_init_12 : decode cX9_init 12 = .ok (.aload_n 0, 1) := by decide +kernel
theorem dX9_init_13 : decode cX9_init 13 = .ok (.sipush 168, 3) := by decide +kernel
theorem dX9_init_16 : decode cX9_init 16 = .ok (.newarray .int, 2) := by decide +kernel
theorem dX9_init_18 : decode cX9_init 18 = .ok (.putfield 17, 3) := by decide +kernel
theorem dX9_init_21 : decode cX9_init 21 = .ok (.aload_n 0, 1) := by decide +kernel
theorem dX9_init_22 : decode cX9_init 22 = .ok (.sipush 336, 3) := by decide +kernel
theorem dX9_init_25 : decode cX9_init 25 = .ok (.newarray .int, 2) := by decide +kernel
theorem dX9_init_27 : decode cX9_init 27 = .ok (.putfield 20, 3) := by decide +kernel
theorem dX9_init_30 : decode cX9_init 30 = .ok (.aload_n 0, 1) := by decide +kernel
theorem dX9_init_31 : decode cX9_init 31 = .ok (.sipush 336, 3) := by decide +kernel
theorem dX9_init_34 : decode cX9_init 34 = .ok (.newarray .int, 2) := by decide +kernel
theorem dX9_init_36 : decode cX9_init 36 = .ok (.putfield 23, 3) := by decide +kernel
theorem dX9_init_39 : decode cX9_init 39 = .ok (.aload_n 0, 1) := by decide +kernel
theorem dX9_init_40 : decode cX9_init 40 = .ok (.bipush 12, 2) := by decide +kernel
theorem dX9_init_42 : decode cX9_init 42 = .ok (.newarray .int, 2) := by decide +kernel
theorem dX9_init_44 : decode cX9_init 44 = .ok (.putfield 26, 3) := by decide +kernel
theorem dX9_init_47 : decode cX9_init 47 = .ok (.aload_n 0, 1) := by decide +kernel
theorem dX9_init_48 : decode cX9_init 48 = .ok (.bipush 28, 2) := by decide +kernel
theorem dX9_init_50 : decode cX9_init 50 = .ok (.newarray .int, 2) := by decide +kernel
theorem dX9_init_52 : decode cX9_init 52 = .ok (.putfield 29, 3) := by decide +kernel
theorem dX9_init_55 : decode cX9_init 55 = .ok (.aload_n 0, 1) := by decide +kernel
theorem dX9_init_56 : decode cX9_init 56 = .ok (.bipush 28, 2) := by decide +kernel
theorem dX9_init_58 : decode cX9_init 58 = .ok (.newarray .int, 2) := by decide +kernel
theorem dX9_init_60 : decode cX9_init 60 = .ok (.putfield 32, 3) := by decide +kernel
theorem dX9_init_63 : decode cX9_init 63 = .ok (.aload_n 0, 1) := by decide +kernel
theorem dX9_init_64 : decode cX9_init 64 = .ok (.bipush 16, 2) := by decide +kernel
theorem dX9_init_66 : decode cX9_init 66 = .ok (.newarray .int, 2) := by decide +kernel
theorem dX9_init_68 : decode cX9_init 68 = .ok (.dup, 1) := by decide +kernel
theorem dX9_init_69 : decode cX9_init 69 = .ok (.iconst 0, 1) := by decide +kernel
theorem dX9_init_70 : decode cX9_init 70 = .ok (.iconst 0, 1) := by decide +kernel
theorem dX9_init_71 : decode cX9_init 71 = .ok (.iastore, 1) := by decide +kernel
theorem dX9_init_72 : decode cX9_init 72 = .ok (.dup, 1) := by decide +kernel
theorem dX9_init_73 : decode cX9_init 73 = .ok (.iconst 1, 1) := by decide +kernel
theorem dX9_init_74 : decode cX9_init 74 = .ok (.iconst 1, 1) := by decide +kernel
theorem dX9_init_75 : decode cX9_init 75 = .ok (.iastore, 1) := by decide +kernel
theorem dX9_init_76 : decode cX9_init 76 = .ok (.dup, 1) := by decide +kernel
theorem dX9_init_77 : decode cX9_init 77 = .ok (.iconst 2, 1) := by decide +kernel
theorem dX9_init_78 : decode cX9_init 78 = .ok (.iconst 2, 1) := by decide +kernel
theorem dX9_init_79 : decode cX9_init 79 = .ok (.iastore, 1) := by decide +kernel
theorem dX9_init_80 : decode cX9_init 80 = .ok (.dup, 1) := by decide +kernel
theorem dX9_init_81 : decode cX9_init 81 = .ok (.iconst 3, 1) := by decide +kernel
theorem dX9_init_82 : decode cX9_init 82 = .ok (.iconst 3, 1) := by decide +kernel
theorem dX9_init_83 : decode cX9_init 83 = .ok (.iastore, 1) := by decide +kernel
theorem dX9_init_84 : decode cX9_init 84 = .ok (.dup, 1) := by decide +kernel
theorem dX9_init_85 : decode cX9_init 85 = .ok (.iconst 4, 1) := by decide +kernel
theorem dX9_init_86 : decode cX9_init 86 = .ok (.iconst 1, 1) := by decide +kernel
theorem dX9_init_87 : decode cX9_init 87 = .ok (.iastore, 1) := by decide +kernel
theorem dX9_init_88 : decode cX9_init 88 = .ok (.dup, 1) := by decide +kernel
theorem dX9_init_89 : decode cX9_init 89 = .ok (.iconst 5, 1) := by decide +kernel
theorem dX9_init_90 : decode cX9_init 90 = .ok (.iconst 0, 1) := by decide +kernel
theorem dX9_init_91 : decode cX9_init 91 = .ok (.iastore, 1) := by decide +kernel
theorem dX9_init_92 : decode cX9_init 92 = .ok (.dup, 1) := by decide +kernel
theorem dX9_init_93 : decode cX9_init 93 = .ok (.bipush 6, 2) := by decide +kernel
theorem dX9_init_95 : decode cX9_init 95 = .ok (.iconst 3, 1) := by decide +kernel
theorem dX9_init_96 : decode cX9_init 96 = .ok (.iastore, 1) := by decide +kernel
theorem dX9_init_97 : decode cX9_init 97 = .ok (.dup, 1) := by decide +kernel
theorem dX9_init_98 : decode cX9_init 98 = .ok (.bipush 7, 2) := by decide +kernel
theorem dX9_init_100 : decode cX9_init 100 = .ok (.iconst 2, 1) := by decide +kernel
theorem dX9_init_101 : decode cX9_init 101 = .ok (.iastore, 1) := by decide +kernel
theorem dX9_init_102 : decode cX9_init 102 = .ok (.dup, 1) := by decide +kernel
theorem dX9_init_103 : decode cX9_init 103 = .ok (.bipush 8, 2) := by decide +kernel
theorem dX9_init_105 : decode cX9_init 105 = .ok (.iconst 2, 1) := by decide +kernel
theorem dX9_init_106 : decode cX9_init 106 = .ok (.iastore, 1) := by decide +kernel
theorem dX9_init_107 : decode cX9_init 107 = .ok (.dup, 1) := by decide +kernel
theorem dX9_init_108 : decode cX9_init 108 = .ok (.bipush 9, 2) := by decide +kernel
theorem dX9_init_110 : decode cX9_init 110 = .ok (.iconst 3, 1) := by decide +kernel
theorem dX9_init_111 : decode cX9_init 111 = .ok (.iastore, 1) := by decide +kernel
theorem dX9_init_112 : decode cX9_init 112 = .ok (.dup, 1) := by decide +kernel
theorem dX9_init_113 : decode cX9_init 113 = .ok (.bipush 10, 2) := by decide +kernel
theorem dX9_init_115 : decode cX9_init 115 = .ok (.iconst 0, 1) := by decide +kernel
theorem dX9_init_116 : decode cX9_init 116 = .ok (.iastore, 1) := by decide +kernel
theorem dX9_init_117 : decode cX9_init 117 = .ok (.dup, 1) := by decide +kernel
theorem dX9_init_118 : decode cX9_init 118 = .ok (.bipush 11, 2) := by decide +kernel
theorem dX9_init_120 : decode cX9_init 120 = .ok (.iconst 1, 1) := by decide +kernel
theorem dX9_init_121 : decode cX9_init 121 = .ok (.iastore, 1) := by decide +kernel
theorem dX9_init_122 : decode cX9_init 122 = .ok (.dup, 1) := by decide +kernel
theorem dX9_init_123 : decode cX9_init 123 = .ok (.bipush 12, 2) := by decide +kernel
theorem dX9_init_125 : decode cX9_init 125 = .ok (.iconst 3, 1) := by decide +kernel
theorem dX9_init_126 : decode cX9_init 126 = .ok (.iastore, 1) := by decide +kernel
theorem dX9_init_127 : decode cX9_init 127 = .ok (.dup, 1) := by decide +kernel
theorem dX9_init_128 : decode cX9_init 128 = .ok (.bipush 13, 2) := by decide +kernel
theorem dX9_init_130 : decode cX9_init 130 = .ok (.iconst 2, 1) := by decide +kernel
theorem dX9_init_131 : decode cX9_init 131 = .ok (.iastore, 1) := by decide +kernel
theorem dX9_init_132 : decode cX9_init 132 = .ok (.dup, 1) := by decide +kernel
theorem dX9_init_133 : decode cX9_init 133 = .ok (.bipush 14, 2) := by decide +kernel
theorem dX9_init_135 : decode cX9_init 135 = .ok (.iconst 1, 1) := by decide +kernel
theorem dX9_init_136 : decode cX9_init 136 = .ok (.iastore, 1) := by decide +kernel
theorem dX9_init_137 : decode cX9_init 137 = .ok (.dup, 1) := by decide +kernel
theorem dX9_init_138 : decode cX9_init 138 = .ok (.bipush 15, 2) := by decide +kernel
theorem dX9_init_140 : decode cX9_init 140 = .ok (.iconst 0, 1) := by decide +kernel
theorem dX9_init_141 : decode cX9_init 141 = .ok (.iastore, 1) := by decide +kernel
theorem dX9_init_142 : decode cX9_init 142 = .ok (.putfield 35, 3) := by decide +kernel
theorem dX9_init_145 : decode cX9_init 145 = .ok (.aload_n 0, 1) := by decide +kernel
theorem dX9_init_146 : decode cX9_init 146 = .ok (.bipush 16, 2) := by decide +kernel
theorem dX9_init_148 : decode cX9_init 148 = .ok (.newarray .int, 2) := by decide +kernel
theorem dX9_init_150 : decode cX9_init 150 = .ok (.dup, 1) := by decide +kernel
theorem dX9_init_151 : decode cX9_init 151 = .ok (.iconst 0, 1) := by decide +kernel
theorem dX9_init_152 : decode cX9_init 152 = .ok (.iconst 0, 1) := by decide +kernel
theorem dX9_init_153 : decode cX9_init 153 = .ok (.iastore, 1) := by decide +kernel
theorem dX9_init_154 : decode cX9_init 154 = .ok (.dup, 1) := by decide +kernel
theorem dX9_init_155 : decode cX9_init 155 = .ok (.iconst 1, 1) := by decide +kernel
theorem dX9_init_156 : decode cX9_init 156 = .ok (.iconst 0, 1) := by decide +kernel
theorem dX9_init_157 : decode cX9_init 157 = .ok (.iastore, 1) := by decide +kernel
theorem dX9_init_158 : decode cX9_init 158 = .ok (.dup, 1) := by decide +kernel
theorem dX9_init_159 : decode cX9_init 159 = .ok (.iconst 2, 1) := by decide +kernel
theorem dX9_init_160 : decode cX9_init 160 = .ok (.iconst 0, 1) := by decide +kernel
theorem dX9_init_161 : decode cX9_init 161 = .ok (.iastore, 1) := by decide +kernel
theorem dX9_init_162 : decode cX9_init 162 = .ok (.dup, 1) := by decide +kernel
theorem dX9_init_163 : decode cX9_init 163 = .ok (.iconst 3, 1) := by decide +kernel
theorem dX9_init_164 : decode cX9_init 164 = .ok (.iconst 0, 1) := by decide +kernel
theorem dX9_init_165 : decode cX9_init 165 = .ok (.iastore, 1) := by decide +kernel
theorem dX9_init_166 : decode cX9_init 166 = .ok (.dup, 1) := by decide +kernel
theorem dX9_init_167 : decode cX9_init 167 = .ok (.iconst 4, 1) := by decide +kernel
theorem dX9_init_168 : decode cX9_init 168 = .ok (.iconst 1, 1) := by decide +kernel
theorem dX9_init_169 : decode cX9_init 169 = .ok (.iastore, 1) := by decide +kernel
theorem dX9_init_170 : decode cX9_init 170 = .ok (.dup, 1) := by decide +kernel
theorem dX9_init_171 : decode cX9_init 171 = .ok (.iconst 5, 1) := by decide +kernel
theorem dX9_init_172 : decode cX9_init 172 = .ok (.iconst 0, 1) := by decide +kernel
theorem dX9_init_173 : decode cX9_init 173 = .ok (.iastore, 1) := by decide +kernel
theorem dX9_init_174 : decode cX9_init 174 = .ok (.dup, 1) := by decide +kernel
theorem dX9_init_175 : decode cX9_init 175 = .ok (.bipush 6, 2) := by decide +kernel
theorem dX9_init_177 : decode cX9_init 177 = .ok (.iconst 1, 1) := by decide +kernel
theorem dX9_init_178 : decode cX9_init 178 = .ok (.iastore, 1) := by decide +kernel
theorem dX9_init_179 : decode cX9_init 179 = .ok (.dup, 1) := by decide +kernel
theorem dX9_init_180 : decode cX9_init 180 = .ok (.bipush 7, 2) := by decide +kernel
theorem dX9_init_182 : decode cX9_init 182 = .ok (.iconst 0, 1) := by decide +kernel
theorem dX9_init_183 : decode cX9_init 183 = .ok (.iastore, 1) := by decide +kernel
theorem dX9_init_184 : decode cX9_init 184 = .ok (.dup, 1) := by decide +kernel
theorem dX9_init_185 : decode cX9_init 185 = .ok (.bipush 8, 2) := by decide +kernel
theorem dX9_init_187 : decode cX9_init 187 = .ok (.iconst 1, 1) := by decide +kernel
theorem dX9_init_188 : decode cX9_init 188 = .ok (.iastore, 1) := by decide +kernel
theorem dX9_init_189 : decode cX9_init 189 = .ok (.dup, 1) := by decide +kernel
theorem dX9_init_190 : decode cX9_init 190 = .ok (.bipush 9, 2) := by decide +kernel
theorem dX9_init_192 : decode cX9_init 192 = .ok (.iconst 0, 1) := by decide +kernel
theorem dX9_init_193 : decode cX9_init 193 = .ok (.iastore, 1) := by decide +kernel
theorem dX9_init_194 : decode cX9_init 194 = .ok (.dup, 1) := by decide +kernel
theorem dX9_init_195 : decode cX9_init 195 = .ok (.bipush 10, 2) := by decide +kernel
theorem dX9_init_197 : decode cX9_init 197 = .ok (.iconst 0, 1) := by decide +kernel
theorem dX9_init_198 : decode cX9_init 198 = .ok (.iastore, 1) := by decide +kernel
theorem dX9_init_199 : decode cX9_init 199 = .ok (.dup, 1) := by decide +kernel
theorem dX9_init_200 : decode cX9_init 200 = .ok (.bipush 11, 2) := by decide +kernel
theorem dX9_init_202 : decode cX9_init 202 = .ok (.iconst 1, 1) := by decide +kernel
theorem dX9_init_203 : decode cX9_init 203 = .ok (.iastore, 1) := by decide +kernel
theorem dX9_init_204 : decode cX9_init 204 = .ok (.dup, 1) := by decide +kernel
theorem dX9_init_205 : decode cX9_init 205 = .ok (.bipush 12, 2) := by decide +kernel
theorem dX9_init_207 : decode cX9_init 207 = .ok (.iconst 1, 1) := by decide +kernel
theorem dX9_init_208 : decode cX9_init 208 = .ok (.iastore, 1) := by decide +kernel
theorem dX9_init_209 : decode cX9_init 209 = .ok (.dup, 1) := by decide +kernel
theorem dX9_init_210 : decode cX9_init 210 = .ok (.bipush 13, 2) := by decide +kernel
theorem dX9_init_212 : decode cX9_init 212 = .ok (.iconst 1, 1) := by decide +kernel
theorem dX9_init_213 : decode cX9_init 213 = .ok (.iastore, 1) := by decide +kernel
theorem dX9_init_214 : decode cX9_init 214 = .ok (.dup, 1) := by decide +kernel
theorem dX9_init_215 : decode cX9_init 215 = .ok (.bipush 14, 2) := by decide +kernel
theorem dX9_init_217 : decode cX9_init 217 = .ok (.iconst 0, 1) := by decide +kernel
theorem dX9_init_218 : decode cX9_init 218 = .ok (.iastore, 1) := by decide +kernel
theorem dX9_init_219 : decode cX9_init 219 = .ok (.dup, 1) := by decide +kernel
theorem dX9_init_220 : decode cX9_init 220 = .ok (.bipush 15, 2) := by decide +kernel
theorem dX9_init_222 : decode cX9_init 222 = .ok (.iconst 0, 1) := by decide +kernel
theorem dX9_init_223 : decode cX9_init 223 = .ok (.iastore, 1) := by decide +kernel
theorem dX9_init_224 : decode cX9_init 224 = .ok (.putfield 38, 3) := by decide +kernel
theorem dX9_init_227 : decode cX9_init 227 = .ok (.aload_n 0, 1) := by decide +kernel
theorem dX9_init_228 : decode cX9_init 228 = .ok (.iconst 4, 1) := by decide +kernel
theorem dX9_init_229 : decode cX9_init 229 = .ok (.newarray .int, 2) := by decide +kernel
theorem dX9_init_231 : decode cX9_init 231 = .ok (.putfield 41, 3) := by decide +kernel
theorem dX9_init_234 : decode cX9_init 234 = .ok (.aload_n 0, 1) := by decide +kernel
theorem dX9_init_235 : decode cX9_init 235 = .ok (.bipush 28, 2) := by decide +kernel
theorem dX9_init_237 : decode cX9_init 237 = .ok (.newarray .int, 2) := by decide +kernel
theorem dX9_init_239 : decode cX9_init 239 = .ok (.putfield 44, 3) := by decide +kernel
theorem dX9_init_242 : decode cX9_init 242 = .ok (.aload_n 0, 1) := by decide +kernel
theorem dX9_init_243 : decode cX9_init 243 = .ok (.bipush 6, 2) := by decide +kernel
theorem dX9_init_245 : decode cX9_init 245 = .ok (.newarray .int, 2) := by decide +kernel
theorem dX9_init_247 : decode cX9_init 247 = .ok (.putfield 47, 3) := by decide +kernel
theorem dX9_init_250 : decode cX9_init 250 = .ok (.aload_n 0, 1) := by decide +kernel
theorem dX9_init_251 : decode cX9_init 251 = .ok (.bipush 6, 2) := by decide +kernel
theorem dX9_init_253 : decode cX9_init 253 = .ok (.newarray .int, 2) := by decide +kernel
theorem dX9_init_255 : decode cX9_init 255 = .ok (.putfield 50, 3) := by decide +kernel
theorem dX9_init_258 : decode cX9_init 258 = .ok (.aload_n 0, 1) := by decide +kernel
theorem dX9_init_259 : decode cX9_init 259 = .ok (.bipush 6, 2) := by decide +kernel
theorem dX9_init_261 : decode cX9_init 261 = .ok (.newarray .int, 2) := by decide +kernel
theorem dX9_init_263 : decode cX9_init 263 = .ok (.putfield 53, 3) := by decide +kernel
theorem dX9_init_266 : decode cX9_init 266 = .ok (.aload_n 0, 1) := by decide +kernel
theorem dX9_init_267 : decode cX9_init 267 = .ok (.sipush 144, 3) := by decide +kernel
theorem dX9_init_270 : decode cX9_init 270 = .ok (.newarray .long, 2) := by decide +kernel
theorem dX9_init_272 : decode cX9_init 272 = .ok (.putfield 56, 3) := by decide +kernel
theorem dX9_init_275 : decode cX9_init 275 = .ok (.aload_n 0, 1) := by decide +kernel
theorem dX9_init_276 : decode cX9_init 276 = .ok (.bipush 12, 2) := by decide +kernel
theorem dX9_init_278 : decode cX9_init 278 = .ok (.newarray .int, 2) := by decide +kernel
theorem dX9_init_280 : decode cX9_init 280 = .ok (.putfield 60, 3) := by decide +kernel
theorem dX9_init_283 : decode cX9_init 283 = .ok (.aload_n 0, 1) := by decide +kernel
theorem dX9_init_284 : decode cX9_init 284 = .ok (.bipush 12, 2) := by decide +kernel
theorem dX9_init_286 : decode cX9_init 286 = .ok (.newarray .int, 2) := by decide +kernel
theorem dX9_init_288 : decode cX9_init 288 = .ok (.putfield 63, 3) := by decide +kernel
theorem dX9_init_291 : decode cX9_init 291 = .ok (.aload_n 0, 1) := by decide +kernel
theorem dX9_init_292 : decode cX9_init 292 = .ok (.sipush 156, 3) := by decide +kernel
theorem dX9_init_295 : decode cX9_init 295 = .ok (.newarray .int, 2) := by decide +kernel
theorem dX9_init_297 : decode cX9_init 297 = .ok (.putfield 66, 3) := by decide +kernel
theorem dX9_init_300 : decode cX9_init 300 = .ok (.aload_n 0, 1) := by decide +kernel
theorem dX9_init_301 : decode cX9_init 301 = .ok (.sipush 156, 3) := by decide +kernel
theorem dX9_init_304 : decode cX9_init 304 = .ok (.newarray .int, 2) := by decide +kernel
theorem dX9_init_306 : decode cX9_init 306 = .ok (.putfield 69, 3) := by decide +kernel
theorem dX9_init_309 : decode cX9_init 309 = .ok (.aload_n 0, 1) := by decide +kernel
theorem dX9_init_310 : decode cX9_init 310 = .ok (.bipush 28, 2) := by decide +kernel
theorem dX9_init_312 : decode cX9_init 312 = .ok (.newarray .int, 2) := by decide +kernel
theorem dX9_init_314 : decode cX9_init 314 = .ok (.putfield 72, 3) := by decide +kernel
theorem dX9_init_317 : decode cX9_init 317 = .ok (.aload_n 0, 1) := by decide +kernel
theorem dX9_init_318 : decode cX9_init 318 = .ok (.bipush 8, 2) := by decide +kernel
theorem dX9_init_320 : decode cX9_init 320 = .ok (.newarray .int, 2) := by decide +kernel
theorem dX9_init_322 : decode cX9_init 322 = .ok (.putfield 75, 3) := by decide +kernel
theorem dX9_init_325 : decode cX9_init 325 = .ok (.return_, 1) := by decide +kernel
theorem dX9_in_0 : decode cX9_in 0 = .ok (.iload_n 0, 1) := by decide +kernel
theorem dX9_in_1 : decode cX9_in 1 = .ok (.iload_n 1, 1) := by decide +kernel
theorem dX9_in_2 : decode cX9_in 2 = .ok (.if_icmp .lt 12, 3) := by decide +kernel
theorem dX9_in_5 : decode cX9_in 5 = .ok (.iload_n 0, 1) := by decide +kernel
theorem dX9_in_6 : decode cX9_in 6 = .ok (.iload_n 2, 1) := by decide +kernel
theorem dX9_in_7 : decode cX9_in 7 = .ok (.if_icmp .gt 7, 3) := by decide +kernel
theorem dX9_in_10 : decode cX9_in 10 = .ok (.iconst 1, 1) := by decide +kernel
theorem dX9_in_11 : decode cX9_in 11 = .ok (.goto 4, 3) := by decide +kernel
theorem dX9_in_14 : decode cX9_in 14 = .ok (.iconst 0, 1) := by decide +kernel
theorem dX9_in_15 : decode cX9_in 15 = .ok (.ireturn, 1) := by decide +kernel
theorem dX9_has_0 : decode cX9_has 0 = .ok (.iload_n 0, 1) := by decide +kernel
theorem dX9_has_1 : decode cX9_has 1 = .ok (.iload_n 1, 1) := by decide +kernel
theorem dX9_has_2 : decode cX9_has 2 = .ok (.ishr, 1) := by decide +kernel
theorem dX9_has_3 : decode cX9_has 3 = .ok (.iconst 1, 1) := by decide +kernel
theorem dX9_has_4 : decode cX9_has 4 = .ok (.iand, 1) := by decide +kernel
theorem dX9_has_5 : decode cX9_has 5 = .ok (.iconst 1, 1) := by decide +kernel
theorem dX9_has_6 : decode cX9_has 6 = .ok (.if_icmp .ne 7, 3) := by decide +kernel
theorem dX9_has_9 : decode cX9_has 9 = .ok (.iconst 1, 1) := by decide +kernel
theorem dX9_has_10 : decode cX9_has 10 = .ok (.goto 4, 3) := by decide +kernel
theorem dX9_has_13 : decode cX9_has 13 = .ok (.iconst 0, 1) := by decide +kernel
theorem dX9_has_14 : decode cX9_has 14 = .ok (.ireturn, 1) := by decide +kernel
theorem dX9_bitsOf_0 : decode cX9_bitsOf 0 = .ok (.iload_n 0, 1) := by decide +kernel
theorem dX9_bitsOf_1 : decode cX9_bitsOf 1 = .ok (.iload_n 0, 1) := by decide +kernel
theorem dX9_bitsOf_2 : decode cX9_bitsOf 2 = .ok (.iconst 1, 1) := by decide +kernel
theorem dX9_bitsOf_3 : decode cX9_bitsOf 3 = .ok (.ishr, 1) := by decide +kernel
theorem dX9_bitsOf_4 : decode cX9_bitsOf 4 = .ok (.ldc 78, 2) := by decide +kernel
theorem dX9_bitsOf_6 : decode cX9_bitsOf 6 = .ok (.iand, 1) := by decide +kernel
theorem dX9_bitsOf_7 : decode cX9_bitsOf 7 = .ok (.isub, 1) := by decide +kernel
theorem dX9_bitsOf_8 : decode cX9_bitsOf 8 = .ok (.istore_n 1, 1) := by decide +kernel
theorem dX9_bitsOf_9 : decode cX9_bitsOf 9 = .ok (.iload_n 1, 1) := by decide +kernel
theorem dX9_bitsOf_10 : decode cX9_bitsOf 10 = .ok (.ldc 79, 2) := by decide +kernel
theorem dX9_bitsOf_12 : decode cX9_bitsOf 12 = .ok (.iand, 1) := by decide +kernel
theorem dX9_bitsOf_13 : decode cX9_bitsOf 13 = .ok (.iload_n 1, 1) := by decide +kernel
theorem dX9_bitsOf_14 : decode cX9_bitsOf 14 = .ok (.iconst 2, 1) := by decide +kernel
theorem dX9_bitsOf_15 : decode cX9_bitsOf 15 = .ok (.ishr, 1) := by decide +kernel
theorem dX9_bitsOf_16 : decode cX9_bitsOf 16 = .ok (.ldc 79, 2) := by decide +kernel
theorem dX9_bitsOf_18 : decode cX9_bitsOf 18 = .ok (.iand, 1) := by decide +kernel
theorem dX9_bitsOf_19 : decode cX9_bitsOf 19 = .ok (.iadd, 1) := by decide +kernel
theorem dX9_bitsOf_20 : decode cX9_bitsOf 20 = .ok (.istore_n 1, 1) := by decide +kernel
theorem dX9_bitsOf_21 : decode cX9_bitsOf 21 = .ok (.iload_n 1, 1) := by decide +kernel
theorem dX9_bitsOf_22 : decode cX9_bitsOf 22 = .ok (.iload_n 1, 1) := by decide +kernel
theorem dX9_bitsOf_23 : decode cX9_bitsOf 23 = .ok (.iconst 4, 1) := by decide +kernel
theorem dX9_bitsOf_24 : decode cX9_bitsOf 24 = .ok (.ishr, 1) := by decide +kernel
theorem dX9_bitsOf_25 : decode cX9_bitsOf 25 = .ok (.iadd, 1) := by decide +kernel
theorem dX9_bitsOf_26 : decode cX9_bitsOf 26 = .ok (.ldc 80, 2) := by decide +kernel
theorem dX9_bitsOf_28 : decode cX9_bitsOf 28 = .ok (.iand, 1) := by decide +kernel
theorem dX9_bitsOf_29 : decode cX9_bitsOf 29 = .ok (.istore_n 1, 1) := by decide +kernel
theorem dX9_bitsOf_30 : decode cX9_bitsOf 30 = .ok (.iload_n 1, 1) := by decide +kernel
theorem dX9_bitsOf_31 : decode cX9_bitsOf 31 = .ok (.ldc 81, 2) := by decide +kernel
theorem dX9_bitsOf_33 : decode cX9_bitsOf 33 = .ok (.imul, 1) := by decide +kernel
theorem dX9_bitsOf_34 : decode cX9_bitsOf 34 = .ok (.bipush 24, 2) := by decide +kernel
theorem dX9_bitsOf_36 : decode cX9_bitsOf 36 = .ok (.ishr, 1) := by decide +kernel
theorem dX9_bitsOf_37 : decode cX9_bitsOf 37 = .ok (.ireturn, 1) := by decide +kernel
theorem dX9_isTable_0 : decode cX9_isTable 0 = .ok (.iload_n 1, 1) := by decide +kernel
theorem dX9_isTable_1 : decode cX9_isTable 1 = .ok (.iconst 0, 1) := by decide +kernel
theorem dX9_isTable_2 : decode cX9_isTable 2 = .ok (.iconst 5, 1) := by decide +kernel
theorem dX9_isTable_3 : decode cX9_isTable 3 = .ok (.invokestatic 82, 3) := by decide +kernel
theorem dX9_isTable_6 : decode cX9_isTable 6 = .ok (.ifCond .eq 16, 3) := by decide +kernel
theorem dX9_isTable_9 : decode cX9_isTable 9 = .ok (.aload_n 0, 1) := by decide +kernel
theorem dX9_isTable_10 : decode cX9_isTable 10 = .ok (.getfield 13, 3) := by decide +kernel
theorem dX9_isTable_13 : decode cX9_isTable 13 = .ok (.iload_n 1, 1) := by decide +kernel
theorem dX9_isTable_14 : decode cX9_isTable 14 = .ok (.iaload, 1) := by decide +kernel
theorem dX9_isTable_15 : decode cX9_isTable 15 = .ok (.ifCond .le 7, 3) := by decide +kernel
theorem dX9_isTable_18 : decode cX9_isTable 18 = .ok (.iconst 1, 1) := by decide +kernel
theorem dX9_isTable_19 : decode cX9_isTable 19 = .ok (.goto 4, 3) := by decide +kernel
theorem dX9_isTable_22 : decode cX9_isTable 22 = .ok (.iconst 0, 1) := by decide +kernel
theorem dX9_isTable_23 : decode cX9_isTable 23 = .ok (.ireturn, 1) := by decide +kernel
theorem dX9_isLine_0 : decode cX9_isLine 0 = .ok (.aload_n 0, 1) := by decide +kernel
theorem dX9_isLine_1 : decode cX9_isLine 1 = .ok (.iload_n 1, 1) := by decide +kernel
theorem dX9_isLine_2 : decode cX9_isLine 2 = .ok (.invokevirtual 86, 3) := by decide +kernel
theorem dX9_isLine_5 : decode cX9_isLine 5 = .ok (.ifCond .eq 23, 3) := by decide +kernel
theorem dX9_isLine_8 : decode cX9_isLine 8 = .ok (.iload_n 2, 1) := by decide +kernel
theorem dX9_isLine_9 : decode cX9_isLine 9 = .ok (.iconst 0, 1) := by decide +kernel
theorem dX9_isLine_10 : decode cX9_isLine 10 = .ok (.aload_n 0, 1) := by decide +kernel
theorem dX9_isLine_11 : decode cX9_isLine 11 = .ok (.getfield 13, 3) := by decide +kernel
theorem dX9_isLine_14 : decode cX9_isLine 14 = .ok (.iload_n 1, 1) := by decide +kernel
theorem dX9_isLine_15 : decode cX9_isLine 15 = .ok (.iaload, 1) := by decide +kernel
theorem dX9_isLine_16 : decode cX9_isLine 16 = .ok (.iconst 1, 1) := by decide +kernel
theorem dX9_isLine_17 : decode cX9_isLine 17 = .ok (.isub, 1) := by decide +kernel
theorem dX9_isLine_18 : decode cX9_isLine 18 = .ok (.invokestatic 82, 3) := by decide +kernel
theorem dX9_isLine_21 : decode cX9_isLine 21 = .ok (.ifCond .eq 7, 3) := by decide +kernel
theorem dX9_isLine_24 : decode cX9_isLine 24 = .ok (.iconst 1, 1) := by decide +kernel
theorem dX9_isLine_25 : decode cX9_isLine 25 = .ok (.goto 4, 3) := by decide +kernel
theorem dX9_isLine_28 : decode cX9_isLine 28 = .ok (.iconst 0, 1) := by decide +kernel
theorem dX9_isLine_29 : decode cX9_isLine 29 = .ok (.ireturn, 1) := by decide +kernel
theorem dX9_rowOf_0 : decode cX9_rowOf 0 = .ok (.aload_n 0, 1) := by decide +kernel
theorem dX9_rowOf_1 : decode cX9_rowOf 1 = .ok (.getfield 17, 3) := by decide +kernel
theorem dX9_rowOf_4 : decode cX9_rowOf 4 = .ok (.bipush 28, 2) := by decide +kernel
theorem dX9_rowOf_6 : decode cX9_rowOf 6 = .ok (.iload_n 1, 1) := by decide +kernel
theorem dX9_rowOf_7 : decode cX9_rowOf 7 = .ok (.imul, 1) := by decide +kernel
theorem dX9_rowOf_8 : decode cX9_rowOf 8 = .ok (.iload_n 2, 1) := by decide +kernel
theorem dX9_rowOf_9 : decode cX9_rowOf 9 = .ok (.iadd, 1) := by decide +kernel
theorem dX9_rowOf_10 : decode cX9_rowOf 10 = .ok (.iaload, 1) := by decide +kernel
theorem dX9_rowOf_11 : decode cX9_rowOf 11 = .ok (.ireturn, 1) := by decide +kernel
theorem dX9_isMinus_0 : decode cX9_isMinus 0 = .ok (.aload_n 0, 1) := by decide +kernel
theorem dX9_isMinus_1 : decode cX9_isMinus 1 = .ok (.iload_n 1, 1) := by decide +kernel
theorem dX9_isMinus_2 : decode cX9_isMinus 2 = .ok (.iload_n 2, 1) := by decide +kernel
theorem dX9_isMinus_3 : decode cX9_isMinus 3 = .ok (.invokevirtual 90, 3) := by decide +kernel
theorem dX9_isMinus_6 : decode cX9_isMinus 6 = .ok (.iload_n 3, 1) := by decide +kernel
theorem dX9_isMinus_7 : decode cX9_isMinus 7 = .ok (.invokestatic 94, 3) := by decide +kernel
theorem dX9_isMinus_10 : decode cX9_isMinus 10 = .ok (.ireturn, 1) := by decide +kernel
theorem dX9_columnOf_0 : decode cX9_columnOf 0 = .ok (.iconst 0, 1) := by decide +kernel
theorem dX9_columnOf_1 : decode cX9_columnOf 1 = .ok (.istore_n 3, 1) := by decide +kernel
theorem dX9_columnOf_2 : decode cX9_columnOf 2 = .ok (.iconst 0, 1) := by decide +kernel
theorem dX9_columnOf_3 : decode cX9_columnOf 3 = .ok (.istore 4, 2) := by decide +kernel
theorem dX9_columnOf_5 : decode cX9_columnOf 5 = .ok (.iload 4, 2) := by decide +kernel
theorem dX9_columnOf_7 : decode cX9_columnOf 7 = .ok (.aload_n 0, 1) := by decide +kernel
theorem dX9_columnOf_8 : decode cX9_columnOf 8 = .ok (.getfield 13, 3) := by decide +kernel
theorem dX9_columnOf_11 : decode cX9_columnOf 11 = .ok (.iload_n 1, 1) := by decide +kernel
theorem dX9_columnOf_12 : decode cX9_columnOf 12 = .ok (.iaload, 1) := by decide +kernel
theorem dX9_columnOf_13 : decode cX9_columnOf 13 = .ok (.if_icmp .ge 27, 3) := by decide +kernel
theorem dX9_columnOf_16 : decode cX9_columnOf 16 = .ok (.aload_n 0, 1) := by decide +kernel
theorem dX9_columnOf_17 : decode cX9_columnOf 17 = .ok (.iload_n 1, 1) := by decide +kernel
theorem dX9_columnOf_18 : decode cX9_columnOf 18 = .ok (.iload 4, 2) := by decide +kernel
theorem dX9_columnOf_20 : decode cX9_columnOf 20 = .ok (.iload_n 2, 1) := by decide +kernel
theorem dX9_columnOf_21 : decode cX9_columnOf 21 = .ok (.invokevirtual 98, 3) := by decide +kernel
theorem dX9_columnOf_24 : decode cX9_columnOf 24 = .ok (.ifCond .eq 10, 3) := by decide +kernel
theorem dX9_columnOf_27 : decode cX9_columnOf 27 = .ok (.iload_n 3, 1) := by decide +kernel
theorem dX9_columnOf_28 : decode cX9_columnOf 28 = .ok (.iconst 1, 1) := by decide +kernel
theorem dX9_columnOf_29 : decode cX9_columnOf 29 = .ok (.iload 4, 2) := by decide +kernel
theorem dX9_columnOf_31 : decode cX9_columnOf 31 = .ok (.ishl, 1) := by decide +kernel
theorem dX9_columnOf_32 : decode cX9_columnOf 32 = .ok (.ior, 1) := by decide +kernel
theorem dX9_columnOf_33 : decode cX9_columnOf 33 = .ok (.istore_n 3, 1) := by decide +kernel
theorem dX9_columnOf_34 : decode cX9_columnOf 34 = .ok (.iinc 4 1, 3) := by decide +kernel
theorem dX9_columnOf_37 : decode cX9_columnOf 37 = .ok (.goto (-32), 3) := by decide +kernel
theorem dX9_columnOf_40 : decode cX9_columnOf 40 = .ok (.iload_n 3, 1) := by decide +kernel
theorem dX9_columnOf_41 : decode cX9_columnOf 41 = .ok (.ireturn, 1) := by decide +kernel
theorem dX9_lineOf_0 : decode cX9_lineOf 0 = .ok (.iload_n 2, 1) := by decide +kernel
theorem dX9_lineOf_1 : decode cX9_lineOf 1 = .ok (.ifCond .eq 12, 3) := by decide +kernel
theorem dX9_lineOf_4 : decode cX9_lineOf 4 = .ok (.aload_n 0, 1) := by decide +kernel
theorem dX9_lineOf_5 : decode cX9_lineOf 5 = .ok (.iload_n 1, 1) := by decide +kernel
theorem dX9_lineOf_6 : decode cX9_lineOf 6 = .ok (.iload_n 3, 1) := by decide +kernel
theorem dX9_lineOf_7 : decode cX9_lineOf 7 = .ok (.invokevirtual 90, 3) := by decide +kernel
theorem dX9_lineOf_10 : decode cX9_lineOf 10 = .ok (.goto 9, 3) := by decide +kernel
theorem dX9_lineOf_13 : decode cX9_lineOf 13 = .ok (.aload_n 0, 1) := by decide +kernel
theorem dX9_lineOf_14 : decode cX9_lineOf 14 = .ok (.iload_n 1, 1) := by decide +kernel
theorem dX9_lineOf_15 : decode cX9_lineOf 15 = .ok (.iload_n 3, 1) := by decide +kernel
theorem dX9_lineOf_16 : decode cX9_lineOf 16 = .ok (.invokevirtual 101, 3) := by decide +kernel
theorem dX9_lineOf_19 : decode cX9_lineOf 19 = .ok (.ireturn, 1) := by decide +kernel
theorem dX9_freePlace_0 : decode cX9_freePlace 0 = .ok (.iconst 0, 1) := by decide +kernel
theorem dX9_freePlace_1 : decode cX9_freePlace 1 = .ok (.istore_n 1, 1) := by decide +kernel
theorem dX9_freePlace_2 : decode cX9_freePlace 2 = .ok (.iload_n 1, 1) := by decide +kernel
theorem dX9_freePlace_3 : decode cX9_freePlace 3 = .ok (.bipush 6, 2) := by decide +kernel
theorem dX9_freePlace_5 : decode cX9_freePlace 5 = .ok (.if_icmp .ge 20, 3) := by decide +kernel
theorem dX9_freePlace_8 : decode cX9_freePlace 8 = .ok (.aload_n 0, 1) := by decide +kernel
theorem dX9_freePlace_9 : decode cX9_freePlace 9 = .ok (.getfield 13, 3) := by decide +kernel
theorem dX9_freePlace_12 : decode cX9_freePlace 12 = .ok (.iload_n 1, 1) := by decide +kernel
theorem dX9_freePlace_13 : decode cX9_freePlace 13 = .ok (.iaload, 1) := by decide +kernel
theorem dX9_freePlace_14 : decode cX9_freePlace 14 = .ok (.ifCond .ne 5, 3) := by decide +kernel
theorem dX9_freePlace_17 : decode cX9_freePlace 17 = .ok (.iload_n 1, 1) := by decide +kernel
theorem dX9_freePlace_18 : decode cX9_freePlace 18 = .ok (.ireturn, 1) := by decide +kernel
theorem dX9_freePlace_19 : decode cX9_freePlace 19 = .ok (.iinc 1 1, 3) := by decide +kernel
theorem dX9_freePlace_22 : decode cX9_freePlace 22 = .ok (.goto (-20), 3) := by decide +kernel
theorem dX9_freePlace_25 : decode cX9_freePlace 25 = .ok (.iconst (-1), 1) := by decide +kernel
theorem dX9_freePlace_26 : decode cX9_freePlace 26 = .ok (.ireturn, 1) := by decide +kernel
theorem dX9_clearsMade_0 : decode cX9_clearsMade 0 = .ok (.iconst 0, 1) := by decide +kernel
theorem dX9_clearsMade_1 : decode cX9_clearsMade 1 = .ok (.istore_n 1, 1) := by decide +kernel
theorem dX9_clearsMade_2 : decode cX9_clearsMade 2 = .ok (.iload_n 1, 1) := by decide +kernel
theorem dX9_clearsMade_3 : decode cX9_clearsMade 3 = .ok (.bipush 28, 2) := by decide +kernel
theorem dX9_clearsMade_5 : decode cX9_clearsMade 5 = .ok (.if_icmp .ge 16, 3) := by decide +kernel
theorem dX9_clearsMade_8 : decode cX9_clearsMade 8 = .ok (.aload_n 0, 1) := by decide +kernel
theorem dX9_clearsMade_9 : decode cX9_clearsMade 9 = .ok (.getfield 32, 3) := by decide +kernel
theorem dX9_clearsMade_12 : decode cX9_clearsMade 12 = .ok (.iload_n 1, 1) := by decide +kernel
theorem dX9_clearsMade_13 : decode cX9_clearsMade 13 = .ok (.iconst 0, 1) := by decide +kernel
theorem dX9_clearsMade_14 : decode cX9_clearsMade 14 = .ok (.iastore, 1) := by decide +kernel
theorem dX9_clearsMade_15 : decode cX9_clearsMade 15 = .ok (.iinc 1 1, 3) := by decide +kernel
theorem dX9_clearsMade_18 : decode cX9_clearsMade 18 = .ok (.goto (-16), 3) := by decide +kernel
theorem dX9_clearsMade_21 : decode cX9_clearsMade 21 = .ok (.return_, 1) := by decide +kernel
theorem dX9_lays_0 : decode cX9_lays 0 = .ok (.iload_n 3, 1) := by decide +kernel
theorem dX9_lays_1 : decode cX9_lays 1 = .ok (.ifCond .eq 15, 3) := by decide +kernel
theorem dX9_lays_4 : decode cX9_lays 4 = .ok (.aload_n 0, 1) := by decide +kernel
theorem dX9_lays_5 : decode cX9_lays 5 = .ok (.getfield 32, 3) := by decide +kernel
theorem dX9_lays_8 : decode cX9_lays 8 = .ok (.iload_n 1, 1) := by decide +kernel
theorem dX9_lays_9 : decode cX9_lays 9 = .ok (.dup2, 1) := by decide +kernel
theorem dX9_lays_10 : decode cX9_lays 10 = .ok (.iaload, 1) := by decide +kernel
theorem dX9_lays_11 : decode cX9_lays 11 = .ok (.iconst 1, 1) := by decide +kernel
theorem dX9_lays_12 : decode cX9_lays 12 = .ok (.iload_n 2, 1) := by decide +kernel
theorem dX9_lays_13 : decode cX9_lays 13 = .ok (.ishl, 1) := by decide +kernel
theorem dX9_lays_14 : decode cX9_lays 14 = .ok (.ior, 1) := by decide +kernel
theorem dX9_lays_15 : decode cX9_lays 15 = .ok (.iastore, 1) := by decide +kernel
theorem dX9_lays_16 : decode cX9_lays 16 = .ok (.return_, 1) := by decide +kernel
theorem dX9_trailsAnew_0 : decode cX9_trailsAnew 0 = .ok (.iconst 0, 1) := by decide +kernel
theorem dX9_trailsAnew_1 : decode cX9_trailsAnew 1 = .ok (.istore_n 2, 1) := by decide +kernel
theorem dX9_trailsAnew_2 : decode cX9_trailsAnew 2 = .ok (.iload_n 2, 1) := by decide +kernel
theorem dX9_trailsAnew_3 : decode cX9_trailsAnew 3 = .ok (.iconst 2, 1) := by decide +kernel
theorem dX9_trailsAnew_4 : decode cX9_trailsAnew 4 = .ok (.if_icmp .ge 68, 3) := by decide +kernel
theorem dX9_trailsAnew_7 : decode cX9_trailsAnew 7 = .ok (.aload_n 0, 1) := by decide +kernel
theorem dX9_trailsAnew_8 : decode cX9_trailsAnew 8 = .ok (.getfield 26, 3) := by decide +kernel
theorem dX9_trailsAnew_11 : decode cX9_trailsAnew 11 = .ok (.iconst 2, 1) := by decide +kernel
theorem dX9_trailsAnew_12 : decode cX9_trailsAnew 12 = .ok (.iload_n 1, 1) := by decide +kernel
theorem dX9_trailsAnew_13 : decode cX9_trailsAnew 13 = .ok (.imul, 1) := by decide +kernel
theorem dX9_trailsAnew_14 : decode cX9_trailsAnew 14 = .ok (.iload_n 2, 1) := by decide +kernel
theorem dX9_trailsAnew_15 : decode cX9_trailsAnew 15 = .ok (.iadd, 1) := by decide +kernel
theorem dX9_trailsAnew_16 : decode cX9_trailsAnew 16 = .ok (.iconst 1, 1) := by decide +kernel
theorem dX9_trailsAnew_17 : decode cX9_trailsAnew 17 = .ok (.iload_n 2, 1) := by decide +kernel
theorem dX9_trailsAnew_18 : decode cX9_trailsAnew 18 = .ok (.isub, 1) := by decide +kernel
theorem dX9_trailsAnew_19 : decode cX9_trailsAnew 19 = .ok (.iastore, 1) := by decide +kernel
theorem dX9_trailsAnew_20 : decode cX9_trailsAnew 20 = .ok (.iconst 0, 1) := by decide +kernel
theorem dX9_trailsAnew_21 : decode cX9_trailsAnew 21 = .ok (.istore_n 3, 1) := by decide +kernel
theorem dX9_trailsAnew_22 : decode cX9_trailsAnew 22 = .ok (.iload_n 3, 1) := by decide +kernel
theorem dX9_trailsAnew_23 : decode cX9_trailsAnew 23 = .ok (.bipush 28, 2) := by decide +kernel
theorem dX9_trailsAnew_25 : decode cX9_trailsAnew 25 = .ok (.if_icmp .ge 41, 3) := by decide +kernel
theorem dX9_trailsAnew_28 : decode cX9_trailsAnew 28 = .ok (.aload_n 0, 1) := by decide +kernel
theorem dX9_trailsAnew_29 : decode cX9_trailsAnew 29 = .ok (.getfield 20, 3) := by decide +kernel
theorem dX9_trailsAnew_32 : decode cX9_trailsAnew 32 = .ok (.bipush 28, 2) := by decide +kernel
theorem dX9_trailsAnew_34 : decode cX9_trailsAnew 34 = .ok (.iconst 2, 1) := by decide +kernel
theorem dX9_trailsAnew_35 : decode cX9_trailsAnew 35 = .ok (.iload_n 1, 1) := by decide +kernel
theorem dX9_trailsAnew_36 : decode cX9_trailsAnew 36 = .ok (.imul, 1) := by decide +kernel
theorem dX9_trailsAnew_37 : decode cX9_trailsAnew 37 = .ok (.iload_n 2, 1) := by decide +kernel
theorem dX9_trailsAnew_38 : decode cX9_trailsAnew 38 = .ok (.iadd, 1) := by decide +kernel
theorem dX9_trailsAnew_39 : decode cX9_trailsAnew 39 = .ok (.imul, 1) := by decide +kernel
theorem dX9_trailsAnew_40 : decode cX9_trailsAnew 40 = .ok (.iload_n 3, 1) := by decide +kernel
theorem dX9_trailsAnew_41 : decode cX9_trailsAnew 41 = .ok (.iadd, 1) := by decide +kernel
theorem dX9_trailsAnew_42 : decode cX9_trailsAnew 42 = .ok (.iload_n 3, 1) := by decide +kernel
theorem dX9_trailsAnew_43 : decode cX9_trailsAnew 43 = .ok (.iastore, 1) := by decide +kernel
theorem dX9_trailsAnew_44 : decode cX9_trailsAnew 44 = .ok (.aload_n 0, 1) := by decide +kernel
theorem dX9_trailsAnew_45 : decode cX9_trailsAnew 45 = .ok (.getfield 23, 3) := by decide +kernel
theorem dX9_trailsAnew_48 : decode cX9_trailsAnew 48 = .ok (.bipush 28, 2) := by decide +kernel
theorem dX9_trailsAnew_50 : decode cX9_trailsAnew 50 = .ok (.iconst 2, 1) := by decide +kernel
theorem dX9_trailsAnew_51 : decode cX9_trailsAnew 51 = .ok (.iload_n 1, 1) := by decide +kernel
theorem dX9_trailsAnew_52 : decode cX9_trailsAnew 52 = .ok (.imul, 1) := by decide +kernel
theorem dX9_trailsAnew_53 : decode cX9_trailsAnew 53 = .ok (.iload_n 2, 1) := by decide +kernel
theorem dX9_trailsAnew_54 : decode cX9_trailsAnew 54 = .ok (.iadd, 1) := by decide +kernel
theorem dX9_trailsAnew_55 : decode cX9_trailsAnew 55 = .ok (.imul, 1) := by decide +kernel
theorem dX9_trailsAnew_56 : decode cX9_trailsAnew 56 = .ok (.iload_n 3, 1) := by decide +kernel
theorem dX9_trailsAnew_57 : decode cX9_trailsAnew 57 = .ok (.iadd, 1) := by decide +kernel
theorem dX9_trailsAnew_58 : decode cX9_trailsAnew 58 = .ok (.iconst 0, 1) := by decide +kernel
theorem dX9_trailsAnew_59 : decode cX9_trailsAnew 59 = .ok (.iastore, 1) := by decide +kernel
theorem dX9_trailsAnew_60 : decode cX9_trailsAnew 60 = .ok (.iinc 3 1, 3) := by decide +kernel
theorem dX9_trailsAnew_63 : decode cX9_trailsAnew 63 = .ok (.goto (-41), 3) := by decide +kernel
theorem dX9_trailsAnew_66 : decode cX9_trailsAnew 66 = .ok (.iinc 2 1, 3) := by decide +kernel
theorem dX9_trailsAnew_69 : decode cX9_trailsAnew 69 = .ok (.goto (-67), 3) := by decide +kernel
theorem dX9_trailsAnew_72 : decode cX9_trailsAnew 72 = .ok (.return_, 1) := by decide +kernel
theorem dX9_comes_0 : decode cX9_comes 0 = .ok (.aload_n 0, 1) := by decide +kernel
theorem dX9_comes_1 : decode cX9_comes 1 = .ok (.invokevirtual 104, 3) := by decide +kernel
theorem dX9_comes_4 : decode cX9_comes 4 = .ok (.istore_n 2, 1) := by decide +kernel
theorem dX9_comes_5 : decode cX9_comes 5 = .ok (.aload_n 0, 1) := by decide +kernel
theorem dX9_comes_6 : decode cX9_comes 6 = .ok (.getfield 13, 3) := by decide +kernel
theorem dX9_comes_9 : decode cX9_comes 9 = .ok (.iload_n 2, 1) := by decide +kernel
theorem dX9_comes_10 : decode cX9_comes 10 = .ok (.iload_n 1, 1) := by decide +kernel
theorem dX9_comes_11 : decode cX9_comes 11 = .ok (.iastore, 1) := by decide +kernel
theorem dX9_comes_12 : decode cX9_comes 12 = .ok (.iconst 0, 1) := by decide +kernel
theorem dX9_comes_13 : decode cX9_comes 13 = .ok (.istore_n 3, 1) := by decide +kernel
theorem dX9_comes_14 : decode cX9_comes 14 = .ok (.iload_n 3, 1) := by decide +kernel
theorem dX9_comes_15 : decode cX9_comes 15 = .ok (.bipush 28, 2) := by decide +kernel
theorem dX9_comes_17 : decode cX9_comes 17 = .ok (.if_icmp .ge 26, 3) := by decide +kernel
theorem dX9_comes_20 : decode cX9_comes 20 = .ok (.aload_n 0, 1) := by decide +kernel
theorem dX9_comes_21 : decode cX9_comes 21 = .ok (.getfield 17, 3) := by decide +kernel
theorem dX9_comes_24 : decode cX9_comes 24 = .ok (.bipush 28, 2) := by decide +kernel
theorem dX9_comes_26 : decode cX9_comes 26 = .ok (.iload_n 2, 1) := by decide +kernel
theorem dX9_comes_27 : decode cX9_comes 27 = .ok (.imul, 1) := by decide +kernel
theorem dX9_comes_28 : decode cX9_comes 28 = .ok (.iload_n 3, 1) := by decide +kernel
theorem dX9_comes_29 : decode cX9_comes 29 = .ok (.iadd, 1) := by decide +kernel
theorem dX9_comes_30 : decode cX9_comes 30 = .ok (.aload_n 0, 1) := by decide +kernel
theorem dX9_comes_31 : decode cX9_comes 31 = .ok (.getfield 32, 3) := by decide +kernel
theorem dX9_comes_34 : decode cX9_comes 34 = .ok (.iload_n 3, 1) := by decide +kernel
theorem dX9_comes_35 : decode cX9_comes 35 = .ok (.iaload, 1) := by decide +kernel
theorem dX9_comes_36 : decode cX9_comes 36 = .ok (.iastore, 1) := by decide +kernel
theorem dX9_comes_37 : decode cX9_comes 37 = .ok (.iinc 3 1, 3) := by decide +kernel
theorem dX9_comes_40 : decode cX9_comes 40 = .ok (.goto (-26), 3) := by decide +kernel
theorem dX9_comes_43 : decode cX9_comes 43 = .ok (.aload_n 0, 1) := by decide +kernel
theorem dX9_comes_44 : decode cX9_comes 44 = .ok (.iload_n 2, 1) := by decide +kernel
theorem dX9_comes_45 : decode cX9_comes 45 = .ok (.invokevirtual 108, 3) := by decide +kernel
theorem dX9_comes_48 : decode cX9_comes 48 = .ok (.iload_n 2, 1) := by decide +kernel
theorem dX9_comes_49 : decode cX9_comes 49 = .ok (.ireturn, 1) := by decide +kernel
theorem dX9_isFull_0 : decode cX9_isFull 0 = .ok (.aload_n 0, 1) := by decide +kernel
theorem dX9_isFull_1 : decode cX9_isFull 1 = .ok (.invokevirtual 104, 3) := by decide +kernel
theorem dX9_isFull_4 : decode cX9_isFull 4 = .ok (.iconst (-1), 1) := by decide +kernel
theorem dX9_isFull_5 : decode cX9_isFull 5 = .ok (.if_icmp .ne 7, 3) := by decide +kernel
theorem dX9_isFull_8 : decode cX9_isFull 8 = .ok (.iconst 1, 1) := by decide +kernel
theorem dX9_isFull_9 : decode cX9_isFull 9 = .ok (.goto 4, 3) := by decide +kernel
theorem dX9_isFull_12 : decode cX9_isFull 12 = .ok (.iconst 0, 1) := by decide +kernel
theorem dX9_isFull_13 : decode cX9_isFull 13 = .ok (.ireturn, 1) := by decide +kernel
theorem dX9_tell_0 : decode cX9_tell 0 = .ok (.aload_n 0, 1) := by decide +kernel
theorem dX9_tell_1 : decode cX9_tell 1 = .ok (.getfield 112, 3) := by decide +kernel
theorem dX9_tell_4 : decode cX9_tell 4 = .ok (.bipush 28, 2) := by decide +kernel
theorem dX9_tell_6 : decode cX9_tell 6 = .ok (.if_icmp .eq 13, 3) := by decide +kernel
theorem dX9_tell_9 : decode cX9_tell 9 = .ok (.iload_n 1, 1) := by decide +kernel
theorem dX9_tell_10 : decode cX9_tell 10 = .ok (.iconst 0, 1) := by decide +kernel
theorem dX9_tell_11 : decode cX9_tell 11 = .ok (.ldc 115, 2) := by decide +kernel
theorem dX9_tell_13 : decode cX9_tell 13 = .ok (.invokestatic 82, 3) := by decide +kernel
theorem dX9_tell_16 : decode cX9_tell 16 = .ok (.ifCond .ne 5, 3) := by decide +kernel
theorem dX9_tell_19 : decode cX9_tell 19 = .ok (.iconst (-1), 1) := by decide +kernel
theorem dX9_tell_20 : decode cX9_tell 20 = .ok (.ireturn, 1) := by decide +kernel
theorem dX9_tell_21 : decode cX9_tell 21 = .ok (.aload_n 0, 1) := by decide +kernel
theorem dX9_tell_22 : decode cX9_tell 22 = .ok (.getfield 29, 3) := by decide +kernel
theorem dX9_tell_25 : decode cX9_tell 25 = .ok (.aload_n 0, 1) := by decide +kernel
theorem dX9_tell_26 : decode cX9_tell 26 = .ok (.getfield 112, 3) := by decide +kernel
theorem dX9_tell_29 : decode cX9_tell 29 = .ok (.iload_n 1, 1) := by decide +kernel
theorem dX9_tell_30 : decode cX9_tell 30 = .ok (.iastore, 1) := by decide +kernel
theorem dX9_tell_31 : decode cX9_tell 31 = .ok (.aload_n 0, 1) := by decide +kernel
theorem dX9_tell_32 : decode cX9_tell 32 = .ok (.dup, 1) := by decide +kernel
theorem dX9_tell_33 : decode cX9_tell 33 = .ok (.getfield 112, 3) := by decide +kernel
theorem dX9_tell_36 : decode cX9_tell 36 = .ok (.iconst 1, 1) := by decide +kernel
theorem dX9_tell_37 : decode cX9_tell 37 = .ok (.iadd, 1) := by decide +kernel
theorem dX9_tell_38 : decode cX9_tell 38 = .ok (.putfield 112, 3) := by decide +kernel
theorem dX9_tell_41 : decode cX9_tell 41 = .ok (.aload_n 0, 1) := by decide +kernel
theorem dX9_tell_42 : decode cX9_tell 42 = .ok (.getfield 112, 3) := by decide +kernel
theorem dX9_tell_45 : decode cX9_tell 45 = .ok (.ireturn, 1) := by decide +kernel
theorem dX9_areTold_0 : decode cX9_areTold 0 = .ok (.iconst 0, 1) := by decide +kernel
theorem dX9_areTold_1 : decode cX9_areTold 1 = .ok (.istore_n 2, 1) := by decide +kernel
theorem dX9_areTold_2 : decode cX9_areTold 2 = .ok (.iload_n 2, 1) := by decide +kernel
theorem dX9_areTold_3 : decode cX9_areTold 3 = .ok (.aload_n 0, 1) := by decide +kernel
theorem dX9_areTold_4 : decode cX9_areTold 4 = .ok (.getfield 112, 3) := by decide +kernel
theorem dX9_areTold_7 : decode cX9_areTold 7 = .ok (.if_icmp .ge 22, 3) := by decide +kernel
theorem dX9_areTold_10 : decode cX9_areTold 10 = .ok (.aload_n 0, 1) := by decide +kernel
theorem dX9_areTold_11 : decode cX9_areTold 11 = .ok (.getfield 29, 3) := by decide +kernel
theorem dX9_areTold_14 : decode cX9_areTold 14 = .ok (.iload_n 2, 1) := by decide +kernel
theorem dX9_areTold_15 : decode cX9_areTold 15 = .ok (.iaload, 1) := by decide +kernel
theorem dX9_areTold_16 : decode cX9_areTold 16 = .ok (.iload_n 1, 1) := by decide +kernel
theorem dX9_areTold_17 : decode cX9_areTold 17 = .ok (.ishr, 1) := by decide +kernel
theorem dX9_areTold_18 : decode cX9_areTold 18 = .ok (.ifCond .eq 5, 3) := by decide +kernel
theorem dX9_areTold_21 : decode cX9_areTold 21 = .ok (.iconst 0, 1) := by decide +kernel
theorem dX9_areTold_22 : decode cX9_areTold 22 = .ok (.ireturn, 1) := by decide +kernel
theorem dX9_areTold_23 : decode cX9_areTold 23 = .ok (.iinc 2 1, 3) := by decide +kernel
theorem dX9_areTold_26 : decode cX9_areTold 26 = .ok (.goto (-24), 3) := by decide +kernel
theorem dX9_areTold_29 : decode cX9_areTold 29 = .ok (.iconst 1, 1) := by decide +kernel
theorem dX9_areTold_30 : decode cX9_areTold 30 = .ok (.ireturn, 1) := by decide +kernel
theorem dX9_take_0 : decode cX9_take 0 = .ok (.aload_n 0, 1) := by decide +kernel
theorem dX9_take_1 : decode cX9_take 1 = .ok (.getfield 112, 3) := by decide +kernel
theorem dX9_take_4 : decode cX9_take 4 = .ok (.ifCond .eq 21, 3) := by decide +kernel
theorem dX9_take_7 : decode cX9_take 7 = .ok (.aload_n 0, 1) := by decide +kernel
theorem dX9_take_8 : decode cX9_take 8 = .ok (.invokevirtual 116, 3) := by decide +kernel
theorem dX9_take_11 : decode cX9_take 11 = .ok (.ifCond .ne 14, 3) := by decide +kernel
theorem dX9_take_14 : decode cX9_take 14 = .ok (.aload_n 0, 1) := by decide +kernel
theorem dX9_take_15 : decode cX9_take 15 = .ok (.aload_n 0, 1) := by decide +kernel
theorem dX9_take_16 : decode cX9_take 16 = .ok (.getfield 112, 3) := by decide +kernel
theorem dX9_take_19 : decode cX9_take 19 = .ok (.invokevirtual 120, 3) := by decide +kernel
theorem dX9_take_22 : decode cX9_take 22 = .ok (.ifCond .ne 5, 3) := by decide +kernel
theorem dX9_take_25 : decode cX9_take 25 = .ok (.iconst (-1), 1) := by decide +kernel
theorem dX9_take_26 : decode cX9_take 26 = .ok (.ireturn, 1) := by decide +kernel
theorem dX9_take_27 : decode cX9_take 27 = .ok (.aload_n 0, 1) := by decide +kernel
theorem dX9_take_28 : decode cX9_take 28 = .ok (.invokevirtual 123, 3) := by decide +kernel
theorem dX9_take_31 : decode cX9_take 31 = .ok (.iconst 0, 1) := by decide +kernel
theorem dX9_take_32 : decode cX9_take 32 = .ok (.istore_n 1, 1) := by decide +kernel
theorem dX9_take_33 : decode cX9_take 33 = .ok (.iload_n 1, 1) := by decide +kernel
theorem dX9_take_34 : decode cX9_take 34 = .ok (.aload_n 0, 1) := by decide +kernel
theorem dX9_take_35 : decode cX9_take 35 = .ok (.getfield 112, 3) := by decide +kernel
theorem dX9_take_38 : decode cX9_take 38 = .ok (.if_icmp .ge 21, 3) := by decide +kernel
theorem dX9_take_41 : decode cX9_take 41 = .ok (.aload_n 0, 1) := by decide +kernel
theorem dX9_take_42 : decode cX9_take 42 = .ok (.getfield 32, 3) := by decide +kernel
theorem dX9_take_45 : decode cX9_take 45 = .ok (.iload_n 1, 1) := by decide +kernel
theorem dX9_take_46 : decode cX9_take 46 = .ok (.aload_n 0, 1) := by decide +kernel
theorem dX9_take_47 : decode cX9_take 47 = .ok (.getfield 29, 3) := by decide +kernel
theorem dX9_take_50 : decode cX9_take 50 = .ok (.iload_n 1, 1) := by decide +kernel
theorem dX9_take_51 : decode cX9_take 51 = .ok (.iaload, 1) := by decide +kernel
theorem dX9_take_52 : decode cX9_take 52 = .ok (.iastore, 1) := by decide +kernel
theorem dX9_take_53 : decode cX9_take 53 = .ok (.iinc 1 1, 3) := by decide +kernel
theorem dX9_take_56 : decode cX9_take 56 = .ok (.goto (-23), 3) := by decide +kernel
theorem dX9_take_59 : decode cX9_take 59 = .ok (.aload_n 0, 1) := by decide +kernel
theorem dX9_take_60 : decode cX9_take 60 = .ok (.getfield 112, 3) := by decide +kernel
theorem dX9_take_63 : decode cX9_take 63 = .ok (.istore_n 1, 1) := by decide +kernel
theorem dX9_take_64 : decode cX9_take 64 = .ok (.aload_n 0, 1) := by decide +kernel
theorem dX9_take_65 : decode cX9_take 65 = .ok (.iconst 0, 1) := by decide +kernel
theorem dX9_take_66 : decode cX9_take 66 = .ok (.putfield 112, 3) := by decide +kernel
theorem dX9_take_69 : decode cX9_take 69 = .ok (.aload_n 0, 1) := by decide +kernel
theorem dX9_take_70 : decode cX9_take 70 = .ok (.iload_n 1, 1) := by decide +kernel
theorem dX9_take_71 : decode cX9_take 71 = .ok (.invokevirtual 126, 3) := by decide +kernel
theorem dX9_take_74 : decode cX9_take 74 = .ok (.ireturn, 1) := by decide +kernel
theorem dX9_primeOf_0 : decode cX9_primeOf 0 = .ok (.iload_n 0, 1) := by decide +kernel
theorem dX9_primeOf_1 : decode cX9_primeOf 1 = .ok (.bipush 9, 2) := by decide +kernel
theorem dX9_primeOf_3 : decode cX9_primeOf 3 = .ok (.if_icmp .eq 9, 3) := by decide +kernel
theorem dX9_primeOf_6 : decode cX9_primeOf 6 = .ok (.iload_n 0, 1) := by decide +kernel
theorem dX9_primeOf_7 : decode cX9_primeOf 7 = .ok (.bipush 27, 2) := by decide +kernel
theorem dX9_primeOf_9 : decode cX9_primeOf 9 = .ok (.if_icmp .ne 7, 3) := by decide +kernel
theorem dX9_primeOf_12 : decode cX9_primeOf 12 = .ok (.iconst 3, 1) := by decide +kernel
theorem dX9_primeOf_13 : decode cX9_primeOf 13 = .ok (.goto 14, 3) := by decide +kernel
theorem dX9_primeOf_16 : decode cX9_primeOf 16 = .ok (.iload_n 0, 1) := by decide +kernel
theorem dX9_primeOf_17 : decode cX9_primeOf 17 = .ok (.bipush 25, 2) := by decide +kernel
theorem dX9_primeOf_19 : decode cX9_primeOf 19 = .ok (.if_icmp .ne 7, 3) := by decide +kernel
theorem dX9_primeOf_22 : decode cX9_primeOf 22 = .ok (.iconst 5, 1) := by decide +kernel
theorem dX9_primeOf_23 : decode cX9_primeOf 23 = .ok (.goto 4, 3) := by decide +kernel
theorem dX9_primeOf_26 : decode cX9_primeOf 26 = .ok (.iload_n 0, 1) := by decide +kernel
theorem dX9_primeOf_27 : decode cX9_primeOf 27 = .ok (.ireturn, 1) := by decide +kernel
theorem dX9_isField_0 : decode cX9_isField 0 = .ok (.iload_n 0, 1) := by decide +kernel
theorem dX9_isField_1 : decode cX9_isField 1 = .ok (.iconst 3, 1) := by decide +kernel
theorem dX9_isField_2 : decode cX9_isField 2 = .ok (.bipush 27, 2) := by decide +kernel
theorem dX9_isField_4 : decode cX9_isField 4 = .ok (.invokestatic 82, 3) := by decide +kernel
theorem dX9_isField_7 : decode cX9_isField 7 = .ok (.ifCond .eq 9, 3) := by decide +kernel
theorem dX9_isField_10 : decode cX9_isField 10 = .ok (.iload_n 0, 1) := by decide +kernel
theorem dX9_isField_11 : decode cX9_isField 11 = .ok (.iconst 2, 1) := by decide +kernel
theorem dX9_isField_12 : decode cX9_isField 12 = .ok (.irem, 1) := by decide +kernel
theorem dX9_isField_13 : decode cX9_isField 13 = .ok (.ifCond .ne 5, 3) := by decide +kernel
theorem dX9_isField_16 : decode cX9_isField 16 = .ok (.iconst 0, 1) := by decide +kernel
theorem dX9_isField_17 : decode cX9_isField 17 = .ok (.ireturn, 1) := by decide +kernel
theorem dX9_isField_18 : decode cX9_isField 18 = .ok (.iload_n 0, 1) := by decide +kernel
theorem dX9_isField_19 : decode cX9_isField 19 = .ok (.bipush 9, 2) := by decide +kernel
theorem dX9_isField_21 : decode cX9_isField 21 = .ok (.if_icmp .eq 15, 3) := by decide +kernel
theorem dX9_isField_24 : decode cX9_isField 24 = .ok (.iload_n 0, 1) := by decide +kernel
theorem dX9_isField_25 : decode cX9_isField 25 = .ok (.bipush 25, 2) := by decide +kernel
theorem dX9_isField_27 : decode cX9_isField 27 = .ok (.if_icmp .eq 9, 3) := by decide +kernel
theorem dX9_isField_30 : decode cX9_isField 30 = .ok (.iload_n 0, 1) := by decide +kernel
theorem dX9_isField_31 : decode cX9_isField 31 = .ok (.bipush 27, 2) := by decide +kernel
theorem dX9_isField_33 : decode cX9_isField 33 = .ok (.if_icmp .ne 5, 3) := by decide +kernel
theorem dX9_isField_36 : decode cX9_isField 36 = .ok (.iconst 1, 1) := by decide +kernel
theorem dX9_isField_37 : decode cX9_isField 37 = .ok (.ireturn, 1) := by decide +kernel
theorem dX9_isField_38 : decode cX9_isField 38 = .ok (.iconst 3, 1) := by decide +kernel
theorem dX9_isField_39 : decode cX9_isField 39 = .ok (.istore_n 1, 1) := by decide +kernel
theorem dX9_isField_40 : decode cX9_isField 40 = .ok (.iload_n 1, 1) := by decide +kernel
theorem dX9_isField_41 : decode cX9_isField 41 = .ok (.iload_n 0, 1) := by decide +kernel
theorem dX9_isField_42 : decode cX9_isField 42 = .ok (.if_icmp .ge 17, 3) := by decide +kernel
theorem dX9_isField_45 : decode cX9_isField 45 = .ok (.iload_n 0, 1) := by decide +kernel
theorem dX9_isField_46 : decode cX9_isField 46 = .ok (.iload_n 1, 1) := by decide +kernel
theorem dX9_isField_47 : decode cX9_isField 47 = .ok (.irem, 1) := by decide +kernel
theorem dX9_isField_48 : decode cX9_isField 48 = .ok (.ifCond .ne 5, 3) := by decide +kernel
theorem dX9_isField_51 : decode cX9_isField 51 = .ok (.iconst 0, 1) := by decide +kernel
theorem dX9_isField_52 : decode cX9_isField 52 = .ok (.ireturn, 1) := by decide +kernel
theorem dX9_isField_53 : decode cX9_isField 53 = .ok (.iinc 1 2, 3) := by decide +kernel
theorem dX9_isField_56 : decode cX9_isField 56 = .ok (.goto (-16), 3) := by decide +kernel
theorem dX9_isField_59 : decode cX9_isField 59 = .ok (.iconst 1, 1) := by decide +kernel
theorem dX9_isField_60 : decode cX9_isField 60 = .ok (.ireturn, 1) := by decide +kernel
theorem dX9_digit_0 : decode cX9_digit 0 = .ok (.iload_n 0, 1) := by decide +kernel
theorem dX9_digit_1 : decode cX9_digit 1 = .ok (.istore_n 3, 1) := by decide +kernel
theorem dX9_digit_2 : decode cX9_digit 2 = .ok (.iconst 0, 1) := by decide +kernel
theorem dX9_digit_3 : decode cX9_digit 3 = .ok (.istore 4, 2) := by decide +kernel
theorem dX9_digit_5 : decode cX9_digit 5 = .ok (.iload 4, 2) := by decide +kernel
theorem dX9_digit_7 : decode cX9_digit 7 = .ok (.iload_n 2, 1) := by decide +kernel
theorem dX9_digit_8 : decode cX9_digit 8 = .ok (.if_icmp .ge 13, 3) := by decide +kernel
theorem dX9_digit_11 : decode cX9_digit 11 = .ok (.iload_n 3, 1) := by decide +kernel
theorem dX9_digit_12 : decode cX9_digit 12 = .ok (.iload_n 1, 1) := by decide +kernel
theorem dX9_digit_13 : decode cX9_digit 13 = .ok (.idiv, 1) := by decide +kernel
theorem dX9_digit_14 : decode cX9_digit 14 = .ok (.istore_n 3, 1) := by decide +kernel
theorem dX9_digit_15 : decode cX9_digit 15 = .ok (.iinc 4 1, 3) := by decide +kernel
theorem dX9_digit_18 : decode cX9_digit 18 = .ok (.goto (-13), 3) := by decide +kernel
theorem dX9_digit_21 : decode cX9_digit 21 = .ok (.iload_n 3, 1) := by decide +kernel
theorem dX9_digit_22 : decode cX9_digit 22 = .ok (.iload_n 1, 1) := by decide +kernel
theorem dX9_digit_23 : decode cX9_digit 23 = .ok (.irem, 1) := by decide +kernel
theorem dX9_digit_24 : decode cX9_digit 24 = .ok (.ireturn, 1) := by decide +kernel
theorem dX9_summed_0 : decode cX9_summed 0 = .ok (.iload_n 0, 1) := by decide +kernel
theorem dX9_summed_1 : decode cX9_summed 1 = .ok (.invokestatic 130, 3) := by decide +kernel
theorem dX9_summed_4 : decode cX9_summed 4 = .ok (.istore 4, 2) := by decide +kernel
theorem dX9_summed_6 : decode cX9_summed 6 = .ok (.iconst 0, 1) := by decide +kernel
theorem dX9_summed_7 : decode cX9_summed 7 = .ok (.istore 5, 2) := by decide +kernel
theorem dX9_summed_9 : decode cX9_summed 9 = .ok (.iconst 1, 1) := by decide +kernel
theorem dX9_summed_10 : decode cX9_summed 10 = .ok (.istore 6, 2) := by decide +kernel
theorem dX9_summed_12 : decode cX9_summed 12 = .ok (.iconst 0, 1) := by decide +kernel
theorem dX9_summed_13 : decode cX9_summed 13 = .ok (.istore 7, 2) := by decide +kernel
theorem dX9_summed_15 : decode cX9_summed 15 = .ok (.iload 6, 2) := by decide +kernel
theorem dX9_summed_17 : decode cX9_summed 17 = .ok (.iload_n 0, 1) := by decide +kernel
theorem dX9_summed_18 : decode cX9_summed 18 = .ok (.if_icmp .ge 49, 3) := by decide +kernel
theorem dX9_summed_21 : decode cX9_summed 21 = .ok (.iload 5, 2) := by decide +kernel
theorem dX9_summed_23 : decode cX9_summed 23 = .ok (.iload 6, 2) := by decide +kernel
theorem dX9_summed_25 : decode cX9_summed 25 = .ok (.iload_n 1, 1) := by decide +kernel
theorem dX9_summed_26 : decode cX9_summed 26 = .ok (.iload 4, 2) := by decide +kernel
theorem dX9_summed_28 : decode cX9_summed 28 = .ok (.iload 7, 2) := by decide +kernel
theorem dX9_summed_30 : decode cX9_summed 30 = .ok (.invokestatic 133, 3) := by decide +kernel
theorem dX9_summed_33 : decode cX9_summed 33 = .ok (.iload_n 3, 1) := by decide +kernel
theorem dX9_summed_34 : decode cX9_summed 34 = .ok (.iload_n 2, 1) := by decide +kernel
theorem dX9_summed_35 : decode cX9_summed 35 = .ok (.iload 4, 2) := by decide +kernel
theorem dX9_summed_37 : decode cX9_summed 37 = .ok (.iload 7, 2) := by decide +kernel
theorem dX9_summed_39 : decode cX9_summed 39 = .ok (.invokestatic 133, 3) := by decide +kernel
theorem dX9_summed_42 : decode cX9_summed 42 = .ok (.imul, 1) := by decide +kernel
theorem dX9_summed_43 : decode cX9_summed 43 = .ok (.iadd, 1) := by decide +kernel
theorem dX9_summed_44 : decode cX9_summed 44 = .ok (.iload 4, 2) := by decide +kernel
theorem dX9_summed_46 : decode cX9_summed 46 = .ok (.iadd, 1) := by decide +kernel
theorem dX9_summed_47 : decode cX9_summed 47 = .ok (.iload 4, 2) := by decide +kernel
theorem dX9_summed_49 : decode cX9_summed 49 = .ok (.irem, 1) := by decide +kernel
theorem dX9_summed_50 : decode cX9_summed 50 = .ok (.imul, 1) := by decide +kernel
theorem dX9_summed_51 : decode cX9_summed 51 = .ok (.iadd, 1) := by decide +kernel
theorem dX9_summed_52 : decode cX9_summed 52 = .ok (.istore 5, 2) := by decide +kernel
theorem dX9_summed_54 : decode cX9_summed 54 = .ok (.iload 6, 2) := by decide +kernel
theorem dX9_summed_56 : decode cX9_summed 56 = .ok (.iload 4, 2) := by decide +kernel
theorem dX9_summed_58 : decode cX9_summed 58 = .ok (.imul, 1) := by decide +kernel
theorem dX9_summed_59 : decode cX9_summed 59 = .ok (.istore 6, 2) := by decide +kernel
theorem dX9_summed_61 : decode cX9_summed 61 = .ok (.iinc 7 1, 3) := by decide +kernel
theorem dX9_summed_64 : decode cX9_summed 64 = .ok (.goto (-49), 3) := by decide +kernel
theorem dX9_summed_67 : decode cX9_summed 67 = .ok (.iload 5, 2) := by decide +kernel
theorem dX9_summed_69 : decode cX9_summed 69 = .ok (.ireturn, 1) := by decide +kernel
theorem dX9_times_0 : decode cX9_times 0 = .ok (.iload_n 0, 1) := by decide +kernel
theorem dX9_times_1 : decode cX9_times 1 = .ok (.invokestatic 130, 3) := by decide +kernel
theorem dX9_times_4 : decode cX9_times 4 = .ok (.istore_n 3, 1) := by decide +kernel
theorem dX9_times_5 : decode cX9_times 5 = .ok (.iload_n 1, 1) := by decide +kernel
theorem dX9_times_6 : decode cX9_times 6 = .ok (.iload_n 3, 1) := by decide +kernel
theorem dX9_times_7 : decode cX9_times 7 = .ok (.iconst 0, 1) := by decide +kernel
theorem dX9_times_8 : decode cX9_times 8 = .ok (.invokestatic 133, 3) := by decide +kernel
theorem dX9_times_11 : decode cX9_times 11 = .ok (.istore 4, 2) := by decide +kernel
theorem dX9_times_13 : decode cX9_times 13 = .ok (.iload_n 1, 1) := by decide +kernel
theorem dX9_times_14 : decode cX9_times 14 = .ok (.iload_n 3, 1) := by decide +kernel
theorem dX9_times_15 : decode cX9_times 15 = .ok (.iconst 1, 1) := by decide +kernel
theorem dX9_times_16 : decode cX9_times 16 = .ok (.invokestatic 133, 3) := by decide +kernel
theorem dX9_times_19 : decode cX9_times 19 = .ok (.istore 5, 2) := by decide +kernel
theorem dX9_times_21 : decode cX9_times 21 = .ok (.iload_n 1, 1) := by decide +kernel
theorem dX9_times_22 : decode cX9_times 22 = .ok (.iload_n 3, 1) := by decide +kernel
theorem dX9_times_23 : decode cX9_times 23 = .ok (.iconst 2, 1) := by decide +kernel
theorem dX9_times_24 : decode cX9_times 24 = .ok (.invokestatic 133, 3) := by decide +kernel
theorem dX9_times_27 : decode cX9_times 27 = .ok (.istore 6, 2) := by decide +kernel
