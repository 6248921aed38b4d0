theorem dX9_times_29 : decode cX9_times 29 = .ok (.iload_n 2, 1) := by decide +kernel
theorem dX9_times_30 : decode cX9_times 30 = .ok (.iload_n 3, 1) := by decide +kernel
theorem dX9_times_31 : decode cX9_times 31 = .ok (.iconst 0, 1) := by decide +kernel
theorem dX9_times_32 : decode cX9_times 32 = .ok (.invokestatic 133, 3) := by decide +kernel
theorem dX9_times_35 : decode cX9_times 35 = .ok (.istore 7, 2) := by decide +kernel
theorem dX9_times_37 : decode cX9_times 37 = .ok (.iload_n 2, 1) := by decide +kernel
theorem dX9_times_38 : decode cX9_times 38 = .ok (.iload_n 3, 1) := by decide +kernel
theorem dX9_times_39 : decode cX9_times 39 = .ok (.iconst 1, 1) := by decide +kernel
theorem dX9_times_40 : decode cX9_times 40 = .ok (.invokestatic 133, 3) := by decide +kernel
theorem dX9_times_43 : decode cX9_times 43 = .ok (.istore 8, 2) := by decide +kernel
theorem dX9_times_45 : decode cX9_times 45 = .ok (.iload_n 2, 1) := by decide +kernel
theorem dX9_times_46 : decode cX9_times 46 = .ok (.iload_n 3, 1) := by decide +kernel
theorem dX9_times_47 : decode cX9_times 47 = .ok (.iconst 2, 1) := by decide +kernel
theorem dX9_times_48 : decode cX9_times 48 = .ok (.invokestatic 133, 3) := by decide +kernel
theorem dX9_times_51 : decode cX9_times 51 = .ok (.istore 9, 2) := by decide +kernel
theorem dX9_times_53 : decode cX9_times 53 = .ok (.iload_n 0, 1) := by decide +kernel
theorem dX9_times_54 : decode cX9_times 54 = .ok (.iload_n 3, 1) := by decide +kernel
theorem dX9_times_55 : decode cX9_times 55 = .ok (.if_icmp .ne 11, 3) := by decide +kernel
theorem dX9_times_58 : decode cX9_times 58 = .ok (.iload 4, 2) := by decide +kernel
theorem dX9_times_60 : decode cX9_times 60 = .ok (.iload 7, 2) := by decide +kernel
theorem dX9_times_62 : decode cX9_times 62 = .ok (.imul, 1) := by decide +kernel
theorem dX9_times_63 : decode cX9_times 63 = .ok (.iload_n 3, 1) := by decide +kernel
theorem dX9_times_64 : decode cX9_times 64 = .ok (.irem, 1) := by decide +kernel
theorem dX9_times_65 : decode cX9_times 65 = .ok (.ireturn, 1) := by decide +kernel
theorem dX9_times_66 : decode cX9_times 66 = .ok (.iload_n 0, 1) := by decide +kernel
theorem dX9_times_67 : decode cX9_times 67 = .ok (.bipush 27, 2) := by decide +kernel
theorem dX9_times_69 : decode cX9_times 69 = .ok (.if_icmp .ne 90, 3) := by decide +kernel
theorem dX9_times_72 : decode cX9_times 72 = .ok (.iload 5, 2) := by decide +kernel
theorem dX9_times_74 : decode cX9_times 74 = .ok (.iload 9, 2) := by decide +kernel
theorem dX9_times_76 : decode cX9_times 76 = .ok (.imul, 1) := by decide +kernel
theorem dX9_times_77 : decode cX9_times 77 = .ok (.iload 6, 2) := by decide +kernel
theorem dX9_times_79 : decode cX9_times 79 = .ok (.iload 8, 2) := by decide +kernel
theorem dX9_times_81 : decode cX9_times 81 = .ok (.imul, 1) := by decide +kernel
theorem dX9_times_82 : decode cX9_times 82 = .ok (.iadd, 1) := by decide +kernel
theorem dX9_times_83 : decode cX9_times 83 = .ok (.istore 10, 2) := by decide +kernel
theorem dX9_times_85 : decode cX9_times 85 = .ok (.iload 6, 2) := by decide +kernel
theorem dX9_times_87 : decode cX9_times 87 = .ok (.iload 9, 2) := by decide +kernel
theorem dX9_times_89 : decode cX9_times 89 = .ok (.imul, 1) := by decide +kernel
theorem dX9_times_90 : decode cX9_times 90 = .ok (.istore 11, 2) := by decide +kernel
theorem dX9_times_92 : decode cX9_times 92 = .ok (.iload 4, 2) := by decide +kernel
theorem dX9_times_94 : decode cX9_times 94 = .ok (.iload 7, 2) := by decide +kernel
theorem dX9_times_96 : decode cX9_times 96 = .ok (.imul, 1) := by decide +kernel
theorem dX9_times_97 : decode cX9_times 97 = .ok (.iload 10, 2) := by decide +kernel
theorem dX9_times_99 : decode cX9_times 99 = .ok (.iadd, 1) := by decide +kernel
theorem dX9_times_100 : decode cX9_times 100 = .ok (.iconst 3, 1) := by decide +kernel
theorem dX9_times_101 : decode cX9_times 101 = .ok (.irem, 1) := by decide +kernel
theorem dX9_times_102 : decode cX9_times 102 = .ok (.istore 12, 2) := by decide +kernel
theorem dX9_times_104 : decode cX9_times 104 = .ok (.iload 12, 2) := by decide +kernel
theorem dX9_times_106 : decode cX9_times 106 = .ok (.iconst 3, 1) := by decide +kernel
theorem dX9_times_107 : decode cX9_times 107 = .ok (.iload 4, 2) := by decide +kernel
theorem dX9_times_109 : decode cX9_times 109 = .ok (.iload 8, 2) := by decide +kernel
theorem dX9_times_111 : decode cX9_times 111 = .ok (.imul, 1) := by decide +kernel
theorem dX9_times_112 : decode cX9_times 112 = .ok (.iload 5, 2) := by decide +kernel
theorem dX9_times_114 : decode cX9_times 114 = .ok (.iload 7, 2) := by decide +kernel
theorem dX9_times_116 : decode cX9_times 116 = .ok (.imul, 1) := by decide +kernel
theorem dX9_times_117 : decode cX9_times 117 = .ok (.iadd, 1) := by decide +kernel
theorem dX9_times_118 : decode cX9_times 118 = .ok (.iload 10, 2) := by decide +kernel
theorem dX9_times_120 : decode cX9_times 120 = .ok (.iadd, 1) := by decide +kernel
theorem dX9_times_121 : decode cX9_times 121 = .ok (.iload 11, 2) := by decide +kernel
theorem dX9_times_123 : decode cX9_times 123 = .ok (.iadd, 1) := by decide +kernel
theorem dX9_times_124 : decode cX9_times 124 = .ok (.iconst 3, 1) := by decide +kernel
theorem dX9_times_125 : decode cX9_times 125 = .ok (.irem, 1) := by decide +kernel
theorem dX9_times_126 : decode cX9_times 126 = .ok (.imul, 1) := by decide +kernel
theorem dX9_times_127 : decode cX9_times 127 = .ok (.iadd, 1) := by decide +kernel
theorem dX9_times_128 : decode cX9_times 128 = .ok (.istore 12, 2) := by decide +kernel
theorem dX9_times_130 : decode cX9_times 130 = .ok (.iload 12, 2) := by decide +kernel
theorem dX9_times_132 : decode cX9_times 132 = .ok (.bipush 9, 2) := by decide +kernel
theorem dX9_times_134 : decode cX9_times 134 = .ok (.iload 4, 2) := by decide +kernel
theorem dX9_times_136 : decode cX9_times 136 = .ok (.iload 9, 2) := by decide +kernel
theorem dX9_times_138 : decode cX9_times 138 = .ok (.imul, 1) := by decide +kernel
theorem dX9_times_139 : decode cX9_times 139 = .ok (.iload 5, 2) := by decide +kernel
theorem dX9_times_141 : decode cX9_times 141 = .ok (.iload 8, 2) := by decide +kernel
theorem dX9_times_143 : decode cX9_times 143 = .ok (.imul, 1) := by decide +kernel
theorem dX9_times_144 : decode cX9_times 144 = .ok (.iadd, 1) := by decide +kernel
theorem dX9_times_145 : decode cX9_times 145 = .ok (.iload 6, 2) := by decide +kernel
theorem dX9_times_147 : decode cX9_times 147 = .ok (.iload 7, 2) := by decide +kernel
theorem dX9_times_149 : decode cX9_times 149 = .ok (.imul, 1) := by decide +kernel
theorem dX9_times_150 : decode cX9_times 150 = .ok (.iadd, 1) := by decide +kernel
theorem dX9_times_151 : decode cX9_times 151 = .ok (.iload 11, 2) := by decide +kernel
theorem dX9_times_153 : decode cX9_times 153 = .ok (.iadd, 1) := by decide +kernel
theorem dX9_times_154 : decode cX9_times 154 = .ok (.iconst 3, 1) := by decide +kernel
theorem dX9_times_155 : decode cX9_times 155 = .ok (.irem, 1) := by decide +kernel
theorem dX9_times_156 : decode cX9_times 156 = .ok (.imul, 1) := by decide +kernel
theorem dX9_times_157 : decode cX9_times 157 = .ok (.iadd, 1) := by decide +kernel
theorem dX9_times_158 : decode cX9_times 158 = .ok (.ireturn, 1) := by decide +kernel
theorem dX9_times_159 : decode cX9_times 159 = .ok (.iload 4, 2) := by decide +kernel
theorem dX9_times_161 : decode cX9_times 161 = .ok (.iload 7, 2) := by decide +kernel
theorem dX9_times_163 : decode cX9_times 163 = .ok (.imul, 1) := by decide +kernel
theorem dX9_times_164 : decode cX9_times 164 = .ok (.iconst 2, 1) := by decide +kernel
theorem dX9_times_165 : decode cX9_times 165 = .ok (.iload 5, 2) := by decide +kernel
theorem dX9_times_167 : decode cX9_times 167 = .ok (.imul, 1) := by decide +kernel
theorem dX9_times_168 : decode cX9_times 168 = .ok (.iload 8, 2) := by decide +kernel
theorem dX9_times_170 : decode cX9_times 170 = .ok (.imul, 1) := by decide +kernel
theorem dX9_times_171 : decode cX9_times 171 = .ok (.iadd, 1) := by decide +kernel
theorem dX9_times_172 : decode cX9_times 172 = .ok (.iload_n 3, 1) := by decide +kernel
theorem dX9_times_173 : decode cX9_times 173 = .ok (.irem, 1) := by decide +kernel
theorem dX9_times_174 : decode cX9_times 174 = .ok (.iload_n 3, 1) := by decide +kernel
theorem dX9_times_175 : decode cX9_times 175 = .ok (.iload 4, 2) := by decide +kernel
theorem dX9_times_177 : decode cX9_times 177 = .ok (.iload 8, 2) := by decide +kernel
theorem dX9_times_179 : decode cX9_times 179 = .ok (.imul, 1) := by decide +kernel
theorem dX9_times_180 : decode cX9_times 180 = .ok (.iload 5, 2) := by decide +kernel
theorem dX9_times_182 : decode cX9_times 182 = .ok (.iload 7, 2) := by decide +kernel
theorem dX9_times_184 : decode cX9_times 184 = .ok (.imul, 1) := by decide +kernel
theorem dX9_times_185 : decode cX9_times 185 = .ok (.iadd, 1) := by decide +kernel
theorem dX9_times_186 : decode cX9_times 186 = .ok (.iload_n 3, 1) := by decide +kernel
theorem dX9_times_187 : decode cX9_times 187 = .ok (.irem, 1) := by decide +kernel
theorem dX9_times_188 : decode cX9_times 188 = .ok (.imul, 1) := by decide +kernel
theorem dX9_times_189 : decode cX9_times 189 = .ok (.iadd, 1) := by decide +kernel
theorem dX9_times_190 : decode cX9_times 190 = .ok (.ireturn, 1) := by decide +kernel
theorem dX9_isSquare_0 : decode cX9_isSquare 0 = .ok (.iconst 1, 1) := by decide +kernel
theorem dX9_isSquare_1 : decode cX9_isSquare 1 = .ok (.istore_n 2, 1) := by decide +kernel
theorem dX9_isSquare_2 : decode cX9_isSquare 2 = .ok (.iload_n 2, 1) := by decide +kernel
theorem dX9_isSquare_3 : decode cX9_isSquare 3 = .ok (.iload_n 0, 1) := by decide +kernel
theorem dX9_isSquare_4 : decode cX9_isSquare 4 = .ok (.if_icmp .ge 21, 3) := by decide +kernel
theorem dX9_isSquare_7 : decode cX9_isSquare 7 = .ok (.iload_n 0, 1) := by decide +kernel
theorem dX9_isSquare_8 : decode cX9_isSquare 8 = .ok (.iload_n 2, 1) := by decide +kernel
theorem dX9_isSquare_9 : decode cX9_isSquare 9 = .ok (.iload_n 2, 1) := by decide +kernel
theorem dX9_isSquare_10 : decode cX9_isSquare 10 = .ok (.invokestatic 137, 3) := by decide +kernel
theorem dX9_isSquare_13 : decode cX9_isSquare 13 = .ok (.iload_n 1, 1) := by decide +kernel
theorem dX9_isSquare_14 : decode cX9_isSquare 14 = .ok (.if_icmp .ne 5, 3) := by decide +kernel
theorem dX9_isSquare_17 : decode cX9_isSquare 17 = .ok (.iconst 1, 1) := by decide +kernel
theorem dX9_isSquare_18 : decode cX9_isSquare 18 = .ok (.ireturn, 1) := by decide +kernel
theorem dX9_isSquare_19 : decode cX9_isSquare 19 = .ok (.iinc 2 1, 3) := by decide +kernel
theorem dX9_isSquare_22 : decode cX9_isSquare 22 = .ok (.goto (-20), 3) := by decide +kernel
theorem dX9_isSquare_25 : decode cX9_isSquare 25 = .ok (.iconst 0, 1) := by decide +kernel
theorem dX9_isSquare_26 : decode cX9_isSquare 26 = .ok (.ireturn, 1) := by decide +kernel
theorem dX9_chi_0 : decode cX9_chi 0 = .ok (.iload_n 1, 1) := by decide +kernel
theorem dX9_chi_1 : decode cX9_chi 1 = .ok (.ifCond .ne 7, 3) := by decide +kernel
theorem dX9_chi_4 : decode cX9_chi 4 = .ok (.iconst 0, 1) := by decide +kernel
theorem dX9_chi_5 : decode cX9_chi 5 = .ok (.goto 16, 3) := by decide +kernel
theorem dX9_chi_8 : decode cX9_chi 8 = .ok (.iload_n 0, 1) := by decide +kernel
theorem dX9_chi_9 : decode cX9_chi 9 = .ok (.iload_n 1, 1) := by decide +kernel
theorem dX9_chi_10 : decode cX9_chi 10 = .ok (.invokestatic 140, 3) := by decide +kernel
theorem dX9_chi_13 : decode cX9_chi 13 = .ok (.ifCond .eq 7, 3) := by decide +kernel
theorem dX9_chi_16 : decode cX9_chi 16 = .ok (.iconst 1, 1) := by decide +kernel
theorem dX9_chi_17 : decode cX9_chi 17 = .ok (.goto 4, 3) := by decide +kernel
theorem dX9_chi_20 : decode cX9_chi 20 = .ok (.iconst (-1), 1) := by decide +kernel
theorem dX9_chi_21 : decode cX9_chi 21 = .ok (.ireturn, 1) := by decide +kernel
theorem dX9_field_0 : decode cX9_field 0 = .ok (.iload_n 1, 1) := by decide +kernel
theorem dX9_field_1 : decode cX9_field 1 = .ok (.invokestatic 143, 3) := by decide +kernel
theorem dX9_field_4 : decode cX9_field 4 = .ok (.ifCond .eq 35, 3) := by decide +kernel
theorem dX9_field_7 : decode cX9_field 7 = .ok (.iload_n 2, 1) := by decide +kernel
theorem dX9_field_8 : decode cX9_field 8 = .ok (.iconst 0, 1) := by decide +kernel
theorem dX9_field_9 : decode cX9_field 9 = .ok (.iload_n 1, 1) := by decide +kernel
theorem dX9_field_10 : decode cX9_field 10 = .ok (.iconst 1, 1) := by decide +kernel
theorem dX9_field_11 : decode cX9_field 11 = .ok (.isub, 1) := by decide +kernel
theorem dX9_field_12 : decode cX9_field 12 = .ok (.invokestatic 82, 3) := by decide +kernel
theorem dX9_field_15 : decode cX9_field 15 = .ok (.ifCond .eq 24, 3) := by decide +kernel
theorem dX9_field_18 : decode cX9_field 18 = .ok (.iload_n 3, 1) := by decide +kernel
theorem dX9_field_19 : decode cX9_field 19 = .ok (.iconst 0, 1) := by decide +kernel
theorem dX9_field_20 : decode cX9_field 20 = .ok (.iload_n 1, 1) := by decide +kernel
theorem dX9_field_21 : decode cX9_field 21 = .ok (.iconst 1, 1) := by decide +kernel
theorem dX9_field_22 : decode cX9_field 22 = .ok (.isub, 1) := by decide +kernel
theorem dX9_field_23 : decode cX9_field 23 = .ok (.invokestatic 82, 3) := by decide +kernel
theorem dX9_field_26 : decode cX9_field 26 = .ok (.ifCond .eq 13, 3) := by decide +kernel
theorem dX9_field_29 : decode cX9_field 29 = .ok (.iload 4, 2) := by decide +kernel
theorem dX9_field_31 : decode cX9_field 31 = .ok (.iconst 0, 1) := by decide +kernel
theorem dX9_field_32 : decode cX9_field 32 = .ok (.iconst 3, 1) := by decide +kernel
theorem dX9_field_33 : decode cX9_field 33 = .ok (.invokestatic 82, 3) := by decide +kernel
theorem dX9_field_36 : decode cX9_field 36 = .ok (.ifCond .ne 5, 3) := by decide +kernel
theorem dX9_field_39 : decode cX9_field 39 = .ok (.iconst (-1), 1) := by decide +kernel
theorem dX9_field_40 : decode cX9_field 40 = .ok (.ireturn, 1) := by decide +kernel
theorem dX9_field_41 : decode cX9_field 41 = .ok (.iload 4, 2) := by decide +kernel
theorem dX9_field_43 : decode cX9_field 43 = .ok (.tableswitch 48 0 2 #[25, 33, 40], 25) := by decide +kernel
theorem dX9_field_68 : decode cX9_field 68 = .ok (.iload_n 1, 1) := by decide +kernel
theorem dX9_field_69 : decode cX9_field 69 = .ok (.iload_n 2, 1) := by decide +kernel
theorem dX9_field_70 : decode cX9_field 70 = .ok (.iload_n 3, 1) := by decide +kernel
theorem dX9_field_71 : decode cX9_field 71 = .ok (.iconst 1, 1) := by decide +kernel
theorem dX9_field_72 : decode cX9_field 72 = .ok (.invokestatic 146, 3) := by decide +kernel
theorem dX9_field_75 : decode cX9_field 75 = .ok (.ireturn, 1) := by decide +kernel
theorem dX9_field_76 : decode cX9_field 76 = .ok (.iload_n 1, 1) := by decide +kernel
theorem dX9_field_77 : decode cX9_field 77 = .ok (.iload_n 2, 1) := by decide +kernel
theorem dX9_field_78 : decode cX9_field 78 = .ok (.iload_n 3, 1) := by decide +kernel
theorem dX9_field_79 : decode cX9_field 79 = .ok (.invokestatic 137, 3) := by decide +kernel
theorem dX9_field_82 : decode cX9_field 82 = .ok (.ireturn, 1) := by decide +kernel
theorem dX9_field_83 : decode cX9_field 83 = .ok (.iload_n 1, 1) := by decide +kernel
theorem dX9_field_84 : decode cX9_field 84 = .ok (.iload_n 2, 1) := by decide +kernel
theorem dX9_field_85 : decode cX9_field 85 = .ok (.iload_n 3, 1) := by decide +kernel
theorem dX9_field_86 : decode cX9_field 86 = .ok (.iconst (-1), 1) := by decide +kernel
theorem dX9_field_87 : decode cX9_field 87 = .ok (.invokestatic 146, 3) := by decide +kernel
theorem dX9_field_90 : decode cX9_field 90 = .ok (.ireturn, 1) := by decide +kernel
theorem dX9_field_91 : decode cX9_field 91 = .ok (.iload_n 1, 1) := by decide +kernel
theorem dX9_field_92 : decode cX9_field 92 = .ok (.iload_n 2, 1) := by decide +kernel
theorem dX9_field_93 : decode cX9_field 93 = .ok (.invokestatic 140, 3) := by decide +kernel
theorem dX9_field_96 : decode cX9_field 96 = .ok (.ifCond .eq 7, 3) := by decide +kernel
theorem dX9_field_99 : decode cX9_field 99 = .ok (.iconst 1, 1) := by decide +kernel
theorem dX9_field_100 : decode cX9_field 100 = .ok (.goto 4, 3) := by decide +kernel
theorem dX9_field_103 : decode cX9_field 103 = .ok (.iconst 0, 1) := by decide +kernel
theorem dX9_field_104 : decode cX9_field 104 = .ok (.ireturn, 1) := by decide +kernel
theorem dX9_residues_0 : decode cX9_residues 0 = .ok (.iload_n 1, 1) := by decide +kernel
theorem dX9_residues_1 : decode cX9_residues 1 = .ok (.invokestatic 143, 3) := by decide +kernel
theorem dX9_residues_4 : decode cX9_residues 4 = .ok (.ifCond .eq 17, 3) := by decide +kernel
theorem dX9_residues_7 : decode cX9_residues 7 = .ok (.iload_n 1, 1) := by decide +kernel
theorem dX9_residues_8 : decode cX9_residues 8 = .ok (.iconst 4, 1) := by decide +kernel
theorem dX9_residues_9 : decode cX9_residues 9 = .ok (.irem, 1) := by decide +kernel
theorem dX9_residues_10 : decode cX9_residues 10 = .ok (.iconst 3, 1) := by decide +kernel
theorem dX9_residues_11 : decode cX9_residues 11 = .ok (.if_icmp .ne 10, 3) := by decide +kernel
theorem dX9_residues_14 : decode cX9_residues 14 = .ok (.aload_n 0, 1) := by decide +kernel
theorem dX9_residues_15 : decode cX9_residues 15 = .ok (.invokevirtual 116, 3) := by decide +kernel
theorem dX9_residues_18 : decode cX9_residues 18 = .ok (.ifCond .eq 5, 3) := by decide +kernel
theorem dX9_residues_21 : decode cX9_residues 21 = .ok (.iconst (-1), 1) := by decide +kernel
theorem dX9_residues_22 : decode cX9_residues 22 = .ok (.ireturn, 1) := by decide +kernel
theorem dX9_residues_23 : decode cX9_residues 23 = .ok (.aload_n 0, 1) := by decide +kernel
theorem dX9_residues_24 : decode cX9_residues 24 = .ok (.invokevirtual 123, 3) := by decide +kernel
theorem dX9_residues_27 : decode cX9_residues 27 = .ok (.iconst 1, 1) := by decide +kernel
theorem dX9_residues_28 : decode cX9_residues 28 = .ok (.istore_n 2, 1) := by decide +kernel
theorem dX9_residues_29 : decode cX9_residues 29 = .ok (.iload_n 2, 1) := by decide +kernel
theorem dX9_residues_30 : decode cX9_residues 30 = .ok (.iload_n 1, 1) := by decide +kernel
theorem dX9_residues_31 : decode cX9_residues 31 = .ok (.if_icmp .gt 63, 3) := by decide +kernel
theorem dX9_residues_34 : decode cX9_residues 34 = .ok (.aload_n 0, 1) := by decide +kernel
theorem dX9_residues_35 : decode cX9_residues 35 = .ok (.iload_n 2, 1) := by decide +kernel
theorem dX9_residues_36 : decode cX9_residues 36 = .ok (.iconst 0, 1) := by decide +kernel
theorem dX9_residues_37 : decode cX9_residues 37 = .ok (.iconst 1, 1) := by decide +kernel
theorem dX9_residues_38 : decode cX9_residues 38 = .ok (.invokevirtual 150, 3) := by decide +kernel
theorem dX9_residues_41 : decode cX9_residues 41 = .ok (.iconst 1, 1) := by decide +kernel
theorem dX9_residues_42 : decode cX9_residues 42 = .ok (.istore_n 3, 1) := by decide +kernel
theorem dX9_residues_43 : decode cX9_residues 43 = .ok (.iload_n 3, 1) := by decide +kernel
theorem dX9_residues_44 : decode cX9_residues 44 = .ok (.iload_n 1, 1) := by decide +kernel
theorem dX9_residues_45 : decode cX9_residues 45 = .ok (.if_icmp .gt 43, 3) := by decide +kernel
theorem dX9_residues_48 : decode cX9_residues 48 = .ok (.iload_n 3, 1) := by decide +kernel
theorem dX9_residues_49 : decode cX9_residues 49 = .ok (.iload_n 2, 1) := by decide +kernel
theorem dX9_residues_50 : decode cX9_residues 50 = .ok (.if_icmp .eq 32, 3) := by decide +kernel
theorem dX9_residues_53 : decode cX9_residues 53 = .ok (.aload_n 0, 1) := by decide +kernel
theorem dX9_residues_54 : decode cX9_residues 54 = .ok (.iload_n 2, 1) := by decide +kernel
theorem dX9_residues_55 : decode cX9_residues 55 = .ok (.iload_n 3, 1) := by decide +kernel
theorem dX9_residues_56 : decode cX9_residues 56 = .ok (.iload_n 1, 1) := by decide +kernel
theorem dX9_residues_57 : decode cX9_residues 57 = .ok (.iload_n 1, 1) := by decide +kernel
theorem dX9_residues_58 : decode cX9_residues 58 = .ok (.iload_n 3, 1) := by decide +kernel
theorem dX9_residues_59 : decode cX9_residues 59 = .ok (.iconst 1, 1) := by decide +kernel
theorem dX9_residues_60 : decode cX9_residues 60 = .ok (.isub, 1) := by decide +kernel
theorem dX9_residues_61 : decode cX9_residues 61 = .ok (.iload_n 2, 1) := by decide +kernel
theorem dX9_residues_62 : decode cX9_residues 62 = .ok (.iconst 1, 1) := by decide +kernel
theorem dX9_residues_63 : decode cX9_residues 63 = .ok (.isub, 1) := by decide +kernel
theorem dX9_residues_64 : decode cX9_residues 64 = .ok (.iconst (-1), 1) := by decide +kernel
theorem dX9_residues_65 : decode cX9_residues 65 = .ok (.invokestatic 146, 3) := by decide +kernel
theorem dX9_residues_68 : decode cX9_residues 68 = .ok (.invokestatic 154, 3) := by decide +kernel
theorem dX9_residues_71 : decode cX9_residues 71 = .ok (.ifCond .ge 7, 3) := by decide +kernel
theorem dX9_residues_74 : decode cX9_residues 74 = .ok (.iconst 1, 1) := by decide +kernel
theorem dX9_residues_75 : decode cX9_residues 75 = .ok (.goto 4, 3) := by decide +kernel
theorem dX9_residues_78 : decode cX9_residues 78 = .ok (.iconst 0, 1) := by decide +kernel
theorem dX9_residues_79 : decode cX9_residues 79 = .ok (.invokevirtual 150, 3) := by decide +kernel
theorem dX9_residues_82 : decode cX9_residues 82 = .ok (.iinc 3 1, 3) := by decide +kernel
theorem dX9_residues_85 : decode cX9_residues 85 = .ok (.goto (-42), 3) := by decide +kernel
theorem dX9_residues_88 : decode cX9_residues 88 = .ok (.iinc 2 1, 3) := by decide +kernel
theorem dX9_residues_91 : decode cX9_residues 91 = .ok (.goto (-62), 3) := by decide +kernel
theorem dX9_residues_94 : decode cX9_residues 94 = .ok (.aload_n 0, 1) := by decide +kernel
theorem dX9_residues_95 : decode cX9_residues 95 = .ok (.iload_n 1, 1) := by decide +kernel
theorem dX9_residues_96 : decode cX9_residues 96 = .ok (.iconst 1, 1) := by decide +kernel
theorem dX9_residues_97 : decode cX9_residues 97 = .ok (.iadd, 1) := by decide +kernel
theorem dX9_residues_98 : decode cX9_residues 98 = .ok (.invokevirtual 126, 3) := by decide +kernel
theorem dX9_residues_101 : decode cX9_residues 101 = .ok (.ireturn, 1) := by decide +kernel
theorem dX9_square_0 : decode cX9_square 0 = .ok (.iload_n 1, 1) := by decide +kernel
theorem dX9_square_1 : decode cX9_square 1 = .ok (.iload_n 2, 1) := by decide +kernel
theorem dX9_square_2 : decode cX9_square 2 = .ok (.if_icmp .ne 5, 3) := by decide +kernel
theorem dX9_square_5 : decode cX9_square 5 = .ok (.iconst 0, 1) := by decide +kernel
theorem dX9_square_6 : decode cX9_square 6 = .ok (.ireturn, 1) := by decide +kernel
theorem dX9_square_7 : decode cX9_square 7 = .ok (.iload_n 1, 1) := by decide +kernel
theorem dX9_square_8 : decode cX9_square 8 = .ok (.ifCond .eq 7, 3) := by decide +kernel
theorem dX9_square_11 : decode cX9_square 11 = .ok (.iload_n 2, 1) := by decide +kernel
theorem dX9_square_12 : decode cX9_square 12 = .ok (.ifCond .ne 7, 3) := by decide +kernel
theorem dX9_square_15 : decode cX9_square 15 = .ok (.iconst 1, 1) := by decide +kernel
theorem dX9_square_16 : decode cX9_square 16 = .ok (.goto 18, 3) := by decide +kernel
theorem dX9_square_19 : decode cX9_square 19 = .ok (.iload_n 0, 1) := by decide +kernel
theorem dX9_square_20 : decode cX9_square 20 = .ok (.iload_n 0, 1) := by decide +kernel
theorem dX9_square_21 : decode cX9_square 21 = .ok (.iload_n 1, 1) := by decide +kernel
theorem dX9_square_22 : decode cX9_square 22 = .ok (.iconst 1, 1) := by decide +kernel
theorem dX9_square_23 : decode cX9_square 23 = .ok (.isub, 1) := by decide +kernel
theorem dX9_square_24 : decode cX9_square 24 = .ok (.iload_n 2, 1) := by decide +kernel
theorem dX9_square_25 : decode cX9_square 25 = .ok (.iconst 1, 1) := by decide +kernel
theorem dX9_square_26 : decode cX9_square 26 = .ok (.isub, 1) := by decide +kernel
theorem dX9_square_27 : decode cX9_square 27 = .ok (.iconst (-1), 1) := by decide +kernel
theorem dX9_square_28 : decode cX9_square 28 = .ok (.invokestatic 146, 3) := by decide +kernel
theorem dX9_square_31 : decode cX9_square 31 = .ok (.invokestatic 154, 3) := by decide +kernel
theorem dX9_square_34 : decode cX9_square 34 = .ok (.ireturn, 1) := by decide +kernel
theorem dX9_twice_0 : decode cX9_twice 0 = .ok (.iload_n 1, 1) := by decide +kernel
theorem dX9_twice_1 : decode cX9_twice 1 = .ok (.invokestatic 143, 3) := by decide +kernel
theorem dX9_twice_4 : decode cX9_twice 4 = .ok (.ifCond .eq 23, 3) := by decide +kernel
theorem dX9_twice_7 : decode cX9_twice 7 = .ok (.iload_n 1, 1) := by decide +kernel
theorem dX9_twice_8 : decode cX9_twice 8 = .ok (.iconst 4, 1) := by decide +kernel
theorem dX9_twice_9 : decode cX9_twice 9 = .ok (.irem, 1) := by decide +kernel
theorem dX9_twice_10 : decode cX9_twice 10 = .ok (.iconst 1, 1) := by decide +kernel
theorem dX9_twice_11 : decode cX9_twice 11 = .ok (.if_icmp .ne 16, 3) := by decide +kernel
theorem dX9_twice_14 : decode cX9_twice 14 = .ok (.iload_n 1, 1) := by decide +kernel
theorem dX9_twice_15 : decode cX9_twice 15 = .ok (.bipush 13, 2) := by decide +kernel
theorem dX9_twice_17 : decode cX9_twice 17 = .ok (.if_icmp .gt 10, 3) := by decide +kernel
theorem dX9_twice_20 : decode cX9_twice 20 = .ok (.aload_n 0, 1) := by decide +kernel
theorem dX9_twice_21 : decode cX9_twice 21 = .ok (.invokevirtual 116, 3) := by decide +kernel
theorem dX9_twice_24 : decode cX9_twice 24 = .ok (.ifCond .eq 5, 3) := by decide +kernel
theorem dX9_twice_27 : decode cX9_twice 27 = .ok (.iconst (-1), 1) := by decide +kernel
theorem dX9_twice_28 : decode cX9_twice 28 = .ok (.ireturn, 1) := by decide +kernel
theorem dX9_twice_29 : decode cX9_twice 29 = .ok (.aload_n 0, 1) := by decide +kernel
theorem dX9_twice_30 : decode cX9_twice 30 = .ok (.invokevirtual 123, 3) := by decide +kernel
theorem dX9_twice_33 : decode cX9_twice 33 = .ok (.iconst 0, 1) := by decide +kernel
theorem dX9_twice_34 : decode cX9_twice 34 = .ok (.istore_n 2, 1) := by decide +kernel
theorem dX9_twice_35 : decode cX9_twice 35 = .ok (.iload_n 2, 1) := by decide +kernel
theorem dX9_twice_36 : decode cX9_twice 36 = .ok (.iload_n 1, 1) := by decide +kernel
theorem dX9_twice_37 : decode cX9_twice 37 = .ok (.if_icmp .gt 118, 3) := by decide +kernel
theorem dX9_twice_40 : decode cX9_twice 40 = .ok (.iconst 0, 1) := by decide +kernel
theorem dX9_twice_41 : decode cX9_twice 41 = .ok (.istore_n 3, 1) := by decide +kernel
theorem dX9_twice_42 : decode cX9_twice 42 = .ok (.iload_n 3, 1) := by decide +kernel
theorem dX9_twice_43 : decode cX9_twice 43 = .ok (.iload_n 1, 1) := by decide +kernel
theorem dX9_twice_44 : decode cX9_twice 44 = .ok (.if_icmp .gt 105, 3) := by decide +kernel
theorem dX9_twice_47 : decode cX9_twice 47 = .ok (.iload_n 1, 1) := by decide +kernel
theorem dX9_twice_48 : decode cX9_twice 48 = .ok (.iload_n 2, 1) := by decide +kernel
theorem dX9_twice_49 : decode cX9_twice 49 = .ok (.iload_n 3, 1) := by decide +kernel
theorem dX9_twice_50 : decode cX9_twice 50 = .ok (.invokestatic 157, 3) := by decide +kernel
theorem dX9_twice_53 : decode cX9_twice 53 = .ok (.istore 4, 2) := by decide +kernel
theorem dX9_twice_55 : decode cX9_twice 55 = .ok (.aload_n 0, 1) := by decide +kernel
theorem dX9_twice_56 : decode cX9_twice 56 = .ok (.iconst 2, 1) := by decide +kernel
theorem dX9_twice_57 : decode cX9_twice 57 = .ok (.iload_n 2, 1) := by decide +kernel
theorem dX9_twice_58 : decode cX9_twice 58 = .ok (.imul, 1) := by decide +kernel
theorem dX9_twice_59 : decode cX9_twice 59 = .ok (.iconst 2, 1) := by decide +kernel
theorem dX9_twice_60 : decode cX9_twice 60 = .ok (.iload_n 3, 1) := by decide +kernel
theorem dX9_twice_61 : decode cX9_twice 61 = .ok (.imul, 1) := by decide +kernel
theorem dX9_twice_62 : decode cX9_twice 62 = .ok (.iload 4, 2) := by decide +kernel
theorem dX9_twice_64 : decode cX9_twice 64 = .ok (.ifCond .ge 7, 3) := by decide +kernel
theorem dX9_twice_67 : decode cX9_twice 67 = .ok (.iconst 1, 1) := by decide +kernel
theorem dX9_twice_68 : decode cX9_twice 68 = .ok (.goto 4, 3) := by decide +kernel
theorem dX9_twice_71 : decode cX9_twice 71 = .ok (.iconst 0, 1) := by decide +kernel
theorem dX9_twice_72 : decode cX9_twice 72 = .ok (.invokevirtual 150, 3) := by decide +kernel
theorem dX9_twice_75 : decode cX9_twice 75 = .ok (.aload_n 0, 1) := by decide +kernel
theorem dX9_twice_76 : decode cX9_twice 76 = .ok (.iconst 2, 1) := by decide +kernel
theorem dX9_twice_77 : decode cX9_twice 77 = .ok (.iload_n 2, 1) := by decide +kernel
theorem dX9_twice_78 : decode cX9_twice 78 = .ok (.imul, 1) := by decide +kernel
theorem dX9_twice_79 : decode cX9_twice 79 = .ok (.iconst 2, 1) := by decide +kernel
theorem dX9_twice_80 : decode cX9_twice 80 = .ok (.iload_n 3, 1) := by decide +kernel
theorem dX9_twice_81 : decode cX9_twice 81 = .ok (.imul, 1) := by decide +kernel
theorem dX9_twice_82 : decode cX9_twice 82 = .ok (.iconst 1, 1) := by decide +kernel
theorem dX9_twice_83 : decode cX9_twice 83 = .ok (.iadd, 1) := by decide +kernel
theorem dX9_twice_84 : decode cX9_twice 84 = .ok (.iload 4, 2) := by decide +kernel
theorem dX9_twice_86 : decode cX9_twice 86 = .ok (.ifCond .gt 7, 3) := by decide +kernel
theorem dX9_twice_89 : decode cX9_twice 89 = .ok (.iconst 1, 1) := by decide +kernel
theorem dX9_twice_90 : decode cX9_twice 90 = .ok (.goto 4, 3) := by decide +kernel
theorem dX9_twice_93 : decode cX9_twice 93 = .ok (.iconst 0, 1) := by decide +kernel
theorem dX9_twice_94 : decode cX9_twice 94 = .ok (.invokevirtual 150, 3) := by decide +kernel
theorem dX9_twice_97 : decode cX9_twice 97 = .ok (.aload_n 0, 1) := by decide +kernel
theorem dX9_twice_98 : decode cX9_twice 98 = .ok (.iconst 2, 1) := by decide +kernel
theorem dX9_twice_99 : decode cX9_twice 99 = .ok (.iload_n 2, 1) := by decide +kernel
theorem dX9_twice_100 : decode cX9_twice 100 = .ok (.imul, 1) := by decide +kernel
theorem dX9_twice_101 : decode cX9_twice 101 = .ok (.iconst 1, 1) := by decide +kernel
theorem dX9_twice_102 : decode cX9_twice 102 = .ok (.iadd, 1) := by decide +kernel
theorem dX9_twice_103 : decode cX9_twice 103 = .ok (.iconst 2, 1) := by decide +kernel
theorem dX9_twice_104 : decode cX9_twice 104 = .ok (.iload_n 3, 1) := by decide +kernel
theorem dX9_twice_105 : decode cX9_twice 105 = .ok (.imul, 1) := by decide +kernel
theorem dX9_twice_106 : decode cX9_twice 106 = .ok (.iload 4, 2) := by decide +kernel
theorem dX9_twice_108 : decode cX9_twice 108 = .ok (.ifCond .gt 7, 3) := by decide +kernel
theorem dX9_twice_111 : decode cX9_twice 111 = .ok (.iconst 1, 1) := by decide +kernel
theorem dX9_twice_112 : decode cX9_twice 112 = .ok (.goto 4, 3) := by decide +kernel
theorem dX9_twice_115 : decode cX9_twice 115 = .ok (.iconst 0, 1) := by decide +kernel
theorem dX9_twice_116 : decode cX9_twice 116 = .ok (.invokevirtual 150, 3) := by decide +kernel
theorem dX9_twice_119 : decode cX9_twice 119 = .ok (.aload_n 0, 1) := by decide +kernel
theorem dX9_twice_120 : decode cX9_twice 120 = .ok (.iconst 2, 1) := by decide +kernel
theorem dX9_twice_121 : decode cX9_twice 121 = .ok (.iload_n 2, 1) := by decide +kernel
theorem dX9_twice_122 : decode cX9_twice 122 = .ok (.imul, 1) := by decide +kernel
theorem dX9_twice_123 : decode cX9_twice 123 = .ok (.iconst 1, 1) := by decide +kernel
theorem dX9_twice_124 : decode cX9_twice 124 = .ok (.iadd, 1) := by decide +kernel
theorem dX9_twice_125 : decode cX9_twice 125 = .ok (.iconst 2, 1) := by decide +kernel
theorem dX9_twice_126 : decode cX9_twice 126 = .ok (.iload_n 3, 1) := by decide +kernel
theorem dX9_twice_127 : decode cX9_twice 127 = .ok (.imul, 1) := by decide +kernel
theorem dX9_twice_128 : decode cX9_twice 128 = .ok (.iconst 1, 1) := by decide +kernel
theorem dX9_twice_129 : decode cX9_twice 129 = .ok (.iadd, 1) := by decide +kernel
theorem dX9_twice_130 : decode cX9_twice 130 = .ok (.iload 4, 2) := by decide +kernel
theorem dX9_twice_132 : decode cX9_twice 132 = .ok (.ifCond .lt 7, 3) := by decide +kernel
theorem dX9_twice_135 : decode cX9_twice 135 = .ok (.iconst 1, 1) := by decide +kernel
theorem dX9_twice_136 : decode cX9_twice 136 = .ok (.goto 4, 3) := by decide +kernel
theorem dX9_twice_139 : decode cX9_twice 139 = .ok (.iconst 0, 1) := by decide +kernel
theorem dX9_twice_140 : decode cX9_twice 140 = .ok (.invokevirtual 150, 3) := by decide +kernel
theorem dX9_twice_143 : decode cX9_twice 143 = .ok (.iinc 3 1, 3) := by decide +kernel
theorem dX9_twice_146 : decode cX9_twice 146 = .ok (.goto (-104), 3) := by decide +kernel
theorem dX9_twice_149 : decode cX9_twice 149 = .ok (.iinc 2 1, 3) := by decide +kernel
theorem dX9_twice_152 : decode cX9_twice 152 = .ok (.goto (-117), 3) := by decide +kernel
theorem dX9_twice_155 : decode cX9_twice 155 = .ok (.aload_n 0, 1) := by decide +kernel
theorem dX9_twice_156 : decode cX9_twice 156 = .ok (.iconst 2, 1) := by decide +kernel
theorem dX9_twice_157 : decode cX9_twice 157 = .ok (.iload_n 1, 1) := by decide +kernel
theorem dX9_twice_158 : decode cX9_twice 158 = .ok (.imul, 1) := by decide +kernel
theorem dX9_twice_159 : decode cX9_twice 159 = .ok (.iconst 2, 1) := by decide +kernel
theorem dX9_twice_160 : decode cX9_twice 160 = .ok (.iadd, 1) := by decide +kernel
theorem dX9_twice_161 : decode cX9_twice 161 = .ok (.invokevirtual 126, 3) := by decide +kernel
theorem dX9_twice_164 : decode cX9_twice 164 = .ok (.ireturn, 1) := by decide +kernel
theorem dX9_doubled_0 : decode cX9_doubled 0 = .ok (.aload_n 0, 1) := by decide +kernel
theorem dX9_doubled_1 : decode cX9_doubled 1 = .ok (.iload_n 1, 1) := by decide +kernel
theorem dX9_doubled_2 : decode cX9_doubled 2 = .ok (.invokevirtual 86, 3) := by decide +kernel
theorem dX9_doubled_5 : decode cX9_doubled 5 = .ok (.ifCond .eq 23, 3) := by decide +kernel
theorem dX9_doubled_8 : decode cX9_doubled 8 = .ok (.iconst 2, 1) := by decide +kernel
theorem dX9_doubled_9 : decode cX9_doubled 9 = .ok (.aload_n 0, 1) := by decide +kernel
theorem dX9_doubled_10 : decode cX9_doubled 10 = .ok (.getfield 13, 3) := by decide +kernel
theorem dX9_doubled_13 : decode cX9_doubled 13 = .ok (.iload_n 1, 1) := by decide +kernel
theorem dX9_doubled_14 : decode cX9_doubled 14 = .ok (.iaload, 1) := by decide +kernel
theorem dX9_doubled_15 : decode cX9_doubled 15 = .ok (.imul, 1) := by decide +kernel
theorem dX9_doubled_16 : decode cX9_doubled 16 = .ok (.bipush 28, 2) := by decide +kernel
theorem dX9_doubled_18 : decode cX9_doubled 18 = .ok (.if_icmp .gt 10, 3) := by decide +kernel
theorem dX9_doubled_21 : decode cX9_doubled 21 = .ok (.aload_n 0, 1) := by decide +kernel
theorem dX9_doubled_22 : decode cX9_doubled 22 = .ok (.invokevirtual 116, 3) := by decide +kernel
theorem dX9_doubled_25 : decode cX9_doubled 25 = .ok (.ifCond .eq 5, 3) := by decide +kernel
theorem dX9_doubled_28 : decode cX9_doubled 28 = .ok (.iconst (-1), 1) := by decide +kernel
theorem dX9_doubled_29 : decode cX9_doubled 29 = .ok (.ireturn, 1) := by decide +kernel
theorem dX9_doubled_30 : decode cX9_doubled 30 = .ok (.aload_n 0, 1) := by decide +kernel
theorem dX9_doubled_31 : decode cX9_doubled 31 = .ok (.getfield 13, 3) := by decide +kernel
theorem dX9_doubled_34 : decode cX9_doubled 34 = .ok (.iload_n 1, 1) := by decide +kernel
theorem dX9_doubled_35 : decode cX9_doubled 35 = .ok (.iaload, 1) := by decide +kernel
theorem dX9_doubled_36 : decode cX9_doubled 36 = .ok (.istore_n 2, 1) := by decide +kernel
theorem dX9_doubled_37 : decode cX9_doubled 37 = .ok (.aload_n 0, 1) := by decide +kernel
theorem dX9_doubled_38 : decode cX9_doubled 38 = .ok (.invokevirtual 123, 3) := by decide +kernel
theorem dX9_doubled_41 : decode cX9_doubled 41 = .ok (.iconst 0, 1) := by decide +kernel
theorem dX9_doubled_42 : decode cX9_doubled 42 = .ok (.istore_n 3, 1) := by decide +kernel
theorem dX9_doubled_43 : decode cX9_doubled 43 = .ok (.iload_n 3, 1) := by decide +kernel
theorem dX9_doubled_44 : decode cX9_doubled 44 = .ok (.iconst 2, 1) := by decide +kernel
theorem dX9_doubled_45 : decode cX9_doubled 45 = .ok (.iload_n 2, 1) := by decide +kernel
theorem dX9_doubled_46 : decode cX9_doubled 46 = .ok (.imul, 1) := by decide +kernel
theorem dX9_doubled_47 : decode cX9_doubled 47 = .ok (.if_icmp .ge 69, 3) := by decide +kernel
theorem dX9_doubled_50 : decode cX9_doubled 50 = .ok (.iconst 0, 1) := by decide +kernel
theorem dX9_doubled_51 : decode cX9_doubled 51 = .ok (.istore 4, 2) := by decide +kernel
theorem dX9_doubled_53 : decode cX9_doubled 53 = .ok (.iload 4, 2) := by decide +kernel
theorem dX9_doubled_55 : decode cX9_doubled 55 = .ok (.iconst 2, 1) := by decide +kernel
theorem dX9_doubled_56 : decode cX9_doubled 56 = .ok (.iload_n 2, 1) := by decide +kernel
theorem dX9_doubled_57 : decode cX9_doubled 57 = .ok (.imul, 1) := by decide +kernel
theorem dX9_doubled_58 : decode cX9_doubled 58 = .ok (.if_icmp .ge 52, 3) := by decide +kernel
theorem dX9_doubled_61 : decode cX9_doubled 61 = .ok (.aload_n 0, 1) := by decide +kernel
theorem dX9_doubled_62 : decode cX9_doubled 62 = .ok (.iload_n 3, 1) := by decide +kernel
theorem dX9_doubled_63 : decode cX9_doubled 63 = .ok (.iload 4, 2) := by decide +kernel
theorem dX9_doubled_65 : decode cX9_doubled 65 = .ok (.aload_n 0, 1) := by decide +kernel
theorem dX9_doubled_66 : decode cX9_doubled 66 = .ok (.iload_n 1, 1) := by decide +kernel
theorem dX9_doubled_67 : decode cX9_doubled 67 = .ok (.iload_n 3, 1) := by decide +kernel
theorem dX9_doubled_68 : decode cX9_doubled 68 = .ok (.iload_n 2, 1) := by decide +kernel
theorem dX9_doubled_69 : decode cX9_doubled 69 = .ok (.irem, 1) := by decide +kernel
theorem dX9_doubled_70 : decode cX9_doubled 70 = .ok (.iload 4, 2) := by decide +kernel
theorem dX9_doubled_72 : decode cX9_doubled 72 = .ok (.iload_n 2, 1) := by decide +kernel
theorem dX9_doubled_73 : decode cX9_doubled 73 = .ok (.irem, 1) := by decide +kernel
theorem dX9_doubled_74 : decode cX9_doubled 74 = .ok (.invokevirtual 98, 3) := by decide +kernel
theorem dX9_doubled_77 : decode cX9_doubled 77 = .ok (.iload_n 3, 1) := by decide +kernel
theorem dX9_doubled_78 : decode cX9_doubled 78 = .ok (.iload_n 2, 1) := by decide +kernel
theorem dX9_doubled_79 : decode cX9_doubled 79 = .ok (.if_icmp .lt 13, 3) := by decide +kernel
theorem dX9_doubled_82 : decode cX9_doubled 82 = .ok (.iload 4, 2) := by decide +kernel
theorem dX9_doubled_84 : decode cX9_doubled 84 = .ok (.iload_n 2, 1) := by decide +kernel
theorem dX9_doubled_85 : decode cX9_doubled 85 = .ok (.if_icmp .lt 7, 3) := by decide +kernel
theorem dX9_doubled_88 : decode cX9_doubled 88 = .ok (.iconst 1, 1) := by decide +kernel
theorem dX9_doubled_89 : decode cX9_doubled 89 = .ok (.goto 4, 3) := by decide +kernel
theorem dX9_doubled_92 : decode cX9_doubled 92 = .ok (.iconst 0, 1) := by decide +kernel
theorem dX9_doubled_93 : decode cX9_doubled 93 = .ok (.if_icmp .eq 7, 3) := by decide +kernel
theorem dX9_doubled_96 : decode cX9_doubled 96 = .ok (.iconst 1, 1) := by decide +kernel
theorem dX9_doubled_97 : decode cX9_doubled 97 = .ok (.goto 4, 3) := by decide +kernel
theorem dX9_doubled_100 : decode cX9_doubled 100 = .ok (.iconst 0, 1) := by decide +kernel
theorem dX9_doubled_101 : decode cX9_doubled 101 = .ok (.invokevirtual 150, 3) := by decide +kernel
theorem dX9_doubled_104 : decode cX9_doubled 104 = .ok (.iinc 4 1, 3) := by decide +kernel
theorem dX9_doubled_107 : decode cX9_doubled 107 = .ok (.goto (-54), 3) := by decide +kernel
theorem dX9_doubled_110 : decode cX9_doubled 110 = .ok (.iinc 3 1, 3) := by decide +kernel
theorem dX9_doubled_113 : decode cX9_doubled 113 = .ok (.goto (-70), 3) := by decide +kernel
theorem dX9_doubled_116 : decode cX9_doubled 116 = .ok (.aload_n 0, 1) := by decide +kernel
theorem dX9_doubled_117 : decode cX9_doubled 117 = .ok (.iconst 2, 1) := by decide +kernel
theorem dX9_doubled_118 : decode cX9_doubled 118 = .ok (.iload_n 2, 1) := by decide +kernel
theorem dX9_doubled_119 : decode cX9_doubled 119 = .ok (.imul, 1) := by decide +kernel
theorem dX9_doubled_120 : decode cX9_doubled 120 = .ok (.invokevirtual 126, 3) := by decide +kernel
theorem dX9_doubled_123 : decode cX9_doubled 123 = .ok (.ireturn, 1) := by decide +kernel
theorem dX9_product_0 : decode cX9_product 0 = .ok (.aload_n 0, 1) := by decide +kernel
theorem dX9_product_1 : decode cX9_product 1 = .ok (.iload_n 1, 1) := by decide +kernel
theorem dX9_product_2 : decode cX9_product 2 = .ok (.invokevirtual 86, 3) := by decide +kernel
theorem dX9_product_5 : decode cX9_product 5 = .ok (.ifCond .eq 36, 3) := by decide +kernel
theorem dX9_product_8 : decode cX9_product 8 = .ok (.aload_n 0, 1) := by decide +kernel
theorem dX9_product_9 : decode cX9_product 9 = .ok (.iload_n 2, 1) := by decide +kernel
theorem dX9_product_10 : decode cX9_product 10 = .ok (.invokevirtual 86, 3) := by decide +kernel
theorem dX9_product_13 : decode cX9_product 13 = .ok (.ifCond .eq 28, 3) := by decide +kernel
theorem dX9_product_16 : decode cX9_product 16 = .ok (.aload_n 0, 1) := by decide +kernel
theorem dX9_product_17 : decode cX9_product 17 = .ok (.getfield 13, 3) := by decide +kernel
theorem dX9_product_20 : decode cX9_product 20 = .ok (.iload_n 1, 1) := by decide +kernel
theorem dX9_product_21 : decode cX9_product 21 = .ok (.iaload, 1) := by decide +kernel
theorem dX9_product_22 : decode cX9_product 22 = .ok (.aload_n 0, 1) := by decide +kernel
theorem dX9_product_23 : decode cX9_product 23 = .ok (.getfield 13, 3) := by decide +kernel
theorem dX9_product_26 : decode cX9_product 26 = .ok (.iload_n 2, 1) := by decide +kernel
theorem dX9_product_27 : decode cX9_product 27 = .ok (.iaload, 1) := by decide +kernel
theorem dX9_product_28 : decode cX9_product 28 = .ok (.imul, 1) := by decide +kernel
theorem dX9_product_29 : decode cX9_product 29 = .ok (.bipush 28, 2) := by decide +kernel
theorem dX9_product_31 : decode cX9_product 31 = .ok (.if_icmp .gt 10, 3) := by decide +kernel
theorem dX9_product_34 : decode cX9_product 34 = .ok (.aload_n 0, 1) := by decide +kernel
theorem dX9_product_35 : decode cX9_product 35 = .ok (.invokevirtual 116, 3) := by decide +kernel
theorem dX9_product_38 : decode cX9_product 38 = .ok (.ifCond .eq 5, 3) := by decide +kernel
theorem dX9_product_41 : decode cX9_product 41 = .ok (.iconst (-1), 1) := by decide +kernel
theorem dX9_product_42 : decode cX9_product 42 = .ok (.ireturn, 1) := by decide +kernel
theorem dX9_product_43 : decode cX9_product 43 = .ok (.aload_n 0, 1) := by decide +kernel
theorem dX9_product_44 : decode cX9_product 44 = .ok (.getfield 13, 3) := by decide +kernel
theorem dX9_product_47 : decode cX9_product 47 = .ok (.iload_n 2, 1) := by decide +kernel
theorem dX9_product_48 : decode cX9_product 48 = .ok (.iaload, 1) := by decide +kernel
theorem dX9_product_49 : decode cX9_product 49 = .ok (.istore_n 3, 1) := by decide +kernel
theorem dX9_product_50 : decode cX9_product 50 = .ok (.aload_n 0, 1) := by decide +kernel
theorem dX9_product_51 : decode cX9_product 51 = .ok (.getfield 13, 3) := by decide +kernel
theorem dX9_product_54 : decode cX9_product 54 = .ok (.iload_n 1, 1) := by decide +kernel
theorem dX9_product_55 : decode cX9_product 55 = .ok (.iaload, 1) := by decide +kernel
theorem dX9_product_56 : decode cX9_product 56 = .ok (.iload_n 3, 1) := by decide +kernel
theorem dX9_product_57 : decode cX9_product 57 = .ok (.imul, 1) := by decide +kernel
theorem dX9_product_58 : decode cX9_product 58 = .ok (.istore 4, 2) := by decide +kernel
theorem dX9_product_60 : decode cX9_product 60 = .ok (.aload_n 0, 1) := by decide +kernel
theorem dX9_product_61 : decode cX9_product 61 = .ok (.invokevirtual 123, 3) := by decide +kernel
theorem dX9_product_64 : decode cX9_product 64 = .ok (.iconst 0, 1) := by decide +kernel
theorem dX9_product_65 : decode cX9_product 65 = .ok (.istore 5, 2) := by decide +kernel
theorem dX9_product_67 : decode cX9_product 67 = .ok (.iload 5, 2) := by decide +kernel
theorem dX9_product_69 : decode cX9_product 69 = .ok (.iload 4, 2) := by decide +kernel
theorem dX9_product_71 : decode cX9_product 71 = .ok (.if_icmp .ge 67, 3) := by decide +kernel
theorem dX9_product_74 : decode cX9_product 74 = .ok (.iconst 0, 1) := by decide +kernel
theorem dX9_product_75 : decode cX9_product 75 = .ok (.istore 6, 2) := by decide +kernel
theorem dX9_product_77 : decode cX9_product 77 = .ok (.iload 6, 2) := by decide +kernel
theorem dX9_product_79 : decode cX9_product 79 = .ok (.iload 4, 2) := by decide +kernel
theorem dX9_product_81 : decode cX9_product 81 = .ok (.if_icmp .ge 51, 3) := by decide +kernel
theorem dX9_product_84 : decode cX9_product 84 = .ok (.aload_n 0, 1) := by decide +kernel
theorem dX9_product_85 : decode cX9_product 85 = .ok (.iload 5, 2) := by decide +kernel
theorem dX9_product_87 : decode cX9_product 87 = .ok (.iload 6, 2) := by decide +kernel
theorem dX9_product_89 : decode cX9_product 89 = .ok (.aload_n 0, 1) := by decide +kernel
theorem dX9_product_90 : decode cX9_product 90 = .ok (.iload_n 1, 1) := by decide +kernel
theorem dX9_product_91 : decode cX9_product 91 = .ok (.iload 5, 2) := by decide +kernel
theorem dX9_product_93 : decode cX9_product 93 = .ok (.iload_n 3, 1) := by decide +kernel
theorem dX9_product_94 : decode cX9_product 94 = .ok (.idiv, 1) := by decide +kernel
theorem dX9_product_95 : decode cX9_product 95 = .ok (.iload 6, 2) := by decide +kernel
theorem dX9_product_97 : decode cX9_product 97 = .ok (.iload_n 3, 1) := by decide +kernel
theorem dX9_product_98 : decode cX9_product 98 = .ok (.idiv, 1) := by decide +kernel
theorem dX9_product_99 : decode cX9_product 99 = .ok (.invokevirtual 98, 3) := by decide +kernel
theorem dX9_product_102 : decode cX9_product 102 = .ok (.aload_n 0, 1) := by decide +kernel
theorem dX9_product_103 : decode cX9_product 103 = .ok (.iload_n 2, 1) := by decide +kernel
theorem dX9_product_104 : decode cX9_product 104 = .ok (.iload 5, 2) := by decide +kernel
theorem dX9_product_106 : decode cX9_product 106 = .ok (.iload_n 3, 1) := by decide +kernel
theorem dX9_product_107 : decode cX9_product 107 = .ok (.irem, 1) := by decide +kernel
theorem dX9_product_108 : decode cX9_product 108 = .ok (.iload 6, 2) := by decide +kernel
theorem dX9_product_110 : decode cX9_product 110 = .ok (.iload_n 3, 1) := by decide +kernel
theorem dX9_product_111 : decode cX9_product 111 = .ok (.irem, 1) := by decide +kernel
theorem dX9_product_112 : decode cX9_product 112 = .ok (.invokevirtual 98, 3) := by decide +kernel
theorem dX9_product_115 : decode cX9_product 115 = .ok (.if_icmp .eq 7, 3) := by decide +kernel
theorem dX9_product_118 : decode cX9_product 118 = .ok (.iconst 1, 1) := by decide +kernel
theorem dX9_product_119 : decode cX9_product 119 = .ok (.goto 4, 3) := by decide +kernel
theorem dX9_product_122 : decode cX9_product 122 = .ok (.iconst 0, 1) := by decide +kernel
theorem dX9_product_123 : decode cX9_product 123 = .ok (.invokevirtual 150, 3) := by decide +kernel
theorem dX9_product_126 : decode cX9_product 126 = .ok (.iinc 6 1, 3) := by decide +kernel
theorem dX9_product_129 : decode cX9_product 129 = .ok (.goto (-52), 3) := by decide +kernel
theorem dX9_product_132 : decode cX9_product 132 = .ok (.iinc 5 1, 3) := by decide +kernel
theorem dX9_product_135 : decode cX9_product 135 = .ok (.goto (-68), 3) := by decide +kernel
theorem dX9_product_138 : decode cX9_product 138 = .ok (.aload_n 0, 1) := by decide +kernel
theorem dX9_product_139 : decode cX9_product 139 = .ok (.iload 4, 2) := by decide +kernel
theorem dX9_product_141 : decode cX9_product 141 = .ok (.invokevirtual 126, 3) := by decide +kernel
theorem dX9_product_144 : decode cX9_product 144 = .ok (.ireturn, 1) := by decide +kernel
theorem dX9_laysFour_0 : decode cX9_laysFour 0 = .ok (.aload_n 0, 1) := by decide +kernel
theorem dX9_laysFour_1 : decode cX9_laysFour 1 = .ok (.invokevirtual 123, 3) := by decide +kernel
theorem dX9_laysFour_4 : decode cX9_laysFour 4 = .ok (.iconst 0, 1) := by decide +kernel
theorem dX9_laysFour_5 : decode cX9_laysFour 5 = .ok (.istore_n 2, 1) := by decide +kernel
theorem dX9_laysFour_6 : decode cX9_laysFour 6 = .ok (.iload_n 2, 1) := by decide +kernel
theorem dX9_laysFour_7 : decode cX9_laysFour 7 = .ok (.iconst 4, 1) := by decide +kernel
theorem dX9_laysFour_8 : decode cX9_laysFour 8 = .ok (.iload_n 1, 1) := by decide +kernel
theorem dX9_laysFour_9 : decode cX9_laysFour 9 = .ok (.imul, 1) := by decide +kernel
theorem dX9_laysFour_10 : decode cX9_laysFour 10 = .ok (.if_icmp .ge 91, 3) := by decide +kernel
theorem dX9_laysFour_13 : decode cX9_laysFour 13 = .ok (.iconst 0, 1) := by decide +kernel
theorem dX9_laysFour_14 : decode cX9_laysFour 14 = .ok (.istore_n 3, 1) := by decide +kernel
theorem dX9_laysFour_15 : decode cX9_laysFour 15 = .ok (.iload_n 3, 1) := by decide +kernel
theorem dX9_laysFour_16 : decode cX9_laysFour 16 = .ok (.iconst 4, 1) := by decide +kernel
theorem dX9_laysFour_17 : decode cX9_laysFour 17 = .ok (.iload_n 1, 1) := by decide +kernel
theorem dX9_laysFour_18 : decode cX9_laysFour 18 = .ok (.imul, 1) := by decide +kernel
theorem dX9_laysFour_19 : decode cX9_laysFour 19 = .ok (.if_icmp .ge 76, 3) := by decide +kernel
theorem dX9_laysFour_22 : decode cX9_laysFour 22 = .ok (.iconst 4, 1) := by decide +kernel
theorem dX9_laysFour_23 : decode cX9_laysFour 23 = .ok (.iload_n 2, 1) := by decide +kernel
theorem dX9_laysFour_24 : decode cX9_laysFour 24 = .ok (.iload_n 1, 1) := by decide +kernel
theorem dX9_laysFour_25 : decode cX9_laysFour 25 = .ok (.idiv, 1) := by decide +kernel
theorem dX9_laysFour_26 : decode cX9_laysFour 26 = .ok (.imul, 1) := by decide +kernel
theorem dX9_laysFour_27 : decode cX9_laysFour 27 = .ok (.iload_n 3, 1) := by decide +kernel
theorem dX9_laysFour_28 : decode cX9_laysFour 28 = .ok (.iload_n 1, 1) := by decide +kernel
theorem dX9_laysFour_29 : decode cX9_laysFour 29 = .ok (.idiv, 1) := by decide +kernel
theorem dX9_laysFour_30 : decode cX9_laysFour 30 = .ok (.iadd, 1) := by decide +kernel
theorem dX9_laysFour_31 : decode cX9_laysFour 31 = .ok (.istore 4, 2) := by decide +kernel
theorem dX9_laysFour_33 : decode cX9_laysFour 33 = .ok (.aload_n 0, 1) := by decide +kernel
theorem dX9_laysFour_34 : decode cX9_laysFour 34 = .ok (.iload_n 2, 1) := by decide +kernel
theorem dX9_laysFour_35 : decode cX9_laysFour 35 = .ok (.iload_n 3, 1) := by decide +kernel
theorem dX9_laysFour_36 : decode cX9_laysFour 36 = .ok (.aload_n 0, 1) := by decide +kernel
theorem dX9_laysFour_37 : decode cX9_laysFour 37 = .ok (.getfield 41, 3) := by decide +kernel
theorem dX9_laysFour_40 : decode cX9_laysFour 40 = .ok (.aload_n 0, 1) := by decide +kernel
theorem dX9_laysFour_41 : decode cX9_laysFour 41 = .ok (.getfield 35, 3) := by decide +kernel
theorem dX9_laysFour_44 : decode cX9_laysFour 44 = .ok (.iload 4, 2) := by decide +kernel
theorem dX9_laysFour_46 : decode cX9_laysFour 46 = .ok (.iaload, 1) := by decide +kernel
theorem dX9_laysFour_47 : decode cX9_laysFour 47 = .ok (.iaload, 1) := by decide +kernel
theorem dX9_laysFour_48 : decode cX9_laysFour 48 = .ok (.iload_n 3, 1) := by decide +kernel
theorem dX9_laysFour_49 : decode cX9_laysFour 49 = .ok (.iload_n 1, 1) := by decide +kernel
theorem dX9_laysFour_50 : decode cX9_laysFour 50 = .ok (.irem, 1) := by decide +kernel
theorem dX9_laysFour_51 : decode cX9_laysFour 51 = .ok (.iload_n 2, 1) := by decide +kernel
theorem dX9_laysFour_52 : decode cX9_laysFour 52 = .ok (.iload_n 1, 1) := by decide +kernel
theorem dX9_laysFour_53 : decode cX9_laysFour 53 = .ok (.irem, 1) := by decide +kernel
theorem dX9_laysFour_54 : decode cX9_laysFour 54 = .ok (.isub, 1) := by decide +kernel
theorem dX9_laysFour_55 : decode cX9_laysFour 55 = .ok (.iload_n 1, 1) := by decide +kernel
theorem dX9_laysFour_56 : decode cX9_laysFour 56 = .ok (.iadd, 1) := by decide +kernel
theorem dX9_laysFour_57 : decode cX9_laysFour 57 = .ok (.iload_n 1, 1) := by decide +kernel
theorem dX9_laysFour_58 : decode cX9_laysFour 58 = .ok (.irem, 1) := by decide +kernel
theorem dX9_laysFour_59 : decode cX9_laysFour 59 = .ok (.invokestatic 94, 3) := by decide +kernel
theorem dX9_laysFour_62 : decode cX9_laysFour 62 = .ok (.aload_n 0, 1) := by decide +kernel
theorem dX9_laysFour_63 : decode cX9_laysFour 63 = .ok (.getfield 38, 3) := by decide +kernel
theorem dX9_laysFour_66 : decode cX9_laysFour 66 = .ok (.iload 4, 2) := by decide +kernel
theorem dX9_laysFour_68 : decode cX9_laysFour 68 = .ok (.iaload, 1) := by decide +kernel
theorem dX9_laysFour_69 : decode cX9_laysFour 69 = .ok (.iconst 1, 1) := by decide +kernel
theorem dX9_laysFour_70 : decode cX9_laysFour 70 = .ok (.if_icmp .ne 7, 3) := by decide +kernel
theorem dX9_laysFour_73 : decode cX9_laysFour 73 = .ok (.iconst 1, 1) := by decide +kernel
theorem dX9_laysFour_74 : decode cX9_laysFour 74 = .ok (.goto 4, 3) := by decide +kernel
theorem dX9_laysFour_77 : decode cX9_laysFour 77 = .ok (.iconst 0, 1) := by decide +kernel
theorem dX9_laysFour_78 : decode cX9_laysFour 78 = .ok (.if_icmp .eq 7, 3) := by decide +kernel
theorem dX9_laysFour_81 : decode cX9_laysFour 81 = .ok (.iconst 1, 1) := by decide +kernel
theorem dX9_laysFour_82 : decode cX9_laysFour 82 = .ok (.goto 4, 3) := by decide +kernel
theorem dX9_laysFour_85 : decode cX9_laysFour 85 = .ok (.iconst 0, 1) := by decide +kernel
theorem dX9_laysFour_86 : decode cX9_laysFour 86 = .ok (.invokevirtual 150, 3) := by decide +kernel
theorem dX9_laysFour_89 : decode cX9_laysFour 89 = .ok (.iinc 3 1, 3) := by decide +kernel
theorem dX9_laysFour_92 : decode cX9_laysFour 92 = .ok (.goto (-77), 3) := by decide +kernel
theorem dX9_laysFour_95 : decode cX9_laysFour 95 = .ok (.iinc 2 1, 3) := by decide +kernel
theorem dX9_laysFour_98 : decode cX9_laysFour 98 = .ok (.goto (-92), 3) := by decide +kernel
theorem dX9_laysFour_101 : decode cX9_laysFour 101 = .ok (.return_, 1) := by decide +kernel
theorem dX9_isRow_0 : decode cX9_isRow 0 = .ok (.iload_n 0, 1) := by decide +kernel
theorem dX9_isRow_1 : decode cX9_isRow 1 = .ok (.ifCond .lt 13, 3) := by decide +kernel
theorem dX9_isRow_4 : decode cX9_isRow 4 = .ok (.iload_n 0, 1) := by decide +kernel
theorem dX9_isRow_5 : decode cX9_isRow 5 = .ok (.iload_n 1, 1) := by decide +kernel
theorem dX9_isRow_6 : decode cX9_isRow 6 = .ok (.ishr, 1) := by decide +kernel
theorem dX9_isRow_7 : decode cX9_isRow 7 = .ok (.ifCond .ne 7, 3) := by decide +kernel
theorem dX9_isRow_10 : decode cX9_isRow 10 = .ok (.iconst 1, 1) := by decide +kernel
theorem dX9_isRow_11 : decode cX9_isRow 11 = .ok (.goto 4, 3) := by decide +kernel
theorem dX9_isRow_14 : decode cX9_isRow 14 = .ok (.iconst 0, 1) := by decide +kernel
theorem dX9_isRow_15 : decode cX9_isRow 15 = .ok (.ireturn, 1) := by decide +kernel
theorem dX9_four_0 : decode cX9_four 0 = .ok (.iload_n 1, 1) := by decide +kernel
theorem dX9_four_1 : decode cX9_four 1 = .ok (.iconst 1, 1) := by decide +kernel
theorem dX9_four_2 : decode cX9_four 2 = .ok (.bipush 7, 2) := by decide +kernel
theorem dX9_four_4 : decode cX9_four 4 = .ok (.invokestatic 82, 3) := by decide +kernel
theorem dX9_four_7 : decode cX9_four 7 = .ok (.ifCond .eq 44, 3) := by decide +kernel
theorem dX9_four_10 : decode cX9_four 10 = .ok (.iload_n 2, 1) := by decide +kernel
theorem dX9_four_11 : decode cX9_four 11 = .ok (.iload_n 1, 1) := by decide +kernel
theorem dX9_four_12 : decode cX9_four 12 = .ok (.invokestatic 160, 3) := by decide +kernel
theorem dX9_four_15 : decode cX9_four 15 = .ok (.ifCond .eq 36, 3) := by decide +kernel
theorem dX9_four_18 : decode cX9_four 18 = .ok (.iload_n 3, 1) := by decide +kernel
theorem dX9_four_19 : decode cX9_four 19 = .ok (.iload_n 1, 1) := by decide +kernel
theorem dX9_four_20 : decode cX9_four 20 = .ok (.invokestatic 160, 3) := by decide +kernel
theorem dX9_four_23 : decode cX9_four 23 = .ok (.ifCond .eq 28, 3) := by decide +kernel
theorem dX9_four_26 : decode cX9_four 26 = .ok (.iload 4, 2) := by decide +kernel
theorem dX9_four_28 : decode cX9_four 28 = .ok (.iload_n 1, 1) := by decide +kernel
theorem dX9_four_29 : decode cX9_four 29 = .ok (.invokestatic 160, 3) := by decide +kernel
theorem dX9_four_32 : decode cX9_four 32 = .ok (.ifCond .eq 19, 3) := by decide +kernel
theorem dX9_four_35 : decode cX9_four 35 = .ok (.iload 5, 2) := by decide +kernel
theorem dX9_four_37 : decode cX9_four 37 = .ok (.iload_n 1, 1) := by decide +kernel
theorem dX9_four_38 : decode cX9_four 38 = .ok (.invokestatic 160, 3) := by decide +kernel
theorem dX9_four_41 : decode cX9_four 41 = .ok (.ifCond .eq 10, 3) := by decide +kernel
theorem dX9_four_44 : decode cX9_four 44 = .ok (.aload_n 0, 1) := by decide +kernel
theorem dX9_four_45 : decode cX9_four 45 = .ok (.invokevirtual 116, 3) := by decide +kernel
theorem dX9_four_48 : decode cX9_four 48 = .ok (.ifCond .eq 5, 3) := by decide +kernel
theorem dX9_four_51 : decode cX9_four 51 = .ok (.iconst (-1), 1) := by decide +kernel
theorem dX9_four_52 : decode cX9_four 52 = .ok (.ireturn, 1) := by decide +kernel
theorem dX9_four_53 : decode cX9_four 53 = .ok (.aload_n 0, 1) := by decide +kernel
theorem dX9_four_54 : decode cX9_four 54 = .ok (.getfield 41, 3) := by decide +kernel
theorem dX9_four_57 : decode cX9_four 57 = .ok (.iconst 0, 1) := by decide +kernel
theorem dX9_four_58 : decode cX9_four 58 = .ok (.iload_n 2, 1) := by decide +kernel
theorem dX9_four_59 : decode cX9_four 59 = .ok (.iastore, 1) := by decide +kernel
theorem dX9_four_60 : decode cX9_four 60 = .ok (.aload_n 0, 1) := by decide +kernel
theorem dX9_four_61 : decode cX9_four 61 = .ok (.getfield 41, 3) := by decide +kernel
theorem dX9_four_64 : decode cX9_four 64 = .ok (.iconst 1, 1) := by decide +kernel
theorem dX9_four_65 : decode cX9_four 65 = .ok (.iload_n 3, 1) := by decide +kernel
theorem dX9_four_66 : decode cX9_four 66 = .ok (.iastore, 1) := by decide +kernel
theorem dX9_four_67 : decode cX9_four 67 = .ok (.aload_n 0, 1) := by decide +kernel
theorem dX9_four_68 : decode cX9_four 68 = .ok (.getfield 41, 3) := by decide +kernel
theorem dX9_four_71 : decode cX9_four 71 = .ok (.iconst 2, 1) := by decide +kernel
theorem dX9_four_72 : decode cX9_four 72 = .ok (.iload 4, 2) := by decide +kernel
theorem dX9_four_74 : decode cX9_four 74 = .ok (.iastore, 1) := by decide +kernel
theorem dX9_four_75 : decode cX9_four 75 = .ok (.aload_n 0, 1) := by decide +kernel
theorem dX9_four_76 : decode cX9_four 76 = .ok (.getfield 41, 3) := by decide +kernel
theorem dX9_four_79 : decode cX9_four 79 = .ok (.iconst 3, 1) := by decide +kernel
theorem dX9_four_80 : decode cX9_four 80 = .ok (.iload 5, 2) := by decide +kernel
theorem dX9_four_82 : decode cX9_four 82 = .ok (.iastore, 1) := by decide +kernel
theorem dX9_four_83 : decode cX9_four 83 = .ok (.aload_n 0, 1) := by decide +kernel
theorem dX9_four_84 : decode cX9_four 84 = .ok (.iload_n 1, 1) := by decide +kernel
theorem dX9_four_85 : decode cX9_four 85 = .ok (.invokevirtual 163, 3) := by decide +kernel
theorem dX9_four_88 : decode cX9_four 88 = .ok (.aload_n 0, 1) := by decide +kernel
theorem dX9_four_89 : decode cX9_four 89 = .ok (.iconst 4, 1) := by decide +kernel
theorem dX9_four_90 : decode cX9_four 90 = .ok (.iload_n 1, 1) := by decide +kernel
theorem dX9_four_91 : decode cX9_four 91 = .ok (.imul, 1) := by decide +kernel
theorem dX9_four_92 : decode cX9_four 92 = .ok (.invokevirtual 126, 3) := by decide +kernel
theorem dX9_four_95 : decode cX9_four 95 = .ok (.ireturn, 1) := by decide +kernel
theorem dX9_bordered_0 : decode cX9_bordered 0 = .ok (.iload_n 1, 1) := by decide +kernel
theorem dX9_bordered_1 : decode cX9_bordered 1 = .ok (.iconst 1, 1) := by decide +kernel
theorem dX9_bordered_2 : decode cX9_bordered 2 = .ok (.bipush 27, 2) := by decide +kernel
theorem dX9_bordered_4 : decode cX9_bordered 4 = .ok (.invokestatic 82, 3) := by decide +kernel
theorem dX9_bordered_7 : decode cX9_bordered 7 = .ok (.ifCond .eq 18, 3) := by decide +kernel
theorem dX9_bordered_10 : decode cX9_bordered 10 = .ok (.iload_n 2, 1) := by decide +kernel
theorem dX9_bordered_11 : decode cX9_bordered 11 = .ok (.iload_n 1, 1) := by decide +kernel
theorem dX9_bordered_12 : decode cX9_bordered 12 = .ok (.invokestatic 160, 3) := by decide +kernel
theorem dX9_bordered_15 : decode cX9_bordered 15 = .ok (.ifCond .eq 10, 3) := by decide +kernel
theorem dX9_bordered_18 : decode cX9_bordered 18 = .ok (.aload_n 0, 1) := by decide +kernel
theorem dX9_bordered_19 : decode cX9_bordered 19 = .ok (.invokevirtual 116, 3) := by decide +kernel
theorem dX9_bordered_22 : decode cX9_bordered 22 = .ok (.ifCond .eq 5, 3) := by decide +kernel
theorem dX9_bordered_25 : decode cX9_bordered 25 = .ok (.iconst (-1), 1) := by decide +kernel
theorem dX9_bordered_26 : decode cX9_bordered 26 = .ok (.ireturn, 1) := by decide +kernel
theorem dX9_bordered_27 : decode cX9_bordered 27 = .ok (.aload_n 0, 1) := by decide +kernel
theorem dX9_bordered_28 : decode cX9_bordered 28 = .ok (.invokevirtual 123, 3) := by decide +kernel
theorem dX9_bordered_31 : decode cX9_bordered 31 = .ok (.iconst 0, 1) := by decide +kernel
theorem dX9_bordered_32 : decode cX9_bordered 32 = .ok (.istore_n 3, 1) := by decide +kernel
theorem dX9_bordered_33 : decode cX9_bordered 33 = .ok (.iload_n 3, 1) := by decide +kernel
theorem dX9_bordered_34 : decode cX9_bordered 34 = .ok (.iload_n 1, 1) := by decide +kernel
theorem dX9_bordered_35 : decode cX9_bordered 35 = .ok (.if_icmp .ge 47, 3) := by decide +kernel
theorem dX9_bordered_38 : decode cX9_bordered 38 = .ok (.iconst 0, 1) := by decide +kernel
theorem dX9_bordered_39 : decode cX9_bordered 39 = .ok (.istore 4, 2) := by decide +kernel
theorem dX9_bordered_41 : decode cX9_bordered 41 = .ok (.iload 4, 2) := by decide +kernel
theorem dX9_bordered_43 : decode cX9_bordered 43 = .ok (.iload_n 1, 1) := by decide +kernel
theorem dX9_bordered_44 : decode cX9_bordered 44 = .ok (.if_icmp .ge 32, 3) := by decide +kernel
theorem dX9_bordered_47 : decode cX9_bordered 47 = .ok (.aload_n 0, 1) := by decide +kernel
theorem dX9_bordered_48 : decode cX9_bordered 48 = .ok (.iload_n 3, 1) := by decide +kernel
theorem dX9_bordered_49 : decode cX9_bordered 49 = .ok (.iconst 1, 1) := by decide +kernel
theorem dX9_bordered_50 : decode cX9_bordered 50 = .ok (.iadd, 1) := by decide +kernel
theorem dX9_bordered_51 : decode cX9_bordered 51 = .ok (.iload 4, 2) := by decide +kernel
theorem dX9_bordered_53 : decode cX9_bordered 53 = .ok (.iconst 1, 1) := by decide +kernel
theorem dX9_bordered_54 : decode cX9_bordered 54 = .ok (.iadd, 1) := by decide +kernel
theorem dX9_bordered_55 : decode cX9_bordered 55 = .ok (.iload_n 2, 1) := by decide +kernel
theorem dX9_bordered_56 : decode cX9_bordered 56 = .ok (.iload 4, 2) := by decide +kernel
theorem dX9_bordered_58 : decode cX9_bordered 58 = .ok (.iload_n 3, 1) := by decide +kernel
theorem dX9_bordered_59 : decode cX9_bordered 59 = .ok (.isub, 1) := by decide +kernel
theorem dX9_bordered_60 : decode cX9_bordered 60 = .ok (.iload_n 1, 1) := by decide +kernel
theorem dX9_bordered_61 : decode cX9_bordered 61 = .ok (.iadd, 1) := by decide +kernel
theorem dX9_bordered_62 : decode cX9_bordered 62 = .ok (.iload_n 1, 1) := by decide +kernel
theorem dX9_bordered_63 : decode cX9_bordered 63 = .ok (.irem, 1) := by decide +kernel
theorem dX9_bordered_64 : decode cX9_bordered 64 = .ok (.invokestatic 94, 3) := by decide +kernel
theorem dX9_bordered_67 : decode cX9_bordered 67 = .ok (.invokevirtual 150, 3) := by decide +kernel
theorem dX9_bordered_70 : decode cX9_bordered 70 = .ok (.iinc 4 1, 3) := by decide +kernel
theorem dX9_bordered_73 : decode cX9_bordered 73 = .ok (.goto (-32), 3) := by decide +kernel
theorem dX9_bordered_76 : decode cX9_bordered 76 = .ok (.iinc 3 1, 3) := by decide +kernel
theorem dX9_bordered_79 : decode cX9_bordered 79 = .ok (.goto (-46), 3) := by decide +kernel
theorem dX9_bordered_82 : decode cX9_bordered 82 = .ok (.aload_n 0, 1) := by decide +kernel
theorem dX9_bordered_83 : decode cX9_bordered 83 = .ok (.iload_n 1, 1) := by decide +kernel
theorem dX9_bordered_84 : decode cX9_bordered 84 = .ok (.iconst 1, 1) := by decide +kernel
theorem dX9_bordered_85 : decode cX9_bordered 85 = .ok (.iadd, 1) := by decide +kernel
theorem dX9_bordered_86 : decode cX9_bordered 86 = .ok (.invokevirtual 126, 3) := by decide +kernel
theorem dX9_bordered_89 : decode cX9_bordered 89 = .ok (.ireturn, 1) := by decide +kernel
theorem dX9_sumOf_0 : decode cX9_sumOf 0 = .ok (.iload_n 2, 1) := by decide +kernel
theorem dX9_sumOf_1 : decode cX9_sumOf 1 = .ok (.iconst 2, 1) := by decide +kernel
theorem dX9_sumOf_2 : decode cX9_sumOf 2 = .ok (.iload_n 0, 1) := by decide +kernel
theorem dX9_sumOf_3 : decode cX9_sumOf 3 = .ok (.iload_n 1, 1) := by decide +kernel
theorem dX9_sumOf_4 : decode cX9_sumOf 4 = .ok (.ixor, 1) := by decide +kernel
theorem dX9_sumOf_5 : decode cX9_sumOf 5 = .ok (.invokestatic 166, 3) := by decide +kernel
theorem dX9_sumOf_8 : decode cX9_sumOf 8 = .ok (.imul, 1) := by decide +kernel
theorem dX9_sumOf_9 : decode cX9_sumOf 9 = .ok (.isub, 1) := by decide +kernel
theorem dX9_sumOf_10 : decode cX9_sumOf 10 = .ok (.ireturn, 1) := by decide +kernel
theorem dX9_isMadeFit_0 : decode cX9_isMadeFit 0 = .ok (.iconst 0, 1) := by decide +kernel
theorem dX9_isMadeFit_1 : decode cX9_isMadeFit 1 = .ok (.istore_n 3, 1) := by decide +kernel
theorem dX9_isMadeFit_2 : decode cX9_isMadeFit 2 = .ok (.iload_n 3, 1) := by decide +kernel
theorem dX9_isMadeFit_3 : decode cX9_isMadeFit 3 = .ok (.iload_n 1, 1) := by decide +kernel
theorem dX9_isMadeFit_4 : decode cX9_isMadeFit 4 = .ok (.if_icmp .ge 30, 3) := by decide +kernel
theorem dX9_isMadeFit_7 : decode cX9_isMadeFit 7 = .ok (.aload_n 0, 1) := by decide +kernel
theorem dX9_isMadeFit_8 : decode cX9_isMadeFit 8 = .ok (.getfield 32, 3) := by decide +kernel
theorem dX9_isMadeFit_11 : decode cX9_isMadeFit 11 = .ok (.iload_n 3, 1) := by decide +kernel
theorem dX9_isMadeFit_12 : decode cX9_isMadeFit 12 = .ok (.iaload, 1) := by decide +kernel
theorem dX9_isMadeFit_13 : decode cX9_isMadeFit 13 = .ok (.aload_n 0, 1) := by decide +kernel
theorem dX9_isMadeFit_14 : decode cX9_isMadeFit 14 = .ok (.getfield 32, 3) := by decide +kernel
theorem dX9_isMadeFit_17 : decode cX9_isMadeFit 17 = .ok (.iload_n 1, 1) := by decide +kernel
theorem dX9_isMadeFit_18 : decode cX9_isMadeFit 18 = .ok (.iaload, 1) := by decide +kernel
theorem dX9_isMadeFit_19 : decode cX9_isMadeFit 19 = .ok (.iload_n 2, 1) := by decide +kernel
theorem dX9_isMadeFit_20 : decode cX9_isMadeFit 20 = .ok (.invokestatic 169, 3) := by decide +kernel
theorem dX9_isMadeFit_23 : decode cX9_isMadeFit 23 = .ok (.ifCond .eq 5, 3) := by decide +kernel
theorem dX9_isMadeFit_26 : decode cX9_isMadeFit 26 = .ok (.iconst 0, 1) := by decide +kernel
theorem dX9_isMadeFit_27 : decode cX9_isMadeFit 27 = .ok (.ireturn, 1) := by decide +kernel
theorem dX9_isMadeFit_28 : decode cX9_isMadeFit 28 = .ok (.iinc 3 1, 3) := by decide +kernel
theorem dX9_isMadeFit_31 : decode cX9_isMadeFit 31 = .ok (.goto (-29), 3) := by decide +kernel
theorem dX9_isMadeFit_34 : decode cX9_isMadeFit 34 = .ok (.iconst 1, 1) := by decide +kernel
theorem dX9_isMadeFit_35 : decode cX9_isMadeFit 35 = .ok (.ireturn, 1) := by decide +kernel
theorem dX9_completes_0 : decode cX9_completes 0 = .ok (.aload_n 0, 1) := by decide +kernel
theorem dX9_completes_1 : decode cX9_completes 1 = .ok (.getfield 112, 3) := by decide +kernel
theorem dX9_completes_4 : decode cX9_completes 4 = .ok (.istore_n 2, 1) := by decide +kernel
theorem dX9_completes_5 : decode cX9_completes 5 = .ok (.iload_n 2, 1) := by decide +kernel
theorem dX9_completes_6 : decode cX9_completes 6 = .ok (.iload_n 1, 1) := by decide +kernel
theorem dX9_completes_7 : decode cX9_completes 7 = .ok (.if_icmp .ne 5, 3) := by decide +kernel
theorem dX9_completes_10 : decode cX9_completes 10 = .ok (.iconst 1, 1) := by decide +kernel
theorem dX9_completes_11 : decode cX9_completes 11 = .ok (.ireturn, 1) := by decide +kernel
theorem dX9_completes_12 : decode cX9_completes 12 = .ok (.aload_n 0, 1) := by decide +kernel
theorem dX9_completes_13 : decode cX9_completes 13 = .ok (.getfield 32, 3) := by decide +kernel
theorem dX9_completes_16 : decode cX9_completes 16 = .ok (.iload_n 2, 1) := by decide +kernel
theorem dX9_completes_17 : decode cX9_completes 17 = .ok (.iconst (-1), 1) := by decide +kernel
theorem dX9_completes_18 : decode cX9_completes 18 = .ok (.iastore, 1) := by decide +kernel
theorem dX9_completes_19 : decode cX9_completes 19 = .ok (.iload_n 2, 1) := by decide +kernel
theorem dX9_completes_20 : decode cX9_completes 20 = .ok (.aload_n 0, 1) := by decide +kernel
theorem dX9_completes_21 : decode cX9_completes 21 = .ok (.getfield 112, 3) := by decide +kernel
theorem dX9_completes_24 : decode cX9_completes 24 = .ok (.if_icmp .lt 94, 3) := by decide +kernel
theorem dX9_completes_27 : decode cX9_completes 27 = .ok (.aload_n 0, 1) := by decide +kernel
theorem dX9_completes_28 : decode cX9_completes 28 = .ok (.getfield 32, 3) := by decide +kernel
theorem dX9_completes_31 : decode cX9_completes 31 = .ok (.iload_n 2, 1) := by decide +kernel
theorem dX9_completes_32 : decode cX9_completes 32 = .ok (.dup2, 1) := by decide +kernel
theorem dX9_completes_33 : decode cX9_completes 33 = .ok (.iaload, 1) := by decide +kernel
theorem dX9_completes_34 : decode cX9_completes 34 = .ok (.iconst 1, 1) := by decide +kernel
theorem dX9_completes_35 : decode cX9_completes 35 = .ok (.iadd, 1) := by decide +kernel
theorem dX9_completes_36 : decode cX9_completes 36 = .ok (.iastore, 1) := by decide +kernel
theorem dX9_completes_37 : decode cX9_completes 37 = .ok (.aload_n 0, 1) := by decide +kernel
theorem dX9_completes_38 : decode cX9_completes 38 = .ok (.getfield 32, 3) := by decide +kernel
theorem dX9_completes_41 : decode cX9_completes 41 = .ok (.iload_n 2, 1) := by decide +kernel
theorem dX9_completes_42 : decode cX9_completes 42 = .ok (.iaload, 1) := by decide +kernel
theorem dX9_completes_43 : decode cX9_completes 43 = .ok (.iconst 1, 1) := by decide +kernel
theorem dX9_completes_44 : decode cX9_completes 44 = .ok (.iload_n 1, 1) := by decide +kernel
theorem dX9_completes_45 : decode cX9_completes 45 = .ok (.ishl, 1) := by decide +kernel
theorem dX9_completes_46 : decode cX9_completes 46 = .ok (.if_icmp .ge 25, 3) := by decide +kernel
theorem dX9_completes_49 : decode cX9_completes 49 = .ok (.aload_n 0, 1) := by decide +kernel
theorem dX9_completes_50 : decode cX9_completes 50 = .ok (.iload_n 2, 1) := by decide +kernel
theorem dX9_completes_51 : decode cX9_completes 51 = .ok (.iload_n 1, 1) := by decide +kernel
theorem dX9_completes_52 : decode cX9_completes 52 = .ok (.invokevirtual 172, 3) := by decide +kernel
theorem dX9_completes_55 : decode cX9_completes 55 = .ok (.ifCond .ne 16, 3) := by decide +kernel
theorem dX9_completes_58 : decode cX9_completes 58 = .ok (.aload_n 0, 1) := by decide +kernel
theorem dX9_completes_59 : decode cX9_completes 59 = .ok (.getfield 32, 3) := by decide +kernel
theorem dX9_completes_62 : decode cX9_completes 62 = .ok (.iload_n 2, 1) := by decide +kernel
theorem dX9_completes_63 : decode cX9_completes 63 = .ok (.dup2, 1) := by decide +kernel
theorem dX9_completes_64 : decode cX9_completes 64 = .ok (.iaload, 1) := by decide +kernel
theorem dX9_completes_65 : decode cX9_completes 65 = .ok (.iconst 1, 1) := by decide +kernel
theorem dX9_completes_66 : decode cX9_completes 66 = .ok (.iadd, 1) := by decide +kernel
theorem dX9_completes_67 : decode cX9_completes 67 = .ok (.iastore, 1) := by decide +kernel
theorem dX9_completes_68 : decode cX9_completes 68 = .ok (.goto (-31), 3) := by decide +kernel
theorem dX9_completes_71 : decode cX9_completes 71 = .ok (.aload_n 0, 1) := by decide +kernel
theorem dX9_completes_72 : decode cX9_completes 72 = .ok (.getfield 32, 3) := by decide +kernel
theorem dX9_completes_75 : decode cX9_completes 75 = .ok (.iload_n 2, 1) := by decide +kernel
theorem dX9_completes_76 : decode cX9_completes 76 = .ok (.iaload, 1) := by decide +kernel
theorem dX9_completes_77 : decode cX9_completes 77 = .ok (.iconst 1, 1) := by decide +kernel
theorem dX9_completes_78 : decode cX9_completes 78 = .ok (.iload_n 1, 1) := by decide +kernel
theorem dX9_completes_79 : decode cX9_completes 79 = .ok (.ishl, 1) := by decide +kernel
theorem dX9_completes_80 : decode cX9_completes 80 = .ok (.if_icmp .ne 9, 3) := by decide +kernel
theorem dX9_completes_83 : decode cX9_completes 83 = .ok (.iinc 2 (-1), 3) := by decide +kernel
theorem dX9_completes_86 : decode cX9_completes 86 = .ok (.goto (-67), 3) := by decide +kernel
theorem dX9_completes_89 : decode cX9_completes 89 = .ok (.iload_n 2, 1) := by decide +kernel
theorem dX9_completes_90 : decode cX9_completes 90 = .ok (.iload_n 1, 1) := by decide +kernel
theorem dX9_completes_91 : decode cX9_completes 91 = .ok (.iconst 1, 1) := by decide +kernel
theorem dX9_completes_92 : decode cX9_completes 92 = .ok (.isub, 1) := by decide +kernel
theorem dX9_completes_93 : decode cX9_completes 93 = .ok (.if_icmp .ne 5, 3) := by decide +kernel
theorem dX9_completes_96 : decode cX9_completes 96 = .ok (.iconst 1, 1) := by decide +kernel
theorem dX9_completes_97 : decode cX9_completes 97 = .ok (.ireturn, 1) := by decide +kernel
theorem dX9_completes_98 : decode cX9_completes 98 = .ok (.iinc 2 1, 3) := by decide +kernel
theorem dX9_completes_101 : decode cX9_completes 101 = .ok (.aload_n 0, 1) := by decide +kernel
theorem dX9_completes_102 : decode cX9_completes 102 = .ok (.getfield 32, 3) := by decide +kernel
theorem dX9_completes_105 : decode cX9_completes 105 = .ok (.iload_n 2, 1) := by decide +kernel
theorem dX9_completes_106 : decode cX9_completes 106 = .ok (.aload_n 0, 1) := by decide +kernel
theorem dX9_completes_107 : decode cX9_completes 107 = .ok (.getfield 32, 3) := by decide +kernel
theorem dX9_completes_110 : decode cX9_completes 110 = .ok (.iload_n 2, 1) := by decide +kernel
theorem dX9_completes_111 : decode cX9_completes 111 = .ok (.iconst 1, 1) := by decide +kernel
theorem dX9_completes_112 : decode cX9_completes 112 = .ok (.isub, 1) := by decide +kernel
theorem dX9_completes_113 : decode cX9_completes 113 = .ok (.iaload, 1) := by decide +kernel
theorem dX9_completes_114 : decode cX9_completes 114 = .ok (.iastore, 1) := by decide +kernel
theorem dX9_completes_115 : decode cX9_completes 115 = .ok (.goto (-96), 3) := by decide +kernel
theorem dX9_completes_118 : decode cX9_completes 118 = .ok (.iconst 0, 1) := by decide +kernel
theorem dX9_completes_119 : decode cX9_completes 119 = .ok (.ireturn, 1) := by decide +kernel
theorem dX9_completed_0 : decode cX9_completed 0 = .ok (.iload_n 1, 1) := by decide +kernel
theorem dX9_completed_1 : decode cX9_completed 1 = .ok (.iconst 1, 1) := by decide +kernel
theorem dX9_completed_2 : decode cX9_completed 2 = .ok (.if_icmp .eq 25, 3) := by decide +kernel
theorem dX9_completed_5 : decode cX9_completed 5 = .ok (.iload_n 1, 1) := by decide +kernel
theorem dX9_completed_6 : decode cX9_completed 6 = .ok (.iconst 2, 1) := by decide +kernel
theorem dX9_completed_7 : decode cX9_completed 7 = .ok (.if_icmp .eq 20, 3) := by decide +kernel
theorem dX9_completed_10 : decode cX9_completed 10 = .ok (.iload_n 1, 1) := by decide +kernel
theorem dX9_completed_11 : decode cX9_completed 11 = .ok (.iconst 4, 1) := by decide +kernel
theorem dX9_completed_12 : decode cX9_completed 12 = .ok (.if_icmp .eq 15, 3) := by decide +kernel
theorem dX9_completed_15 : decode cX9_completed 15 = .ok (.iload_n 1, 1) := by decide +kernel
theorem dX9_completed_16 : decode cX9_completed 16 = .ok (.bipush 8, 2) := by decide +kernel
theorem dX9_completed_18 : decode cX9_completed 18 = .ok (.if_icmp .eq 9, 3) := by decide +kernel
theorem dX9_completed_21 : decode cX9_completed 21 = .ok (.iload_n 1, 1) := by decide +kernel
theorem dX9_completed_22 : decode cX9_completed 22 = .ok (.bipush 12, 2) := by decide +kernel
theorem dX9_completed_24 : decode cX9_completed 24 = .ok (.if_icmp .ne 26, 3) := by decide +kernel
theorem dX9_completed_27 : decode cX9_completed 27 = .ok (.aload_n 0, 1) := by decide +kernel
theorem dX9_completed_28 : decode cX9_completed 28 = .ok (.getfield 112, 3) := by decide +kernel
theorem dX9_completed_31 : decode cX9_completed 31 = .ok (.iload_n 1, 1) := by decide +kernel
theorem dX9_completed_32 : decode cX9_completed 32 = .ok (.if_icmp .gt 18, 3) := by decide +kernel
theorem dX9_completed_35 : decode cX9_completed 35 = .ok (.aload_n 0, 1) := by decide +kernel
theorem dX9_completed_36 : decode cX9_completed 36 = .ok (.iload_n 1, 1) := by decide +kernel
theorem dX9_completed_37 : decode cX9_completed 37 = .ok (.invokevirtual 120, 3) := by decide +kernel
theorem dX9_completed_40 : decode cX9_completed 40 = .ok (.ifCond .eq 10, 3) := by decide +kernel
theorem dX9_completed_43 : decode cX9_completed 43 = .ok (.aload_n 0, 1) := by decide +kernel
theorem dX9_completed_44 : decode cX9_completed 44 = .ok (.invokevirtual 116, 3) := by decide +kernel
theorem dX9_completed_47 : decode cX9_completed 47 = .ok (.ifCond .eq 5, 3) := by decide +kernel
theorem dX9_completed_50 : decode cX9_completed 50 = .ok (.iconst (-1), 1) := by decide +kernel
theorem dX9_completed_51 : decode cX9_completed 51 = .ok (.ireturn, 1) := by decide +kernel
theorem dX9_completed_52 : decode cX9_completed 52 = .ok (.aload_n 0, 1) := by decide +kernel
theorem dX9_completed_53 : decode cX9_completed 53 = .ok (.invokevirtual 123, 3) := by decide +kernel
theorem dX9_completed_56 : decode cX9_completed 56 = .ok (.iconst 0, 1) := by decide +kernel
theorem dX9_completed_57 : decode cX9_completed 57 = .ok (.istore_n 2, 1) := by decide +kernel
theorem dX9_completed_58 : decode cX9_completed 58 = .ok (.iload_n 2, 1) := by decide +kernel
theorem dX9_completed_59 : decode cX9_completed 59 = .ok (.aload_n 0, 1) := by decide +kernel
theorem dX9_completed_60 : decode cX9_completed 60 = .ok (.getfield 112, 3) := by decide +kernel
theorem dX9_completed_63 : decode cX9_completed 63 = .ok (.if_icmp .ge 32, 3) := by decide +kernel
theorem dX9_completed_66 : decode cX9_completed 66 = .ok (.aload_n 0, 1) := by decide +kernel
theorem dX9_completed_67 : decode cX9_completed 67 = .ok (.getfield 32, 3) := by decide +kernel
theorem dX9_completed_70 : decode cX9_completed 70 = .ok (.iload_n 2, 1) := by decide +kernel
theorem dX9_completed_71 : decode cX9_completed 71 = .ok (.aload_n 0, 1) := by decide +kernel
theorem dX9_completed_72 : decode cX9_completed 72 = .ok (.getfield 29, 3) := by decide +kernel
theorem dX9_completed_75 : decode cX9_completed 75 = .ok (.iload_n 2, 1) := by decide +kernel
theorem dX9_completed_76 : decode cX9_completed 76 = .ok (.iaload, 1) := by decide +kernel
theorem dX9_completed_77 : decode cX9_completed 77 = .ok (.iastore, 1) := by decide +kernel
theorem dX9_completed_78 : decode cX9_completed 78 = .ok (.aload_n 0, 1) := by decide +kernel
theorem dX9_completed_79 : decode cX9_completed 79 = .ok (.iload_n 2, 1) := by decide +kernel
theorem dX9_completed_80 : decode cX9_completed 80 = .ok (.iload_n 1, 1) := by decide +kernel
theorem dX9_completed_81 : decode cX9_completed 81 = .ok (.invokevirtual 172, 3) := by decide +kernel
theorem dX9_completed_84 : decode cX9_completed 84 = .ok (.ifCond .ne 5, 3) := by decide +kernel
theorem dX9_completed_87 : decode cX9_completed 87 = .ok (.iconst (-1), 1) := by decide +kernel
theorem dX9_completed_88 : decode cX9_completed 88 = .ok (.ireturn, 1) := by decide +kernel
theorem dX9_completed_89 : decode cX9_completed 89 = .ok (.iinc 2 1, 3) := by decide +kernel
theorem dX9_completed_92 : decode cX9_completed 92 = .ok (.goto (-34), 3) := by decide +kernel
theorem dX9_completed_95 : decode cX9_completed 95 = .ok (.aload_n 0, 1) := by decide +kernel
theorem dX9_completed_96 : decode cX9_completed 96 = .ok (.iload_n 1, 1) := by decide +kernel
theorem dX9_completed_97 : decode cX9_completed 97 = .ok (.invokevirtual 175, 3) := by decide +kernel
theorem dX9_completed_100 : decode cX9_completed 100 = .ok (.ifCond .ne 5, 3) := by decide +kernel
theorem dX9_completed_103 : decode cX9_completed 103 = .ok (.iconst (-1), 1) := by decide +kernel
theorem dX9_completed_104 : decode cX9_completed 104 = .ok (.ireturn, 1) := by decide +kernel
theorem dX9_completed_105 : decode cX9_completed 105 = .ok (.aload_n 0, 1) := by decide +kernel
theorem dX9_completed_106 : decode cX9_completed 106 = .ok (.iconst 0, 1) := by decide +kernel
theorem dX9_completed_107 : decode cX9_completed 107 = .ok (.putfield 112, 3) := by decide +kernel
theorem dX9_completed_110 : decode cX9_completed 110 = .ok (.aload_n 0, 1) := by decide +kernel
theorem dX9_completed_111 : decode cX9_completed 111 = .ok (.iload_n 1, 1) := by decide +kernel
theorem dX9_completed_112 : decode cX9_completed 112 = .ok (.invokevirtual 126, 3) := by decide +kernel
theorem dX9_completed_115 : decode cX9_completed 115 = .ok (.ireturn, 1) := by decide +kernel
theorem dX9_copy_0 : decode cX9_copy 0 = .ok (.aload_n 0, 1) := by decide +kernel
theorem dX9_copy_1 : decode cX9_copy 1 = .ok (.iload_n 1, 1) := by decide +kernel
theorem dX9_copy_2 : decode cX9_copy 2 = .ok (.invokevirtual 86, 3) := by decide +kernel
theorem dX9_copy_5 : decode cX9_copy 5 = .ok (.ifCond .eq 10, 3) := by decide +kernel
theorem dX9_copy_8 : decode cX9_copy 8 = .ok (.aload_n 0, 1) := by decide +kernel
theorem dX9_copy_9 : decode cX9_copy 9 = .ok (.invokevirtual 116, 3) := by decide +kernel
theorem dX9_copy_12 : decode cX9_copy 12 = .ok (.ifCond .eq 5, 3) := by decide +kernel
theorem dX9_copy_15 : decode cX9_copy 15 = .ok (.iconst (-1), 1) := by decide +kernel
theorem dX9_copy_16 : decode cX9_copy 16 = .ok (.ireturn, 1) := by decide +kernel
theorem dX9_copy_17 : decode cX9_copy 17 = .ok (.iconst 0, 1) := by decide +kernel
theorem dX9_copy_18 : decode cX9_copy 18 = .ok (.istore_n 2, 1) := by decide +kernel
theorem dX9_copy_19 : decode cX9_copy 19 = .ok (.iload_n 2, 1) := by decide +kernel
theorem dX9_copy_20 : decode cX9_copy 20 = .ok (.bipush 28, 2) := by decide +kernel
theorem dX9_copy_22 : decode cX9_copy 22 = .ok (.if_icmp .ge 21, 3) := by decide +kernel
theorem dX9_copy_25 : decode cX9_copy 25 = .ok (.aload_n 0, 1) := by decide +kernel
theorem dX9_copy_26 : decode cX9_copy 26 = .ok (.getfield 32, 3) := by decide +kernel
theorem dX9_copy_29 : decode cX9_copy 29 = .ok (.iload_n 2, 1) := by decide +kernel
theorem dX9_copy_30 : decode cX9_copy 30 = .ok (.aload_n 0, 1) := by decide +kernel
theorem dX9_copy_31 : decode cX9_copy 31 = .ok (.iload_n 1, 1) := by decide +kernel
theorem dX9_copy_32 : decode cX9_copy 32 = .ok (.iload_n 2, 1) := by decide +kernel
theorem dX9_copy_33 : decode cX9_copy 33 = .ok (.invokevirtual 90, 3) := by decide +kernel
theorem dX9_copy_36 : decode cX9_copy 36 = .ok (.iastore, 1) := by decide +kernel
theorem dX9_copy_37 : decode cX9_copy 37 = .ok (.iinc 2 1, 3) := by decide +kernel
theorem dX9_copy_40 : decode cX9_copy 40 = .ok (.goto (-21), 3) := by decide +kernel
theorem dX9_copy_43 : decode cX9_copy 43 = .ok (.aload_n 0, 1) := by decide +kernel
theorem dX9_copy_44 : decode cX9_copy 44 = .ok (.aload_n 0, 1) := by decide +kernel
theorem dX9_copy_45 : decode cX9_copy 45 = .ok (.getfield 13, 3) := by decide +kernel
theorem dX9_copy_48 : decode cX9_copy 48 = .ok (.iload_n 1, 1) := by decide +kernel
theorem dX9_copy_49 : decode cX9_copy 49 = .ok (.iaload, 1) := by decide +kernel
theorem dX9_copy_50 : decode cX9_copy 50 = .ok (.invokevirtual 126, 3) := by decide +kernel
theorem dX9_copy_53 : decode cX9_copy 53 = .ok (.ireturn, 1) := by decide +kernel
theorem dX9_drop_0 : decode cX9_drop 0 = .ok (.aload_n 0, 1) := by decide +kernel
theorem dX9_drop_1 : decode cX9_drop 1 = .ok (.iload_n 1, 1) := by decide +kernel
theorem dX9_drop_2 : decode cX9_drop 2 = .ok (.invokevirtual 86, 3) := by decide +kernel
theorem dX9_drop_5 : decode cX9_drop 5 = .ok (.ifCond .ne 5, 3) := by decide +kernel
theorem dX9_drop_8 : decode cX9_drop 8 = .ok (.iconst 0, 1) := by decide +kernel
theorem dX9_drop_9 : decode cX9_drop 9 = .ok (.ireturn, 1) := by decide +kernel
theorem dX9_drop_10 : decode cX9_drop 10 = .ok (.aload_n 0, 1) := by decide +kernel
theorem dX9_drop_11 : decode cX9_drop 11 = .ok (.getfield 13, 3) := by decide +kernel
theorem dX9_drop_14 : decode cX9_drop 14 = .ok (.iload_n 1, 1) := by decide +kernel
theorem dX9_drop_15 : decode cX9_drop 15 = .ok (.iconst 0, 1) := by decide +kernel
theorem dX9_drop_16 : decode cX9_drop 16 = .ok (.iastore, 1) := by decide +kernel
theorem dX9_drop_17 : decode cX9_drop 17 = .ok (.iconst 1, 1) := by decide +kernel
theorem dX9_drop_18 : decode cX9_drop 18 = .ok (.ireturn, 1) := by decide +kernel
theorem dX9_trailAt_0 : decode cX9_trailAt 0 = .ok (.bipush 28, 2) := by decide +kernel
theorem dX9_trailAt_2 : decode cX9_trailAt 2 = .ok (.iconst 2, 1) := by decide +kernel
theorem dX9_trailAt_3 : decode cX9_trailAt 3 = .ok (.iload_n 1, 1) := by decide +kernel
theorem dX9_trailAt_4 : decode cX9_trailAt 4 = .ok (.imul, 1) := by decide +kernel
theorem dX9_trailAt_5 : decode cX9_trailAt 5 = .ok (.iload_n 2, 1) := by decide +kernel
theorem dX9_trailAt_6 : decode cX9_trailAt 6 = .ok (.ifCond .eq 7, 3) := by decide +kernel
theorem dX9_trailAt_9 : decode cX9_trailAt 9 = .ok (.iconst 0, 1) := by decide +kernel
theorem dX9_trailAt_10 : decode cX9_trailAt 10 = .ok (.goto 4, 3) := by decide +kernel
theorem dX9_trailAt_13 : decode cX9_trailAt 13 = .ok (.iconst 1, 1) := by decide +kernel
theorem dX9_trailAt_14 : decode cX9_trailAt 14 = .ok (.iadd, 1) := by decide +kernel
theorem dX9_trailAt_15 : decode cX9_trailAt 15 = .ok (.imul, 1) := by decide +kernel
theorem dX9_trailAt_16 : decode cX9_trailAt 16 = .ok (.iload_n 3, 1) := by decide +kernel
theorem dX9_trailAt_17 : decode cX9_trailAt 17 = .ok (.iadd, 1) := by decide +kernel
theorem dX9_trailAt_18 : decode cX9_trailAt 18 = .ok (.ireturn, 1) := by decide +kernel
theorem dX9_signs_0 : decode cX9_signs 0 = .ok (.iload_n 2, 1) := by decide +kernel
theorem dX9_signs_1 : decode cX9_signs 1 = .ok (.ifCond .eq 30, 3) := by decide +kernel
theorem dX9_signs_4 : decode cX9_signs 4 = .ok (.aload_n 0, 1) := by decide +kernel
theorem dX9_signs_5 : decode cX9_signs 5 = .ok (.getfield 17, 3) := by decide +kernel
theorem dX9_signs_8 : decode cX9_signs 8 = .ok (.bipush 28, 2) := by decide +kernel
theorem dX9_signs_10 : decode cX9_signs 10 = .ok (.iload_n 1, 1) := by decide +kernel
theorem dX9_signs_11 : decode cX9_signs 11 = .ok (.imul, 1) := by decide +kernel
theorem dX9_signs_12 : decode cX9_signs 12 = .ok (.iload_n 3, 1) := by decide +kernel
theorem dX9_signs_13 : decode cX9_signs 13 = .ok (.iadd, 1) := by decide +kernel
theorem dX9_signs_14 : decode cX9_signs 14 = .ok (.dup2, 1) := by decide +kernel
theorem dX9_signs_15 : decode cX9_signs 15 = .ok (.iaload, 1) := by decide +kernel
theorem dX9_signs_16 : decode cX9_signs 16 = .ok (.iconst 1, 1) := by decide +kernel
theorem dX9_signs_17 : decode cX9_signs 17 = .ok (.aload_n 0, 1) := by decide +kernel
theorem dX9_signs_18 : decode cX9_signs 18 = .ok (.getfield 13, 3) := by decide +kernel
theorem dX9_signs_21 : decode cX9_signs 21 = .ok (.iload_n 1, 1) := by decide +kernel
theorem dX9_signs_22 : decode cX9_signs 22 = .ok (.iaload, 1) := by decide +kernel
theorem dX9_signs_23 : decode cX9_signs 23 = .ok (.ishl, 1) := by decide +kernel
theorem dX9_signs_24 : decode cX9_signs 24 = .ok (.iconst 1, 1) := by decide +kernel
theorem dX9_signs_25 : decode cX9_signs 25 = .ok (.isub, 1) := by decide +kernel
theorem dX9_signs_26 : decode cX9_signs 26 = .ok (.ixor, 1) := by decide +kernel
theorem dX9_signs_27 : decode cX9_signs 27 = .ok (.iastore, 1) := by decide +kernel
theorem dX9_signs_28 : decode cX9_signs 28 = .ok (.goto 41, 3) := by decide +kernel
theorem dX9_signs_31 : decode cX9_signs 31 = .ok (.iconst 0, 1) := by decide +kernel
theorem dX9_signs_32 : decode cX9_signs 32 = .ok (.istore 4, 2) := by decide +kernel
theorem dX9_signs_34 : decode cX9_signs 34 = .ok (.iload 4, 2) := by decide +kernel
theorem dX9_signs_36 : decode cX9_signs 36 = .ok (.aload_n 0, 1) := by decide +kernel
theorem dX9_signs_37 : decode cX9_signs 37 = .ok (.getfield 13, 3) := by decide +kernel
theorem dX9_signs_40 : decode cX9_signs 40 = .ok (.iload_n 1, 1) := by decide +kernel
theorem dX9_signs_41 : decode cX9_signs 41 = .ok (.iaload, 1) := by decide +kernel
theorem dX9_signs_42 : decode cX9_signs 42 = .ok (.if_icmp .ge 27, 3) := by decide +kernel
theorem dX9_signs_45 : decode cX9_signs 45 = .ok (.aload_n 0, 1) := by decide +kernel
theorem dX9_signs_46 : decode cX9_signs 46 = .ok (.getfield 17, 3) := by decide +kernel
theorem dX9_signs_49 : decode cX9_signs 49 = .ok (.bipush 28, 2) := by decide +kernel
theorem dX9_signs_51 : decode cX9_signs 51 = .ok (.iload_n 1, 1) := by decide +kernel
theorem dX9_signs_52 : decode cX9_signs 52 = .ok (.imul, 1) := by decide +kernel
theorem dX9_signs_53 : decode cX9_signs 53 = .ok (.iload 4, 2) := by decide +kernel
theorem dX9_signs_55 : decode cX9_signs 55 = .ok (.iadd, 1) := by decide +kernel
theorem dX9_signs_56 : decode cX9_signs 56 = .ok (.dup2, 1) := by decide +kernel
theorem dX9_signs_57 : decode cX9_signs 57 = .ok (.iaload, 1) := by decide +kernel
theorem dX9_signs_58 : decode cX9_signs 58 = .ok (.iconst 1, 1) := by decide +kernel
theorem dX9_signs_59 : decode cX9_signs 59 = .ok (.iload_n 3, 1) := by decide +kernel
theorem dX9_signs_60 : decode cX9_signs 60 = .ok (.ishl, 1) := by decide +kernel
theorem dX9_signs_61 : decode cX9_signs 61 = .ok (.ixor, 1) := by decide +kernel
theorem dX9_signs_62 : decode cX9_signs 62 = .ok (.iastore, 1) := by decide +kernel
theorem dX9_signs_63 : decode cX9_signs 63 = .ok (.iinc 4 1, 3) := by decide +kernel
theorem dX9_signs_66 : decode cX9_signs 66 = .ok (.goto (-32), 3) := by decide +kernel
theorem dX9_signs_69 : decode cX9_signs 69 = .ok (.aload_n 0, 1) := by decide +kernel
theorem dX9_signs_70 : decode cX9_signs 70 = .ok (.getfield 23, 3) := by decide +kernel
theorem dX9_signs_73 : decode cX9_signs 73 = .ok (.aload_n 0, 1) := by decide +kernel
theorem dX9_signs_74 : decode cX9_signs 74 = .ok (.iload_n 1, 1) := by decide +kernel
theorem dX9_signs_75 : decode cX9_signs 75 = .ok (.iload_n 2, 1) := by decide +kernel
theorem dX9_signs_76 : decode cX9_signs 76 = .ok (.iload_n 3, 1) := by decide +kernel
theorem dX9_signs_77 : decode cX9_signs 77 = .ok (.invokevirtual 178, 3) := by decide +kernel
theorem dX9_signs_80 : decode cX9_signs 80 = .ok (.dup2, 1) := by decide +kernel
theorem dX9_signs_81 : decode cX9_signs 81 = .ok (.iaload, 1) := by decide +kernel
theorem dX9_signs_82 : decode cX9_signs 82 = .ok (.iconst 1, 1) := by decide +kernel
theorem dX9_signs_83 : decode cX9_signs 83 = .ok (.ixor, 1) := by decide +kernel
theorem dX9_signs_84 : decode cX9_signs 84 = .ok (.iastore, 1) := by decide +kernel
theorem dX9_signs_85 : decode cX9_signs 85 = .ok (.return_, 1) := by decide +kernel
theorem dX9_sign_0 : decode cX9_sign 0 = .ok (.aload_n 0, 1) := by decide +kernel
theorem dX9_sign_1 : decode cX9_sign 1 = .ok (.iload_n 1, 1) := by decide +kernel
theorem dX9_sign_2 : decode cX9_sign 2 = .ok (.iload_n 3, 1) := by decide +kernel
theorem dX9_sign_3 : decode cX9_sign 3 = .ok (.invokevirtual 182, 3) := by decide +kernel
theorem dX9_sign_6 : decode cX9_sign 6 = .ok (.ifCond .ne 5, 3) := by decide +kernel
theorem dX9_sign_9 : decode cX9_sign 9 = .ok (.iconst 0, 1) := by decide +kernel
theorem dX9_sign_10 : decode cX9_sign 10 = .ok (.ireturn, 1) := by decide +kernel
theorem dX9_sign_11 : decode cX9_sign 11 = .ok (.aload_n 0, 1) := by decide +kernel
theorem dX9_sign_12 : decode cX9_sign 12 = .ok (.iload_n 1, 1) := by decide +kernel
theorem dX9_sign_13 : decode cX9_sign 13 = .ok (.iload_n 2, 1) := by decide +kernel
theorem dX9_sign_14 : decode cX9_sign 14 = .ok (.iload_n 3, 1) := by decide +kernel
theorem dX9_sign_15 : decode cX9_sign 15 = .ok (.invokevirtual 185, 3) := by decide +kernel
theorem dX9_sign_18 : decode cX9_sign 18 = .ok (.iconst 1, 1) := by decide +kernel
theorem dX9_sign_19 : decode cX9_sign 19 = .ok (.ireturn, 1) := by decide +kernel
theorem dX9_swaps_0 : decode cX9_swaps 0 = .ok (.aload_n 0, 1) := by decide +kernel
theorem dX9_swaps_1 : decode cX9_swaps 1 = .ok (.iload_n 1, 1) := by decide +kernel
theorem dX9_swaps_2 : decode cX9_swaps 2 = .ok (.iaload, 1) := by decide +kernel
theorem dX9_swaps_3 : decode cX9_swaps 3 = .ok (.istore_n 3, 1) := by decide +kernel
theorem dX9_swaps_4 : decode cX9_swaps 4 = .ok (.aload_n 0, 1) := by decide +kernel
theorem dX9_swaps_5 : decode cX9_swaps 5 = .ok (.iload_n 1, 1) := by decide +kernel
theorem dX9_swaps_6 : decode cX9_swaps 6 = .ok (.aload_n 0, 1) := by decide +kernel
theorem dX9_swaps_7 : decode cX9_swaps 7 = .ok (.iload_n 2, 1) := by decide +kernel
theorem dX9_swaps_8 : decode cX9_swaps 8 = .ok (.iaload, 1) := by decide +kernel
theorem dX9_swaps_9 : decode cX9_swaps 9 = .ok (.iastore, 1) := by decide +kernel
theorem dX9_swaps_10 : decode cX9_swaps 10 = .ok (.aload_n 0, 1) := by decide +kernel
theorem dX9_swaps_11 : decode cX9_swaps 11 = .ok (.iload_n 2, 1) := by decide +kernel
theorem dX9_swaps_12 : decode cX9_swaps 12 = .ok (.iload_n 3, 1) := by decide +kernel
theorem dX9_swaps_13 : decode cX9_swaps 13 = .ok (.iastore, 1) := by decide +kernel
theorem dX9_swaps_14 : decode cX9_swaps 14 = .ok (.return_, 1) := by decide +kernel
theorem dX9_exchange_0 : decode cX9_exchange 0 = .ok (.aload_n 0, 1) := by decide +kernel
theorem dX9_exchange_1 : decode cX9_exchange 1 = .ok (.iload_n 1, 1) := by decide +kernel
theorem dX9_exchange_2 : decode cX9_exchange 2 = .ok (.iload_n 3, 1) := by decide +kernel
theorem dX9_exchange_3 : decode cX9_exchange 3 = .ok (.invokevirtual 182, 3) := by decide +kernel
theorem dX9_exchange_6 : decode cX9_exchange 6 = .ok (.ifCond .eq 19, 3) := by decide +kernel
theorem dX9_exchange_9 : decode cX9_exchange 9 = .ok (.aload_n 0, 1) := by decide +kernel
theorem dX9_exchange_10 : decode cX9_exchange 10 = .ok (.iload_n 1, 1) := by decide +kernel
theorem dX9_exchange_11 : decode cX9_exchange 11 = .ok (.iload 4, 2) := by decide +kernel
theorem dX9_exchange_13 : decode cX9_exchange 13 = .ok (.invokevirtual 182, 3) := by decide +kernel
theorem dX9_exchange_16 : decode cX9_exchange 16 = .ok (.ifCond .eq 9, 3) := by decide +kernel
theorem dX9_exchange_19 : decode cX9_exchange 19 = .ok (.iload_n 3, 1) := by decide +kernel
theorem dX9_exchange_20 : decode cX9_exchange 20 = .ok (.iload 4, 2) := by decide +kernel
theorem dX9_exchange_22 : decode cX9_exchange 22 = .ok (.if_icmp .ne 5, 3) := by decide +kernel
theorem dX9_exchange_25 : decode cX9_exchange 25 = .ok (.iconst 0, 1) := by decide +kernel
theorem dX9_exchange_26 : decode cX9_exchange 26 = .ok (.ireturn, 1) := by decide +kernel
theorem dX9_exchange_27 : decode cX9_exchange 27 = .ok (.iload_n 2, 1) := by decide +kernel
theorem dX9_exchange_28 : decode cX9_exchange 28 = .ok (.ifCond .eq 23, 3) := by decide +kernel
theorem dX9_exchange_31 : decode cX9_exchange 31 = .ok (.aload_n 0, 1) := by decide +kernel
theorem dX9_exchange_32 : decode cX9_exchange 32 = .ok (.getfield 17, 3) := by decide +kernel
theorem dX9_exchange_35 : decode cX9_exchange 35 = .ok (.bipush 28, 2) := by decide +kernel
theorem dX9_exchange_37 : decode cX9_exchange 37 = .ok (.iload_n 1, 1) := by decide +kernel
theorem dX9_exchange_38 : decode cX9_exchange 38 = .ok (.imul, 1) := by decide +kernel
theorem dX9_exchange_39 : decode cX9_exchange 39 = .ok (.iload_n 3, 1) := by decide +kernel
theorem dX9_exchange_40 : decode cX9_exchange 40 = .ok (.iadd, 1) := by decide +kernel
theorem dX9_exchange_41 : decode cX9_exchange 41 = .ok (.bipush 28, 2) := by decide +kernel
theorem dX9_exchange_43 : decode cX9_exchange 43 = .ok (.iload_n 1, 1) := by decide +kernel
theorem dX9_exchange_44 : decode cX9_exchange 44 = .ok (.imul, 1) := by decide +kernel
theorem dX9_exchange_45 : decode cX9_exchange 45 = .ok (.iload 4, 2) := by decide +kernel
theorem dX9_exchange_47 : decode cX9_exchange 47 = .ok (.iadd, 1) := by decide +kernel
theorem dX9_exchange_48 : decode cX9_exchange 48 = .ok (.invokestatic 189, 3) := by decide +kernel
theorem dX9_exchange_51 : decode cX9_exchange 51 = .ok (.iconst 0, 1) := by decide +kernel
theorem dX9_exchange_52 : decode cX9_exchange 52 = .ok (.istore 5, 2) := by decide +kernel
theorem dX9_exchange_54 : decode cX9_exchange 54 = .ok (.iload 5, 2) := by decide +kernel
theorem dX9_exchange_56 : decode cX9_exchange 56 = .ok (.aload_n 0, 1) := by decide +kernel
theorem dX9_exchange_57 : decode cX9_exchange 57 = .ok (.getfield 13, 3) := by decide +kernel
theorem dX9_exchange_60 : decode cX9_exchange 60 = .ok (.iload_n 1, 1) := by decide +kernel
theorem dX9_exchange_61 : decode cX9_exchange 61 = .ok (.iaload, 1) := by decide +kernel
theorem dX9_exchange_62 : decode cX9_exchange 62 = .ok (.if_icmp .ge 56, 3) := by decide +kernel
theorem dX9_exchange_65 : decode cX9_exchange 65 = .ok (.iload_n 2, 1) := by decide +kernel
theorem dX9_exchange_66 : decode cX9_exchange 66 = .ok (.ifCond .ne 52, 3) := by decide +kernel
theorem dX9_exchange_69 : decode cX9_exchange 69 = .ok (.aload_n 0, 1) := by decide +kernel
theorem dX9_exchange_70 : decode cX9_exchange 70 = .ok (.iload_n 1, 1) := by decide +kernel
theorem dX9_exchange_71 : decode cX9_exchange 71 = .ok (.iload 5, 2) := by decide +kernel
theorem dX9_exchange_73 : decode cX9_exchange 73 = .ok (.iload_n 3, 1) := by decide +kernel
theorem dX9_exchange_74 : decode cX9_exchange 74 = .ok (.invokevirtual 98, 3) := by decide +kernel
theorem dX9_exchange_77 : decode cX9_exchange 77 = .ok (.aload_n 0, 1) := by decide +kernel
theorem dX9_exchange_78 : decode cX9_exchange 78 = .ok (.iload_n 1, 1) := by decide +kernel
theorem dX9_exchange_79 : decode cX9_exchange 79 = .ok (.iload 5, 2) := by decide +kernel
theorem dX9_exchange_81 : decode cX9_exchange 81 = .ok (.iload 4, 2) := by decide +kernel
theorem dX9_exchange_83 : decode cX9_exchange 83 = .ok (.invokevirtual 98, 3) := by decide +kernel
theorem dX9_exchange_86 : decode cX9_exchange 86 = .ok (.if_icmp .eq 26, 3) := by decide +kernel
theorem dX9_exchange_89 : decode cX9_exchange 89 = .ok (.aload_n 0, 1) := by decide +kernel
theorem dX9_exchange_90 : decode cX9_exchange 90 = .ok (.getfield 17, 3) := by decide +kernel
theorem dX9_exchange_93 : decode cX9_exchange 93 = .ok (.bipush 28, 2) := by decide +kernel
theorem dX9_exchange_95 : decode cX9_exchange 95 = .ok (.iload_n 1, 1) := by decide +kernel
theorem dX9_exchange_96 : decode cX9_exchange 96 = .ok (.imul, 1) := by decide +kernel
theorem dX9_exchange_97 : decode cX9_exchange 97 = .ok (.iload 5, 2) := by decide +kernel
theorem dX9_exchange_99 : decode cX9_exchange 99 = .ok (.iadd, 1) := by decide +kernel
theorem dX9_exchange_100 : decode cX9_exchange 100 = .ok (.dup2, 1) := by decide +kernel
theorem dX9_exchange_101 : decode cX9_exchange 101 = .ok (.iaload, 1) := by decide +kernel
theorem dX9_exchange_102 : decode cX9_exchange 102 = .ok (.iconst 1, 1) := by decide +kernel
theorem dX9_exchange_103 : decode cX9_exchange 103 = .ok (.iload_n 3, 1) := by decide +kernel
theorem dX9_exchange_104 : decode cX9_exchange 104 = .ok (.ishl, 1) := by decide +kernel
theorem dX9_exchange_105 : decode cX9_exchange 105 = .ok (.iconst 1, 1) := by decide +kernel
theorem dX9_exchange_106 : decode cX9_exchange 106 = .ok (.iload 4, 2) := by decide +kernel
theorem dX9_exchange_108 : decode cX9_exchange 108 = .ok (.ishl, 1) := by decide +kernel
theorem dX9_exchange_109 : decode cX9_exchange 109 = .ok (.ior, 1) := by decide +kernel
theorem dX9_exchange_110 : decode cX9_exchange 110 = .ok (.ixor, 1) := by decide +kernel
theorem dX9_exchange_111 : decode cX9_exchange 111 = .ok (.iastore, 1) := by decide +kernel
theorem dX9_exchange_112 : decode cX9_exchange 112 = .ok (.iinc 5 1, 3) := by decide +kernel
theorem dX9_exchange_115 : decode cX9_exchange 115 = .ok (.goto (-61), 3) := by decide +kernel
theorem dX9_exchange_118 : decode cX9_exchange 118 = .ok (.aload_n 0, 1) := by decide +kernel
theorem dX9_exchange_119 : decode cX9_exchange 119 = .ok (.getfield 20, 3) := by decide +kernel
theorem dX9_exchange_122 : decode cX9_exchange 122 = .ok (.aload_n 0, 1) := by decide +kernel
theorem dX9_exchange_123 : decode cX9_exchange 123 = .ok (.iload_n 1, 1) := by decide +kernel
theorem dX9_exchange_124 : decode cX9_exchange 124 = .ok (.iload_n 2, 1) := by decide +kernel
theorem dX9_exchange_125 : decode cX9_exchange 125 = .ok (.iload_n 3, 1) := by decide +kernel
theorem dX9_exchange_126 : decode cX9_exchange 126 = .ok (.invokevirtual 178, 3) := by decide +kernel
theorem dX9_exchange_129 : decode cX9_exchange 129 = .ok (.aload_n 0, 1) := by decide +kernel
theorem dX9_exchange_130 : decode cX9_exchange 130 = .ok (.iload_n 1, 1) := by decide +kernel
theorem dX9_exchange_131 : decode cX9_exchange 131 = .ok (.iload_n 2, 1) := by decide +kernel
theorem dX9_exchange_132 : decode cX9_exchange 132 = .ok (.iload 4, 2) := by decide +kernel
theorem dX9_exchange_134 : decode cX9_exchange 134 = .ok (.invokevirtual 178, 3) := by decide +kernel
theorem dX9_exchange_137 : decode cX9_exchange 137 = .ok (.invokestatic 189, 3) := by decide +kernel
theorem dX9_exchange_140 : decode cX9_exchange 140 = .ok (.aload_n 0, 1) := by decide +kernel
theorem dX9_exchange_141 : decode cX9_exchange 141 = .ok (.getfield 23, 3) := by decide +kernel
theorem dX9_exchange_144 : decode cX9_exchange 144 = .ok (.aload_n 0, 1) := by decide +kernel
theorem dX9_exchange_145 : decode cX9_exchange 145 = .ok (.iload_n 1, 1) := by decide +kernel
theorem dX9_exchange_146 : decode cX9_exchange 146 = .ok (.iload_n 2, 1) := by decide +kernel
theorem dX9_exchange_147 : decode cX9_exchange 147 = .ok (.iload_n 3, 1) := by decide +kernel
theorem dX9_exchange_148 : decode cX9_exchange 148 = .ok (.invokevirtual 178, 3) := by decide +kernel
theorem dX9_exchange_151 : decode cX9_exchange 151 = .ok (.aload_n 0, 1) := by decide +kernel
theorem dX9_exchange_152 : decode cX9_exchange 152 = .ok (.iload_n 1, 1) := by decide +kernel
theorem dX9_exchange_153 : decode cX9_exchange 153 = .ok (.iload_n 2, 1) := by decide +kernel
theorem dX9_exchange_154 : decode cX9_exchange 154 = .ok (.iload 4, 2) := by decide +kernel
theorem dX9_exchange_156 : decode cX9_exchange 156 = .ok (.invokevirtual 178, 3) := by decide +kernel
theorem dX9_exchange_159 : decode cX9_exchange 159 = .ok (.invokestatic 189, 3) := by decide +kernel
theorem dX9_exchange_162 : decode cX9_exchange 162 = .ok (.iconst 1, 1) := by decide +kernel
theorem dX9_exchange_163 : decode cX9_exchange 163 = .ok (.ireturn, 1) := by decide +kernel
theorem dX9_turn_0 : decode cX9_turn 0 = .ok (.aload_n 0, 1) := by decide +kernel
theorem dX9_turn_1 : decode cX9_turn 1 = .ok (.iload_n 1, 1) := by decide +kernel
theorem dX9_turn_2 : decode cX9_turn 2 = .ok (.invokevirtual 86, 3) := by decide +kernel
theorem dX9_turn_5 : decode cX9_turn 5 = .ok (.ifCond .ne 5, 3) := by decide +kernel
theorem dX9_turn_8 : decode cX9_turn 8 = .ok (.iconst 0, 1) := by decide +kernel
theorem dX9_turn_9 : decode cX9_turn 9 = .ok (.ireturn, 1) := by decide +kernel
theorem dX9_turn_10 : decode cX9_turn 10 = .ok (.iconst 0, 1) := by decide +kernel
theorem dX9_turn_11 : decode cX9_turn 11 = .ok (.istore_n 2, 1) := by decide +kernel
theorem dX9_turn_12 : decode cX9_turn 12 = .ok (.iload_n 2, 1) := by decide +kernel
theorem dX9_turn_13 : decode cX9_turn 13 = .ok (.aload_n 0, 1) := by decide +kernel
theorem dX9_turn_14 : decode cX9_turn 14 = .ok (.getfield 13, 3) := by decide +kernel
theorem dX9_turn_17 : decode cX9_turn 17 = .ok (.iload_n 1, 1) := by decide +kernel
theorem dX9_turn_18 : decode cX9_turn 18 = .ok (.iaload, 1) := by decide +kernel
theorem dX9_turn_19 : decode cX9_turn 19 = .ok (.if_icmp .ge 21, 3) := by decide +kernel
theorem dX9_turn_22 : decode cX9_turn 22 = .ok (.aload_n 0, 1) := by decide +kernel
theorem dX9_turn_23 : decode cX9_turn 23 = .ok (.getfield 32, 3) := by decide +kernel
theorem dX9_turn_26 : decode cX9_turn 26 = .ok (.iload_n 2, 1) := by decide +kernel
theorem dX9_turn_27 : decode cX9_turn 27 = .ok (.aload_n 0, 1) := by decide +kernel
theorem dX9_turn_28 : decode cX9_turn 28 = .ok (.iload_n 1, 1) := by decide +kernel
theorem dX9_turn_29 : decode cX9_turn 29 = .ok (.iload_n 2, 1) := by decide +kernel
theorem dX9_turn_30 : decode cX9_turn 30 = .ok (.invokevirtual 101, 3) := by decide +kernel
theorem dX9_turn_33 : decode cX9_turn 33 = .ok (.iastore, 1) := by decide +kernel
theorem dX9_turn_34 : decode cX9_turn 34 = .ok (.iinc 2 1, 3) := by decide +kernel
theorem dX9_turn_37 : decode cX9_turn 37 = .ok (.goto (-25), 3) := by decide +kernel
theorem dX9_turn_40 : decode cX9_turn 40 = .ok (.iconst 0, 1) := by decide +kernel
theorem dX9_turn_41 : decode cX9_turn 41 = .ok (.istore_n 2, 1) := by decide +kernel
theorem dX9_turn_42 : decode cX9_turn 42 = .ok (.iload_n 2, 1) := by decide +kernel
theorem dX9_turn_43 : decode cX9_turn 43 = .ok (.aload_n 0, 1) := by decide +kernel
theorem dX9_turn_44 : decode cX9_turn 44 = .ok (.getfield 13, 3) := by decide +kernel
theorem dX9_turn_47 : decode cX9_turn 47 = .ok (.iload_n 1, 1) := by decide +kernel
theorem dX9_turn_48 : decode cX9_turn 48 = .ok (.iaload, 1) := by decide +kernel
theorem dX9_turn_49 : decode cX9_turn 49 = .ok (.if_icmp .ge 68, 3) := by decide +kernel
theorem dX9_turn_52 : decode cX9_turn 52 = .ok (.aload_n 0, 1) := by decide +kernel
theorem dX9_turn_53 : decode cX9_turn 53 = .ok (.getfield 17, 3) := by decide +kernel
theorem dX9_turn_56 : decode cX9_turn 56 = .ok (.bipush 28, 2) := by decide +kernel
theorem dX9_turn_58 : decode cX9_turn 58 = .ok (.iload_n 1, 1) := by decide +kernel
theorem dX9_turn_59 : decode cX9_turn 59 = .ok (.imul, 1) := by decide +kernel
theorem dX9_turn_60 : decode cX9_turn 60 = .ok (.iload_n 2, 1) := by decide +kernel
theorem dX9_turn_61 : decode cX9_turn 61 = .ok (.iadd, 1) := by decide +kernel
theorem dX9_turn_62 : decode cX9_turn 62 = .ok (.aload_n 0, 1) := by decide +kernel
theorem dX9_turn_63 : decode cX9_turn 63 = .ok (.getfield 32, 3) := by decide +kernel
theorem dX9_turn_66 : decode cX9_turn 66 = .ok (.iload_n 2, 1) := by decide +kernel
theorem dX9_turn_67 : decode cX9_turn 67 = .ok (.iaload, 1) := by decide +kernel
theorem dX9_turn_68 : decode cX9_turn 68 = .ok (.iastore, 1) := by decide +kernel
theorem dX9_turn_69 : decode cX9_turn 69 = .ok (.aload_n 0, 1) := by decide +kernel
theorem dX9_turn_70 : decode cX9_turn 70 = .ok (.getfield 20, 3) := by decide +kernel
theorem dX9_turn_73 : decode cX9_turn 73 = .ok (.aload_n 0, 1) := by decide +kernel
theorem dX9_turn_74 : decode cX9_turn 74 = .ok (.iload_n 1, 1) := by decide +kernel
theorem dX9_turn_75 : decode cX9_turn 75 = .ok (.iconst 1, 1) := by decide +kernel
theorem dX9_turn_76 : decode cX9_turn 76 = .ok (.iload_n 2, 1) := by decide +kernel
theorem dX9_turn_77 : decode cX9_turn 77 = .ok (.invokevirtual 178, 3) := by decide +kernel
theorem dX9_turn_80 : decode cX9_turn 80 = .ok (.aload_n 0, 1) := by decide +kernel
theorem dX9_turn_81 : decode cX9_turn 81 = .ok (.iload_n 1, 1) := by decide +kernel
theorem dX9_turn_82 : decode cX9_turn 82 = .ok (.iconst 0, 1) := by decide +kernel
theorem dX9_turn_83 : decode cX9_turn 83 = .ok (.iload_n 2, 1) := by decide +kernel
theorem dX9_turn_84 : decode cX9_turn 84 = .ok (.invokevirtual 178, 3) := by decide +kernel
theorem dX9_turn_87 : decode cX9_turn 87 = .ok (.invokestatic 189, 3) := by decide +kernel
theorem dX9_turn_90 : decode cX9_turn 90 = .ok (.aload_n 0, 1) := by decide +kernel
theorem dX9_turn_91 : decode cX9_turn 91 = .ok (.getfield 23, 3) := by decide +kernel
theorem dX9_turn_94 : decode cX9_turn 94 = .ok (.aload_n 0, 1) := by decide +kernel
theorem dX9_turn_95 : decode cX9_turn 95 = .ok (.iload_n 1, 1) := by decide +kernel
theorem dX9_turn_96 : decode cX9_turn 96 = .ok (.iconst 1, 1) := by decide +kernel
theorem dX9_turn_97 : decode cX9_turn 97 = .ok (.iload_n 2, 1) := by decide +kernel
theorem dX9_turn_98 : decode cX9_turn 98 = .ok (.invokevirtual 178, 3) := by decide +kernel
theorem dX9_turn_101 : decode cX9_turn 101 = .ok (.aload_n 0, 1) := by decide +kernel
theorem dX9_turn_102 : decode cX9_turn 102 = .ok (.iload_n 1, 1) := by decide +kernel
theorem dX9_turn_103 : decode cX9_turn 103 = .ok (.iconst 0, 1) := by decide +kernel
theorem dX9_turn_104 : decode cX9_turn 104 = .ok (.iload_n 2, 1) := by decide +kernel
theorem dX9_turn_105 : decode cX9_turn 105 = .ok (.invokevirtual 178, 3) := by decide +kernel
theorem dX9_turn_108 : decode cX9_turn 108 = .ok (.invokestatic 189, 3) := by decide +kernel
theorem dX9_turn_111 : decode cX9_turn 111 = .ok (.iinc 2 1, 3) := by decide +kernel
theorem dX9_turn_114 : decode cX9_turn 114 = .ok (.goto (-72), 3) := by decide +kernel
theorem dX9_turn_117 : decode cX9_turn 117 = .ok (.aload_n 0, 1) := by decide +kernel
theorem dX9_turn_118 : decode cX9_turn 118 = .ok (.getfield 26, 3) := by decide +kernel
theorem dX9_turn_121 : decode cX9_turn 121 = .ok (.iconst 2, 1) := by decide +kernel
theorem dX9_turn_122 : decode cX9_turn 122 = .ok (.iload_n 1, 1) := by decide +kernel
theorem dX9_turn_123 : decode cX9_turn 123 = .ok (.imul, 1) := by decide +kernel
theorem dX9_turn_124 : decode cX9_turn 124 = .ok (.iconst 2, 1) := by decide +kernel
theorem dX9_turn_125 : decode cX9_turn 125 = .ok (.iload_n 1, 1) := by decide +kernel
theorem dX9_turn_126 : decode cX9_turn 126 = .ok (.imul, 1) := by decide +kernel
theorem dX9_turn_127 : decode cX9_turn 127 = .ok (.iconst 1, 1) := by decide +kernel
theorem dX9_turn_128 : decode cX9_turn 128 = .ok (.iadd, 1) := by decide +kernel
theorem dX9_turn_129 : decode cX9_turn 129 = .ok (.invokestatic 189, 3) := by decide +kernel
theorem dX9_turn_132 : decode cX9_turn 132 = .ok (.iconst 1, 1) := by decide +kernel
theorem dX9_turn_133 : decode cX9_turn 133 = .ok (.ireturn, 1) := by decide +kernel
theorem dX9_switched_0 : decode cX9_switched 0 = .ok (.aload_n 0, 1) := by decide +kernel
theorem dX9_switched_1 : decode cX9_switched 1 = .ok (.iload_n 1, 1) := by decide +kernel
theorem dX9_switched_2 : decode cX9_switched 2 = .ok (.iload_n 2, 1) := by decide +kernel
theorem dX9_switched_3 : decode cX9_switched 3 = .ok (.invokevirtual 182, 3) := by decide +kernel
theorem dX9_switched_6 : decode cX9_switched 6 = .ok (.ifCond .eq 42, 3) := by decide +kernel
theorem dX9_switched_9 : decode cX9_switched 9 = .ok (.aload_n 0, 1) := by decide +kernel
theorem dX9_switched_10 : decode cX9_switched 10 = .ok (.iload_n 1, 1) := by decide +kernel
theorem dX9_switched_11 : decode cX9_switched 11 = .ok (.iload_n 3, 1) := by decide +kernel
theorem dX9_switched_12 : decode cX9_switched 12 = .ok (.invokevirtual 182, 3) := by decide +kernel
theorem dX9_switched_15 : decode cX9_switched 15 = .ok (.ifCond .eq 33, 3) := by decide +kernel
theorem dX9_switched_18 : decode cX9_switched 18 = .ok (.aload_n 0, 1) := by decide +kernel
theorem dX9_switched_19 : decode cX9_switched 19 = .ok (.iload_n 1, 1) := by decide +kernel
theorem dX9_switched_20 : decode cX9_switched 20 = .ok (.iload 4, 2) := by decide +kernel
theorem dX9_switched_22 : decode cX9_switched 22 = .ok (.invokevirtual 182, 3) := by decide +kernel
theorem dX9_switched_25 : decode cX9_switched 25 = .ok (.ifCond .eq 23, 3) := by decide +kernel
theorem dX9_switched_28 : decode cX9_switched 28 = .ok (.aload_n 0, 1) := by decide +kernel
theorem dX9_switched_29 : decode cX9_switched 29 = .ok (.iload_n 1, 1) := by decide +kernel
theorem dX9_switched_30 : decode cX9_switched 30 = .ok (.iload 5, 2) := by decide +kernel
theorem dX9_switched_32 : decode cX9_switched 32 = .ok (.invokevirtual 182, 3) := by decide +kernel
theorem dX9_switched_35 : decode cX9_switched 35 = .ok (.ifCond .eq 13, 3) := by decide +kernel
theorem dX9_switched_38 : decode cX9_switched 38 = .ok (.aload_n 0, 1) := by decide +kernel
theorem dX9_switched_39 : decode cX9_switched 39 = .ok (.iload_n 1, 1) := by decide +kernel
theorem dX9_switched_40 : decode cX9_switched 40 = .ok (.iload 6, 2) := by decide +kernel
theorem dX9_switched_42 : decode cX9_switched 42 = .ok (.invokevirtual 182, 3) := by decide +kernel
theorem dX9_switched_45 : decode cX9_switched 45 = .ok (.ifCond .ne 5, 3) := by decide +kernel
theorem dX9_switched_48 : decode cX9_switched 48 = .ok (.iconst 0, 1) := by decide +kernel
theorem dX9_switched_49 : decode cX9_switched 49 = .ok (.ireturn, 1) := by decide +kernel
theorem dX9_switched_50 : decode cX9_switched 50 = .ok (.iconst 1, 1) := by decide +kernel
theorem dX9_switched_51 : decode cX9_switched 51 = .ok (.iload_n 2, 1) := by decide +kernel
theorem dX9_switched_52 : decode cX9_switched 52 = .ok (.ishl, 1) := by decide +kernel
theorem dX9_switched_53 : decode cX9_switched 53 = .ok (.iconst 1, 1) := by decide +kernel
theorem dX9_switched_54 : decode cX9_switched 54 = .ok (.iload_n 3, 1) := by decide +kernel
theorem dX9_switched_55 : decode cX9_switched 55 = .ok (.ishl, 1) := by decide +kernel
theorem dX9_switched_56 : decode cX9_switched 56 = .ok (.ior, 1) := by decide +kernel
theorem dX9_switched_57 : decode cX9_switched 57 = .ok (.iconst 1, 1) := by decide +kernel
theorem dX9_switched_58 : decode cX9_switched 58 = .ok (.iload 4, 2) := by decide +kernel
theorem dX9_switched_60 : decode cX9_switched 60 = .ok (.ishl, 1) := by decide +kernel
theorem dX9_switched_61 : decode cX9_switched 61 = .ok (.ior, 1) := by decide +kernel
theorem dX9_switched_62 : decode cX9_switched 62 = .ok (.iconst 1, 1) := by decide +kernel
theorem dX9_switched_63 : decode cX9_switched 63 = .ok (.iload 5, 2) := by decide +kernel
theorem dX9_switched_65 : decode cX9_switched 65 = .ok (.ishl, 1) := by decide +kernel
theorem dX9_switched_66 : decode cX9_switched 66 = .ok (.ior, 1) := by decide +kernel
theorem dX9_switched_67 : decode cX9_switched 67 = .ok (.istore 7, 2) := by decide +kernel
theorem dX9_switched_69 : decode cX9_switched 69 = .ok (.aload_n 0, 1) := by decide +kernel
theorem dX9_switched_70 : decode cX9_switched 70 = .ok (.getfield 13, 3) := by decide +kernel
theorem dX9_switched_73 : decode cX9_switched 73 = .ok (.iload_n 1, 1) := by decide +kernel
theorem dX9_switched_74 : decode cX9_switched 74 = .ok (.iaload, 1) := by decide +kernel
theorem dX9_switched_75 : decode cX9_switched 75 = .ok (.istore 8, 2) := by decide +kernel
theorem dX9_switched_77 : decode cX9_switched 77 = .ok (.iload 7, 2) := by decide +kernel
theorem dX9_switched_79 : decode cX9_switched 79 = .ok (.invokestatic 166, 3) := by decide +kernel
theorem dX9_switched_82 : decode cX9_switched 82 = .ok (.iconst 4, 1) := by decide +kernel
theorem dX9_switched_83 : decode cX9_switched 83 = .ok (.if_icmp .ne 42, 3) := by decide +kernel
theorem dX9_switched_86 : decode cX9_switched 86 = .ok (.aload_n 0, 1) := by decide +kernel
theorem dX9_switched_87 : decode cX9_switched 87 = .ok (.iload_n 1, 1) := by decide +kernel
theorem dX9_switched_88 : decode cX9_switched 88 = .ok (.iload_n 2, 1) := by decide +kernel
theorem dX9_switched_89 : decode cX9_switched 89 = .ok (.invokevirtual 90, 3) := by decide +kernel
theorem dX9_switched_92 : decode cX9_switched 92 = .ok (.aload_n 0, 1) := by decide +kernel
theorem dX9_switched_93 : decode cX9_switched 93 = .ok (.iload_n 1, 1) := by decide +kernel
theorem dX9_switched_94 : decode cX9_switched 94 = .ok (.iload_n 3, 1) := by decide +kernel
theorem dX9_switched_95 : decode cX9_switched 95 = .ok (.invokevirtual 90, 3) := by decide +kernel
theorem dX9_switched_98 : decode cX9_switched 98 = .ok (.ixor, 1) := by decide +kernel
theorem dX9_switched_99 : decode cX9_switched 99 = .ok (.aload_n 0, 1) := by decide +kernel
theorem dX9_switched_100 : decode cX9_switched 100 = .ok (.iload_n 1, 1) := by decide +kernel
theorem dX9_switched_101 : decode cX9_switched 101 = .ok (.iload 4, 2) := by decide +kernel
theorem dX9_switched_103 : decode cX9_switched 103 = .ok (.invokevirtual 90, 3) := by decide +kernel
theorem dX9_switched_106 : decode cX9_switched 106 = .ok (.ixor, 1) := by decide +kernel
theorem dX9_switched_107 : decode cX9_switched 107 = .ok (.aload_n 0, 1) := by decide +kernel
theorem dX9_switched_108 : decode cX9_switched 108 = .ok (.iload_n 1, 1) := by decide +kernel
theorem dX9_switched_109 : decode cX9_switched 109 = .ok (.iload 5, 2) := by decide +kernel
theorem dX9_switched_111 : decode cX9_switched 111 = .ok (.invokevirtual 90, 3) := by decide +kernel
theorem dX9_switched_114 : decode cX9_switched 114 = .ok (.ixor, 1) := by decide +kernel
theorem dX9_switched_115 : decode cX9_switched 115 = .ok (.iload 8, 2) := by decide +kernel
theorem dX9_switched_117 : decode cX9_switched 117 = .ok (.invokestatic 193, 3) := by decide +kernel
theorem dX9_switched_120 : decode cX9_switched 120 = .ok (.iload 8, 2) := by decide +kernel
theorem dX9_switched_122 : decode cX9_switched 122 = .ok (.if_icmp .eq 5, 3) := by decide +kernel
theorem dX9_switched_125 : decode cX9_switched 125 = .ok (.iconst 0, 1) := by decide +kernel
theorem dX9_switched_126 : decode cX9_switched 126 = .ok (.ireturn, 1) := by decide +kernel
theorem dX9_switched_127 : decode cX9_switched 127 = .ok (.aload_n 0, 1) := by decide +kernel
theorem dX9_switched_128 : decode cX9_switched 128 = .ok (.iload_n 1, 1) := by decide +kernel
theorem dX9_switched_129 : decode cX9_switched 129 = .ok (.iload 6, 2) := by decide +kernel
theorem dX9_switched_131 : decode cX9_switched 131 = .ok (.invokevirtual 101, 3) := by decide +kernel
theorem dX9_switched_134 : decode cX9_switched 134 = .ok (.iload 7, 2) := by decide +kernel
theorem dX9_switched_136 : decode cX9_switched 136 = .ok (.iand, 1) := by decide +kernel
theorem dX9_switched_137 : decode cX9_switched 137 = .ok (.istore 9, 2) := by decide +kernel
theorem dX9_switched_139 : decode cX9_switched 139 = .ok (.iconst 0, 1) := by decide +kernel
theorem dX9_switched_140 : decode cX9_switched 140 = .ok (.istore 10, 2) := by decide +kernel
theorem dX9_switched_142 : decode cX9_switched 142 = .ok (.iconst 0, 1) := by decide +kernel
theorem dX9_switched_143 : decode cX9_switched 143 = .ok (.istore 11, 2) := by decide +kernel
theorem dX9_switched_145 : decode cX9_switched 145 = .ok (.iload 11, 2) := by decide +kernel
theorem dX9_switched_147 : decode cX9_switched 147 = .ok (.iload 8, 2) := by decide +kernel
theorem dX9_switched_149 : decode cX9_switched 149 = .ok (.if_icmp .ge 47, 3) := by decide +kernel
theorem dX9_switched_152 : decode cX9_switched 152 = .ok (.aload_n 0, 1) := by decide +kernel
theorem dX9_switched_153 : decode cX9_switched 153 = .ok (.iload_n 1, 1) := by decide +kernel
theorem dX9_switched_154 : decode cX9_switched 154 = .ok (.iload 11, 2) := by decide +kernel
theorem dX9_switched_156 : decode cX9_switched 156 = .ok (.invokevirtual 101, 3) := by decide +kernel
theorem dX9_switched_159 : decode cX9_switched 159 = .ok (.iload 7, 2) := by decide +kernel
theorem dX9_switched_161 : decode cX9_switched 161 = .ok (.iand, 1) := by decide +kernel
theorem dX9_switched_162 : decode cX9_switched 162 = .ok (.istore 12, 2) := by decide +kernel
theorem dX9_switched_164 : decode cX9_switched 164 = .ok (.iload 12, 2) := by decide +kernel
theorem dX9_switched_166 : decode cX9_switched 166 = .ok (.iload 9, 2) := by decide +kernel
theorem dX9_switched_168 : decode cX9_switched 168 = .ok (.if_icmp .eq 13, 3) := by decide +kernel
theorem dX9_switched_171 : decode cX9_switched 171 = .ok (.iload 12, 2) := by decide +kernel
theorem dX9_switched_173 : decode cX9_switched 173 = .ok (.iload 9, 2) := by decide +kernel
theorem dX9_switched_175 : decode cX9_switched 175 = .ok (.iload 7, 2) := by decide +kernel
theorem dX9_switched_177 : decode cX9_switched 177 = .ok (.ixor, 1) := by decide +kernel
theorem dX9_switched_178 : decode cX9_switched 178 = .ok (.if_icmp .ne 12, 3) := by decide +kernel
theorem dX9_switched_181 : decode cX9_switched 181 = .ok (.iload 10, 2) := by decide +kernel
theorem dX9_switched_183 : decode cX9_switched 183 = .ok (.iconst 1, 1) := by decide +kernel
theorem dX9_switched_184 : decode cX9_switched 184 = .ok (.iload 11, 2) := by decide +kernel
theorem dX9_switched_186 : decode cX9_switched 186 = .ok (.ishl, 1) := by decide +kernel
theorem dX9_switched_187 : decode cX9_switched 187 = .ok (.ior, 1) := by decide +kernel
theorem dX9_switched_188 : decode cX9_switched 188 = .ok (.istore 10, 2) := by decide +kernel
theorem dX9_switched_190 : decode cX9_switched 190 = .ok (.iinc 11 1, 3) := by decide +kernel
theorem dX9_switched_193 : decode cX9_switched 193 = .ok (.goto (-48), 3) := by decide +kernel
theorem dX9_switched_196 : decode cX9_switched 196 = .ok (.iconst 0, 1) := by decide +kernel
theorem dX9_switched_197 : decode cX9_switched 197 = .ok (.istore 11, 2) := by decide +kernel
theorem dX9_switched_199 : decode cX9_switched 199 = .ok (.iload 11, 2) := by decide +kernel
theorem dX9_switched_201 : decode cX9_switched 201 = .ok (.iload 8, 2) := by decide +kernel
theorem dX9_switched_203 : decode cX9_switched 203 = .ok (.if_icmp .ge 36, 3) := by decide +kernel
theorem dX9_switched_206 : decode cX9_switched 206 = .ok (.iload 7, 2) := by decide +kernel
theorem dX9_switched_208 : decode cX9_switched 208 = .ok (.iload 11, 2) := by decide +kernel
theorem dX9_switched_210 : decode cX9_switched 210 = .ok (.invokestatic 94, 3) := by decide +kernel
theorem dX9_switched_213 : decode cX9_switched 213 = .ok (.ifCond .eq 20, 3) := by decide +kernel
theorem dX9_switched_216 : decode cX9_switched 216 = .ok (.aload_n 0, 1) := by decide +kernel
theorem dX9_switched_217 : decode cX9_switched 217 = .ok (.getfield 17, 3) := by decide +kernel
theorem dX9_switched_220 : decode cX9_switched 220 = .ok (.bipush 28, 2) := by decide +kernel
theorem dX9_switched_222 : decode cX9_switched 222 = .ok (.iload_n 1, 1) := by decide +kernel
theorem dX9_switched_223 : decode cX9_switched 223 = .ok (.imul, 1) := by decide +kernel
theorem dX9_switched_224 : decode cX9_switched 224 = .ok (.iload 11, 2) := by decide +kernel
theorem dX9_switched_226 : decode cX9_switched 226 = .ok (.iadd, 1) := by decide +kernel
theorem dX9_switched_227 : decode cX9_switched 227 = .ok (.dup2, 1) := by decide +kernel
theorem dX9_switched_228 : decode cX9_switched 228 = .ok (.iaload, 1) := by decide +kernel
theorem dX9_switched_229 : decode cX9_switched 229 = .ok (.iload 10, 2) := by decide +kernel
theorem dX9_switched_231 : decode cX9_switched 231 = .ok (.ixor, 1) := by decide +kernel
theorem dX9_switched_232 : decode cX9_switched 232 = .ok (.iastore, 1) := by decide +kernel
theorem dX9_switched_233 : decode cX9_switched 233 = .ok (.iinc 11 1, 3) := by decide +kernel
theorem dX9_switched_236 : decode cX9_switched 236 = .ok (.goto (-37), 3) := by decide +kernel
theorem dX9_switched_239 : decode cX9_switched 239 = .ok (.aload_n 0, 1) := by decide +kernel
theorem dX9_switched_240 : decode cX9_switched 240 = .ok (.iload_n 1, 1) := by decide +kernel
theorem dX9_switched_241 : decode cX9_switched 241 = .ok (.invokevirtual 108, 3) := by decide +kernel
theorem dX9_switched_244 : decode cX9_switched 244 = .ok (.iconst 1, 1) := by decide +kernel
theorem dX9_switched_245 : decode cX9_switched 245 = .ok (.ireturn, 1) := by decide +kernel
theorem dX9_norm_0 : decode cX9_norm 0 = .ok (.aload_n 0, 1) := by decide +kernel
theorem dX9_norm_1 : decode cX9_norm 1 = .ok (.iload_n 1, 1) := by decide +kernel
theorem dX9_norm_2 : decode cX9_norm 2 = .ok (.invokevirtual 86, 3) := by decide +kernel
theorem dX9_norm_5 : decode cX9_norm 5 = .ok (.ifCond .ne 5, 3) := by decide +kernel
theorem dX9_norm_8 : decode cX9_norm 8 = .ok (.iconst (-1), 1) := by decide +kernel
theorem dX9_norm_9 : decode cX9_norm 9 = .ok (.ireturn, 1) := by decide +kernel
theorem dX9_norm_10 : decode cX9_norm 10 = .ok (.iconst 0, 1) := by decide +kernel
theorem dX9_norm_11 : decode cX9_norm 11 = .ok (.istore_n 2, 1) := by decide +kernel
theorem dX9_norm_12 : decode cX9_norm 12 = .ok (.iconst 0, 1) := by decide +kernel
theorem dX9_norm_13 : decode cX9_norm 13 = .ok (.istore_n 3, 1) := by decide +kernel
theorem dX9_norm_14 : decode cX9_norm 14 = .ok (.iload_n 3, 1) := by decide +kernel
theorem dX9_norm_15 : decode cX9_norm 15 = .ok (.aload_n 0, 1) := by decide +kernel
theorem dX9_norm_16 : decode cX9_norm 16 = .ok (.getfield 13, 3) := by decide +kernel
theorem dX9_norm_19 : decode cX9_norm 19 = .ok (.iload_n 1, 1) := by decide +kernel
theorem dX9_norm_20 : decode cX9_norm 20 = .ok (.iaload, 1) := by decide +kernel
theorem dX9_norm_21 : decode cX9_norm 21 = .ok (.if_icmp .ge 32, 3) := by decide +kernel
theorem dX9_norm_24 : decode cX9_norm 24 = .ok (.aload_n 0, 1) := by decide +kernel
theorem dX9_norm_25 : decode cX9_norm 25 = .ok (.iload_n 1, 1) := by decide +kernel
theorem dX9_norm_26 : decode cX9_norm 26 = .ok (.iconst 0, 1) := by decide +kernel
theorem dX9_norm_27 : decode cX9_norm 27 = .ok (.iload_n 3, 1) := by decide +kernel
theorem dX9_norm_28 : decode cX9_norm 28 = .ok (.invokevirtual 98, 3) := by decide +kernel
theorem dX9_norm_31 : decode cX9_norm 31 = .ok (.ifCond .ne 6, 3) := by decide +kernel
theorem dX9_norm_34 : decode cX9_norm 34 = .ok (.goto 13, 3) := by decide +kernel
theorem dX9_norm_37 : decode cX9_norm 37 = .ok (.aload_n 0, 1) := by decide +kernel
theorem dX9_norm_38 : decode cX9_norm 38 = .ok (.iload_n 1, 1) := by decide +kernel
theorem dX9_norm_39 : decode cX9_norm 39 = .ok (.iconst 0, 1) := by decide +kernel
theorem dX9_norm_40 : decode cX9_norm 40 = .ok (.iload_n 3, 1) := by decide +kernel
theorem dX9_norm_41 : decode cX9_norm 41 = .ok (.invokevirtual 185, 3) := by decide +kernel
theorem dX9_norm_44 : decode cX9_norm 44 = .ok (.iinc 2 1, 3) := by decide +kernel
theorem dX9_norm_47 : decode cX9_norm 47 = .ok (.iinc 3 1, 3) := by decide +kernel
theorem dX9_norm_50 : decode cX9_norm 50 = .ok (.goto (-36), 3) := by decide +kernel
theorem dX9_norm_53 : decode cX9_norm 53 = .ok (.iconst 0, 1) := by decide +kernel
theorem dX9_norm_54 : decode cX9_norm 54 = .ok (.istore_n 3, 1) := by decide +kernel
theorem dX9_norm_55 : decode cX9_norm 55 = .ok (.iload_n 3, 1) := by decide +kernel
theorem dX9_norm_56 : decode cX9_norm 56 = .ok (.aload_n 0, 1) := by decide +kernel
theorem dX9_norm_57 : decode cX9_norm 57 = .ok (.getfield 13, 3) := by decide +kernel
theorem dX9_norm_60 : decode cX9_norm 60 = .ok (.iload_n 1, 1) := by decide +kernel
theorem dX9_norm_61 : decode cX9_norm 61 = .ok (.iaload, 1) := by decide +kernel
theorem dX9_norm_62 : decode cX9_norm 62 = .ok (.if_icmp .ge 32, 3) := by decide +kernel
theorem dX9_norm_65 : decode cX9_norm 65 = .ok (.aload_n 0, 1) := by decide +kernel
theorem dX9_norm_66 : decode cX9_norm 66 = .ok (.iload_n 1, 1) := by decide +kernel
theorem dX9_norm_67 : decode cX9_norm 67 = .ok (.iload_n 3, 1) := by decide +kernel
theorem dX9_norm_68 : decode cX9_norm 68 = .ok (.iconst 0, 1) := by decide +kernel
theorem dX9_norm_69 : decode cX9_norm 69 = .ok (.invokevirtual 98, 3) := by decide +kernel
theorem dX9_norm_72 : decode cX9_norm 72 = .ok (.ifCond .ne 6, 3) := by decide +kernel
theorem dX9_norm_75 : decode cX9_norm 75 = .ok (.goto 13, 3) := by decide +kernel
theorem dX9_norm_78 : decode cX9_norm 78 = .ok (.aload_n 0, 1) := by decide +kernel
theorem dX9_norm_79 : decode cX9_norm 79 = .ok (.iload_n 1, 1) := by decide +kernel
theorem dX9_norm_80 : decode cX9_norm 80 = .ok (.iconst 1, 1) := by decide +kernel
theorem dX9_norm_81 : decode cX9_norm 81 = .ok (.iload_n 3, 1) := by decide +kernel
theorem dX9_norm_82 : decode cX9_norm 82 = .ok (.invokevirtual 185, 3) := by decide +kernel
theorem dX9_norm_85 : decode cX9_norm 85 = .ok (.iinc 2 1, 3) := by decide +kernel
theorem dX9_norm_88 : decode cX9_norm 88 = .ok (.iinc 3 1, 3) := by decide +kernel
theorem dX9_norm_91 : decode cX9_norm 91 = .ok (.goto (-36), 3) := by decide +kernel
theorem dX9_norm_94 : decode cX9_norm 94 = .ok (.iload_n 2, 1) := by decide +kernel
theorem dX9_norm_95 : decode cX9_norm 95 = .ok (.ireturn, 1) := by decide +kernel
theorem dX9_order_0 : decode cX9_order 0 = .ok (.iload_n 1, 1) := by decide +kernel
theorem dX9_order_1 : decode cX9_order 1 = .ok (.iconst 0, 1) := by decide +kernel
theorem dX9_order_2 : decode cX9_order 2 = .ok (.iconst 5, 1) := by decide +kernel
theorem dX9_order_3 : decode cX9_order 3 = .ok (.invokestatic 82, 3) := by decide +kernel
theorem dX9_order_6 : decode cX9_order 6 = .ok (.ifCond .eq 12, 3) := by decide +kernel
theorem dX9_order_9 : decode cX9_order 9 = .ok (.aload_n 0, 1) := by decide +kernel
theorem dX9_order_10 : decode cX9_order 10 = .ok (.getfield 13, 3) := by decide +kernel
theorem dX9_order_13 : decode cX9_order 13 = .ok (.iload_n 1, 1) := by decide +kernel
theorem dX9_order_14 : decode cX9_order 14 = .ok (.iaload, 1) := by decide +kernel
theorem dX9_order_15 : decode cX9_order 15 = .ok (.goto 4, 3) := by decide +kernel
theorem dX9_order_18 : decode cX9_order 18 = .ok (.iconst (-1), 1) := by decide +kernel
theorem dX9_order_19 : decode cX9_order 19 = .ok (.ireturn, 1) := by decide +kernel
theorem dX9_bits_0 : decode cX9_bits 0 = .ok (.aload_n 0, 1) := by decide +kernel
theorem dX9_bits_1 : decode cX9_bits 1 = .ok (.iload_n 1, 1) := by decide +kernel
theorem dX9_bits_2 : decode cX9_bits 2 = .ok (.iload_n 3, 1) := by decide +kernel
theorem dX9_bits_3 : decode cX9_bits 3 = .ok (.invokevirtual 182, 3) := by decide +kernel
theorem dX9_bits_6 : decode cX9_bits 6 = .ok (.ifCond .eq 13, 3) := by decide +kernel
theorem dX9_bits_9 : decode cX9_bits 9 = .ok (.aload_n 0, 1) := by decide +kernel
theorem dX9_bits_10 : decode cX9_bits 10 = .ok (.iload_n 1, 1) := by decide +kernel
theorem dX9_bits_11 : decode cX9_bits 11 = .ok (.iload_n 2, 1) := by decide +kernel
theorem dX9_bits_12 : decode cX9_bits 12 = .ok (.iload_n 3, 1) := by decide +kernel
theorem dX9_bits_13 : decode cX9_bits 13 = .ok (.invokevirtual 196, 3) := by decide +kernel
theorem dX9_bits_16 : decode cX9_bits 16 = .ok (.goto 4, 3) := by decide +kernel
theorem dX9_bits_19 : decode cX9_bits 19 = .ok (.iconst (-1), 1) := by decide +kernel
theorem dX9_bits_20 : decode cX9_bits 20 = .ok (.ireturn, 1) := by decide +kernel
theorem dX9_trail_0 : decode cX9_trail 0 = .ok (.aload_n 0, 1) := by decide +kernel
theorem dX9_trail_1 : decode cX9_trail 1 = .ok (.iload_n 1, 1) := by decide +kernel
theorem dX9_trail_2 : decode cX9_trail 2 = .ok (.iload_n 3, 1) := by decide +kernel
theorem dX9_trail_3 : decode cX9_trail 3 = .ok (.invokevirtual 182, 3) := by decide +kernel
theorem dX9_trail_6 : decode cX9_trail 6 = .ok (.ifCond .eq 13, 3) := by decide +kernel
theorem dX9_trail_9 : decode cX9_trail 9 = .ok (.iload 4, 2) := by decide +kernel
theorem dX9_trail_11 : decode cX9_trail 11 = .ok (.iconst 0, 1) := by decide +kernel
theorem dX9_trail_12 : decode cX9_trail 12 = .ok (.iconst 2, 1) := by decide +kernel
theorem dX9_trail_13 : decode cX9_trail 13 = .ok (.invokestatic 82, 3) := by decide +kernel
theorem dX9_trail_16 : decode cX9_trail 16 = .ok (.ifCond .ne 5, 3) := by decide +kernel
theorem dX9_trail_19 : decode cX9_trail 19 = .ok (.iconst (-1), 1) := by decide +kernel
theorem dX9_trail_20 : decode cX9_trail 20 = .ok (.ireturn, 1) := by decide +kernel
theorem dX9_trail_21 : decode cX9_trail 21 = .ok (.aload_n 0, 1) := by decide +kernel
theorem dX9_trail_22 : decode cX9_trail 22 = .ok (.iload_n 1, 1) := by decide +kernel
theorem dX9_trail_23 : decode cX9_trail 23 = .ok (.iload_n 2, 1) := by decide +kernel
theorem dX9_trail_24 : decode cX9_trail 24 = .ok (.iload_n 3, 1) := by decide +kernel
theorem dX9_trail_25 : decode cX9_trail 25 = .ok (.invokevirtual 178, 3) := by decide +kernel
theorem dX9_trail_28 : decode cX9_trail 28 = .ok (.istore 5, 2) := by decide +kernel
theorem dX9_trail_30 : decode cX9_trail 30 = .ok (.iload 4, 2) := by decide +kernel
theorem dX9_trail_32 : decode cX9_trail 32 = .ok (.ifCond .ne 13, 3) := by decide +kernel
theorem dX9_trail_35 : decode cX9_trail 35 = .ok (.aload_n 0, 1) := by decide +kernel
theorem dX9_trail_36 : decode cX9_trail 36 = .ok (.getfield 20, 3) := by decide +kernel
theorem dX9_trail_39 : decode cX9_trail 39 = .ok (.iload 5, 2) := by decide +kernel
theorem dX9_trail_41 : decode cX9_trail 41 = .ok (.iaload, 1) := by decide +kernel
theorem dX9_trail_42 : decode cX9_trail 42 = .ok (.goto 37, 3) := by decide +kernel
theorem dX9_trail_45 : decode cX9_trail 45 = .ok (.iload 4, 2) := by decide +kernel
theorem dX9_trail_47 : decode cX9_trail 47 = .ok (.iconst 1, 1) := by decide +kernel
theorem dX9_trail_48 : decode cX9_trail 48 = .ok (.if_icmp .ne 13, 3) := by decide +kernel
theorem dX9_trail_51 : decode cX9_trail 51 = .ok (.aload_n 0, 1) := by decide +kernel
theorem dX9_trail_52 : decode cX9_trail 52 = .ok (.getfield 23, 3) := by decide +kernel
theorem dX9_trail_55 : decode cX9_trail 55 = .ok (.iload 5, 2) := by decide +kernel
theorem dX9_trail_57 : decode cX9_trail 57 = .ok (.iaload, 1) := by decide +kernel
theorem dX9_trail_58 : decode cX9_trail 58 = .ok (.goto 21, 3) := by decide +kernel
theorem dX9_trail_61 : decode cX9_trail 61 = .ok (.aload_n 0, 1) := by decide +kernel
theorem dX9_trail_62 : decode cX9_trail 62 = .ok (.getfield 26, 3) := by decide +kernel
theorem dX9_trail_65 : decode cX9_trail 65 = .ok (.iconst 2, 1) := by decide +kernel
theorem dX9_trail_66 : decode cX9_trail 66 = .ok (.iload_n 1, 1) := by decide +kernel
theorem dX9_trail_67 : decode cX9_trail 67 = .ok (.imul, 1) := by decide +kernel
theorem dX9_trail_68 : decode cX9_trail 68 = .ok (.iload_n 2, 1) := by decide +kernel
theorem dX9_trail_69 : decode cX9_trail 69 = .ok (.ifCond .eq 7, 3) := by decide +kernel
theorem dX9_trail_72 : decode cX9_trail 72 = .ok (.iconst 0, 1) := by decide +kernel
theorem dX9_trail_73 : decode cX9_trail 73 = .ok (.goto 4, 3) := by decide +kernel
theorem dX9_trail_76 : decode cX9_trail 76 = .ok (.iconst 1, 1) := by decide +kernel
theorem dX9_trail_77 : decode cX9_trail 77 = .ok (.iadd, 1) := by decide +kernel
theorem dX9_trail_78 : decode cX9_trail 78 = .ok (.iaload, 1) := by decide +kernel
theorem dX9_trail_79 : decode cX9_trail 79 = .ok (.ireturn, 1) := by decide +kernel
theorem dX9_along_0 : decode cX9_along 0 = .ok (.aload_n 0, 1) := by decide +kernel
theorem dX9_along_1 : decode cX9_along 1 = .ok (.iload_n 1, 1) := by decide +kernel
theorem dX9_along_2 : decode cX9_along 2 = .ok (.iload_n 3, 1) := by decide +kernel
theorem dX9_along_3 : decode cX9_along 3 = .ok (.invokevirtual 182, 3) := by decide +kernel
theorem dX9_along_6 : decode cX9_along 6 = .ok (.ifCond .eq 40, 3) := by decide +kernel
theorem dX9_along_9 : decode cX9_along 9 = .ok (.aload_n 0, 1) := by decide +kernel
theorem dX9_along_10 : decode cX9_along 10 = .ok (.iload_n 1, 1) := by decide +kernel
theorem dX9_along_11 : decode cX9_along 11 = .ok (.iload 4, 2) := by decide +kernel
theorem dX9_along_13 : decode cX9_along 13 = .ok (.invokevirtual 182, 3) := by decide +kernel
theorem dX9_along_16 : decode cX9_along 16 = .ok (.ifCond .eq 30, 3) := by decide +kernel
theorem dX9_along_19 : decode cX9_along 19 = .ok (.aload_n 0, 1) := by decide +kernel
theorem dX9_along_20 : decode cX9_along 20 = .ok (.iload_n 1, 1) := by decide +kernel
theorem dX9_along_21 : decode cX9_along 21 = .ok (.iload_n 2, 1) := by decide +kernel
theorem dX9_along_22 : decode cX9_along 22 = .ok (.iload_n 3, 1) := by decide +kernel
theorem dX9_along_23 : decode cX9_along 23 = .ok (.invokevirtual 196, 3) := by decide +kernel
theorem dX9_along_26 : decode cX9_along 26 = .ok (.aload_n 0, 1) := by decide +kernel
theorem dX9_along_27 : decode cX9_along 27 = .ok (.iload_n 1, 1) := by decide +kernel
theorem dX9_along_28 : decode cX9_along 28 = .ok (.iload_n 2, 1) := by decide +kernel
theorem dX9_along_29 : decode cX9_along 29 = .ok (.iload 4, 2) := by decide +kernel
theorem dX9_along_31 : decode cX9_along 31 = .ok (.invokevirtual 196, 3) := by decide +kernel
theorem dX9_along_34 : decode cX9_along 34 = .ok (.aload_n 0, 1) := by decide +kernel
theorem dX9_along_35 : decode cX9_along 35 = .ok (.getfield 13, 3) := by decide +kernel
theorem dX9_along_38 : decode cX9_along 38 = .ok (.iload_n 1, 1) := by decide +kernel
theorem dX9_along_39 : decode cX9_along 39 = .ok (.iaload, 1) := by decide +kernel
theorem dX9_along_40 : decode cX9_along 40 = .ok (.invokestatic 169, 3) := by decide +kernel
theorem dX9_along_43 : decode cX9_along 43 = .ok (.goto 6, 3) := by decide +kernel
theorem dX9_along_46 : decode cX9_along 46 = .ok (.sipush (-1000), 3) := by decide +kernel
theorem dX9_along_49 : decode cX9_along 49 = .ok (.ireturn, 1) := by decide +kernel
theorem dX9_laysBad_0 : decode cX9_laysBad 0 = .ok (.aload_n 0, 1) := by decide +kernel
theorem dX9_laysBad_1 : decode cX9_laysBad 1 = .ok (.iconst 0, 1) := by decide +kernel
theorem dX9_laysBad_2 : decode cX9_laysBad 2 = .ok (.putfield 199, 3) := by decide +kernel
theorem dX9_laysBad_5 : decode cX9_laysBad 5 = .ok (.aload_n 0, 1) := by decide +kernel
theorem dX9_laysBad_6 : decode cX9_laysBad 6 = .ok (.bipush (-2), 2) := by decide +kernel
theorem dX9_laysBad_8 : decode cX9_laysBad 8 = .ok (.putfield 202, 3) := by decide +kernel
theorem dX9_laysBad_11 : decode cX9_laysBad 11 = .ok (.iconst 0, 1) := by decide +kernel
theorem dX9_laysBad_12 : decode cX9_laysBad 12 = .ok (.istore_n 2, 1) := by decide +kernel
theorem dX9_laysBad_13 : decode cX9_laysBad 13 = .ok (.iload_n 2, 1) := by decide +kernel
theorem dX9_laysBad_14 : decode cX9_laysBad 14 = .ok (.aload_n 0, 1) := by decide +kernel
theorem dX9_laysBad_15 : decode cX9_laysBad 15 = .ok (.getfield 13, 3) := by decide +kernel
theorem dX9_laysBad_18 : decode cX9_laysBad 18 = .ok (.iload_n 1, 1) := by decide +kernel
theorem dX9_laysBad_19 : decode cX9_laysBad 19 = .ok (.iaload, 1) := by decide +kernel
theorem dX9_laysBad_20 : decode cX9_laysBad 20 = .ok (.if_icmp .ge 83, 3) := by decide +kernel
theorem dX9_laysBad_23 : decode cX9_laysBad 23 = .ok (.iload_n 2, 1) := by decide +kernel
theorem dX9_laysBad_24 : decode cX9_laysBad 24 = .ok (.iconst 1, 1) := by decide +kernel
theorem dX9_laysBad_25 : decode cX9_laysBad 25 = .ok (.iadd, 1) := by decide +kernel
theorem dX9_laysBad_26 : decode cX9_laysBad 26 = .ok (.istore_n 3, 1) := by decide +kernel
theorem dX9_laysBad_27 : decode cX9_laysBad 27 = .ok (.iload_n 3, 1) := by decide +kernel
theorem dX9_laysBad_28 : decode cX9_laysBad 28 = .ok (.aload_n 0, 1) := by decide +kernel
theorem dX9_laysBad_29 : decode cX9_laysBad 29 = .ok (.getfield 13, 3) := by decide +kernel
theorem dX9_laysBad_32 : decode cX9_laysBad 32 = .ok (.iload_n 1, 1) := by decide +kernel
theorem dX9_laysBad_33 : decode cX9_laysBad 33 = .ok (.iaload, 1) := by decide +kernel
theorem dX9_laysBad_34 : decode cX9_laysBad 34 = .ok (.if_icmp .ge 63, 3) := by decide +kernel
theorem dX9_laysBad_37 : decode cX9_laysBad 37 = .ok (.aload_n 0, 1) := by decide +kernel
theorem dX9_laysBad_38 : decode cX9_laysBad 38 = .ok (.iload_n 1, 1) := by decide +kernel
theorem dX9_laysBad_39 : decode cX9_laysBad 39 = .ok (.iload_n 2, 1) := by decide +kernel
theorem dX9_laysBad_40 : decode cX9_laysBad 40 = .ok (.invokevirtual 90, 3) := by decide +kernel
theorem dX9_laysBad_43 : decode cX9_laysBad 43 = .ok (.aload_n 0, 1) := by decide +kernel
theorem dX9_laysBad_44 : decode cX9_laysBad 44 = .ok (.iload_n 1, 1) := by decide +kernel
theorem dX9_laysBad_45 : decode cX9_laysBad 45 = .ok (.iload_n 3, 1) := by decide +kernel
theorem dX9_laysBad_46 : decode cX9_laysBad 46 = .ok (.invokevirtual 90, 3) := by decide +kernel
theorem dX9_laysBad_49 : decode cX9_laysBad 49 = .ok (.aload_n 0, 1) := by decide +kernel
theorem dX9_laysBad_50 : decode cX9_laysBad 50 = .ok (.getfield 13, 3) := by decide +kernel
theorem dX9_laysBad_53 : decode cX9_laysBad 53 = .ok (.iload_n 1, 1) := by decide +kernel
theorem dX9_laysBad_54 : decode cX9_laysBad 54 = .ok (.iaload, 1) := by decide +kernel
theorem dX9_laysBad_55 : decode cX9_laysBad 55 = .ok (.invokestatic 169, 3) := by decide +kernel
theorem dX9_laysBad_58 : decode cX9_laysBad 58 = .ok (.ifCond .ne 6, 3) := by decide +kernel
theorem dX9_laysBad_61 : decode cX9_laysBad 61 = .ok (.goto 30, 3) := by decide +kernel
theorem dX9_laysBad_64 : decode cX9_laysBad 64 = .ok (.aload_n 0, 1) := by decide +kernel
theorem dX9_laysBad_65 : decode cX9_laysBad 65 = .ok (.getfield 199, 3) := by decide +kernel
theorem dX9_laysBad_68 : decode cX9_laysBad 68 = .ok (.ifCond .ne 13, 3) := by decide +kernel
theorem dX9_laysBad_71 : decode cX9_laysBad 71 = .ok (.aload_n 0, 1) := by decide +kernel
theorem dX9_laysBad_72 : decode cX9_laysBad 72 = .ok (.bipush 28, 2) := by decide +kernel
theorem dX9_laysBad_74 : decode cX9_laysBad 74 = .ok (.iload_n 2, 1) := by decide +kernel
theorem dX9_laysBad_75 : decode cX9_laysBad 75 = .ok (.imul, 1) := by decide +kernel
theorem dX9_laysBad_76 : decode cX9_laysBad 76 = .ok (.iload_n 3, 1) := by decide +kernel
theorem dX9_laysBad_77 : decode cX9_laysBad 77 = .ok (.iadd, 1) := by decide +kernel
theorem dX9_laysBad_78 : decode cX9_laysBad 78 = .ok (.putfield 202, 3) := by decide +kernel
theorem dX9_laysBad_81 : decode cX9_laysBad 81 = .ok (.aload_n 0, 1) := by decide +kernel
theorem dX9_laysBad_82 : decode cX9_laysBad 82 = .ok (.dup, 1) := by decide +kernel
theorem dX9_laysBad_83 : decode cX9_laysBad 83 = .ok (.getfield 199, 3) := by decide +kernel
theorem dX9_laysBad_86 : decode cX9_laysBad 86 = .ok (.iconst 1, 1) := by decide +kernel
theorem dX9_laysBad_87 : decode cX9_laysBad 87 = .ok (.iadd, 1) := by decide +kernel
theorem dX9_laysBad_88 : decode cX9_laysBad 88 = .ok (.putfield 199, 3) := by decide +kernel
theorem dX9_laysBad_91 : decode cX9_laysBad 91 = .ok (.iinc 3 1, 3) := by decide +kernel
theorem dX9_laysBad_94 : decode cX9_laysBad 94 = .ok (.goto (-67), 3) := by decide +kernel
theorem dX9_laysBad_97 : decode cX9_laysBad 97 = .ok (.iinc 2 1, 3) := by decide +kernel
theorem dX9_laysBad_100 : decode cX9_laysBad 100 = .ok (.goto (-87), 3) := by decide +kernel
theorem dX9_laysBad_103 : decode cX9_laysBad 103 = .ok (.return_, 1) := by decide +kernel
theorem dX9_isPerpendicular_0 : decode cX9_isPerpendicular 0 = .ok (.aload_n 0, 1) := by decide +kernel
theorem dX9_isPerpendicular_1 : decode cX9_isPerpendicular 1 = .ok (.iload_n 1, 1) := by decide +kernel
theorem dX9_isPerpendicular_2 : decode cX9_isPerpendicular 2 = .ok (.invokevirtual 205, 3) := by decide +kernel
theorem dX9_isPerpendicular_5 : decode cX9_isPerpendicular 5 = .ok (.aload_n 0, 1) := by decide +kernel
theorem dX9_isPerpendicular_6 : decode cX9_isPerpendicular 6 = .ok (.getfield 199, 3) := by decide +kernel
theorem dX9_isPerpendicular_9 : decode cX9_isPerpendicular 9 = .ok (.ifCond .ne 7, 3) := by decide +kernel
theorem dX9_isPerpendicular_12 : decode cX9_isPerpendicular 12 = .ok (.iconst 1, 1) := by decide +kernel
theorem dX9_isPerpendicular_13 : decode cX9_isPerpendicular 13 = .ok (.goto 4, 3) := by decide +kernel
theorem dX9_isPerpendicular_16 : decode cX9_isPerpendicular 16 = .ok (.iconst 0, 1) := by decide +kernel
theorem dX9_isPerpendicular_17 : decode cX9_isPerpendicular 17 = .ok (.ireturn, 1) := by decide +kernel
theorem dX9_perpendicular_0 : decode cX9_perpendicular 0 = .ok (.aload_n 0, 1) := by decide +kernel
theorem dX9_perpendicular_1 : decode cX9_perpendicular 1 = .ok (.iload_n 1, 1) := by decide +kernel
theorem dX9_perpendicular_2 : decode cX9_perpendicular 2 = .ok (.invokevirtual 86, 3) := by decide +kernel
theorem dX9_perpendicular_5 : decode cX9_perpendicular 5 = .ok (.ifCond .eq 12, 3) := by decide +kernel
theorem dX9_perpendicular_8 : decode cX9_perpendicular 8 = .ok (.iload_n 2, 1) := by decide +kernel
theorem dX9_perpendicular_9 : decode cX9_perpendicular 9 = .ok (.iconst 0, 1) := by decide +kernel
theorem dX9_perpendicular_10 : decode cX9_perpendicular 10 = .ok (.iconst 2, 1) := by decide +kernel
theorem dX9_perpendicular_11 : decode cX9_perpendicular 11 = .ok (.invokestatic 82, 3) := by decide +kernel
theorem dX9_perpendicular_14 : decode cX9_perpendicular 14 = .ok (.ifCond .ne 5, 3) := by decide +kernel
theorem dX9_perpendicular_17 : decode cX9_perpendicular 17 = .ok (.iconst (-1), 1) := by decide +kernel
theorem dX9_perpendicular_18 : decode cX9_perpendicular 18 = .ok (.ireturn, 1) := by decide +kernel
theorem dX9_perpendicular_19 : decode cX9_perpendicular 19 = .ok (.aload_n 0, 1) := by decide +kernel
theorem dX9_perpendicular_20 : decode cX9_perpendicular 20 = .ok (.iload_n 1, 1) := by decide +kernel
theorem dX9_perpendicular_21 : decode cX9_perpendicular 21 = .ok (.invokevirtual 205, 3) := by decide +kernel
theorem dX9_perpendicular_24 : decode cX9_perpendicular 24 = .ok (.iload_n 2, 1) := by decide +kernel
theorem dX9_perpendicular_25 : decode cX9_perpendicular 25 = .ok (.ifCond .ne 18, 3) := by decide +kernel
theorem dX9_perpendicular_28 : decode cX9_perpendicular 28 = .ok (.aload_n 0, 1) := by decide +kernel
theorem dX9_perpendicular_29 : decode cX9_perpendicular 29 = .ok (.getfield 199, 3) := by decide +kernel
theorem dX9_perpendicular_32 : decode cX9_perpendicular 32 = .ok (.ifCond .ne 7, 3) := by decide +kernel
theorem dX9_perpendicular_35 : decode cX9_perpendicular 35 = .ok (.iconst 1, 1) := by decide +kernel
theorem dX9_perpendicular_36 : decode cX9_perpendicular 36 = .ok (.goto 23, 3) := by decide +kernel
theorem dX9_perpendicular_39 : decode cX9_perpendicular 39 = .ok (.iconst 0, 1) := by decide +kernel
theorem dX9_perpendicular_40 : decode cX9_perpendicular 40 = .ok (.goto 19, 3) := by decide +kernel
theorem dX9_perpendicular_43 : decode cX9_perpendicular 43 = .ok (.iload_n 2, 1) := by decide +kernel
theorem dX9_perpendicular_44 : decode cX9_perpendicular 44 = .ok (.iconst 1, 1) := by decide +kernel
theorem dX9_perpendicular_45 : decode cX9_perpendicular 45 = .ok (.if_icmp .ne 10, 3) := by decide +kernel
theorem dX9_perpendicular_48 : decode cX9_perpendicular 48 = .ok (.aload_n 0, 1) := by decide +kernel
theorem dX9_perpendicular_49 : decode cX9_perpendicular 49 = .ok (.getfield 202, 3) := by decide +kernel
theorem dX9_perpendicular_52 : decode cX9_perpendicular 52 = .ok (.goto 7, 3) := by decide +kernel
theorem dX9_perpendicular_55 : decode cX9_perpendicular 55 = .ok (.aload_n 0, 1) := by decide +kernel
theorem dX9_perpendicular_56 : decode cX9_perpendicular 56 = .ok (.getfield 199, 3) := by decide +kernel
theorem dX9_perpendicular_59 : decode cX9_perpendicular 59 = .ok (.ireturn, 1) := by decide +kernel
theorem dX9_sum_0 : decode cX9_sum 0 = .ok (.aload_n 0, 1) := by decide +kernel
theorem dX9_sum_1 : decode cX9_sum 1 = .ok (.iload_n 1, 1) := by decide +kernel
theorem dX9_sum_2 : decode cX9_sum 2 = .ok (.invokevirtual 86, 3) := by decide +kernel
theorem dX9_sum_5 : decode cX9_sum 5 = .ok (.ifCond .ne 7, 3) := by decide +kernel
theorem dX9_sum_8 : decode cX9_sum 8 = .ok (.sipush (-1000), 3) := by decide +kernel
theorem dX9_sum_11 : decode cX9_sum 11 = .ok (.ireturn, 1) := by decide +kernel
theorem dX9_sum_12 : decode cX9_sum 12 = .ok (.iconst 0, 1) := by decide +kernel
theorem dX9_sum_13 : decode cX9_sum 13 = .ok (.istore_n 2, 1) := by decide +kernel
theorem dX9_sum_14 : decode cX9_sum 14 = .ok (.iconst 0, 1) := by decide +kernel
theorem dX9_sum_15 : decode cX9_sum 15 = .ok (.istore_n 3, 1) := by decide +kernel
theorem dX9_sum_16 : decode cX9_sum 16 = .ok (.iload_n 3, 1) := by decide +kernel
theorem dX9_sum_17 : decode cX9_sum 17 = .ok (.aload_n 0, 1) := by decide +kernel
theorem dX9_sum_18 : decode cX9_sum 18 = .ok (.getfield 13, 3) := by decide +kernel
theorem dX9_sum_21 : decode cX9_sum 21 = .ok (.iload_n 1, 1) := by decide +kernel
theorem dX9_sum_22 : decode cX9_sum 22 = .ok (.iaload, 1) := by decide +kernel
theorem dX9_sum_23 : decode cX9_sum 23 = .ok (.if_icmp .ge 28, 3) := by decide +kernel
theorem dX9_sum_26 : decode cX9_sum 26 = .ok (.iload_n 2, 1) := by decide +kernel
theorem dX9_sum_27 : decode cX9_sum 27 = .ok (.aload_n 0, 1) := by decide +kernel
theorem dX9_sum_28 : decode cX9_sum 28 = .ok (.iload_n 1, 1) := by decide +kernel
theorem dX9_sum_29 : decode cX9_sum 29 = .ok (.iload_n 3, 1) := by decide +kernel
theorem dX9_sum_30 : decode cX9_sum 30 = .ok (.invokevirtual 90, 3) := by decide +kernel
theorem dX9_sum_33 : decode cX9_sum 33 = .ok (.iconst 0, 1) := by decide +kernel
theorem dX9_sum_34 : decode cX9_sum 34 = .ok (.aload_n 0, 1) := by decide +kernel
theorem dX9_sum_35 : decode cX9_sum 35 = .ok (.getfield 13, 3) := by decide +kernel
theorem dX9_sum_38 : decode cX9_sum 38 = .ok (.iload_n 1, 1) := by decide +kernel
theorem dX9_sum_39 : decode cX9_sum 39 = .ok (.iaload, 1) := by decide +kernel
theorem dX9_sum_40 : decode cX9_sum 40 = .ok (.invokestatic 169, 3) := by decide +kernel
theorem dX9_sum_43 : decode cX9_sum 43 = .ok (.iadd, 1) := by decide +kernel
theorem dX9_sum_44 : decode cX9_sum 44 = .ok (.istore_n 2, 1) := by decide +kernel
theorem dX9_sum_45 : decode cX9_sum 45 = .ok (.iinc 3 1, 3) := by decide +kernel
theorem dX9_sum_48 : decode cX9_sum 48 = .ok (.goto (-32), 3) := by decide +kernel
theorem dX9_sum_51 : decode cX9_sum 51 = .ok (.iload_n 2, 1) := by decide +kernel
theorem dX9_sum_52 : decode cX9_sum 52 = .ok (.ireturn, 1) := by decide +kernel
theorem dX9_sizeOf_0 : decode cX9_sizeOf 0 = .ok (.iload_n 0, 1) := by decide +kernel
theorem dX9_sizeOf_1 : decode cX9_sizeOf 1 = .ok (.iconst 0, 1) := by decide +kernel
theorem dX9_sizeOf_2 : decode cX9_sizeOf 2 = .ok (.iload_n 1, 1) := by decide +kernel
theorem dX9_sizeOf_3 : decode cX9_sizeOf 3 = .ok (.invokestatic 169, 3) := by decide +kernel
theorem dX9_sizeOf_6 : decode cX9_sizeOf 6 = .ok (.istore_n 2, 1) := by decide +kernel
theorem dX9_sizeOf_7 : decode cX9_sizeOf 7 = .ok (.iload_n 2, 1) := by decide +kernel
theorem dX9_sizeOf_8 : decode cX9_sizeOf 8 = .ok (.ifCond .ge 8, 3) := by decide +kernel
theorem dX9_sizeOf_11 : decode cX9_sizeOf 11 = .ok (.iload_n 2, 1) := by decide +kernel
theorem dX9_sizeOf_12 : decode cX9_sizeOf 12 = .ok (.ineg, 1) := by decide +kernel
theorem dX9_sizeOf_13 : decode cX9_sizeOf 13 = .ok (.goto 4, 3) := by decide +kernel
theorem dX9_sizeOf_16 : decode cX9_sizeOf 16 = .ok (.iload_n 2, 1) := by decide +kernel
theorem dX9_sizeOf_17 : decode cX9_sizeOf 17 = .ok (.ireturn, 1) := by decide +kernel
theorem dX9_best_0 : decode cX9_best 0 = .ok (.aload_n 0, 1) := by decide +kernel
theorem dX9_best_1 : decode cX9_best 1 = .ok (.iload_n 1, 1) := by decide +kernel
theorem dX9_best_2 : decode cX9_best 2 = .ok (.invokevirtual 86, 3) := by decide +kernel
theorem dX9_best_5 : decode cX9_best 5 = .ok (.ifCond .eq 12, 3) := by decide +kernel
theorem dX9_best_8 : decode cX9_best 8 = .ok (.iload_n 2, 1) := by decide +kernel
theorem dX9_best_9 : decode cX9_best 9 = .ok (.iconst 0, 1) := by decide +kernel
theorem dX9_best_10 : decode cX9_best 10 = .ok (.iconst 1, 1) := by decide +kernel
theorem dX9_best_11 : decode cX9_best 11 = .ok (.invokestatic 82, 3) := by decide +kernel
theorem dX9_best_14 : decode cX9_best 14 = .ok (.ifCond .ne 5, 3) := by decide +kernel
theorem dX9_best_17 : decode cX9_best 17 = .ok (.iconst (-1), 1) := by decide +kernel
theorem dX9_best_18 : decode cX9_best 18 = .ok (.ireturn, 1) := by decide +kernel
theorem dX9_best_19 : decode cX9_best 19 = .ok (.aload_n 0, 1) := by decide +kernel
theorem dX9_best_20 : decode cX9_best 20 = .ok (.getfield 13, 3) := by decide +kernel
theorem dX9_best_23 : decode cX9_best 23 = .ok (.iload_n 1, 1) := by decide +kernel
theorem dX9_best_24 : decode cX9_best 24 = .ok (.iaload, 1) := by decide +kernel
theorem dX9_best_25 : decode cX9_best 25 = .ok (.bipush 16, 2) := by decide +kernel
theorem dX9_best_27 : decode cX9_best 27 = .ok (.if_icmp .le 6, 3) := by decide +kernel
theorem dX9_best_30 : decode cX9_best 30 = .ok (.bipush (-2), 2) := by decide +kernel
theorem dX9_best_32 : decode cX9_best 32 = .ok (.ireturn, 1) := by decide +kernel
theorem dX9_best_33 : decode cX9_best 33 = .ok (.iconst 0, 1) := by decide +kernel
theorem dX9_best_34 : decode cX9_best 34 = .ok (.istore_n 3, 1) := by decide +kernel
theorem dX9_best_35 : decode cX9_best 35 = .ok (.iconst (-1), 1) := by decide +kernel
theorem dX9_best_36 : decode cX9_best 36 = .ok (.istore 4, 2) := by decide +kernel
theorem dX9_best_38 : decode cX9_best 38 = .ok (.iconst 0, 1) := by decide +kernel
theorem dX9_best_39 : decode cX9_best 39 = .ok (.istore 5, 2) := by decide +kernel
theorem dX9_best_41 : decode cX9_best 41 = .ok (.iload 5, 2) := by decide +kernel
theorem dX9_best_43 : decode cX9_best 43 = .ok (.iconst 1, 1) := by decide +kernel
theorem dX9_best_44 : decode cX9_best 44 = .ok (.aload_n 0, 1) := by decide +kernel
theorem dX9_best_45 : decode cX9_best 45 = .ok (.getfield 13, 3) := by decide +kernel
theorem dX9_best_48 : decode cX9_best 48 = .ok (.iload_n 1, 1) := by decide +kernel
theorem dX9_best_49 : decode cX9_best 49 = .ok (.iaload, 1) := by decide +kernel
theorem dX9_best_50 : decode cX9_best 50 = .ok (.ishl, 1) := by decide +kernel
theorem dX9_best_51 : decode cX9_best 51 = .ok (.if_icmp .ge 73, 3) := by decide +kernel
theorem dX9_best_54 : decode cX9_best 54 = .ok (.iconst 0, 1) := by decide +kernel
theorem dX9_best_55 : decode cX9_best 55 = .ok (.istore 6, 2) := by decide +kernel
theorem dX9_best_57 : decode cX9_best 57 = .ok (.iconst 0, 1) := by decide +kernel
theorem dX9_best_58 : decode cX9_best 58 = .ok (.istore 7, 2) := by decide +kernel
theorem dX9_best_60 : decode cX9_best 60 = .ok (.iload 7, 2) := by decide +kernel
theorem dX9_best_62 : decode cX9_best 62 = .ok (.aload_n 0, 1) := by decide +kernel
theorem dX9_best_63 : decode cX9_best 63 = .ok (.getfield 13, 3) := by decide +kernel
theorem dX9_best_66 : decode cX9_best 66 = .ok (.iload_n 1, 1) := by decide +kernel
theorem dX9_best_67 : decode cX9_best 67 = .ok (.iaload, 1) := by decide +kernel
theorem dX9_best_68 : decode cX9_best 68 = .ok (.if_icmp .ge 33, 3) := by decide +kernel
theorem dX9_best_71 : decode cX9_best 71 = .ok (.iload 6, 2) := by decide +kernel
theorem dX9_best_73 : decode cX9_best 73 = .ok (.aload_n 0, 1) := by decide +kernel
theorem dX9_best_74 : decode cX9_best 74 = .ok (.iload_n 1, 1) := by decide +kernel
theorem dX9_best_75 : decode cX9_best 75 = .ok (.iload 7, 2) := by decide +kernel
theorem dX9_best_77 : decode cX9_best 77 = .ok (.invokevirtual 90, 3) := by decide +kernel
theorem dX9_best_80 : decode cX9_best 80 = .ok (.iload 5, 2) := by decide +kernel
theorem dX9_best_82 : decode cX9_best 82 = .ok (.ixor, 1) := by decide +kernel
theorem dX9_best_83 : decode cX9_best 83 = .ok (.aload_n 0, 1) := by decide +kernel
theorem dX9_best_84 : decode cX9_best 84 = .ok (.getfield 13, 3) := by decide +kernel
theorem dX9_best_87 : decode cX9_best 87 = .ok (.iload_n 1, 1) := by decide +kernel
theorem dX9_best_88 : decode cX9_best 88 = .ok (.iaload, 1) := by decide +kernel
theorem dX9_best_89 : decode cX9_best 89 = .ok (.invokestatic 193, 3) := by decide +kernel
theorem dX9_best_92 : decode cX9_best 92 = .ok (.iadd, 1) := by decide +kernel
theorem dX9_best_93 : decode cX9_best 93 = .ok (.istore 6, 2) := by decide +kernel
theorem dX9_best_95 : decode cX9_best 95 = .ok (.iinc 7 1, 3) := by decide +kernel
theorem dX9_best_98 : decode cX9_best 98 = .ok (.goto (-38), 3) := by decide +kernel
theorem dX9_best_101 : decode cX9_best 101 = .ok (.iload 6, 2) := by decide +kernel
theorem dX9_best_103 : decode cX9_best 103 = .ok (.iload 4, 2) := by decide +kernel
theorem dX9_best_105 : decode cX9_best 105 = .ok (.if_icmp .gt 6, 3) := by decide +kernel
theorem dX9_best_108 : decode cX9_best 108 = .ok (.goto 10, 3) := by decide +kernel
theorem dX9_best_111 : decode cX9_best 111 = .ok (.iload 6, 2) := by decide +kernel
theorem dX9_best_113 : decode cX9_best 113 = .ok (.istore 4, 2) := by decide +kernel
theorem dX9_best_115 : decode cX9_best 115 = .ok (.iload 5, 2) := by decide +kernel
theorem dX9_best_117 : decode cX9_best 117 = .ok (.istore_n 3, 1) := by decide +kernel
theorem dX9_best_118 : decode cX9_best 118 = .ok (.iinc 5 1, 3) := by decide +kernel
theorem dX9_best_121 : decode cX9_best 121 = .ok (.goto (-80), 3) := by decide +kernel
theorem dX9_best_124 : decode cX9_best 124 = .ok (.iload_n 2, 1) := by decide +kernel
theorem dX9_best_125 : decode cX9_best 125 = .ok (.ifCond .ne 8, 3) := by decide +kernel
theorem dX9_best_128 : decode cX9_best 128 = .ok (.iload 4, 2) := by decide +kernel
theorem dX9_best_130 : decode cX9_best 130 = .ok (.goto 4, 3) := by decide +kernel
theorem dX9_best_133 : decode cX9_best 133 = .ok (.iload_n 3, 1) := by decide +kernel
theorem dX9_best_134 : decode cX9_best 134 = .ok (.ireturn, 1) := by decide +kernel
theorem dX9_laysLines_0 : decode cX9_laysLines 0 = .ok (.iconst 0, 1) := by decide +kernel
theorem dX9_laysLines_1 : decode cX9_laysLines 1 = .ok (.istore_n 3, 1) := by decide +kernel
theorem dX9_laysLines_2 : decode cX9_laysLines 2 = .ok (.iload_n 3, 1) := by decide +kernel
theorem dX9_laysLines_3 : decode cX9_laysLines 3 = .ok (.aload_n 0, 1) := by decide +kernel
theorem dX9_laysLines_4 : decode cX9_laysLines 4 = .ok (.getfield 13, 3) := by decide +kernel
theorem dX9_laysLines_7 : decode cX9_laysLines 7 = .ok (.iload_n 1, 1) := by decide +kernel
theorem dX9_laysLines_8 : decode cX9_laysLines 8 = .ok (.iaload, 1) := by decide +kernel
theorem dX9_laysLines_9 : decode cX9_laysLines 9 = .ok (.if_icmp .ge 22, 3) := by decide +kernel
theorem dX9_laysLines_12 : decode cX9_laysLines 12 = .ok (.aload_n 0, 1) := by decide +kernel
theorem dX9_laysLines_13 : decode cX9_laysLines 13 = .ok (.getfield 44, 3) := by decide +kernel
theorem dX9_laysLines_16 : decode cX9_laysLines 16 = .ok (.iload_n 3, 1) := by decide +kernel
theorem dX9_laysLines_17 : decode cX9_laysLines 17 = .ok (.aload_n 0, 1) := by decide +kernel
theorem dX9_laysLines_18 : decode cX9_laysLines 18 = .ok (.iload_n 1, 1) := by decide +kernel
theorem dX9_laysLines_19 : decode cX9_laysLines 19 = .ok (.iload_n 2, 1) := by decide +kernel
theorem dX9_laysLines_20 : decode cX9_laysLines 20 = .ok (.iload_n 3, 1) := by decide +kernel
theorem dX9_laysLines_21 : decode cX9_laysLines 21 = .ok (.invokevirtual 196, 3) := by decide +kernel
theorem dX9_laysLines_24 : decode cX9_laysLines 24 = .ok (.iastore, 1) := by decide +kernel
theorem dX9_laysLines_25 : decode cX9_laysLines 25 = .ok (.iinc 3 1, 3) := by decide +kernel
theorem dX9_laysLines_28 : decode cX9_laysLines 28 = .ok (.goto (-26), 3) := by decide +kernel
theorem dX9_laysLines_31 : decode cX9_laysLines 31 = .ok (.return_, 1) := by decide +kernel
theorem dX9_fourMany_0 : decode cX9_fourMany 0 = .ok (.iconst 0, 1) := by decide +kernel
theorem dX9_fourMany_1 : decode cX9_fourMany 1 = .ok (.istore 4, 2) := by decide +kernel
theorem dX9_fourMany_3 : decode cX9_fourMany 3 = .ok (.iconst 0, 1) := by decide +kernel
theorem dX9_fourMany_4 : decode cX9_fourMany 4 = .ok (.istore 5, 2) := by decide +kernel
theorem dX9_fourMany_6 : decode cX9_fourMany 6 = .ok (.iload 5, 2) := by decide +kernel
theorem dX9_fourMany_8 : decode cX9_fourMany 8 = .ok (.iload_n 1, 1) := by decide +kernel
theorem dX9_fourMany_9 : decode cX9_fourMany 9 = .ok (.if_icmp .ge 137, 3) := by decide +kernel
theorem dX9_fourMany_12 : decode cX9_fourMany 12 = .ok (.iload 5, 2) := by decide +kernel
theorem dX9_fourMany_14 : decode cX9_fourMany 14 = .ok (.iconst 1, 1) := by decide +kernel
theorem dX9_fourMany_15 : decode cX9_fourMany 15 = .ok (.iadd, 1) := by decide +kernel
theorem dX9_fourMany_16 : decode cX9_fourMany 16 = .ok (.istore 6, 2) := by decide +kernel
theorem dX9_fourMany_18 : decode cX9_fourMany 18 = .ok (.iload 6, 2) := by decide +kernel
theorem dX9_fourMany_20 : decode cX9_fourMany 20 = .ok (.iload_n 1, 1) := by decide +kernel
theorem dX9_fourMany_21 : decode cX9_fourMany 21 = .ok (.if_icmp .ge 119, 3) := by decide +kernel
theorem dX9_fourMany_24 : decode cX9_fourMany 24 = .ok (.iload 6, 2) := by decide +kernel
theorem dX9_fourMany_26 : decode cX9_fourMany 26 = .ok (.iconst 1, 1) := by decide +kernel
theorem dX9_fourMany_27 : decode cX9_fourMany 27 = .ok (.iadd, 1) := by decide +kernel
theorem dX9_fourMany_28 : decode cX9_fourMany 28 = .ok (.istore 7, 2) := by decide +kernel
theorem dX9_fourMany_30 : decode cX9_fourMany 30 = .ok (.iload 7, 2) := by decide +kernel
theorem dX9_fourMany_32 : decode cX9_fourMany 32 = .ok (.iload_n 1, 1) := by decide +kernel
theorem dX9_fourMany_33 : decode cX9_fourMany 33 = .ok (.if_icmp .ge 101, 3) := by decide +kernel
theorem dX9_fourMany_36 : decode cX9_fourMany 36 = .ok (.iload 7, 2) := by decide +kernel
theorem dX9_fourMany_38 : decode cX9_fourMany 38 = .ok (.iconst 1, 1) := by decide +kernel
theorem dX9_fourMany_39 : decode cX9_fourMany 39 = .ok (.iadd, 1) := by decide +kernel
theorem dX9_fourMany_40 : decode cX9_fourMany 40 = .ok (.istore 8, 2) := by decide +kernel
theorem dX9_fourMany_42 : decode cX9_fourMany 42 = .ok (.iload 8, 2) := by decide +kernel
theorem dX9_fourMany_44 : decode cX9_fourMany 44 = .ok (.iload_n 1, 1) := by decide +kernel
theorem dX9_fourMany_45 : decode cX9_fourMany 45 = .ok (.if_icmp .ge 83, 3) := by decide +kernel
theorem dX9_fourMany_48 : decode cX9_fourMany 48 = .ok (.iload_n 3, 1) := by decide +kernel
theorem dX9_fourMany_49 : decode cX9_fourMany 49 = .ok (.iconst (-1), 1) := by decide +kernel
theorem dX9_fourMany_50 : decode cX9_fourMany 50 = .ok (.if_icmp .eq 30, 3) := by decide +kernel
theorem dX9_fourMany_53 : decode cX9_fourMany 53 = .ok (.iload 5, 2) := by decide +kernel
theorem dX9_fourMany_55 : decode cX9_fourMany 55 = .ok (.iload_n 3, 1) := by decide +kernel
theorem dX9_fourMany_56 : decode cX9_fourMany 56 = .ok (.if_icmp .eq 24, 3) := by decide +kernel
theorem dX9_fourMany_59 : decode cX9_fourMany 59 = .ok (.iload 6, 2) := by decide +kernel
theorem dX9_fourMany_61 : decode cX9_fourMany 61 = .ok (.iload_n 3, 1) := by decide +kernel
theorem dX9_fourMany_62 : decode cX9_fourMany 62 = .ok (.if_icmp .eq 18, 3) := by decide +kernel
theorem dX9_fourMany_65 : decode cX9_fourMany 65 = .ok (.iload 7, 2) := by decide +kernel
theorem dX9_fourMany_67 : decode cX9_fourMany 67 = .ok (.iload_n 3, 1) := by decide +kernel
theorem dX9_fourMany_68 : decode cX9_fourMany 68 = .ok (.if_icmp .eq 12, 3) := by decide +kernel
theorem dX9_fourMany_71 : decode cX9_fourMany 71 = .ok (.iload 8, 2) := by decide +kernel
theorem dX9_fourMany_73 : decode cX9_fourMany 73 = .ok (.iload_n 3, 1) := by decide +kernel
theorem dX9_fourMany_74 : decode cX9_fourMany 74 = .ok (.if_icmp .eq 6, 3) := by decide +kernel
theorem dX9_fourMany_77 : decode cX9_fourMany 77 = .ok (.goto 45, 3) := by decide +kernel
theorem dX9_fourMany_80 : decode cX9_fourMany 80 = .ok (.aload_n 0, 1) := by decide +kernel
theorem dX9_fourMany_81 : decode cX9_fourMany 81 = .ok (.getfield 44, 3) := by decide +kernel
theorem dX9_fourMany_84 : decode cX9_fourMany 84 = .ok (.iload 5, 2) := by decide +kernel
theorem dX9_fourMany_86 : decode cX9_fourMany 86 = .ok (.iaload, 1) := by decide +kernel
theorem dX9_fourMany_87 : decode cX9_fourMany 87 = .ok (.aload_n 0, 1) := by decide +kernel
theorem dX9_fourMany_88 : decode cX9_fourMany 88 = .ok (.getfield 44, 3) := by decide +kernel
theorem dX9_fourMany_91 : decode cX9_fourMany 91 = .ok (.iload 6, 2) := by decide +kernel
theorem dX9_fourMany_93 : decode cX9_fourMany 93 = .ok (.iaload, 1) := by decide +kernel
theorem dX9_fourMany_94 : decode cX9_fourMany 94 = .ok (.ixor, 1) := by decide +kernel
theorem dX9_fourMany_95 : decode cX9_fourMany 95 = .ok (.aload_n 0, 1) := by decide +kernel
theorem dX9_fourMany_96 : decode cX9_fourMany 96 = .ok (.getfield 44, 3) := by decide +kernel
theorem dX9_fourMany_99 : decode cX9_fourMany 99 = .ok (.iload 7, 2) := by decide +kernel
theorem dX9_fourMany_101 : decode cX9_fourMany 101 = .ok (.iaload, 1) := by decide +kernel
theorem dX9_fourMany_102 : decode cX9_fourMany 102 = .ok (.ixor, 1) := by decide +kernel
theorem dX9_fourMany_103 : decode cX9_fourMany 103 = .ok (.aload_n 0, 1) := by decide +kernel
theorem dX9_fourMany_104 : decode cX9_fourMany 104 = .ok (.getfield 44, 3) := by decide +kernel
theorem dX9_fourMany_107 : decode cX9_fourMany 107 = .ok (.iload 8, 2) := by decide +kernel
theorem dX9_fourMany_109 : decode cX9_fourMany 109 = .ok (.iaload, 1) := by decide +kernel
theorem dX9_fourMany_110 : decode cX9_fourMany 110 = .ok (.ixor, 1) := by decide +kernel
theorem dX9_fourMany_111 : decode cX9_fourMany 111 = .ok (.iload_n 1, 1) := by decide +kernel
theorem dX9_fourMany_112 : decode cX9_fourMany 112 = .ok (.invokestatic 193, 3) := by decide +kernel
theorem dX9_fourMany_115 : decode cX9_fourMany 115 = .ok (.iload_n 2, 1) := by decide +kernel
theorem dX9_fourMany_116 : decode cX9_fourMany 116 = .ok (.if_icmp .ne 6, 3) := by decide +kernel
theorem dX9_fourMany_119 : decode cX9_fourMany 119 = .ok (.iinc 4 1, 3) := by decide +kernel
theorem dX9_fourMany_122 : decode cX9_fourMany 122 = .ok (.iinc 8 1, 3) := by decide +kernel
theorem dX9_fourMany_125 : decode cX9_fourMany 125 = .ok (.goto (-83), 3) := by decide +kernel
theorem dX9_fourMany_128 : decode cX9_fourMany 128 = .ok (.iinc 7 1, 3) := by decide +kernel
theorem dX9_fourMany_131 : decode cX9_fourMany 131 = .ok (.goto (-101), 3) := by decide +kernel
theorem dX9_fourMany_134 : decode cX9_fourMany 134 = .ok (.iinc 6 1, 3) := by decide +kernel
theorem dX9_fourMany_137 : decode cX9_fourMany 137 = .ok (.goto (-119), 3) := by decide +kernel
theorem dX9_fourMany_140 : decode cX9_fourMany 140 = .ok (.iinc 5 1, 3) := by decide +kernel
theorem dX9_fourMany_143 : decode cX9_fourMany 143 = .ok (.goto (-137), 3) := by decide +kernel
theorem dX9_fourMany_146 : decode cX9_fourMany 146 = .ok (.iload 4, 2) := by decide +kernel
theorem dX9_fourMany_148 : decode cX9_fourMany 148 = .ok (.ireturn, 1) := by decide +kernel
theorem dX9_tally_0 : decode cX9_tally 0 = .ok (.aload_n 0, 1) := by decide +kernel
theorem dX9_tally_1 : decode cX9_tally 1 = .ok (.iload_n 1, 1) := by decide +kernel
theorem dX9_tally_2 : decode cX9_tally 2 = .ok (.invokevirtual 86, 3) := by decide +kernel
theorem dX9_tally_5 : decode cX9_tally 5 = .ok (.ifCond .eq 7, 3) := by decide +kernel
theorem dX9_tally_8 : decode cX9_tally 8 = .ok (.iload_n 3, 1) := by decide +kernel
theorem dX9_tally_9 : decode cX9_tally 9 = .ok (.ifCond .ge 5, 3) := by decide +kernel
theorem dX9_tally_12 : decode cX9_tally 12 = .ok (.iconst (-1), 1) := by decide +kernel
theorem dX9_tally_13 : decode cX9_tally 13 = .ok (.ireturn, 1) := by decide +kernel
theorem dX9_tally_14 : decode cX9_tally 14 = .ok (.aload_n 0, 1) := by decide +kernel
theorem dX9_tally_15 : decode cX9_tally 15 = .ok (.iload_n 1, 1) := by decide +kernel
theorem dX9_tally_16 : decode cX9_tally 16 = .ok (.iload_n 2, 1) := by decide +kernel
theorem dX9_tally_17 : decode cX9_tally 17 = .ok (.invokevirtual 208, 3) := by decide +kernel
theorem dX9_tally_20 : decode cX9_tally 20 = .ok (.aload_n 0, 1) := by decide +kernel
theorem dX9_tally_21 : decode cX9_tally 21 = .ok (.aload_n 0, 1) := by decide +kernel
theorem dX9_tally_22 : decode cX9_tally 22 = .ok (.getfield 13, 3) := by decide +kernel
theorem dX9_tally_25 : decode cX9_tally 25 = .ok (.iload_n 1, 1) := by decide +kernel
theorem dX9_tally_26 : decode cX9_tally 26 = .ok (.iaload, 1) := by decide +kernel
theorem dX9_tally_27 : decode cX9_tally 27 = .ok (.iload_n 3, 1) := by decide +kernel
theorem dX9_tally_28 : decode cX9_tally 28 = .ok (.iconst (-1), 1) := by decide +kernel
theorem dX9_tally_29 : decode cX9_tally 29 = .ok (.invokevirtual 212, 3) := by decide +kernel
theorem dX9_tally_32 : decode cX9_tally 32 = .ok (.ireturn, 1) := by decide +kernel
theorem dX9_part_0 : decode cX9_part 0 = .ok (.aload_n 0, 1) := by decide +kernel
theorem dX9_part_1 : decode cX9_part 1 = .ok (.iload_n 1, 1) := by decide +kernel
theorem dX9_part_2 : decode cX9_part 2 = .ok (.iload_n 3, 1) := by decide +kernel
theorem dX9_part_3 : decode cX9_part 3 = .ok (.invokevirtual 182, 3) := by decide +kernel
theorem dX9_part_6 : decode cX9_part 6 = .ok (.ifCond .eq 8, 3) := by decide +kernel
theorem dX9_part_9 : decode cX9_part 9 = .ok (.iload 4, 2) := by decide +kernel
theorem dX9_part_11 : decode cX9_part 11 = .ok (.ifCond .ge 5, 3) := by decide +kernel
theorem dX9_part_14 : decode cX9_part 14 = .ok (.iconst (-1), 1) := by decide +kernel
theorem dX9_part_15 : decode cX9_part 15 = .ok (.ireturn, 1) := by decide +kernel
theorem dX9_part_16 : decode cX9_part 16 = .ok (.aload_n 0, 1) := by decide +kernel
theorem dX9_part_17 : decode cX9_part 17 = .ok (.iload_n 1, 1) := by decide +kernel
theorem dX9_part_18 : decode cX9_part 18 = .ok (.iload_n 2, 1) := by decide +kernel
theorem dX9_part_19 : decode cX9_part 19 = .ok (.invokevirtual 208, 3) := by decide +kernel
theorem dX9_part_22 : decode cX9_part 22 = .ok (.aload_n 0, 1) := by decide +kernel
theorem dX9_part_23 : decode cX9_part 23 = .ok (.aload_n 0, 1) := by decide +kernel
theorem dX9_part_24 : decode cX9_part 24 = .ok (.getfield 13, 3) := by decide +kernel
theorem dX9_part_27 : decode cX9_part 27 = .ok (.iload_n 1, 1) := by decide +kernel
theorem dX9_part_28 : decode cX9_part 28 = .ok (.iaload, 1) := by decide +kernel
theorem dX9_part_29 : decode cX9_part 29 = .ok (.iload 4, 2) := by decide +kernel
theorem dX9_part_31 : decode cX9_part 31 = .ok (.iload_n 3, 1) := by decide +kernel
theorem dX9_part_32 : decode cX9_part 32 = .ok (.invokevirtual 212, 3) := by decide +kernel
theorem dX9_part_35 : decode cX9_part 35 = .ok (.ireturn, 1) := by decide +kernel
theorem dX9_laysForm_0 : decode cX9_laysForm 0 = .ok (.aload_n 0, 1) := by decide +kernel
theorem dX9_laysForm_1 : decode cX9_laysForm 1 = .ok (.getfield 13, 3) := by decide +kernel
theorem dX9_laysForm_4 : decode cX9_laysForm 4 = .ok (.iload_n 1, 1) := by decide +kernel
theorem dX9_laysForm_5 : decode cX9_laysForm 5 = .ok (.iaload, 1) := by decide +kernel
theorem dX9_laysForm_6 : decode cX9_laysForm 6 = .ok (.istore_n 3, 1) := by decide +kernel
theorem dX9_laysForm_7 : decode cX9_laysForm 7 = .ok (.iconst 0, 1) := by decide +kernel
theorem dX9_laysForm_8 : decode cX9_laysForm 8 = .ok (.istore 4, 2) := by decide +kernel
theorem dX9_laysForm_10 : decode cX9_laysForm 10 = .ok (.iload 4, 2) := by decide +kernel
theorem dX9_laysForm_12 : decode cX9_laysForm 12 = .ok (.iload_n 3, 1) := by decide +kernel
theorem dX9_laysForm_13 : decode cX9_laysForm 13 = .ok (.if_icmp .ge 147, 3) := by decide +kernel
theorem dX9_laysForm_16 : decode cX9_laysForm 16 = .ok (.aload_n 0, 1) := by decide +kernel
theorem dX9_laysForm_17 : decode cX9_laysForm 17 = .ok (.iload_n 1, 1) := by decide +kernel
theorem dX9_laysForm_18 : decode cX9_laysForm 18 = .ok (.iload 4, 2) := by decide +kernel
theorem dX9_laysForm_20 : decode cX9_laysForm 20 = .ok (.invokevirtual 90, 3) := by decide +kernel
theorem dX9_laysForm_23 : decode cX9_laysForm 23 = .ok (.aload_n 0, 1) := by decide +kernel
theorem dX9_laysForm_24 : decode cX9_laysForm 24 = .ok (.iload_n 1, 1) := by decide +kernel
theorem dX9_laysForm_25 : decode cX9_laysForm 25 = .ok (.iload_n 2, 1) := by decide +kernel
theorem dX9_laysForm_26 : decode cX9_laysForm 26 = .ok (.invokevirtual 90, 3) := by decide +kernel
theorem dX9_laysForm_29 : decode cX9_laysForm 29 = .ok (.ixor, 1) := by decide +kernel
theorem dX9_laysForm_30 : decode cX9_laysForm 30 = .ok (.istore 5, 2) := by decide +kernel
theorem dX9_laysForm_32 : decode cX9_laysForm 32 = .ok (.iconst 0, 1) := by decide +kernel
theorem dX9_laysForm_33 : decode cX9_laysForm 33 = .ok (.istore 6, 2) := by decide +kernel
theorem dX9_laysForm_35 : decode cX9_laysForm 35 = .ok (.iconst 0, 1) := by decide +kernel
theorem dX9_laysForm_36 : decode cX9_laysForm 36 = .ok (.istore 7, 2) := by decide +kernel
theorem dX9_laysForm_38 : decode cX9_laysForm 38 = .ok (.iload 7, 2) := by decide +kernel
theorem dX9_laysForm_40 : decode cX9_laysForm 40 = .ok (.iload_n 3, 1) := by decide +kernel
theorem dX9_laysForm_41 : decode cX9_laysForm 41 = .ok (.if_icmp .ge 33, 3) := by decide +kernel
theorem dX9_laysForm_44 : decode cX9_laysForm 44 = .ok (.iload 5, 2) := by decide +kernel
theorem dX9_laysForm_46 : decode cX9_laysForm 46 = .ok (.iload 7, 2) := by decide +kernel
theorem dX9_laysForm_48 : decode cX9_laysForm 48 = .ok (.invokestatic 94, 3) := by decide +kernel
theorem dX9_laysForm_51 : decode cX9_laysForm 51 = .ok (.ifCond .eq 17, 3) := by decide +kernel
theorem dX9_laysForm_54 : decode cX9_laysForm 54 = .ok (.iload 6, 2) := by decide +kernel
theorem dX9_laysForm_56 : decode cX9_laysForm 56 = .ok (.iconst 1, 1) := by decide +kernel
theorem dX9_laysForm_57 : decode cX9_laysForm 57 = .ok (.aload_n 0, 1) := by decide +kernel
theorem dX9_laysForm_58 : decode cX9_laysForm 58 = .ok (.getfield 47, 3) := by decide +kernel
theorem dX9_laysForm_61 : decode cX9_laysForm 61 = .ok (.iload 7, 2) := by decide +kernel
theorem dX9_laysForm_63 : decode cX9_laysForm 63 = .ok (.iaload, 1) := by decide +kernel
theorem dX9_laysForm_64 : decode cX9_laysForm 64 = .ok (.ishl, 1) := by decide +kernel
theorem dX9_laysForm_65 : decode cX9_laysForm 65 = .ok (.ior, 1) := by decide +kernel
theorem dX9_laysForm_66 : decode cX9_laysForm 66 = .ok (.istore 6, 2) := by decide +kernel
theorem dX9_laysForm_68 : decode cX9_laysForm 68 = .ok (.iinc 7 1, 3) := by decide +kernel
theorem dX9_laysForm_71 : decode cX9_laysForm 71 = .ok (.goto (-33), 3) := by decide +kernel
theorem dX9_laysForm_74 : decode cX9_laysForm 74 = .ok (.iload 6, 2) := by decide +kernel
theorem dX9_laysForm_76 : decode cX9_laysForm 76 = .ok (.iconst 1, 1) := by decide +kernel
theorem dX9_laysForm_77 : decode cX9_laysForm 77 = .ok (.iload_n 3, 1) := by decide +kernel
theorem dX9_laysForm_78 : decode cX9_laysForm 78 = .ok (.ishl, 1) := by decide +kernel
theorem dX9_laysForm_79 : decode cX9_laysForm 79 = .ok (.iconst 1, 1) := by decide +kernel
theorem dX9_laysForm_80 : decode cX9_laysForm 80 = .ok (.isub, 1) := by decide +kernel
theorem dX9_laysForm_81 : decode cX9_laysForm 81 = .ok (.ixor, 1) := by decide +kernel
theorem dX9_laysForm_82 : decode cX9_laysForm 82 = .ok (.istore 7, 2) := by decide +kernel
theorem dX9_laysForm_84 : decode cX9_laysForm 84 = .ok (.iload 6, 2) := by decide +kernel
theorem dX9_laysForm_86 : decode cX9_laysForm 86 = .ok (.iload 7, 2) := by decide +kernel
theorem dX9_laysForm_88 : decode cX9_laysForm 88 = .ok (.if_icmp .ge 8, 3) := by decide +kernel
theorem dX9_laysForm_91 : decode cX9_laysForm 91 = .ok (.iload 6, 2) := by decide +kernel
theorem dX9_laysForm_93 : decode cX9_laysForm 93 = .ok (.goto 5, 3) := by decide +kernel
theorem dX9_laysForm_96 : decode cX9_laysForm 96 = .ok (.iload 7, 2) := by decide +kernel
theorem dX9_laysForm_98 : decode cX9_laysForm 98 = .ok (.istore 8, 2) := by decide +kernel
theorem dX9_laysForm_100 : decode cX9_laysForm 100 = .ok (.iload 4, 2) := by decide +kernel
theorem dX9_laysForm_102 : decode cX9_laysForm 102 = .ok (.istore 9, 2) := by decide +kernel
theorem dX9_laysForm_104 : decode cX9_laysForm 104 = .ok (.iload 9, 2) := by decide +kernel
theorem dX9_laysForm_106 : decode cX9_laysForm 106 = .ok (.ifCond .le 39, 3) := by decide +kernel
theorem dX9_laysForm_109 : decode cX9_laysForm 109 = .ok (.aload_n 0, 1) := by decide +kernel
theorem dX9_laysForm_110 : decode cX9_laysForm 110 = .ok (.getfield 50, 3) := by decide +kernel
theorem dX9_laysForm_113 : decode cX9_laysForm 113 = .ok (.iload 9, 2) := by decide +kernel
theorem dX9_laysForm_115 : decode cX9_laysForm 115 = .ok (.iconst 1, 1) := by decide +kernel
theorem dX9_laysForm_116 : decode cX9_laysForm 116 = .ok (.isub, 1) := by decide +kernel
theorem dX9_laysForm_117 : decode cX9_laysForm 117 = .ok (.iaload, 1) := by decide +kernel
theorem dX9_laysForm_118 : decode cX9_laysForm 118 = .ok (.iload 8, 2) := by decide +kernel
theorem dX9_laysForm_120 : decode cX9_laysForm 120 = .ok (.if_icmp .le 25, 3) := by decide +kernel
theorem dX9_laysForm_123 : decode cX9_laysForm 123 = .ok (.aload_n 0, 1) := by decide +kernel
theorem dX9_laysForm_124 : decode cX9_laysForm 124 = .ok (.getfield 50, 3) := by decide +kernel
theorem dX9_laysForm_127 : decode cX9_laysForm 127 = .ok (.iload 9, 2) := by decide +kernel
theorem dX9_laysForm_129 : decode cX9_laysForm 129 = .ok (.aload_n 0, 1) := by decide +kernel
theorem dX9_laysForm_130 : decode cX9_laysForm 130 = .ok (.getfield 50, 3) := by decide +kernel
theorem dX9_laysForm_133 : decode cX9_laysForm 133 = .ok (.iload 9, 2) := by decide +kernel
theorem dX9_laysForm_135 : decode cX9_laysForm 135 = .ok (.iconst 1, 1) := by decide +kernel
theorem dX9_laysForm_136 : decode cX9_laysForm 136 = .ok (.isub, 1) := by decide +kernel
theorem dX9_laysForm_137 : decode cX9_laysForm 137 = .ok (.iaload, 1) := by decide +kernel
theorem dX9_laysForm_138 : decode cX9_laysForm 138 = .ok (.iastore, 1) := by decide +kernel
theorem dX9_laysForm_139 : decode cX9_laysForm 139 = .ok (.iinc 9 (-1), 3) := by decide +kernel
theorem dX9_laysForm_142 : decode cX9_laysForm 142 = .ok (.goto (-38), 3) := by decide +kernel
theorem dX9_laysForm_145 : decode cX9_laysForm 145 = .ok (.aload_n 0, 1) := by decide +kernel
theorem dX9_laysForm_146 : decode cX9_laysForm 146 = .ok (.getfield 50, 3) := by decide +kernel
theorem dX9_laysForm_149 : decode cX9_laysForm 149 = .ok (.iload 9, 2) := by decide +kernel
theorem dX9_laysForm_151 : decode cX9_laysForm 151 = .ok (.iload 8, 2) := by decide +kernel
theorem dX9_laysForm_153 : decode cX9_laysForm 153 = .ok (.iastore, 1) := by decide +kernel
theorem dX9_laysForm_154 : decode cX9_laysForm 154 = .ok (.iinc 4 1, 3) := by decide +kernel
theorem dX9_laysForm_157 : decode cX9_laysForm 157 = .ok (.goto (-147), 3) := by decide +kernel
theorem dX9_laysForm_160 : decode cX9_laysForm 160 = .ok (.return_, 1) := by decide +kernel
theorem dX9_isLess_0 : decode cX9_isLess 0 = .ok (.iconst 0, 1) := by decide +kernel
theorem dX9_isLess_1 : decode cX9_isLess 1 = .ok (.istore_n 2, 1) := by decide +kernel
theorem dX9_isLess_2 : decode cX9_isLess 2 = .ok (.iload_n 2, 1) := by decide +kernel
theorem dX9_isLess_3 : decode cX9_isLess 3 = .ok (.iload_n 1, 1) := by decide +kernel
theorem dX9_isLess_4 : decode cX9_isLess 4 = .ok (.if_icmp .ge 24, 3) := by decide +kernel
theorem dX9_isLess_7 : decode cX9_isLess 7 = .ok (.aload_n 0, 1) := by decide +kernel
theorem dX9_isLess_8 : decode cX9_isLess 8 = .ok (.getfield 50, 3) := by decide +kernel
theorem dX9_isLess_11 : decode cX9_isLess 11 = .ok (.iload_n 2, 1) := by decide +kernel
theorem dX9_isLess_12 : decode cX9_isLess 12 = .ok (.iaload, 1) := by decide +kernel
theorem dX9_isLess_13 : decode cX9_isLess 13 = .ok (.aload_n 0, 1) := by decide +kernel
theorem dX9_isLess_14 : decode cX9_isLess 14 = .ok (.getfield 53, 3) := by decide +kernel
theorem dX9_isLess_17 : decode cX9_isLess 17 = .ok (.iload_n 2, 1) := by decide +kernel
theorem dX9_isLess_18 : decode cX9_isLess 18 = .ok (.iaload, 1) := by decide +kernel
theorem dX9_isLess_19 : decode cX9_isLess 19 = .ok (.if_icmp .ne 9, 3) := by decide +kernel
theorem dX9_isLess_22 : decode cX9_isLess 22 = .ok (.iinc 2 1, 3) := by decide +kernel
theorem dX9_isLess_25 : decode cX9_isLess 25 = .ok (.goto (-23), 3) := by decide +kernel
theorem dX9_isLess_28 : decode cX9_isLess 28 = .ok (.iload_n 2, 1) := by decide +kernel
theorem dX9_isLess_29 : decode cX9_isLess 29 = .ok (.iload_n 1, 1) := by decide +kernel
theorem dX9_isLess_30 : decode cX9_isLess 30 = .ok (.if_icmp .ge 22, 3) := by decide +kernel
theorem dX9_isLess_33 : decode cX9_isLess 33 = .ok (.aload_n 0, 1) := by decide +kernel
theorem dX9_isLess_34 : decode cX9_isLess 34 = .ok (.getfield 50, 3) := by decide +kernel
theorem dX9_isLess_37 : decode cX9_isLess 37 = .ok (.iload_n 2, 1) := by decide +kernel
theorem dX9_isLess_38 : decode cX9_isLess 38 = .ok (.iaload, 1) := by decide +kernel
theorem dX9_isLess_39 : decode cX9_isLess 39 = .ok (.aload_n 0, 1) := by decide +kernel
theorem dX9_isLess_40 : decode cX9_isLess 40 = .ok (.getfield 53, 3) := by decide +kernel
theorem dX9_isLess_43 : decode cX9_isLess 43 = .ok (.iload_n 2, 1) := by decide +kernel
theorem dX9_isLess_44 : decode cX9_isLess 44 = .ok (.iaload, 1) := by decide +kernel
theorem dX9_isLess_45 : decode cX9_isLess 45 = .ok (.if_icmp .ge 7, 3) := by decide +kernel
theorem dX9_isLess_48 : decode cX9_isLess 48 = .ok (.iconst 1, 1) := by decide +kernel
theorem dX9_isLess_49 : decode cX9_isLess 49 = .ok (.goto 4, 3) := by decide +kernel
theorem dX9_isLess_52 : decode cX9_isLess 52 = .ok (.iconst 0, 1) := by decide +kernel
theorem dX9_isLess_53 : decode cX9_isLess 53 = .ok (.ireturn, 1) := by decide +kernel
theorem dX9_goesOn_0 : decode cX9_goesOn 0 = .ok (.iload_n 1, 1) := by decide +kernel
theorem dX9_goesOn_1 : decode cX9_goesOn 1 = .ok (.iconst 2, 1) := by decide +kernel
theorem dX9_goesOn_2 : decode cX9_goesOn 2 = .ok (.isub, 1) := by decide +kernel
theorem dX9_goesOn_3 : decode cX9_goesOn 3 = .ok (.istore_n 2, 1) := by decide +kernel
theorem dX9_goesOn_4 : decode cX9_goesOn 4 = .ok (.iload_n 2, 1) := by decide +kernel
theorem dX9_goesOn_5 : decode cX9_goesOn 5 = .ok (.ifCond .lt 26, 3) := by decide +kernel
theorem dX9_goesOn_8 : decode cX9_goesOn 8 = .ok (.aload_n 0, 1) := by decide +kernel
theorem dX9_goesOn_9 : decode cX9_goesOn 9 = .ok (.getfield 47, 3) := by decide +kernel
theorem dX9_goesOn_12 : decode cX9_goesOn 12 = .ok (.iload_n 2, 1) := by decide +kernel
theorem dX9_goesOn_13 : decode cX9_goesOn 13 = .ok (.iaload, 1) := by decide +kernel
theorem dX9_goesOn_14 : decode cX9_goesOn 14 = .ok (.aload_n 0, 1) := by decide +kernel
theorem dX9_goesOn_15 : decode cX9_goesOn 15 = .ok (.getfield 47, 3) := by decide +kernel
theorem dX9_goesOn_18 : decode cX9_goesOn 18 = .ok (.iload_n 2, 1) := by decide +kernel
theorem dX9_goesOn_19 : decode cX9_goesOn 19 = .ok (.iconst 1, 1) := by decide +kernel
theorem dX9_goesOn_20 : decode cX9_goesOn 20 = .ok (.iadd, 1) := by decide +kernel
theorem dX9_goesOn_21 : decode cX9_goesOn 21 = .ok (.iaload, 1) := by decide +kernel
theorem dX9_goesOn_22 : decode cX9_goesOn 22 = .ok (.if_icmp .le 9, 3) := by decide +kernel
theorem dX9_goesOn_25 : decode cX9_goesOn 25 = .ok (.iinc 2 (-1), 3) := by decide +kernel
theorem dX9_goesOn_28 : decode cX9_goesOn 28 = .ok (.goto (-24), 3) := by decide +kernel
theorem dX9_goesOn_31 : decode cX9_goesOn 31 = .ok (.iload_n 2, 1) := by decide +kernel
theorem dX9_goesOn_32 : decode cX9_goesOn 32 = .ok (.ifCond .ge 5, 3) := by decide +kernel
theorem dX9_goesOn_35 : decode cX9_goesOn 35 = .ok (.iconst 0, 1) := by decide +kernel
theorem dX9_goesOn_36 : decode cX9_goesOn 36 = .ok (.ireturn, 1) := by decide +kernel
theorem dX9_goesOn_37 : decode cX9_goesOn 37 = .ok (.iload_n 1, 1) := by decide +kernel
theorem dX9_goesOn_38 : decode cX9_goesOn 38 = .ok (.iconst 1, 1) := by decide +kernel
theorem dX9_goesOn_39 : decode cX9_goesOn 39 = .ok (.isub, 1) := by decide +kernel
theorem dX9_goesOn_40 : decode cX9_goesOn 40 = .ok (.istore_n 3, 1) := by decide +kernel
theorem dX9_goesOn_41 : decode cX9_goesOn 41 = .ok (.aload_n 0, 1) := by decide +kernel
theorem dX9_goesOn_42 : decode cX9_goesOn 42 = .ok (.getfield 47, 3) := by decide +kernel
theorem dX9_goesOn_45 : decode cX9_goesOn 45 = .ok (.iload_n 3, 1) := by decide +kernel
theorem dX9_goesOn_46 : decode cX9_goesOn 46 = .ok (.iaload, 1) := by decide +kernel
theorem dX9_goesOn_47 : decode cX9_goesOn 47 = .ok (.aload_n 0, 1) := by decide +kernel
theorem dX9_goesOn_48 : decode cX9_goesOn 48 = .ok (.getfield 47, 3) := by decide +kernel
theorem dX9_goesOn_51 : decode cX9_goesOn 51 = .ok (.iload_n 2, 1) := by decide +kernel
theorem dX9_goesOn_52 : decode cX9_goesOn 52 = .ok (.iaload, 1) := by decide +kernel
theorem dX9_goesOn_53 : decode cX9_goesOn 53 = .ok (.if_icmp .ge 9, 3) := by decide +kernel
theorem dX9_goesOn_56 : decode cX9_goesOn 56 = .ok (.iinc 3 (-1), 3) := by decide +kernel
theorem dX9_goesOn_59 : decode cX9_goesOn 59 = .ok (.goto (-18), 3) := by decide +kernel
theorem dX9_goesOn_62 : decode cX9_goesOn 62 = .ok (.aload_n 0, 1) := by decide +kernel
theorem dX9_goesOn_63 : decode cX9_goesOn 63 = .ok (.getfield 47, 3) := by decide +kernel
theorem dX9_goesOn_66 : decode cX9_goesOn 66 = .ok (.iload_n 2, 1) := by decide +kernel
theorem dX9_goesOn_67 : decode cX9_goesOn 67 = .ok (.iload_n 3, 1) := by decide +kernel
theorem dX9_goesOn_68 : decode cX9_goesOn 68 = .ok (.invokestatic 189, 3) := by decide +kernel
theorem dX9_goesOn_71 : decode cX9_goesOn 71 = .ok (.iload_n 2, 1) := by decide +kernel
theorem dX9_goesOn_72 : decode cX9_goesOn 72 = .ok (.iconst 1, 1) := by decide +kernel
theorem dX9_goesOn_73 : decode cX9_goesOn 73 = .ok (.iadd, 1) := by decide +kernel
theorem dX9_goesOn_74 : decode cX9_goesOn 74 = .ok (.istore 4, 2) := by decide +kernel
theorem dX9_goesOn_76 : decode cX9_goesOn 76 = .ok (.iload_n 1, 1) := by decide +kernel
theorem dX9_goesOn_77 : decode cX9_goesOn 77 = .ok (.iconst 1, 1) := by decide +kernel
theorem dX9_goesOn_78 : decode cX9_goesOn 78 = .ok (.isub, 1) := by decide +kernel
theorem dX9_goesOn_79 : decode cX9_goesOn 79 = .ok (.istore 5, 2) := by decide +kernel
theorem dX9_goesOn_81 : decode cX9_goesOn 81 = .ok (.iload 4, 2) := by decide +kernel
theorem dX9_goesOn_83 : decode cX9_goesOn 83 = .ok (.iload 5, 2) := by decide +kernel
theorem dX9_goesOn_85 : decode cX9_goesOn 85 = .ok (.if_icmp .ge 23, 3) := by decide +kernel
theorem dX9_goesOn_88 : decode cX9_goesOn 88 = .ok (.aload_n 0, 1) := by decide +kernel
theorem dX9_goesOn_89 : decode cX9_goesOn 89 = .ok (.getfield 47, 3) := by decide +kernel
theorem dX9_goesOn_92 : decode cX9_goesOn 92 = .ok (.iload 4, 2) := by decide +kernel
theorem dX9_goesOn_94 : decode cX9_goesOn 94 = .ok (.iload 5, 2) := by decide +kernel
theorem dX9_goesOn_96 : decode cX9_goesOn 96 = .ok (.invokestatic 189, 3) := by decide +kernel
theorem dX9_goesOn_99 : decode cX9_goesOn 99 = .ok (.iinc 4 1, 3) := by decide +kernel
theorem dX9_goesOn_102 : decode cX9_goesOn 102 = .ok (.iinc 5 (-1), 3) := by decide +kernel
theorem dX9_goesOn_105 : decode cX9_goesOn 105 = .ok (.goto (-24), 3) := by decide +kernel
theorem dX9_goesOn_108 : decode cX9_goesOn 108 = .ok (.iconst 1, 1) := by decide +kernel
theorem dX9_goesOn_109 : decode cX9_goesOn 109 = .ok (.ireturn, 1) := by decide +kernel
theorem dX9_laysLeast_0 : decode cX9_laysLeast 0 = .ok (.aload_n 0, 1) := by decide +kernel
theorem dX9_laysLeast_1 : decode cX9_laysLeast 1 = .ok (.getfield 13, 3) := by decide +kernel
theorem dX9_laysLeast_4 : decode cX9_laysLeast 4 = .ok (.iload_n 1, 1) := by decide +kernel
theorem dX9_laysLeast_5 : decode cX9_laysLeast 5 = .ok (.iaload, 1) := by decide +kernel
theorem dX9_laysLeast_6 : decode cX9_laysLeast 6 = .ok (.istore_n 2, 1) := by decide +kernel
theorem dX9_laysLeast_7 : decode cX9_laysLeast 7 = .ok (.aload_n 0, 1) := by decide +kernel
theorem dX9_laysLeast_8 : decode cX9_laysLeast 8 = .ok (.getfield 53, 3) := by decide +kernel
theorem dX9_laysLeast_11 : decode cX9_laysLeast 11 = .ok (.iconst 0, 1) := by decide +kernel
theorem dX9_laysLeast_12 : decode cX9_laysLeast 12 = .ok (.sipush 784, 3) := by decide +kernel
theorem dX9_laysLeast_15 : decode cX9_laysLeast 15 = .ok (.iastore, 1) := by decide +kernel
theorem dX9_laysLeast_16 : decode cX9_laysLeast 16 = .ok (.iconst 0, 1) := by decide +kernel
theorem dX9_laysLeast_17 : decode cX9_laysLeast 17 = .ok (.istore_n 3, 1) := by decide +kernel
theorem dX9_laysLeast_18 : decode cX9_laysLeast 18 = .ok (.iload_n 3, 1) := by decide +kernel
theorem dX9_laysLeast_19 : decode cX9_laysLeast 19 = .ok (.iload_n 2, 1) := by decide +kernel
theorem dX9_laysLeast_20 : decode cX9_laysLeast 20 = .ok (.if_icmp .ge 94, 3) := by decide +kernel
theorem dX9_laysLeast_23 : decode cX9_laysLeast 23 = .ok (.iconst 0, 1) := by decide +kernel
theorem dX9_laysLeast_24 : decode cX9_laysLeast 24 = .ok (.istore 4, 2) := by decide +kernel
theorem dX9_laysLeast_26 : decode cX9_laysLeast 26 = .ok (.iload 4, 2) := by decide +kernel
theorem dX9_laysLeast_28 : decode cX9_laysLeast 28 = .ok (.iload_n 2, 1) := by decide +kernel
theorem dX9_laysLeast_29 : decode cX9_laysLeast 29 = .ok (.if_icmp .ge 18, 3) := by decide +kernel
theorem dX9_laysLeast_32 : decode cX9_laysLeast 32 = .ok (.aload_n 0, 1) := by decide +kernel
theorem dX9_laysLeast_33 : decode cX9_laysLeast 33 = .ok (.getfield 47, 3) := by decide +kernel
theorem dX9_laysLeast_36 : decode cX9_laysLeast 36 = .ok (.iload 4, 2) := by decide +kernel
theorem dX9_laysLeast_38 : decode cX9_laysLeast 38 = .ok (.iload 4, 2) := by decide +kernel
theorem dX9_laysLeast_40 : decode cX9_laysLeast 40 = .ok (.iastore, 1) := by decide +kernel
theorem dX9_laysLeast_41 : decode cX9_laysLeast 41 = .ok (.iinc 4 1, 3) := by decide +kernel
theorem dX9_laysLeast_44 : decode cX9_laysLeast 44 = .ok (.goto (-18), 3) := by decide +kernel
theorem dX9_laysLeast_47 : decode cX9_laysLeast 47 = .ok (.iconst 1, 1) := by decide +kernel
theorem dX9_laysLeast_48 : decode cX9_laysLeast 48 = .ok (.istore 4, 2) := by decide +kernel
theorem dX9_laysLeast_50 : decode cX9_laysLeast 50 = .ok (.iload 4, 2) := by decide +kernel
theorem dX9_laysLeast_52 : decode cX9_laysLeast 52 = .ok (.ifCond .eq 56, 3) := by decide +kernel
theorem dX9_laysLeast_55 : decode cX9_laysLeast 55 = .ok (.aload_n 0, 1) := by decide +kernel
theorem dX9_laysLeast_56 : decode cX9_laysLeast 56 = .ok (.iload_n 1, 1) := by decide +kernel
theorem dX9_laysLeast_57 : decode cX9_laysLeast 57 = .ok (.iload_n 3, 1) := by decide +kernel
theorem dX9_laysLeast_58 : decode cX9_laysLeast 58 = .ok (.invokevirtual 215, 3) := by decide +kernel
theorem dX9_laysLeast_61 : decode cX9_laysLeast 61 = .ok (.aload_n 0, 1) := by decide +kernel
theorem dX9_laysLeast_62 : decode cX9_laysLeast 62 = .ok (.iload_n 2, 1) := by decide +kernel
theorem dX9_laysLeast_63 : decode cX9_laysLeast 63 = .ok (.invokevirtual 219, 3) := by decide +kernel
theorem dX9_laysLeast_66 : decode cX9_laysLeast 66 = .ok (.ifCond .eq 32, 3) := by decide +kernel
theorem dX9_laysLeast_69 : decode cX9_laysLeast 69 = .ok (.iconst 0, 1) := by decide +kernel
theorem dX9_laysLeast_70 : decode cX9_laysLeast 70 = .ok (.istore 5, 2) := by decide +kernel
theorem dX9_laysLeast_72 : decode cX9_laysLeast 72 = .ok (.iload 5, 2) := by decide +kernel
theorem dX9_laysLeast_74 : decode cX9_laysLeast 74 = .ok (.iload_n 2, 1) := by decide +kernel
theorem dX9_laysLeast_75 : decode cX9_laysLeast 75 = .ok (.if_icmp .ge 23, 3) := by decide +kernel
theorem dX9_laysLeast_78 : decode cX9_laysLeast 78 = .ok (.aload_n 0, 1) := by decide +kernel
theorem dX9_laysLeast_79 : decode cX9_laysLeast 79 = .ok (.getfield 53, 3) := by decide +kernel
theorem dX9_laysLeast_82 : decode cX9_laysLeast 82 = .ok (.iload 5, 2) := by decide +kernel
theorem dX9_laysLeast_84 : decode cX9_laysLeast 84 = .ok (.aload_n 0, 1) := by decide +kernel
theorem dX9_laysLeast_85 : decode cX9_laysLeast 85 = .ok (.getfield 50, 3) := by decide +kernel
theorem dX9_laysLeast_88 : decode cX9_laysLeast 88 = .ok (.iload 5, 2) := by decide +kernel
theorem dX9_laysLeast_90 : decode cX9_laysLeast 90 = .ok (.iaload, 1) := by decide +kernel
theorem dX9_laysLeast_91 : decode cX9_laysLeast 91 = .ok (.iastore, 1) := by decide +kernel
theorem dX9_laysLeast_92 : decode cX9_laysLeast 92 = .ok (.iinc 5 1, 3) := by decide +kernel
theorem dX9_laysLeast_95 : decode cX9_laysLeast 95 = .ok (.goto (-23), 3) := by decide +kernel
theorem dX9_laysLeast_98 : decode cX9_laysLeast 98 = .ok (.aload_n 0, 1) := by decide +kernel
theorem dX9_laysLeast_99 : decode cX9_laysLeast 99 = .ok (.iload_n 2, 1) := by decide +kernel
theorem dX9_laysLeast_100 : decode cX9_laysLeast 100 = .ok (.invokevirtual 222, 3) := by decide +kernel
theorem dX9_laysLeast_103 : decode cX9_laysLeast 103 = .ok (.istore 4, 2) := by decide +kernel
theorem dX9_laysLeast_105 : decode cX9_laysLeast 105 = .ok (.goto (-55), 3) := by decide +kernel
theorem dX9_laysLeast_108 : decode cX9_laysLeast 108 = .ok (.iinc 3 1, 3) := by decide +kernel
theorem dX9_laysLeast_111 : decode cX9_laysLeast 111 = .ok (.goto (-93), 3) := by decide +kernel
theorem dX9_laysLeast_114 : decode cX9_laysLeast 114 = .ok (.return_, 1) := by decide +kernel
theorem dX9_form_0 : decode cX9_form 0 = .ok (.aload_n 0, 1) := by decide +kernel
theorem dX9_form_1 : decode cX9_form 1 = .ok (.iload_n 1, 1) := by decide +kernel
theorem dX9_form_2 : decode cX9_form 2 = .ok (.iload_n 2, 1) := by decide +kernel
theorem dX9_form_3 : decode cX9_form 3 = .ok (.invokevirtual 182, 3) := by decide +kernel
theorem dX9_form_6 : decode cX9_form 6 = .ok (.ifCond .ne 5, 3) := by decide +kernel
theorem dX9_form_9 : decode cX9_form 9 = .ok (.iconst (-1), 1) := by decide +kernel
theorem dX9_form_10 : decode cX9_form 10 = .ok (.ireturn, 1) := by decide +kernel
theorem dX9_form_11 : decode cX9_form 11 = .ok (.aload_n 0, 1) := by decide +kernel
theorem dX9_form_12 : decode cX9_form 12 = .ok (.getfield 13, 3) := by decide +kernel
theorem dX9_form_15 : decode cX9_form 15 = .ok (.iload_n 1, 1) := by decide +kernel
theorem dX9_form_16 : decode cX9_form 16 = .ok (.iaload, 1) := by decide +kernel
theorem dX9_form_17 : decode cX9_form 17 = .ok (.bipush 6, 2) := by decide +kernel
theorem dX9_form_19 : decode cX9_form 19 = .ok (.if_icmp .le 6, 3) := by decide +kernel
theorem dX9_form_22 : decode cX9_form 22 = .ok (.bipush (-2), 2) := by decide +kernel
theorem dX9_form_24 : decode cX9_form 24 = .ok (.ireturn, 1) := by decide +kernel
theorem dX9_form_25 : decode cX9_form 25 = .ok (.aload_n 0, 1) := by decide +kernel
theorem dX9_form_26 : decode cX9_form 26 = .ok (.iload_n 1, 1) := by decide +kernel
theorem dX9_form_27 : decode cX9_form 27 = .ok (.invokevirtual 225, 3) := by decide +kernel
theorem dX9_form_30 : decode cX9_form 30 = .ok (.aload_n 0, 1) := by decide +kernel
theorem dX9_form_31 : decode cX9_form 31 = .ok (.getfield 53, 3) := by decide +kernel
theorem dX9_form_34 : decode cX9_form 34 = .ok (.iload_n 2, 1) := by decide +kernel
theorem dX9_form_35 : decode cX9_form 35 = .ok (.iaload, 1) := by decide +kernel
theorem dX9_form_36 : decode cX9_form 36 = .ok (.ireturn, 1) := by decide +kernel
theorem dX9_comesUp_0 : decode cX9_comesUp 0 = .ok (.iload_n 2, 1) := by decide +kernel
theorem dX9_comesUp_1 : decode cX9_comesUp 1 = .ok (.istore_n 3, 1) := by decide +kernel
theorem dX9_comesUp_2 : decode cX9_comesUp 2 = .ok (.iload_n 3, 1) := by decide +kernel
theorem dX9_comesUp_3 : decode cX9_comesUp 3 = .ok (.iload_n 1, 1) := by decide +kernel
theorem dX9_comesUp_4 : decode cX9_comesUp 4 = .ok (.if_icmp .ge 25, 3) := by decide +kernel
theorem dX9_comesUp_7 : decode cX9_comesUp 7 = .ok (.aload_n 0, 1) := by decide +kernel
theorem dX9_comesUp_8 : decode cX9_comesUp 8 = .ok (.getfield 56, 3) := by decide +kernel
theorem dX9_comesUp_11 : decode cX9_comesUp 11 = .ok (.bipush 12, 2) := by decide +kernel
theorem dX9_comesUp_13 : decode cX9_comesUp 13 = .ok (.iload_n 3, 1) := by decide +kernel
theorem dX9_comesUp_14 : decode cX9_comesUp 14 = .ok (.imul, 1) := by decide +kernel
theorem dX9_comesUp_15 : decode cX9_comesUp 15 = .ok (.iload_n 2, 1) := by decide +kernel
theorem dX9_comesUp_16 : decode cX9_comesUp 16 = .ok (.iadd, 1) := by decide +kernel
theorem dX9_comesUp_17 : decode cX9_comesUp 17 = .ok (.laload, 1) := by decide +kernel
theorem dX9_comesUp_18 : decode cX9_comesUp 18 = .ok (.lconst 0, 1) := by decide +kernel
theorem dX9_comesUp_19 : decode cX9_comesUp 19 = .ok (.lcmp, 1) := by decide +kernel
theorem dX9_comesUp_20 : decode cX9_comesUp 20 = .ok (.ifCond .ne 9, 3) := by decide +kernel
theorem dX9_comesUp_23 : decode cX9_comesUp 23 = .ok (.iinc 3 1, 3) := by decide +kernel
theorem dX9_comesUp_26 : decode cX9_comesUp 26 = .ok (.goto (-24), 3) := by decide +kernel
theorem dX9_comesUp_29 : decode cX9_comesUp 29 = .ok (.iload_n 3, 1) := by decide +kernel
theorem dX9_comesUp_30 : decode cX9_comesUp 30 = .ok (.iload_n 1, 1) := by decide +kernel
theorem dX9_comesUp_31 : decode cX9_comesUp 31 = .ok (.if_icmp .ne 5, 3) := by decide +kernel
theorem dX9_comesUp_34 : decode cX9_comesUp 34 = .ok (.iconst 0, 1) := by decide +kernel
theorem dX9_comesUp_35 : decode cX9_comesUp 35 = .ok (.ireturn, 1) := by decide +kernel
theorem dX9_comesUp_36 : decode cX9_comesUp 36 = .ok (.iload_n 3, 1) := by decide +kernel
theorem dX9_comesUp_37 : decode cX9_comesUp 37 = .ok (.iload_n 2, 1) := by decide +kernel
theorem dX9_comesUp_38 : decode cX9_comesUp 38 = .ok (.if_icmp .ne 5, 3) := by decide +kernel
theorem dX9_comesUp_41 : decode cX9_comesUp 41 = .ok (.iconst 1, 1) := by decide +kernel
theorem dX9_comesUp_42 : decode cX9_comesUp 42 = .ok (.ireturn, 1) := by decide +kernel
theorem dX9_comesUp_43 : decode cX9_comesUp 43 = .ok (.iconst 0, 1) := by decide +kernel
theorem dX9_comesUp_44 : decode cX9_comesUp 44 = .ok (.istore 4, 2) := by decide +kernel
theorem dX9_comesUp_46 : decode cX9_comesUp 46 = .ok (.iload 4, 2) := by decide +kernel
theorem dX9_comesUp_48 : decode cX9_comesUp 48 = .ok (.iload_n 1, 1) := by decide +kernel
theorem dX9_comesUp_49 : decode cX9_comesUp 49 = .ok (.if_icmp .ge 61, 3) := by decide +kernel
theorem dX9_comesUp_52 : decode cX9_comesUp 52 = .ok (.aload_n 0, 1) := by decide +kernel
theorem dX9_comesUp_53 : decode cX9_comesUp 53 = .ok (.getfield 56, 3) := by decide +kernel
theorem dX9_comesUp_56 : decode cX9_comesUp 56 = .ok (.bipush 12, 2) := by decide +kernel
theorem dX9_comesUp_58 : decode cX9_comesUp 58 = .ok (.iload_n 2, 1) := by decide +kernel
theorem dX9_comesUp_59 : decode cX9_comesUp 59 = .ok (.imul, 1) := by decide +kernel
theorem dX9_comesUp_60 : decode cX9_comesUp 60 = .ok (.iload 4, 2) := by decide +kernel
theorem dX9_comesUp_62 : decode cX9_comesUp 62 = .ok (.iadd, 1) := by decide +kernel
theorem dX9_comesUp_63 : decode cX9_comesUp 63 = .ok (.laload, 1) := by decide +kernel
theorem dX9_comesUp_64 : decode cX9_comesUp 64 = .ok (.lstore 5, 2) := by decide +kernel
theorem dX9_comesUp_66 : decode cX9_comesUp 66 = .ok (.aload_n 0, 1) := by decide +kernel
theorem dX9_comesUp_67 : decode cX9_comesUp 67 = .ok (.getfield 56, 3) := by decide +kernel
theorem dX9_comesUp_70 : decode cX9_comesUp 70 = .ok (.bipush 12, 2) := by decide +kernel
theorem dX9_comesUp_72 : decode cX9_comesUp 72 = .ok (.iload_n 2, 1) := by decide +kernel
theorem dX9_comesUp_73 : decode cX9_comesUp 73 = .ok (.imul, 1) := by decide +kernel
theorem dX9_comesUp_74 : decode cX9_comesUp 74 = .ok (.iload 4, 2) := by decide +kernel
theorem dX9_comesUp_76 : decode cX9_comesUp 76 = .ok (.iadd, 1) := by decide +kernel
theorem dX9_comesUp_77 : decode cX9_comesUp 77 = .ok (.aload_n 0, 1) := by decide +kernel
theorem dX9_comesUp_78 : decode cX9_comesUp 78 = .ok (.getfield 56, 3) := by decide +kernel
theorem dX9_comesUp_81 : decode cX9_comesUp 81 = .ok (.bipush 12, 2) := by decide +kernel
theorem dX9_comesUp_83 : decode cX9_comesUp 83 = .ok (.iload_n 3, 1) := by decide +kernel
theorem dX9_comesUp_84 : decode cX9_comesUp 84 = .ok (.imul, 1) := by decide +kernel
theorem dX9_comesUp_85 : decode cX9_comesUp 85 = .ok (.iload 4, 2) := by decide +kernel
theorem dX9_comesUp_87 : decode cX9_comesUp 87 = .ok (.iadd, 1) := by decide +kernel
theorem dX9_comesUp_88 : decode cX9_comesUp 88 = .ok (.laload, 1) := by decide +kernel
theorem dX9_comesUp_89 : decode cX9_comesUp 89 = .ok (.lastore, 1) := by decide +kernel
theorem dX9_comesUp_90 : decode cX9_comesUp 90 = .ok (.aload_n 0, 1) := by decide +kernel
theorem dX9_comesUp_91 : decode cX9_comesUp 91 = .ok (.getfield 56, 3) := by decide +kernel
theorem dX9_comesUp_94 : decode cX9_comesUp 94 = .ok (.bipush 12, 2) := by decide +kernel
theorem dX9_comesUp_96 : decode cX9_comesUp 96 = .ok (.iload_n 3, 1) := by decide +kernel
theorem dX9_comesUp_97 : decode cX9_comesUp 97 = .ok (.imul, 1) := by decide +kernel
theorem dX9_comesUp_98 : decode cX9_comesUp 98 = .ok (.iload 4, 2) := by decide +kernel
theorem dX9_comesUp_100 : decode cX9_comesUp 100 = .ok (.iadd, 1) := by decide +kernel
theorem dX9_comesUp_101 : decode cX9_comesUp 101 = .ok (.lload 5, 2) := by decide +kernel
theorem dX9_comesUp_103 : decode cX9_comesUp 103 = .ok (.lastore, 1) := by decide +kernel
theorem dX9_comesUp_104 : decode cX9_comesUp 104 = .ok (.iinc 4 1, 3) := by decide +kernel
theorem dX9_comesUp_107 : decode cX9_comesUp 107 = .ok (.goto (-61), 3) := by decide +kernel
theorem dX9_comesUp_110 : decode cX9_comesUp 110 = .ok (.iconst (-1), 1) := by decide +kernel
theorem dX9_comesUp_111 : decode cX9_comesUp 111 = .ok (.ireturn, 1) := by decide +kernel
theorem dX9_determinant_0 : decode cX9_determinant 0 = .ok (.aload_n 0, 1) := by decide +kernel
theorem dX9_determinant_1 : decode cX9_determinant 1 = .ok (.iload_n 1, 1) := by decide +kernel
theorem dX9_determinant_2 : decode cX9_determinant 2 = .ok (.invokevirtual 86, 3) := by decide +kernel
theorem dX9_determinant_5 : decode cX9_determinant 5 = .ok (.ifCond .eq 14, 3) := by decide +kernel
theorem dX9_determinant_8 : decode cX9_determinant 8 = .ok (.aload_n 0, 1) := by decide +kernel
theorem dX9_determinant_9 : decode cX9_determinant 9 = .ok (.getfield 13, 3) := by decide +kernel
theorem dX9_determinant_12 : decode cX9_determinant 12 = .ok (.iload_n 1, 1) := by decide +kernel
theorem dX9_determinant_13 : decode cX9_determinant 13 = .ok (.iaload, 1) := by decide +kernel
theorem dX9_determinant_14 : decode cX9_determinant 14 = .ok (.bipush 12, 2) := by decide +kernel
theorem dX9_determinant_16 : decode cX9_determinant 16 = .ok (.if_icmp .le 7, 3) := by decide +kernel
theorem dX9_determinant_19 : decode cX9_determinant 19 = .ok (.ldc2_w 228, 3) := by decide +kernel
theorem dX9_determinant_22 : decode cX9_determinant 22 = .ok (.lreturn, 1) := by decide +kernel
theorem dX9_determinant_23 : decode cX9_determinant 23 = .ok (.aload_n 0, 1) := by decide +kernel
theorem dX9_determinant_24 : decode cX9_determinant 24 = .ok (.getfield 13, 3) := by decide +kernel
theorem dX9_determinant_27 : decode cX9_determinant 27 = .ok (.iload_n 1, 1) := by decide +kernel
theorem dX9_determinant_28 : decode cX9_determinant 28 = .ok (.iaload, 1) := by decide +kernel
theorem dX9_determinant_29 : decode cX9_determinant 29 = .ok (.istore_n 2, 1) := by decide +kernel
theorem dX9_determinant_30 : decode cX9_determinant 30 = .ok (.iconst 0, 1) := by decide +kernel
theorem dX9_determinant_31 : decode cX9_determinant 31 = .ok (.istore_n 3, 1) := by decide +kernel
theorem dX9_determinant_32 : decode cX9_determinant 32 = .ok (.iload_n 3, 1) := by decide +kernel
theorem dX9_determinant_33 : decode cX9_determinant 33 = .ok (.iload_n 2, 1) := by decide +kernel
theorem dX9_determinant_34 : decode cX9_determinant 34 = .ok (.if_icmp .ge 54, 3) := by decide +kernel
theorem dX9_determinant_37 : decode cX9_determinant 37 = .ok (.iconst 0, 1) := by decide +kernel
theorem dX9_determinant_38 : decode cX9_determinant 38 = .ok (.istore 4, 2) := by decide +kernel
theorem dX9_determinant_40 : decode cX9_determinant 40 = .ok (.iload 4, 2) := by decide +kernel
theorem dX9_determinant_42 : decode cX9_determinant 42 = .ok (.iload_n 2, 1) := by decide +kernel
theorem dX9_determinant_43 : decode cX9_determinant 43 = .ok (.if_icmp .ge 39, 3) := by decide +kernel
theorem dX9_determinant_46 : decode cX9_determinant 46 = .ok (.aload_n 0, 1) := by decide +kernel
theorem dX9_determinant_47 : decode cX9_determinant 47 = .ok (.getfield 56, 3) := by decide +kernel
theorem dX9_determinant_50 : decode cX9_determinant 50 = .ok (.bipush 12, 2) := by decide +kernel
theorem dX9_determinant_52 : decode cX9_determinant 52 = .ok (.iload_n 3, 1) := by decide +kernel
theorem dX9_determinant_53 : decode cX9_determinant 53 = .ok (.imul, 1) := by decide +kernel
theorem dX9_determinant_54 : decode cX9_determinant 54 = .ok (.iload 4, 2) := by decide +kernel
theorem dX9_determinant_56 : decode cX9_determinant 56 = .ok (.iadd, 1) := by decide +kernel
theorem dX9_determinant_57 : decode cX9_determinant 57 = .ok (.aload_n 0, 1) := by decide +kernel
theorem dX9_determinant_58 : decode cX9_determinant 58 = .ok (.iload_n 1, 1) := by decide +kernel
theorem dX9_determinant_59 : decode cX9_determinant 59 = .ok (.iload_n 3, 1) := by decide +kernel
theorem dX9_determinant_60 : decode cX9_determinant 60 = .ok (.iload 4, 2) := by decide +kernel
theorem dX9_determinant_62 : decode cX9_determinant 62 = .ok (.invokevirtual 98, 3) := by decide +kernel
theorem dX9_determinant_65 : decode cX9_determinant 65 = .ok (.ifCond .eq 9, 3) := by decide +kernel
theorem dX9_determinant_68 : decode cX9_determinant 68 = .ok (.ldc2_w 230, 3) := by decide +kernel
theorem dX9_determinant_71 : decode cX9_determinant 71 = .ok (.goto 4, 3) := by decide +kernel
theorem dX9_determinant_74 : decode cX9_determinant 74 = .ok (.lconst 1, 1) := by decide +kernel
theorem dX9_determinant_75 : decode cX9_determinant 75 = .ok (.lastore, 1) := by decide +kernel
theorem dX9_determinant_76 : decode cX9_determinant 76 = .ok (.iinc 4 1, 3) := by decide +kernel
theorem dX9_determinant_79 : decode cX9_determinant 79 = .ok (.goto (-39), 3) := by decide +kernel
theorem dX9_determinant_82 : decode cX9_determinant 82 = .ok (.iinc 3 1, 3) := by decide +kernel
theorem dX9_determinant_85 : decode cX9_determinant 85 = .ok (.goto (-53), 3) := by decide +kernel
theorem dX9_determinant_88 : decode cX9_determinant 88 = .ok (.lconst 1, 1) := by decide +kernel
theorem dX9_determinant_89 : decode cX9_determinant 89 = .ok (.lstore_n 3, 1) := by decide +kernel
theorem dX9_determinant_90 : decode cX9_determinant 90 = .ok (.iconst 1, 1) := by decide +kernel
theorem dX9_determinant_91 : decode cX9_determinant 91 = .ok (.istore 5, 2) := by decide +kernel
theorem dX9_determinant_93 : decode cX9_determinant 93 = .ok (.iconst 0, 1) := by decide +kernel
theorem dX9_determinant_94 : decode cX9_determinant 94 = .ok (.istore 6, 2) := by decide +kernel
theorem dX9_determinant_96 : decode cX9_determinant 96 = .ok (.iload 6, 2) := by decide +kernel
theorem dX9_determinant_98 : decode cX9_determinant 98 = .ok (.iconst 1, 1) := by decide +kernel
theorem dX9_determinant_99 : decode cX9_determinant 99 = .ok (.iadd, 1) := by decide +kernel
theorem dX9_determinant_100 : decode cX9_determinant 100 = .ok (.iload_n 2, 1) := by decide +kernel
theorem dX9_determinant_101 : decode cX9_determinant 101 = .ok (.if_icmp .ge 148, 3) := by decide +kernel
theorem dX9_determinant_104 : decode cX9_determinant 104 = .ok (.iload 5, 2) := by decide +kernel
theorem dX9_determinant_106 : decode cX9_determinant 106 = .ok (.aload_n 0, 1) := by decide +kernel
theorem dX9_determinant_107 : decode cX9_determinant 107 = .ok (.iload_n 2, 1) := by decide +kernel
theorem dX9_determinant_108 : decode cX9_determinant 108 = .ok (.iload 6, 2) := by decide +kernel
theorem dX9_determinant_110 : decode cX9_determinant 110 = .ok (.invokevirtual 232, 3) := by decide +kernel
theorem dX9_determinant_113 : decode cX9_determinant 113 = .ok (.imul, 1) := by decide +kernel
theorem dX9_determinant_114 : decode cX9_determinant 114 = .ok (.istore 5, 2) := by decide +kernel
theorem dX9_determinant_116 : decode cX9_determinant 116 = .ok (.iload 5, 2) := by decide +kernel
theorem dX9_determinant_118 : decode cX9_determinant 118 = .ok (.ifCond .ne 5, 3) := by decide +kernel
theorem dX9_determinant_121 : decode cX9_determinant 121 = .ok (.lconst 0, 1) := by decide +kernel
theorem dX9_determinant_122 : decode cX9_determinant 122 = .ok (.lreturn, 1) := by decide +kernel
theorem dX9_determinant_123 : decode cX9_determinant 123 = .ok (.iload 6, 2) := by decide +kernel
theorem dX9_determinant_125 : decode cX9_determinant 125 = .ok (.iconst 1, 1) := by decide +kernel
theorem dX9_determinant_126 : decode cX9_determinant 126 = .ok (.iadd, 1) := by decide +kernel
theorem dX9_determinant_127 : decode cX9_determinant 127 = .ok (.istore 7, 2) := by decide +kernel
theorem dX9_determinant_129 : decode cX9_determinant 129 = .ok (.iload 7, 2) := by decide +kernel
theorem dX9_determinant_131 : decode cX9_determinant 131 = .ok (.iload_n 2, 1) := by decide +kernel
theorem dX9_determinant_132 : decode cX9_determinant 132 = .ok (.if_icmp .ge 97, 3) := by decide +kernel
theorem dX9_determinant_135 : decode cX9_determinant 135 = .ok (.iload 6, 2) := by decide +kernel
theorem dX9_determinant_137 : decode cX9_determinant 137 = .ok (.iconst 1, 1) := by decide +kernel
theorem dX9_determinant_138 : decode cX9_determinant 138 = .ok (.iadd, 1) := by decide +kernel
theorem dX9_determinant_139 : decode cX9_determinant 139 = .ok (.istore 8, 2) := by decide +kernel
theorem dX9_determinant_141 : decode cX9_determinant 141 = .ok (.iload 8, 2) := by decide +kernel
theorem dX9_determinant_143 : decode cX9_determinant 143 = .ok (.iload_n 2, 1) := by decide +kernel
theorem dX9_determinant_144 : decode cX9_determinant 144 = .ok (.if_icmp .ge 79, 3) := by decide +kernel
theorem dX9_determinant_147 : decode cX9_determinant 147 = .ok (.aload_n 0, 1) := by decide +kernel
theorem dX9_determinant_148 : decode cX9_determinant 148 = .ok (.getfield 56, 3) := by decide +kernel
theorem dX9_determinant_151 : decode cX9_determinant 151 = .ok (.bipush 12, 2) := by decide +kernel
theorem dX9_determinant_153 : decode cX9_determinant 153 = .ok (.iload 7, 2) := by decide +kernel
theorem dX9_determinant_155 : decode cX9_determinant 155 = .ok (.imul, 1) := by decide +kernel
theorem dX9_determinant_156 : decode cX9_determinant 156 = .ok (.iload 8, 2) := by decide +kernel
theorem dX9_determinant_158 : decode cX9_determinant 158 = .ok (.iadd, 1) := by decide +kernel
theorem dX9_determinant_159 : decode cX9_determinant 159 = .ok (.aload_n 0, 1) := by decide +kernel
theorem dX9_determinant_160 : decode cX9_determinant 160 = .ok (.getfield 56, 3) := by decide +kernel
theorem dX9_determinant_163 : decode cX9_determinant 163 = .ok (.bipush 12, 2) := by decide +kernel
theorem dX9_determinant_165 : decode cX9_determinant 165 = .ok (.iload 7, 2) := by decide +kernel
theorem dX9_determinant_167 : decode cX9_determinant 167 = .ok (.imul, 1) := by decide +kernel
theorem dX9_determinant_168 : decode cX9_determinant 168 = .ok (.iload 8, 2) := by decide +kernel
theorem dX9_determinant_170 : decode cX9_determinant 170 = .ok (.iadd, 1) := by decide +kernel
theorem dX9_determinant_171 : decode cX9_determinant 171 = .ok (.laload, 1) := by decide +kernel
theorem dX9_determinant_172 : decode cX9_determinant 172 = .ok (.aload_n 0, 1) := by decide +kernel
theorem dX9_determinant_173 : decode cX9_determinant 173 = .ok (.getfield 56, 3) := by decide +kernel
theorem dX9_determinant_176 : decode cX9_determinant 176 = .ok (.bipush 12, 2) := by decide +kernel
theorem dX9_determinant_178 : decode cX9_determinant 178 = .ok (.iload 6, 2) := by decide +kernel
theorem dX9_determinant_180 : decode cX9_determinant 180 = .ok (.imul, 1) := by decide +kernel
theorem dX9_determinant_181 : decode cX9_determinant 181 = .ok (.iload 6, 2) := by decide +kernel
theorem dX9_determinant_183 : decode cX9_determinant 183 = .ok (.iadd, 1) := by decide +kernel
theorem dX9_determinant_184 : decode cX9_determinant 184 = .ok (.laload, 1) := by decide +kernel
theorem dX9_determinant_185 : decode cX9_determinant 185 = .ok (.lmul, 1) := by decide +kernel
theorem dX9_determinant_186 : decode cX9_determinant 186 = .ok (.aload_n 0, 1) := by decide +kernel
theorem dX9_determinant_187 : decode cX9_determinant 187 = .ok (.getfield 56, 3) := by decide +kernel
theorem dX9_determinant_190 : decode cX9_determinant 190 = .ok (.bipush 12, 2) := by decide +kernel
theorem dX9_determinant_192 : decode cX9_determinant 192 = .ok (.iload 7, 2) := by decide +kernel
theorem dX9_determinant_194 : decode cX9_determinant 194 = .ok (.imul, 1) := by decide +kernel
theorem dX9_determinant_195 : decode cX9_determinant 195 = .ok (.iload 6, 2) := by decide +kernel
theorem dX9_determinant_197 : decode cX9_determinant 197 = .ok (.iadd, 1) := by decide +kernel
theorem dX9_determinant_198 : decode cX9_determinant 198 = .ok (.laload, 1) := by decide +kernel
theorem dX9_determinant_199 : decode cX9_determinant 199 = .ok (.aload_n 0, 1) := by decide +kernel
theorem dX9_determinant_200 : decode cX9_determinant 200 = .ok (.getfield 56, 3) := by decide +kernel
theorem dX9_determinant_203 : decode cX9_determinant 203 = .ok (.bipush 12, 2) := by decide +kernel
theorem dX9_determinant_205 : decode cX9_determinant 205 = .ok (.iload 6, 2) := by decide +kernel
theorem dX9_determinant_207 : decode cX9_determinant 207 = .ok (.imul, 1) := by decide +kernel
theorem dX9_determinant_208 : decode cX9_determinant 208 = .ok (.iload 8, 2) := by decide +kernel
theorem dX9_determinant_210 : decode cX9_determinant 210 = .ok (.iadd, 1) := by decide +kernel
theorem dX9_determinant_211 : decode cX9_determinant 211 = .ok (.laload, 1) := by decide +kernel
theorem dX9_determinant_212 : decode cX9_determinant 212 = .ok (.lmul, 1) := by decide +kernel
theorem dX9_determinant_213 : decode cX9_determinant 213 = .ok (.lsub, 1) := by decide +kernel
theorem dX9_determinant_214 : decode cX9_determinant 214 = .ok (.lload_n 3, 1) := by decide +kernel
theorem dX9_determinant_215 : decode cX9_determinant 215 = .ok (.ldiv, 1) := by decide +kernel
theorem dX9_determinant_216 : decode cX9_determinant 216 = .ok (.lastore, 1) := by decide +kernel
theorem dX9_determinant_217 : decode cX9_determinant 217 = .ok (.iinc 8 1, 3) := by decide +kernel
theorem dX9_determinant_220 : decode cX9_determinant 220 = .ok (.goto (-79), 3) := by decide +kernel
theorem dX9_determinant_223 : decode cX9_determinant 223 = .ok (.iinc 7 1, 3) := by decide +kernel
theorem dX9_determinant_226 : decode cX9_determinant 226 = .ok (.goto (-97), 3) := by decide +kernel
theorem dX9_determinant_229 : decode cX9_determinant 229 = .ok (.aload_n 0, 1) := by decide +kernel
theorem dX9_determinant_230 : decode cX9_determinant 230 = .ok (.getfield 56, 3) := by decide +kernel
theorem dX9_determinant_233 : decode cX9_determinant 233 = .ok (.bipush 12, 2) := by decide +kernel
theorem dX9_determinant_235 : decode cX9_determinant 235 = .ok (.iload 6, 2) := by decide +kernel
theorem dX9_determinant_237 : decode cX9_determinant 237 = .ok (.imul, 1) := by decide +kernel
theorem dX9_determinant_238 : decode cX9_determinant 238 = .ok (.iload 6, 2) := by decide +kernel
theorem dX9_determinant_240 : decode cX9_determinant 240 = .ok (.iadd, 1) := by decide +kernel
theorem dX9_determinant_241 : decode cX9_determinant 241 = .ok (.laload, 1) := by decide +kernel
theorem dX9_determinant_242 : decode cX9_determinant 242 = .ok (.lstore_n 3, 1) := by decide +kernel
theorem dX9_determinant_243 : decode cX9_determinant 243 = .ok (.iinc 6 1, 3) := by decide +kernel
theorem dX9_determinant_246 : decode cX9_determinant 246 = .ok (.goto (-150), 3) := by decide +kernel
theorem dX9_determinant_249 : decode cX9_determinant 249 = .ok (.iload 5, 2) := by decide +kernel
theorem dX9_determinant_251 : decode cX9_determinant 251 = .ok (.i2l, 1) := by decide +kernel
theorem dX9_determinant_252 : decode cX9_determinant 252 = .ok (.aload_n 0, 1) := by decide +kernel
theorem dX9_determinant_253 : decode cX9_determinant 253 = .ok (.getfield 56, 3) := by decide +kernel
theorem dX9_determinant_256 : decode cX9_determinant 256 = .ok (.bipush 12, 2) := by decide +kernel
theorem dX9_determinant_258 : decode cX9_determinant 258 = .ok (.iload_n 2, 1) := by decide +kernel
theorem dX9_determinant_259 : decode cX9_determinant 259 = .ok (.iconst 1, 1) := by decide +kernel
theorem dX9_determinant_260 : decode cX9_determinant 260 = .ok (.isub, 1) := by decide +kernel
theorem dX9_determinant_261 : decode cX9_determinant 261 = .ok (.imul, 1) := by decide +kernel
theorem dX9_determinant_262 : decode cX9_determinant 262 = .ok (.iload_n 2, 1) := by decide +kernel
theorem dX9_determinant_263 : decode cX9_determinant 263 = .ok (.iadd, 1) := by decide +kernel
theorem dX9_determinant_264 : decode cX9_determinant 264 = .ok (.iconst 1, 1) := by decide +kernel
theorem dX9_determinant_265 : decode cX9_determinant 265 = .ok (.isub, 1) := by decide +kernel
theorem dX9_determinant_266 : decode cX9_determinant 266 = .ok (.laload, 1) := by decide +kernel
theorem dX9_determinant_267 : decode cX9_determinant 267 = .ok (.lmul, 1) := by decide +kernel
theorem dX9_determinant_268 : decode cX9_determinant 268 = .ok (.lreturn, 1) := by decide +kernel
theorem dX9_isUsed_0 : decode cX9_isUsed 0 = .ok (.iconst 0, 1) := by decide +kernel
theorem dX9_isUsed_1 : decode cX9_isUsed 1 = .ok (.istore_n 2, 1) := by decide +kernel
theorem dX9_isUsed_2 : decode cX9_isUsed 2 = .ok (.iload_n 2, 1) := by decide +kernel
theorem dX9_isUsed_3 : decode cX9_isUsed 3 = .ok (.iload_n 1, 1) := by decide +kernel
theorem dX9_isUsed_4 : decode cX9_isUsed 4 = .ok (.if_icmp .ge 30, 3) := by decide +kernel
theorem dX9_isUsed_7 : decode cX9_isUsed 7 = .ok (.aload_n 0, 1) := by decide +kernel
theorem dX9_isUsed_8 : decode cX9_isUsed 8 = .ok (.getfield 60, 3) := by decide +kernel
theorem dX9_isUsed_11 : decode cX9_isUsed 11 = .ok (.iload_n 2, 1) := by decide +kernel
theorem dX9_isUsed_12 : decode cX9_isUsed 12 = .ok (.iaload, 1) := by decide +kernel
theorem dX9_isUsed_13 : decode cX9_isUsed 13 = .ok (.iconst 2, 1) := by decide +kernel
theorem dX9_isUsed_14 : decode cX9_isUsed 14 = .ok (.idiv, 1) := by decide +kernel
theorem dX9_isUsed_15 : decode cX9_isUsed 15 = .ok (.aload_n 0, 1) := by decide +kernel
theorem dX9_isUsed_16 : decode cX9_isUsed 16 = .ok (.getfield 60, 3) := by decide +kernel
theorem dX9_isUsed_19 : decode cX9_isUsed 19 = .ok (.iload_n 1, 1) := by decide +kernel
theorem dX9_isUsed_20 : decode cX9_isUsed 20 = .ok (.iaload, 1) := by decide +kernel
theorem dX9_isUsed_21 : decode cX9_isUsed 21 = .ok (.iconst 2, 1) := by decide +kernel
theorem dX9_isUsed_22 : decode cX9_isUsed 22 = .ok (.idiv, 1) := by decide +kernel
theorem dX9_isUsed_23 : decode cX9_isUsed 23 = .ok (.if_icmp .ne 5, 3) := by decide +kernel
theorem dX9_isUsed_26 : decode cX9_isUsed 26 = .ok (.iconst 1, 1) := by decide +kernel
theorem dX9_isUsed_27 : decode cX9_isUsed 27 = .ok (.ireturn, 1) := by decide +kernel
theorem dX9_isUsed_28 : decode cX9_isUsed 28 = .ok (.iinc 2 1, 3) := by decide +kernel
theorem dX9_isUsed_31 : decode cX9_isUsed 31 = .ok (.goto (-29), 3) := by decide +kernel
theorem dX9_isUsed_34 : decode cX9_isUsed 34 = .ok (.iconst 0, 1) := by decide +kernel
theorem dX9_isUsed_35 : decode cX9_isUsed 35 = .ok (.ireturn, 1) := by decide +kernel
theorem dX9_plain_0 : decode cX9_plain 0 = .ok (.iload_n 0, 1) := by decide +kernel
theorem dX9_plain_1 : decode cX9_plain 1 = .ok (.iconst 1, 1) := by decide +kernel
theorem dX9_plain_2 : decode cX9_plain 2 = .ok (.iload_n 1, 1) := by decide +kernel
theorem dX9_plain_3 : decode cX9_plain 3 = .ok (.ishl, 1) := by decide +kernel
theorem dX9_plain_4 : decode cX9_plain 4 = .ok (.iconst 1, 1) := by decide +kernel
theorem dX9_plain_5 : decode cX9_plain 5 = .ok (.isub, 1) := by decide +kernel
theorem dX9_plain_6 : decode cX9_plain 6 = .ok (.ixor, 1) := by decide +kernel
theorem dX9_plain_7 : decode cX9_plain 7 = .ok (.istore_n 2, 1) := by decide +kernel
theorem dX9_plain_8 : decode cX9_plain 8 = .ok (.iload_n 0, 1) := by decide +kernel
theorem dX9_plain_9 : decode cX9_plain 9 = .ok (.iload_n 2, 1) := by decide +kernel
theorem dX9_plain_10 : decode cX9_plain 10 = .ok (.if_icmp .ge 7, 3) := by decide +kernel
theorem dX9_plain_13 : decode cX9_plain 13 = .ok (.iload_n 0, 1) := by decide +kernel
theorem dX9_plain_14 : decode cX9_plain 14 = .ok (.goto 4, 3) := by decide +kernel
theorem dX9_plain_17 : decode cX9_plain 17 = .ok (.iload_n 2, 1) := by decide +kernel
theorem dX9_plain_18 : decode cX9_plain 18 = .ok (.ireturn, 1) := by decide +kernel
theorem dX9_agrees_0 : decode cX9_agrees 0 = .ok (.aload_n 0, 1) := by decide +kernel
theorem dX9_agrees_1 : decode cX9_agrees 1 = .ok (.getfield 13, 3) := by decide +kernel
theorem dX9_agrees_4 : decode cX9_agrees 4 = .ok (.iload_n 1, 1) := by decide +kernel
theorem dX9_agrees_5 : decode cX9_agrees 5 = .ok (.iaload, 1) := by decide +kernel
theorem dX9_agrees_6 : decode cX9_agrees 6 = .ok (.istore 4, 2) := by decide +kernel
theorem dX9_agrees_8 : decode cX9_agrees 8 = .ok (.iconst 0, 1) := by decide +kernel
theorem dX9_agrees_9 : decode cX9_agrees 9 = .ok (.istore 5, 2) := by decide +kernel
theorem dX9_agrees_11 : decode cX9_agrees 11 = .ok (.iload 5, 2) := by decide +kernel
theorem dX9_agrees_13 : decode cX9_agrees 13 = .ok (.iload 4, 2) := by decide +kernel
theorem dX9_agrees_15 : decode cX9_agrees 15 = .ok (.if_icmp .ge 131, 3) := by decide +kernel
theorem dX9_agrees_18 : decode cX9_agrees 18 = .ok (.aload_n 0, 1) := by decide +kernel
theorem dX9_agrees_19 : decode cX9_agrees 19 = .ok (.iload_n 1, 1) := by decide +kernel
theorem dX9_agrees_20 : decode cX9_agrees 20 = .ok (.iload_n 3, 1) := by decide +kernel
theorem dX9_agrees_21 : decode cX9_agrees 21 = .ok (.iload 5, 2) := by decide +kernel
theorem dX9_agrees_23 : decode cX9_agrees 23 = .ok (.invokevirtual 98, 3) := by decide +kernel
theorem dX9_agrees_26 : decode cX9_agrees 26 = .ok (.aload_n 0, 1) := by decide +kernel
theorem dX9_agrees_27 : decode cX9_agrees 27 = .ok (.getfield 60, 3) := by decide +kernel
theorem dX9_agrees_30 : decode cX9_agrees 30 = .ok (.iload_n 3, 1) := by decide +kernel
theorem dX9_agrees_31 : decode cX9_agrees 31 = .ok (.iaload, 1) := by decide +kernel
theorem dX9_agrees_32 : decode cX9_agrees 32 = .ok (.iconst 2, 1) := by decide +kernel
theorem dX9_agrees_33 : decode cX9_agrees 33 = .ok (.irem, 1) := by decide +kernel
theorem dX9_agrees_34 : decode cX9_agrees 34 = .ok (.iconst 1, 1) := by decide +kernel
theorem dX9_agrees_35 : decode cX9_agrees 35 = .ok (.if_icmp .ne 7, 3) := by decide +kernel
theorem dX9_agrees_38 : decode cX9_agrees 38 = .ok (.iconst 1, 1) := by decide +kernel
theorem dX9_agrees_39 : decode cX9_agrees 39 = .ok (.goto 4, 3) := by decide +kernel
theorem dX9_agrees_42 : decode cX9_agrees 42 = .ok (.iconst 0, 1) := by decide +kernel
theorem dX9_agrees_43 : decode cX9_agrees 43 = .ok (.if_icmp .eq 7, 3) := by decide +kernel
theorem dX9_agrees_46 : decode cX9_agrees 46 = .ok (.iconst 1, 1) := by decide +kernel
theorem dX9_agrees_47 : decode cX9_agrees 47 = .ok (.goto 4, 3) := by decide +kernel
theorem dX9_agrees_50 : decode cX9_agrees 50 = .ok (.iconst 0, 1) := by decide +kernel
theorem dX9_agrees_51 : decode cX9_agrees 51 = .ok (.istore 6, 2) := by decide +kernel
theorem dX9_agrees_53 : decode cX9_agrees 53 = .ok (.aload_n 0, 1) := by decide +kernel
theorem dX9_agrees_54 : decode cX9_agrees 54 = .ok (.iload_n 2, 1) := by decide +kernel
theorem dX9_agrees_55 : decode cX9_agrees 55 = .ok (.aload_n 0, 1) := by decide +kernel
theorem dX9_agrees_56 : decode cX9_agrees 56 = .ok (.getfield 60, 3) := by decide +kernel
theorem dX9_agrees_59 : decode cX9_agrees 59 = .ok (.iload_n 3, 1) := by decide +kernel
theorem dX9_agrees_60 : decode cX9_agrees 60 = .ok (.iaload, 1) := by decide +kernel
theorem dX9_agrees_61 : decode cX9_agrees 61 = .ok (.iconst 2, 1) := by decide +kernel
theorem dX9_agrees_62 : decode cX9_agrees 62 = .ok (.idiv, 1) := by decide +kernel
theorem dX9_agrees_63 : decode cX9_agrees 63 = .ok (.iload 5, 2) := by decide +kernel
theorem dX9_agrees_65 : decode cX9_agrees 65 = .ok (.invokevirtual 98, 3) := by decide +kernel
theorem dX9_agrees_68 : decode cX9_agrees 68 = .ok (.ifCond .eq 7, 3) := by decide +kernel
theorem dX9_agrees_71 : decode cX9_agrees 71 = .ok (.iconst 1, 1) := by decide +kernel
theorem dX9_agrees_72 : decode cX9_agrees 72 = .ok (.goto 4, 3) := by decide +kernel
theorem dX9_agrees_75 : decode cX9_agrees 75 = .ok (.iconst 0, 1) := by decide +kernel
theorem dX9_agrees_76 : decode cX9_agrees 76 = .ok (.istore 7, 2) := by decide +kernel
theorem dX9_agrees_78 : decode cX9_agrees 78 = .ok (.aload_n 0, 1) := by decide +kernel
theorem dX9_agrees_79 : decode cX9_agrees 79 = .ok (.getfield 66, 3) := by decide +kernel
theorem dX9_agrees_82 : decode cX9_agrees 82 = .ok (.bipush 12, 2) := by decide +kernel
theorem dX9_agrees_84 : decode cX9_agrees 84 = .ok (.iload_n 3, 1) := by decide +kernel
theorem dX9_agrees_85 : decode cX9_agrees 85 = .ok (.iconst 1, 1) := by decide +kernel
theorem dX9_agrees_86 : decode cX9_agrees 86 = .ok (.iadd, 1) := by decide +kernel
theorem dX9_agrees_87 : decode cX9_agrees 87 = .ok (.imul, 1) := by decide +kernel
theorem dX9_agrees_88 : decode cX9_agrees 88 = .ok (.iload 5, 2) := by decide +kernel
theorem dX9_agrees_90 : decode cX9_agrees 90 = .ok (.iadd, 1) := by decide +kernel
theorem dX9_agrees_91 : decode cX9_agrees 91 = .ok (.iconst 2, 1) := by decide +kernel
theorem dX9_agrees_92 : decode cX9_agrees 92 = .ok (.aload_n 0, 1) := by decide +kernel
theorem dX9_agrees_93 : decode cX9_agrees 93 = .ok (.getfield 66, 3) := by decide +kernel
theorem dX9_agrees_96 : decode cX9_agrees 96 = .ok (.bipush 12, 2) := by decide +kernel
theorem dX9_agrees_98 : decode cX9_agrees 98 = .ok (.iload_n 3, 1) := by decide +kernel
theorem dX9_agrees_99 : decode cX9_agrees 99 = .ok (.imul, 1) := by decide +kernel
theorem dX9_agrees_100 : decode cX9_agrees 100 = .ok (.iload 5, 2) := by decide +kernel
theorem dX9_agrees_102 : decode cX9_agrees 102 = .ok (.iadd, 1) := by decide +kernel
theorem dX9_agrees_103 : decode cX9_agrees 103 = .ok (.iaload, 1) := by decide +kernel
theorem dX9_agrees_104 : decode cX9_agrees 104 = .ok (.imul, 1) := by decide +kernel
theorem dX9_agrees_105 : decode cX9_agrees 105 = .ok (.iload 6, 2) := by decide +kernel
theorem dX9_agrees_107 : decode cX9_agrees 107 = .ok (.iadd, 1) := by decide +kernel
theorem dX9_agrees_108 : decode cX9_agrees 108 = .ok (.iastore, 1) := by decide +kernel
theorem dX9_agrees_109 : decode cX9_agrees 109 = .ok (.aload_n 0, 1) := by decide +kernel
theorem dX9_agrees_110 : decode cX9_agrees 110 = .ok (.getfield 69, 3) := by decide +kernel
theorem dX9_agrees_113 : decode cX9_agrees 113 = .ok (.bipush 12, 2) := by decide +kernel
theorem dX9_agrees_115 : decode cX9_agrees 115 = .ok (.iload_n 3, 1) := by decide +kernel
theorem dX9_agrees_116 : decode cX9_agrees 116 = .ok (.iconst 1, 1) := by decide +kernel
theorem dX9_agrees_117 : decode cX9_agrees 117 = .ok (.iadd, 1) := by decide +kernel
theorem dX9_agrees_118 : decode cX9_agrees 118 = .ok (.imul, 1) := by decide +kernel
theorem dX9_agrees_119 : decode cX9_agrees 119 = .ok (.iload 5, 2) := by decide +kernel
theorem dX9_agrees_121 : decode cX9_agrees 121 = .ok (.iadd, 1) := by decide +kernel
theorem dX9_agrees_122 : decode cX9_agrees 122 = .ok (.iconst 2, 1) := by decide +kernel
theorem dX9_agrees_123 : decode cX9_agrees 123 = .ok (.aload_n 0, 1) := by decide +kernel
theorem dX9_agrees_124 : decode cX9_agrees 124 = .ok (.getfield 69, 3) := by decide +kernel
theorem dX9_agrees_127 : decode cX9_agrees 127 = .ok (.bipush 12, 2) := by decide +kernel
theorem dX9_agrees_129 : decode cX9_agrees 129 = .ok (.iload_n 3, 1) := by decide +kernel
theorem dX9_agrees_130 : decode cX9_agrees 130 = .ok (.imul, 1) := by decide +kernel
theorem dX9_agrees_131 : decode cX9_agrees 131 = .ok (.iload 5, 2) := by decide +kernel
theorem dX9_agrees_133 : decode cX9_agrees 133 = .ok (.iadd, 1) := by decide +kernel
theorem dX9_agrees_134 : decode cX9_agrees 134 = .ok (.iaload, 1) := by decide +kernel
theorem dX9_agrees_135 : decode cX9_agrees 135 = .ok (.imul, 1) := by decide +kernel
theorem dX9_agrees_136 : decode cX9_agrees 136 = .ok (.iload 7, 2) := by decide +kernel
theorem dX9_agrees_138 : decode cX9_agrees 138 = .ok (.iadd, 1) := by decide +kernel
theorem dX9_agrees_139 : decode cX9_agrees 139 = .ok (.iastore, 1) := by decide +kernel
theorem dX9_agrees_140 : decode cX9_agrees 140 = .ok (.iinc 5 1, 3) := by decide +kernel
theorem dX9_agrees_143 : decode cX9_agrees 143 = .ok (.goto (-132), 3) := by decide +kernel
theorem dX9_agrees_146 : decode cX9_agrees 146 = .ok (.iconst 0, 1) := by decide +kernel
theorem dX9_agrees_147 : decode cX9_agrees 147 = .ok (.istore 5, 2) := by decide +kernel
theorem dX9_agrees_149 : decode cX9_agrees 149 = .ok (.iload 5, 2) := by decide +kernel
theorem dX9_agrees_151 : decode cX9_agrees 151 = .ok (.iload 4, 2) := by decide +kernel
theorem dX9_agrees_153 : decode cX9_agrees 153 = .ok (.if_icmp .ge 113, 3) := by decide +kernel
theorem dX9_agrees_156 : decode cX9_agrees 156 = .ok (.aload_n 0, 1) := by decide +kernel
theorem dX9_agrees_157 : decode cX9_agrees 157 = .ok (.getfield 66, 3) := by decide +kernel
theorem dX9_agrees_160 : decode cX9_agrees 160 = .ok (.bipush 12, 2) := by decide +kernel
theorem dX9_agrees_162 : decode cX9_agrees 162 = .ok (.iload_n 3, 1) := by decide +kernel
theorem dX9_agrees_163 : decode cX9_agrees 163 = .ok (.iconst 1, 1) := by decide +kernel
theorem dX9_agrees_164 : decode cX9_agrees 164 = .ok (.iadd, 1) := by decide +kernel
theorem dX9_agrees_165 : decode cX9_agrees 165 = .ok (.imul, 1) := by decide +kernel
theorem dX9_agrees_166 : decode cX9_agrees 166 = .ok (.iload 5, 2) := by decide +kernel
theorem dX9_agrees_168 : decode cX9_agrees 168 = .ok (.iadd, 1) := by decide +kernel
theorem dX9_agrees_169 : decode cX9_agrees 169 = .ok (.iaload, 1) := by decide +kernel
theorem dX9_agrees_170 : decode cX9_agrees 170 = .ok (.iload_n 3, 1) := by decide +kernel
theorem dX9_agrees_171 : decode cX9_agrees 171 = .ok (.iconst 1, 1) := by decide +kernel
theorem dX9_agrees_172 : decode cX9_agrees 172 = .ok (.iadd, 1) := by decide +kernel
theorem dX9_agrees_173 : decode cX9_agrees 173 = .ok (.invokestatic 235, 3) := by decide +kernel
theorem dX9_agrees_176 : decode cX9_agrees 176 = .ok (.istore 6, 2) := by decide +kernel
theorem dX9_agrees_178 : decode cX9_agrees 178 = .ok (.iconst 0, 1) := by decide +kernel
theorem dX9_agrees_179 : decode cX9_agrees 179 = .ok (.istore 7, 2) := by decide +kernel
theorem dX9_agrees_181 : decode cX9_agrees 181 = .ok (.iconst 0, 1) := by decide +kernel
theorem dX9_agrees_182 : decode cX9_agrees 182 = .ok (.istore 8, 2) := by decide +kernel
theorem dX9_agrees_184 : decode cX9_agrees 184 = .ok (.iload 8, 2) := by decide +kernel
theorem dX9_agrees_186 : decode cX9_agrees 186 = .ok (.iload 4, 2) := by decide +kernel
theorem dX9_agrees_188 : decode cX9_agrees 188 = .ok (.if_icmp .ge 65, 3) := by decide +kernel
theorem dX9_agrees_191 : decode cX9_agrees 191 = .ok (.aload_n 0, 1) := by decide +kernel
theorem dX9_agrees_192 : decode cX9_agrees 192 = .ok (.getfield 66, 3) := by decide +kernel
theorem dX9_agrees_195 : decode cX9_agrees 195 = .ok (.bipush 12, 2) := by decide +kernel
theorem dX9_agrees_197 : decode cX9_agrees 197 = .ok (.iload_n 3, 1) := by decide +kernel
theorem dX9_agrees_198 : decode cX9_agrees 198 = .ok (.iconst 1, 1) := by decide +kernel
theorem dX9_agrees_199 : decode cX9_agrees 199 = .ok (.iadd, 1) := by decide +kernel
theorem dX9_agrees_200 : decode cX9_agrees 200 = .ok (.imul, 1) := by decide +kernel
theorem dX9_agrees_201 : decode cX9_agrees 201 = .ok (.iload 8, 2) := by decide +kernel
theorem dX9_agrees_203 : decode cX9_agrees 203 = .ok (.iadd, 1) := by decide +kernel
theorem dX9_agrees_204 : decode cX9_agrees 204 = .ok (.iaload, 1) := by decide +kernel
theorem dX9_agrees_205 : decode cX9_agrees 205 = .ok (.iload_n 3, 1) := by decide +kernel
theorem dX9_agrees_206 : decode cX9_agrees 206 = .ok (.iconst 1, 1) := by decide +kernel
theorem dX9_agrees_207 : decode cX9_agrees 207 = .ok (.iadd, 1) := by decide +kernel
theorem dX9_agrees_208 : decode cX9_agrees 208 = .ok (.invokestatic 235, 3) := by decide +kernel
theorem dX9_agrees_211 : decode cX9_agrees 211 = .ok (.iload 6, 2) := by decide +kernel
theorem dX9_agrees_213 : decode cX9_agrees 213 = .ok (.if_icmp .ne 6, 3) := by decide +kernel
theorem dX9_agrees_216 : decode cX9_agrees 216 = .ok (.iinc 7 1, 3) := by decide +kernel
theorem dX9_agrees_219 : decode cX9_agrees 219 = .ok (.aload_n 0, 1) := by decide +kernel
theorem dX9_agrees_220 : decode cX9_agrees 220 = .ok (.getfield 69, 3) := by decide +kernel
theorem dX9_agrees_223 : decode cX9_agrees 223 = .ok (.bipush 12, 2) := by decide +kernel
theorem dX9_agrees_225 : decode cX9_agrees 225 = .ok (.iload_n 3, 1) := by decide +kernel
theorem dX9_agrees_226 : decode cX9_agrees 226 = .ok (.iconst 1, 1) := by decide +kernel
theorem dX9_agrees_227 : decode cX9_agrees 227 = .ok (.iadd, 1) := by decide +kernel
theorem dX9_agrees_228 : decode cX9_agrees 228 = .ok (.imul, 1) := by decide +kernel
theorem dX9_agrees_229 : decode cX9_agrees 229 = .ok (.iload 8, 2) := by decide +kernel
theorem dX9_agrees_231 : decode cX9_agrees 231 = .ok (.iadd, 1) := by decide +kernel
theorem dX9_agrees_232 : decode cX9_agrees 232 = .ok (.iaload, 1) := by decide +kernel
theorem dX9_agrees_233 : decode cX9_agrees 233 = .ok (.iload_n 3, 1) := by decide +kernel
theorem dX9_agrees_234 : decode cX9_agrees 234 = .ok (.iconst 1, 1) := by decide +kernel
theorem dX9_agrees_235 : decode cX9_agrees 235 = .ok (.iadd, 1) := by decide +kernel
theorem dX9_agrees_236 : decode cX9_agrees 236 = .ok (.invokestatic 235, 3) := by decide +kernel
theorem dX9_agrees_239 : decode cX9_agrees 239 = .ok (.iload 6, 2) := by decide +kernel
theorem dX9_agrees_241 : decode cX9_agrees 241 = .ok (.if_icmp .ne 6, 3) := by decide +kernel
theorem dX9_agrees_244 : decode cX9_agrees 244 = .ok (.iinc 7 (-1), 3) := by decide +kernel
theorem dX9_agrees_247 : decode cX9_agrees 247 = .ok (.iinc 8 1, 3) := by decide +kernel
theorem dX9_agrees_250 : decode cX9_agrees 250 = .ok (.goto (-66), 3) := by decide +kernel
theorem dX9_agrees_253 : decode cX9_agrees 253 = .ok (.iload 7, 2) := by decide +kernel
theorem dX9_agrees_255 : decode cX9_agrees 255 = .ok (.ifCond .eq 5, 3) := by decide +kernel
theorem dX9_agrees_258 : decode cX9_agrees 258 = .ok (.iconst 0, 1) := by decide +kernel
theorem dX9_agrees_259 : decode cX9_agrees 259 = .ok (.ireturn, 1) := by decide +kernel
theorem dX9_agrees_260 : decode cX9_agrees 260 = .ok (.iinc 5 1, 3) := by decide +kernel
theorem dX9_agrees_263 : decode cX9_agrees 263 = .ok (.goto (-114), 3) := by decide +kernel
theorem dX9_agrees_266 : decode cX9_agrees 266 = .ok (.iconst 1, 1) := by decide +kernel
theorem dX9_agrees_267 : decode cX9_agrees 267 = .ok (.ireturn, 1) := by decide +kernel
theorem dX9_finds_0 : decode cX9_finds 0 = .ok (.aload_n 0, 1) := by decide +kernel
theorem dX9_finds_1 : decode cX9_finds 1 = .ok (.getfield 13, 3) := by decide +kernel
theorem dX9_finds_4 : decode cX9_finds 4 = .ok (.iload_n 1, 1) := by decide +kernel
theorem dX9_finds_5 : decode cX9_finds 5 = .ok (.iaload, 1) := by decide +kernel
theorem dX9_finds_6 : decode cX9_finds 6 = .ok (.istore 4, 2) := by decide +kernel
theorem dX9_finds_8 : decode cX9_finds 8 = .ok (.iconst 0, 1) := by decide +kernel
theorem dX9_finds_9 : decode cX9_finds 9 = .ok (.istore 5, 2) := by decide +kernel
theorem dX9_finds_11 : decode cX9_finds 11 = .ok (.iload 5, 2) := by decide +kernel
theorem dX9_finds_13 : decode cX9_finds 13 = .ok (.bipush 12, 2) := by decide +kernel
theorem dX9_finds_15 : decode cX9_finds 15 = .ok (.if_icmp .ge 25, 3) := by decide +kernel
theorem dX9_finds_18 : decode cX9_finds 18 = .ok (.aload_n 0, 1) := by decide +kernel
theorem dX9_finds_19 : decode cX9_finds 19 = .ok (.getfield 66, 3) := by decide +kernel
theorem dX9_finds_22 : decode cX9_finds 22 = .ok (.iload 5, 2) := by decide +kernel
theorem dX9_finds_24 : decode cX9_finds 24 = .ok (.iconst 0, 1) := by decide +kernel
theorem dX9_finds_25 : decode cX9_finds 25 = .ok (.iastore, 1) := by decide +kernel
theorem dX9_finds_26 : decode cX9_finds 26 = .ok (.aload_n 0, 1) := by decide +kernel
theorem dX9_finds_27 : decode cX9_finds 27 = .ok (.getfield 69, 3) := by decide +kernel
theorem dX9_finds_30 : decode cX9_finds 30 = .ok (.iload 5, 2) := by decide +kernel
theorem dX9_finds_32 : decode cX9_finds 32 = .ok (.iconst 0, 1) := by decide +kernel
theorem dX9_finds_33 : decode cX9_finds 33 = .ok (.iastore, 1) := by decide +kernel
theorem dX9_finds_34 : decode cX9_finds 34 = .ok (.iinc 5 1, 3) := by decide +kernel
theorem dX9_finds_37 : decode cX9_finds 37 = .ok (.goto (-26), 3) := by decide +kernel
theorem dX9_finds_40 : decode cX9_finds 40 = .ok (.iconst 0, 1) := by decide +kernel
theorem dX9_finds_41 : decode cX9_finds 41 = .ok (.istore 5, 2) := by decide +kernel
theorem dX9_finds_43 : decode cX9_finds 43 = .ok (.iload 5, 2) := by decide +kernel
theorem dX9_finds_45 : decode cX9_finds 45 = .ok (.iload_n 3, 1) := by decide +kernel
theorem dX9_finds_46 : decode cX9_finds 46 = .ok (.if_icmp .ge 31, 3) := by decide +kernel
theorem dX9_finds_49 : decode cX9_finds 49 = .ok (.aload_n 0, 1) := by decide +kernel
theorem dX9_finds_50 : decode cX9_finds 50 = .ok (.iload 5, 2) := by decide +kernel
theorem dX9_finds_52 : decode cX9_finds 52 = .ok (.invokevirtual 238, 3) := by decide +kernel
theorem dX9_finds_55 : decode cX9_finds 55 = .ok (.ifCond .ne 14, 3) := by decide +kernel
theorem dX9_finds_58 : decode cX9_finds 58 = .ok (.aload_n 0, 1) := by decide +kernel
theorem dX9_finds_59 : decode cX9_finds 59 = .ok (.iload_n 1, 1) := by decide +kernel
theorem dX9_finds_60 : decode cX9_finds 60 = .ok (.iload_n 2, 1) := by decide +kernel
theorem dX9_finds_61 : decode cX9_finds 61 = .ok (.iload 5, 2) := by decide +kernel
theorem dX9_finds_63 : decode cX9_finds 63 = .ok (.invokevirtual 241, 3) := by decide +kernel
theorem dX9_finds_66 : decode cX9_finds 66 = .ok (.ifCond .ne 5, 3) := by decide +kernel
theorem dX9_finds_69 : decode cX9_finds 69 = .ok (.iconst 0, 1) := by decide +kernel
theorem dX9_finds_70 : decode cX9_finds 70 = .ok (.ireturn, 1) := by decide +kernel
theorem dX9_finds_71 : decode cX9_finds 71 = .ok (.iinc 5 1, 3) := by decide +kernel
theorem dX9_finds_74 : decode cX9_finds 74 = .ok (.goto (-31), 3) := by decide +kernel
theorem dX9_finds_77 : decode cX9_finds 77 = .ok (.iload_n 3, 1) := by decide +kernel
theorem dX9_finds_78 : decode cX9_finds 78 = .ok (.istore 5, 2) := by decide +kernel
theorem dX9_finds_80 : decode cX9_finds 80 = .ok (.iload 5, 2) := by decide +kernel
theorem dX9_finds_82 : decode cX9_finds 82 = .ok (.iload 4, 2) := by decide +kernel
theorem dX9_finds_84 : decode cX9_finds 84 = .ok (.if_icmp .ge 11, 3) := by decide +kernel
theorem dX9_finds_87 : decode cX9_finds 87 = .ok (.aload_n 0, 1) := by decide +kernel
theorem dX9_finds_88 : decode cX9_finds 88 = .ok (.getfield 60, 3) := by decide +kernel
theorem dX9_finds_91 : decode cX9_finds 91 = .ok (.iload 5, 2) := by decide +kernel
theorem dX9_finds_93 : decode cX9_finds 93 = .ok (.iconst (-1), 1) := by decide +kernel
theorem dX9_finds_94 : decode cX9_finds 94 = .ok (.iastore, 1) := by decide +kernel
theorem dX9_finds_95 : decode cX9_finds 95 = .ok (.iload 5, 2) := by decide +kernel
theorem dX9_finds_97 : decode cX9_finds 97 = .ok (.iload_n 3, 1) := by decide +kernel
theorem dX9_finds_98 : decode cX9_finds 98 = .ok (.if_icmp .lt 82, 3) := by decide +kernel
theorem dX9_finds_101 : decode cX9_finds 101 = .ok (.iload 5, 2) := by decide +kernel
theorem dX9_finds_103 : decode cX9_finds 103 = .ok (.iload 4, 2) := by decide +kernel
theorem dX9_finds_105 : decode cX9_finds 105 = .ok (.if_icmp .ge 75, 3) := by decide +kernel
theorem dX9_finds_108 : decode cX9_finds 108 = .ok (.aload_n 0, 1) := by decide +kernel
theorem dX9_finds_109 : decode cX9_finds 109 = .ok (.getfield 60, 3) := by decide +kernel
theorem dX9_finds_112 : decode cX9_finds 112 = .ok (.iload 5, 2) := by decide +kernel
theorem dX9_finds_114 : decode cX9_finds 114 = .ok (.dup2, 1) := by decide +kernel
theorem dX9_finds_115 : decode cX9_finds 115 = .ok (.iaload, 1) := by decide +kernel
theorem dX9_finds_116 : decode cX9_finds 116 = .ok (.iconst 1, 1) := by decide +kernel
theorem dX9_finds_117 : decode cX9_finds 117 = .ok (.iadd, 1) := by decide +kernel
theorem dX9_finds_118 : decode cX9_finds 118 = .ok (.iastore, 1) := by decide +kernel
theorem dX9_finds_119 : decode cX9_finds 119 = .ok (.aload_n 0, 1) := by decide +kernel
theorem dX9_finds_120 : decode cX9_finds 120 = .ok (.getfield 60, 3) := by decide +kernel
theorem dX9_finds_123 : decode cX9_finds 123 = .ok (.iload 5, 2) := by decide +kernel
theorem dX9_finds_125 : decode cX9_finds 125 = .ok (.iaload, 1) := by decide +kernel
theorem dX9_finds_126 : decode cX9_finds 126 = .ok (.iconst 2, 1) := by decide +kernel
theorem dX9_finds_127 : decode cX9_finds 127 = .ok (.iload 4, 2) := by decide +kernel
theorem dX9_finds_129 : decode cX9_finds 129 = .ok (.imul, 1) := by decide +kernel
theorem dX9_finds_130 : decode cX9_finds 130 = .ok (.if_icmp .ne 9, 3) := by decide +kernel
theorem dX9_finds_133 : decode cX9_finds 133 = .ok (.iinc 5 (-1), 3) := by decide +kernel
theorem dX9_finds_136 : decode cX9_finds 136 = .ok (.goto (-41), 3) := by decide +kernel
theorem dX9_finds_139 : decode cX9_finds 139 = .ok (.aload_n 0, 1) := by decide +kernel
theorem dX9_finds_140 : decode cX9_finds 140 = .ok (.iload 5, 2) := by decide +kernel
theorem dX9_finds_142 : decode cX9_finds 142 = .ok (.invokevirtual 238, 3) := by decide +kernel
theorem dX9_finds_145 : decode cX9_finds 145 = .ok (.ifCond .ne (-50), 3) := by decide +kernel
theorem dX9_finds_148 : decode cX9_finds 148 = .ok (.aload_n 0, 1) := by decide +kernel
theorem dX9_finds_149 : decode cX9_finds 149 = .ok (.iload_n 1, 1) := by decide +kernel
theorem dX9_finds_150 : decode cX9_finds 150 = .ok (.iload_n 2, 1) := by decide +kernel
theorem dX9_finds_151 : decode cX9_finds 151 = .ok (.iload 5, 2) := by decide +kernel
theorem dX9_finds_153 : decode cX9_finds 153 = .ok (.invokevirtual 241, 3) := by decide +kernel
theorem dX9_finds_156 : decode cX9_finds 156 = .ok (.ifCond .eq (-61), 3) := by decide +kernel
theorem dX9_finds_159 : decode cX9_finds 159 = .ok (.iinc 5 1, 3) := by decide +kernel
theorem dX9_finds_162 : decode cX9_finds 162 = .ok (.iload 5, 2) := by decide +kernel
theorem dX9_finds_164 : decode cX9_finds 164 = .ok (.iload 4, 2) := by decide +kernel
theorem dX9_finds_166 : decode cX9_finds 166 = .ok (.if_icmp .ge (-71), 3) := by decide +kernel
theorem dX9_finds_169 : decode cX9_finds 169 = .ok (.aload_n 0, 1) := by decide +kernel
theorem dX9_finds_170 : decode cX9_finds 170 = .ok (.getfield 60, 3) := by decide +kernel
theorem dX9_finds_173 : decode cX9_finds 173 = .ok (.iload 5, 2) := by decide +kernel
theorem dX9_finds_175 : decode cX9_finds 175 = .ok (.iconst (-1), 1) := by decide +kernel
theorem dX9_finds_176 : decode cX9_finds 176 = .ok (.iastore, 1) := by decide +kernel
theorem dX9_finds_177 : decode cX9_finds 177 = .ok (.goto (-82), 3) := by decide +kernel
theorem dX9_finds_180 : decode cX9_finds 180 = .ok (.iload 5, 2) := by decide +kernel
theorem dX9_finds_182 : decode cX9_finds 182 = .ok (.iload 4, 2) := by decide +kernel
theorem dX9_finds_184 : decode cX9_finds 184 = .ok (.if_icmp .ne 7, 3) := by decide +kernel
theorem dX9_finds_187 : decode cX9_finds 187 = .ok (.iconst 1, 1) := by decide +kernel
theorem dX9_finds_188 : decode cX9_finds 188 = .ok (.goto 4, 3) := by decide +kernel
theorem dX9_finds_191 : decode cX9_finds 191 = .ok (.iconst 0, 1) := by decide +kernel
theorem dX9_finds_192 : decode cX9_finds 192 = .ok (.ireturn, 1) := by decide +kernel
theorem dX9_laysColumns_0 : decode cX9_laysColumns 0 = .ok (.iconst 0, 1) := by decide +kernel
theorem dX9_laysColumns_1 : decode cX9_laysColumns 1 = .ok (.istore_n 2, 1) := by decide +kernel
theorem dX9_laysColumns_2 : decode cX9_laysColumns 2 = .ok (.iconst 0, 1) := by decide +kernel
theorem dX9_laysColumns_3 : decode cX9_laysColumns 3 = .ok (.istore_n 3, 1) := by decide +kernel
theorem dX9_laysColumns_4 : decode cX9_laysColumns 4 = .ok (.iload_n 3, 1) := by decide +kernel
theorem dX9_laysColumns_5 : decode cX9_laysColumns 5 = .ok (.iload_n 1, 1) := by decide +kernel
theorem dX9_laysColumns_6 : decode cX9_laysColumns 6 = .ok (.if_icmp .ge 105, 3) := by decide +kernel
theorem dX9_laysColumns_9 : decode cX9_laysColumns 9 = .ok (.aload_n 0, 1) := by decide +kernel
theorem dX9_laysColumns_10 : decode cX9_laysColumns 10 = .ok (.getfield 66, 3) := by decide +kernel
theorem dX9_laysColumns_13 : decode cX9_laysColumns 13 = .ok (.bipush 12, 2) := by decide +kernel
