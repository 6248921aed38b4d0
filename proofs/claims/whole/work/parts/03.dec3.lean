theorem dX9_laysColumns_15 : decode cX9_laysColumns 15 = .ok (.iload_n 1, 1) := by decide +kernel
theorem dX9_laysColumns_16 : decode cX9_laysColumns 16 = .ok (.imul, 1) := by decide +kernel
theorem dX9_laysColumns_17 : decode cX9_laysColumns 17 = .ok (.iload_n 3, 1) := by decide +kernel
theorem dX9_laysColumns_18 : decode cX9_laysColumns 18 = .ok (.iadd, 1) := by decide +kernel
theorem dX9_laysColumns_19 : decode cX9_laysColumns 19 = .ok (.iaload, 1) := by decide +kernel
theorem dX9_laysColumns_20 : decode cX9_laysColumns 20 = .ok (.istore 4, 2) := by decide +kernel
theorem dX9_laysColumns_22 : decode cX9_laysColumns 22 = .ok (.iconst 0, 1) := by decide +kernel
theorem dX9_laysColumns_23 : decode cX9_laysColumns 23 = .ok (.istore 5, 2) := by decide +kernel
theorem dX9_laysColumns_25 : decode cX9_laysColumns 25 = .ok (.iload_n 2, 1) := by decide +kernel
theorem dX9_laysColumns_26 : decode cX9_laysColumns 26 = .ok (.iload 5, 2) := by decide +kernel
theorem dX9_laysColumns_28 : decode cX9_laysColumns 28 = .ok (.invokestatic 94, 3) := by decide +kernel
theorem dX9_laysColumns_31 : decode cX9_laysColumns 31 = .ok (.ifCond .ne 28, 3) := by decide +kernel
theorem dX9_laysColumns_34 : decode cX9_laysColumns 34 = .ok (.aload_n 0, 1) := by decide +kernel
theorem dX9_laysColumns_35 : decode cX9_laysColumns 35 = .ok (.getfield 69, 3) := by decide +kernel
theorem dX9_laysColumns_38 : decode cX9_laysColumns 38 = .ok (.bipush 12, 2) := by decide +kernel
theorem dX9_laysColumns_40 : decode cX9_laysColumns 40 = .ok (.iload_n 1, 1) := by decide +kernel
theorem dX9_laysColumns_41 : decode cX9_laysColumns 41 = .ok (.imul, 1) := by decide +kernel
theorem dX9_laysColumns_42 : decode cX9_laysColumns 42 = .ok (.iload 5, 2) := by decide +kernel
theorem dX9_laysColumns_44 : decode cX9_laysColumns 44 = .ok (.iadd, 1) := by decide +kernel
theorem dX9_laysColumns_45 : decode cX9_laysColumns 45 = .ok (.iaload, 1) := by decide +kernel
theorem dX9_laysColumns_46 : decode cX9_laysColumns 46 = .ok (.iload_n 1, 1) := by decide +kernel
theorem dX9_laysColumns_47 : decode cX9_laysColumns 47 = .ok (.invokestatic 235, 3) := by decide +kernel
theorem dX9_laysColumns_50 : decode cX9_laysColumns 50 = .ok (.iload 4, 2) := by decide +kernel
theorem dX9_laysColumns_52 : decode cX9_laysColumns 52 = .ok (.iload_n 1, 1) := by decide +kernel
theorem dX9_laysColumns_53 : decode cX9_laysColumns 53 = .ok (.invokestatic 235, 3) := by decide +kernel
theorem dX9_laysColumns_56 : decode cX9_laysColumns 56 = .ok (.if_icmp .eq 9, 3) := by decide +kernel
theorem dX9_laysColumns_59 : decode cX9_laysColumns 59 = .ok (.iinc 5 1, 3) := by decide +kernel
theorem dX9_laysColumns_62 : decode cX9_laysColumns 62 = .ok (.goto (-37), 3) := by decide +kernel
theorem dX9_laysColumns_65 : decode cX9_laysColumns 65 = .ok (.iload_n 2, 1) := by decide +kernel
theorem dX9_laysColumns_66 : decode cX9_laysColumns 66 = .ok (.iconst 1, 1) := by decide +kernel
theorem dX9_laysColumns_67 : decode cX9_laysColumns 67 = .ok (.iload 5, 2) := by decide +kernel
theorem dX9_laysColumns_69 : decode cX9_laysColumns 69 = .ok (.ishl, 1) := by decide +kernel
theorem dX9_laysColumns_70 : decode cX9_laysColumns 70 = .ok (.ior, 1) := by decide +kernel
theorem dX9_laysColumns_71 : decode cX9_laysColumns 71 = .ok (.istore_n 2, 1) := by decide +kernel
theorem dX9_laysColumns_72 : decode cX9_laysColumns 72 = .ok (.aload_n 0, 1) := by decide +kernel
theorem dX9_laysColumns_73 : decode cX9_laysColumns 73 = .ok (.getfield 63, 3) := by decide +kernel
theorem dX9_laysColumns_76 : decode cX9_laysColumns 76 = .ok (.iload_n 3, 1) := by decide +kernel
theorem dX9_laysColumns_77 : decode cX9_laysColumns 77 = .ok (.iconst 2, 1) := by decide +kernel
theorem dX9_laysColumns_78 : decode cX9_laysColumns 78 = .ok (.iload 5, 2) := by decide +kernel
theorem dX9_laysColumns_80 : decode cX9_laysColumns 80 = .ok (.imul, 1) := by decide +kernel
theorem dX9_laysColumns_81 : decode cX9_laysColumns 81 = .ok (.aload_n 0, 1) := by decide +kernel
theorem dX9_laysColumns_82 : decode cX9_laysColumns 82 = .ok (.getfield 69, 3) := by decide +kernel
theorem dX9_laysColumns_85 : decode cX9_laysColumns 85 = .ok (.bipush 12, 2) := by decide +kernel
theorem dX9_laysColumns_87 : decode cX9_laysColumns 87 = .ok (.iload_n 1, 1) := by decide +kernel
theorem dX9_laysColumns_88 : decode cX9_laysColumns 88 = .ok (.imul, 1) := by decide +kernel
theorem dX9_laysColumns_89 : decode cX9_laysColumns 89 = .ok (.iload 5, 2) := by decide +kernel
theorem dX9_laysColumns_91 : decode cX9_laysColumns 91 = .ok (.iadd, 1) := by decide +kernel
theorem dX9_laysColumns_92 : decode cX9_laysColumns 92 = .ok (.iaload, 1) := by decide +kernel
theorem dX9_laysColumns_93 : decode cX9_laysColumns 93 = .ok (.iload 4, 2) := by decide +kernel
theorem dX9_laysColumns_95 : decode cX9_laysColumns 95 = .ok (.if_icmp .ne 7, 3) := by decide +kernel
theorem dX9_laysColumns_98 : decode cX9_laysColumns 98 = .ok (.iconst 0, 1) := by decide +kernel
theorem dX9_laysColumns_99 : decode cX9_laysColumns 99 = .ok (.goto 4, 3) := by decide +kernel
theorem dX9_laysColumns_102 : decode cX9_laysColumns 102 = .ok (.iconst 1, 1) := by decide +kernel
theorem dX9_laysColumns_103 : decode cX9_laysColumns 103 = .ok (.iadd, 1) := by decide +kernel
theorem dX9_laysColumns_104 : decode cX9_laysColumns 104 = .ok (.iastore, 1) := by decide +kernel
theorem dX9_laysColumns_105 : decode cX9_laysColumns 105 = .ok (.iinc 3 1, 3) := by decide +kernel
theorem dX9_laysColumns_108 : decode cX9_laysColumns 108 = .ok (.goto (-104), 3) := by decide +kernel
theorem dX9_laysColumns_111 : decode cX9_laysColumns 111 = .ok (.return_, 1) := by decide +kernel
theorem dX9_canAsk_0 : decode cX9_canAsk 0 = .ok (.aload_n 0, 1) := by decide +kernel
theorem dX9_canAsk_1 : decode cX9_canAsk 1 = .ok (.getfield 13, 3) := by decide +kernel
theorem dX9_canAsk_4 : decode cX9_canAsk 4 = .ok (.iload_n 1, 1) := by decide +kernel
theorem dX9_canAsk_5 : decode cX9_canAsk 5 = .ok (.iaload, 1) := by decide +kernel
theorem dX9_canAsk_6 : decode cX9_canAsk 6 = .ok (.istore_n 3, 1) := by decide +kernel
theorem dX9_canAsk_7 : decode cX9_canAsk 7 = .ok (.iload_n 3, 1) := by decide +kernel
theorem dX9_canAsk_8 : decode cX9_canAsk 8 = .ok (.aload_n 0, 1) := by decide +kernel
theorem dX9_canAsk_9 : decode cX9_canAsk 9 = .ok (.getfield 13, 3) := by decide +kernel
theorem dX9_canAsk_12 : decode cX9_canAsk 12 = .ok (.iload_n 2, 1) := by decide +kernel
theorem dX9_canAsk_13 : decode cX9_canAsk 13 = .ok (.iaload, 1) := by decide +kernel
theorem dX9_canAsk_14 : decode cX9_canAsk 14 = .ok (.if_icmp .ne 9, 3) := by decide +kernel
theorem dX9_canAsk_17 : decode cX9_canAsk 17 = .ok (.iload_n 3, 1) := by decide +kernel
theorem dX9_canAsk_18 : decode cX9_canAsk 18 = .ok (.bipush 12, 2) := by decide +kernel
theorem dX9_canAsk_20 : decode cX9_canAsk 20 = .ok (.if_icmp .le 5, 3) := by decide +kernel
theorem dX9_canAsk_23 : decode cX9_canAsk 23 = .ok (.iconst 0, 1) := by decide +kernel
theorem dX9_canAsk_24 : decode cX9_canAsk 24 = .ok (.ireturn, 1) := by decide +kernel
theorem dX9_canAsk_25 : decode cX9_canAsk 25 = .ok (.iload_n 3, 1) := by decide +kernel
theorem dX9_canAsk_26 : decode cX9_canAsk 26 = .ok (.bipush 6, 2) := by decide +kernel
theorem dX9_canAsk_28 : decode cX9_canAsk 28 = .ok (.if_icmp .le 19, 3) := by decide +kernel
theorem dX9_canAsk_31 : decode cX9_canAsk 31 = .ok (.aload_n 0, 1) := by decide +kernel
theorem dX9_canAsk_32 : decode cX9_canAsk 32 = .ok (.iload_n 1, 1) := by decide +kernel
theorem dX9_canAsk_33 : decode cX9_canAsk 33 = .ok (.invokevirtual 244, 3) := by decide +kernel
theorem dX9_canAsk_36 : decode cX9_canAsk 36 = .ok (.ifCond .eq 15, 3) := by decide +kernel
theorem dX9_canAsk_39 : decode cX9_canAsk 39 = .ok (.aload_n 0, 1) := by decide +kernel
theorem dX9_canAsk_40 : decode cX9_canAsk 40 = .ok (.iload_n 2, 1) := by decide +kernel
theorem dX9_canAsk_41 : decode cX9_canAsk 41 = .ok (.invokevirtual 244, 3) := by decide +kernel
theorem dX9_canAsk_44 : decode cX9_canAsk 44 = .ok (.ifCond .eq 7, 3) := by decide +kernel
theorem dX9_canAsk_47 : decode cX9_canAsk 47 = .ok (.iconst 1, 1) := by decide +kernel
theorem dX9_canAsk_48 : decode cX9_canAsk 48 = .ok (.goto 4, 3) := by decide +kernel
theorem dX9_canAsk_51 : decode cX9_canAsk 51 = .ok (.iconst 0, 1) := by decide +kernel
theorem dX9_canAsk_52 : decode cX9_canAsk 52 = .ok (.ireturn, 1) := by decide +kernel
theorem dX9_like_0 : decode cX9_like 0 = .ok (.aload_n 0, 1) := by decide +kernel
theorem dX9_like_1 : decode cX9_like 1 = .ok (.iload_n 1, 1) := by decide +kernel
theorem dX9_like_2 : decode cX9_like 2 = .ok (.invokevirtual 86, 3) := by decide +kernel
theorem dX9_like_5 : decode cX9_like 5 = .ok (.ifCond .eq 11, 3) := by decide +kernel
theorem dX9_like_8 : decode cX9_like 8 = .ok (.aload_n 0, 1) := by decide +kernel
theorem dX9_like_9 : decode cX9_like 9 = .ok (.iload_n 2, 1) := by decide +kernel
theorem dX9_like_10 : decode cX9_like 10 = .ok (.invokevirtual 86, 3) := by decide +kernel
theorem dX9_like_13 : decode cX9_like 13 = .ok (.ifCond .ne 5, 3) := by decide +kernel
theorem dX9_like_16 : decode cX9_like 16 = .ok (.iconst (-1), 1) := by decide +kernel
theorem dX9_like_17 : decode cX9_like 17 = .ok (.ireturn, 1) := by decide +kernel
theorem dX9_like_18 : decode cX9_like 18 = .ok (.aload_n 0, 1) := by decide +kernel
theorem dX9_like_19 : decode cX9_like 19 = .ok (.iload_n 1, 1) := by decide +kernel
theorem dX9_like_20 : decode cX9_like 20 = .ok (.iload_n 2, 1) := by decide +kernel
theorem dX9_like_21 : decode cX9_like 21 = .ok (.invokevirtual 247, 3) := by decide +kernel
theorem dX9_like_24 : decode cX9_like 24 = .ok (.ifCond .ne 6, 3) := by decide +kernel
theorem dX9_like_27 : decode cX9_like 27 = .ok (.bipush (-2), 2) := by decide +kernel
theorem dX9_like_29 : decode cX9_like 29 = .ok (.ireturn, 1) := by decide +kernel
theorem dX9_like_30 : decode cX9_like 30 = .ok (.aload_n 0, 1) := by decide +kernel
theorem dX9_like_31 : decode cX9_like 31 = .ok (.iload_n 1, 1) := by decide +kernel
theorem dX9_like_32 : decode cX9_like 32 = .ok (.iload_n 2, 1) := by decide +kernel
theorem dX9_like_33 : decode cX9_like 33 = .ok (.iconst 0, 1) := by decide +kernel
theorem dX9_like_34 : decode cX9_like 34 = .ok (.invokevirtual 250, 3) := by decide +kernel
theorem dX9_like_37 : decode cX9_like 37 = .ok (.ifCond .eq 7, 3) := by decide +kernel
theorem dX9_like_40 : decode cX9_like 40 = .ok (.iconst 1, 1) := by decide +kernel
theorem dX9_like_41 : decode cX9_like 41 = .ok (.goto 4, 3) := by decide +kernel
theorem dX9_like_44 : decode cX9_like 44 = .ok (.iconst 0, 1) := by decide +kernel
theorem dX9_like_45 : decode cX9_like 45 = .ok (.ireturn, 1) := by decide +kernel
theorem dX9_image_0 : decode cX9_image 0 = .ok (.aload_n 0, 1) := by decide +kernel
theorem dX9_image_1 : decode cX9_image 1 = .ok (.iload_n 1, 1) := by decide +kernel
theorem dX9_image_2 : decode cX9_image 2 = .ok (.iload 4, 2) := by decide +kernel
theorem dX9_image_4 : decode cX9_image 4 = .ok (.invokevirtual 182, 3) := by decide +kernel
theorem dX9_image_7 : decode cX9_image 7 = .ok (.ifCond .eq 11, 3) := by decide +kernel
theorem dX9_image_10 : decode cX9_image 10 = .ok (.aload_n 0, 1) := by decide +kernel
theorem dX9_image_11 : decode cX9_image 11 = .ok (.iload_n 2, 1) := by decide +kernel
theorem dX9_image_12 : decode cX9_image 12 = .ok (.invokevirtual 86, 3) := by decide +kernel
theorem dX9_image_15 : decode cX9_image 15 = .ok (.ifCond .ne 5, 3) := by decide +kernel
theorem dX9_image_18 : decode cX9_image 18 = .ok (.iconst (-1), 1) := by decide +kernel
theorem dX9_image_19 : decode cX9_image 19 = .ok (.ireturn, 1) := by decide +kernel
theorem dX9_image_20 : decode cX9_image 20 = .ok (.aload_n 0, 1) := by decide +kernel
theorem dX9_image_21 : decode cX9_image 21 = .ok (.iload_n 1, 1) := by decide +kernel
theorem dX9_image_22 : decode cX9_image 22 = .ok (.iload_n 2, 1) := by decide +kernel
theorem dX9_image_23 : decode cX9_image 23 = .ok (.invokevirtual 247, 3) := by decide +kernel
theorem dX9_image_26 : decode cX9_image 26 = .ok (.ifCond .eq 13, 3) := by decide +kernel
theorem dX9_image_29 : decode cX9_image 29 = .ok (.aload_n 0, 1) := by decide +kernel
theorem dX9_image_30 : decode cX9_image 30 = .ok (.iload_n 1, 1) := by decide +kernel
theorem dX9_image_31 : decode cX9_image 31 = .ok (.iload_n 2, 1) := by decide +kernel
theorem dX9_image_32 : decode cX9_image 32 = .ok (.iconst 0, 1) := by decide +kernel
theorem dX9_image_33 : decode cX9_image 33 = .ok (.invokevirtual 250, 3) := by decide +kernel
theorem dX9_image_36 : decode cX9_image 36 = .ok (.ifCond .ne 6, 3) := by decide +kernel
theorem dX9_image_39 : decode cX9_image 39 = .ok (.bipush (-2), 2) := by decide +kernel
theorem dX9_image_41 : decode cX9_image 41 = .ok (.ireturn, 1) := by decide +kernel
theorem dX9_image_42 : decode cX9_image 42 = .ok (.iload_n 3, 1) := by decide +kernel
theorem dX9_image_43 : decode cX9_image 43 = .ok (.ifCond .eq 11, 3) := by decide +kernel
theorem dX9_image_46 : decode cX9_image 46 = .ok (.aload_n 0, 1) := by decide +kernel
theorem dX9_image_47 : decode cX9_image 47 = .ok (.getfield 60, 3) := by decide +kernel
theorem dX9_image_50 : decode cX9_image 50 = .ok (.iload 4, 2) := by decide +kernel
theorem dX9_image_52 : decode cX9_image 52 = .ok (.iaload, 1) := by decide +kernel
theorem dX9_image_53 : decode cX9_image 53 = .ok (.ireturn, 1) := by decide +kernel
theorem dX9_image_54 : decode cX9_image 54 = .ok (.aload_n 0, 1) := by decide +kernel
theorem dX9_image_55 : decode cX9_image 55 = .ok (.aload_n 0, 1) := by decide +kernel
theorem dX9_image_56 : decode cX9_image 56 = .ok (.getfield 13, 3) := by decide +kernel
theorem dX9_image_59 : decode cX9_image 59 = .ok (.iload_n 1, 1) := by decide +kernel
theorem dX9_image_60 : decode cX9_image 60 = .ok (.iaload, 1) := by decide +kernel
theorem dX9_image_61 : decode cX9_image 61 = .ok (.invokevirtual 253, 3) := by decide +kernel
theorem dX9_image_64 : decode cX9_image 64 = .ok (.aload_n 0, 1) := by decide +kernel
theorem dX9_image_65 : decode cX9_image 65 = .ok (.getfield 63, 3) := by decide +kernel
theorem dX9_image_68 : decode cX9_image 68 = .ok (.iload 4, 2) := by decide +kernel
theorem dX9_image_70 : decode cX9_image 70 = .ok (.iaload, 1) := by decide +kernel
theorem dX9_image_71 : decode cX9_image 71 = .ok (.ireturn, 1) := by decide +kernel
theorem dX9_columnWays_0 : decode cX9_columnWays 0 = .ok (.aload_n 0, 1) := by decide +kernel
theorem dX9_columnWays_1 : decode cX9_columnWays 1 = .ok (.getfield 13, 3) := by decide +kernel
theorem dX9_columnWays_4 : decode cX9_columnWays 4 = .ok (.iload_n 1, 1) := by decide +kernel
theorem dX9_columnWays_5 : decode cX9_columnWays 5 = .ok (.iaload, 1) := by decide +kernel
theorem dX9_columnWays_6 : decode cX9_columnWays 6 = .ok (.istore_n 2, 1) := by decide +kernel
theorem dX9_columnWays_7 : decode cX9_columnWays 7 = .ok (.lconst 1, 1) := by decide +kernel
theorem dX9_columnWays_8 : decode cX9_columnWays 8 = .ok (.lstore_n 3, 1) := by decide +kernel
theorem dX9_columnWays_9 : decode cX9_columnWays 9 = .ok (.iconst 0, 1) := by decide +kernel
theorem dX9_columnWays_10 : decode cX9_columnWays 10 = .ok (.istore 5, 2) := by decide +kernel
theorem dX9_columnWays_12 : decode cX9_columnWays 12 = .ok (.iload 5, 2) := by decide +kernel
theorem dX9_columnWays_14 : decode cX9_columnWays 14 = .ok (.iload_n 2, 1) := by decide +kernel
theorem dX9_columnWays_15 : decode cX9_columnWays 15 = .ok (.if_icmp .ge 62, 3) := by decide +kernel
theorem dX9_columnWays_18 : decode cX9_columnWays 18 = .ok (.iconst 1, 1) := by decide +kernel
theorem dX9_columnWays_19 : decode cX9_columnWays 19 = .ok (.istore 6, 2) := by decide +kernel
theorem dX9_columnWays_21 : decode cX9_columnWays 21 = .ok (.iconst 0, 1) := by decide +kernel
theorem dX9_columnWays_22 : decode cX9_columnWays 22 = .ok (.istore 7, 2) := by decide +kernel
theorem dX9_columnWays_24 : decode cX9_columnWays 24 = .ok (.iload 7, 2) := by decide +kernel
theorem dX9_columnWays_26 : decode cX9_columnWays 26 = .ok (.iload 5, 2) := by decide +kernel
theorem dX9_columnWays_28 : decode cX9_columnWays 28 = .ok (.if_icmp .ge 37, 3) := by decide +kernel
theorem dX9_columnWays_31 : decode cX9_columnWays 31 = .ok (.aload_n 0, 1) := by decide +kernel
theorem dX9_columnWays_32 : decode cX9_columnWays 32 = .ok (.iload_n 1, 1) := by decide +kernel
theorem dX9_columnWays_33 : decode cX9_columnWays 33 = .ok (.iload 7, 2) := by decide +kernel
theorem dX9_columnWays_35 : decode cX9_columnWays 35 = .ok (.invokevirtual 101, 3) := by decide +kernel
theorem dX9_columnWays_38 : decode cX9_columnWays 38 = .ok (.iload_n 2, 1) := by decide +kernel
theorem dX9_columnWays_39 : decode cX9_columnWays 39 = .ok (.invokestatic 235, 3) := by decide +kernel
theorem dX9_columnWays_42 : decode cX9_columnWays 42 = .ok (.aload_n 0, 1) := by decide +kernel
theorem dX9_columnWays_43 : decode cX9_columnWays 43 = .ok (.iload_n 1, 1) := by decide +kernel
theorem dX9_columnWays_44 : decode cX9_columnWays 44 = .ok (.iload 5, 2) := by decide +kernel
theorem dX9_columnWays_46 : decode cX9_columnWays 46 = .ok (.invokevirtual 101, 3) := by decide +kernel
theorem dX9_columnWays_49 : decode cX9_columnWays 49 = .ok (.iload_n 2, 1) := by decide +kernel
theorem dX9_columnWays_50 : decode cX9_columnWays 50 = .ok (.invokestatic 235, 3) := by decide +kernel
theorem dX9_columnWays_53 : decode cX9_columnWays 53 = .ok (.if_icmp .ne 6, 3) := by decide +kernel
theorem dX9_columnWays_56 : decode cX9_columnWays 56 = .ok (.iinc 6 1, 3) := by decide +kernel
theorem dX9_columnWays_59 : decode cX9_columnWays 59 = .ok (.iinc 7 1, 3) := by decide +kernel
theorem dX9_columnWays_62 : decode cX9_columnWays 62 = .ok (.goto (-38), 3) := by decide +kernel
theorem dX9_columnWays_65 : decode cX9_columnWays 65 = .ok (.lload_n 3, 1) := by decide +kernel
theorem dX9_columnWays_66 : decode cX9_columnWays 66 = .ok (.iload 6, 2) := by decide +kernel
theorem dX9_columnWays_68 : decode cX9_columnWays 68 = .ok (.i2l, 1) := by decide +kernel
theorem dX9_columnWays_69 : decode cX9_columnWays 69 = .ok (.lmul, 1) := by decide +kernel
theorem dX9_columnWays_70 : decode cX9_columnWays 70 = .ok (.lstore_n 3, 1) := by decide +kernel
theorem dX9_columnWays_71 : decode cX9_columnWays 71 = .ok (.iinc 5 1, 3) := by decide +kernel
theorem dX9_columnWays_74 : decode cX9_columnWays 74 = .ok (.goto (-62), 3) := by decide +kernel
theorem dX9_columnWays_77 : decode cX9_columnWays 77 = .ok (.lload_n 3, 1) := by decide +kernel
theorem dX9_columnWays_78 : decode cX9_columnWays 78 = .ok (.lreturn, 1) := by decide +kernel
theorem dX9_symmetries_0 : decode cX9_symmetries 0 = .ok (.aload_n 0, 1) := by decide +kernel
theorem dX9_symmetries_1 : decode cX9_symmetries 1 = .ok (.iload_n 1, 1) := by decide +kernel
theorem dX9_symmetries_2 : decode cX9_symmetries 2 = .ok (.invokevirtual 86, 3) := by decide +kernel
theorem dX9_symmetries_5 : decode cX9_symmetries 5 = .ok (.ifCond .ne 7, 3) := by decide +kernel
theorem dX9_symmetries_8 : decode cX9_symmetries 8 = .ok (.ldc2_w 230, 3) := by decide +kernel
theorem dX9_symmetries_11 : decode cX9_symmetries 11 = .ok (.lreturn, 1) := by decide +kernel
theorem dX9_symmetries_12 : decode cX9_symmetries 12 = .ok (.aload_n 0, 1) := by decide +kernel
theorem dX9_symmetries_13 : decode cX9_symmetries 13 = .ok (.iload_n 1, 1) := by decide +kernel
theorem dX9_symmetries_14 : decode cX9_symmetries 14 = .ok (.iload_n 1, 1) := by decide +kernel
theorem dX9_symmetries_15 : decode cX9_symmetries 15 = .ok (.invokevirtual 247, 3) := by decide +kernel
theorem dX9_symmetries_18 : decode cX9_symmetries 18 = .ok (.ifCond .ne 7, 3) := by decide +kernel
theorem dX9_symmetries_21 : decode cX9_symmetries 21 = .ok (.ldc2_w 256, 3) := by decide +kernel
theorem dX9_symmetries_24 : decode cX9_symmetries 24 = .ok (.lreturn, 1) := by decide +kernel
theorem dX9_symmetries_25 : decode cX9_symmetries 25 = .ok (.aload_n 0, 1) := by decide +kernel
theorem dX9_symmetries_26 : decode cX9_symmetries 26 = .ok (.iload_n 1, 1) := by decide +kernel
theorem dX9_symmetries_27 : decode cX9_symmetries 27 = .ok (.invokevirtual 258, 3) := by decide +kernel
theorem dX9_symmetries_30 : decode cX9_symmetries 30 = .ok (.lstore_n 2, 1) := by decide +kernel
theorem dX9_symmetries_31 : decode cX9_symmetries 31 = .ok (.iconst 0, 1) := by decide +kernel
theorem dX9_symmetries_32 : decode cX9_symmetries 32 = .ok (.istore 4, 2) := by decide +kernel
theorem dX9_symmetries_34 : decode cX9_symmetries 34 = .ok (.iload 4, 2) := by decide +kernel
theorem dX9_symmetries_36 : decode cX9_symmetries 36 = .ok (.aload_n 0, 1) := by decide +kernel
theorem dX9_symmetries_37 : decode cX9_symmetries 37 = .ok (.getfield 13, 3) := by decide +kernel
theorem dX9_symmetries_40 : decode cX9_symmetries 40 = .ok (.iload_n 1, 1) := by decide +kernel
theorem dX9_symmetries_41 : decode cX9_symmetries 41 = .ok (.iaload, 1) := by decide +kernel
theorem dX9_symmetries_42 : decode cX9_symmetries 42 = .ok (.if_icmp .ge 92, 3) := by decide +kernel
theorem dX9_symmetries_45 : decode cX9_symmetries 45 = .ok (.iconst 0, 1) := by decide +kernel
theorem dX9_symmetries_46 : decode cX9_symmetries 46 = .ok (.istore 5, 2) := by decide +kernel
theorem dX9_symmetries_48 : decode cX9_symmetries 48 = .ok (.iconst 0, 1) := by decide +kernel
theorem dX9_symmetries_49 : decode cX9_symmetries 49 = .ok (.istore 6, 2) := by decide +kernel
theorem dX9_symmetries_51 : decode cX9_symmetries 51 = .ok (.iload 6, 2) := by decide +kernel
theorem dX9_symmetries_53 : decode cX9_symmetries 53 = .ok (.iconst 2, 1) := by decide +kernel
theorem dX9_symmetries_54 : decode cX9_symmetries 54 = .ok (.aload_n 0, 1) := by decide +kernel
theorem dX9_symmetries_55 : decode cX9_symmetries 55 = .ok (.getfield 13, 3) := by decide +kernel
theorem dX9_symmetries_58 : decode cX9_symmetries 58 = .ok (.iload_n 1, 1) := by decide +kernel
theorem dX9_symmetries_59 : decode cX9_symmetries 59 = .ok (.iaload, 1) := by decide +kernel
theorem dX9_symmetries_60 : decode cX9_symmetries 60 = .ok (.imul, 1) := by decide +kernel
theorem dX9_symmetries_61 : decode cX9_symmetries 61 = .ok (.if_icmp .ge 61, 3) := by decide +kernel
theorem dX9_symmetries_64 : decode cX9_symmetries 64 = .ok (.iconst 0, 1) := by decide +kernel
theorem dX9_symmetries_65 : decode cX9_symmetries 65 = .ok (.istore 7, 2) := by decide +kernel
theorem dX9_symmetries_67 : decode cX9_symmetries 67 = .ok (.iload 7, 2) := by decide +kernel
theorem dX9_symmetries_69 : decode cX9_symmetries 69 = .ok (.iload 4, 2) := by decide +kernel
theorem dX9_symmetries_71 : decode cX9_symmetries 71 = .ok (.if_icmp .ge 20, 3) := by decide +kernel
theorem dX9_symmetries_74 : decode cX9_symmetries 74 = .ok (.aload_n 0, 1) := by decide +kernel
theorem dX9_symmetries_75 : decode cX9_symmetries 75 = .ok (.getfield 60, 3) := by decide +kernel
theorem dX9_symmetries_78 : decode cX9_symmetries 78 = .ok (.iload 7, 2) := by decide +kernel
theorem dX9_symmetries_80 : decode cX9_symmetries 80 = .ok (.iconst 2, 1) := by decide +kernel
theorem dX9_symmetries_81 : decode cX9_symmetries 81 = .ok (.iload 7, 2) := by decide +kernel
theorem dX9_symmetries_83 : decode cX9_symmetries 83 = .ok (.imul, 1) := by decide +kernel
theorem dX9_symmetries_84 : decode cX9_symmetries 84 = .ok (.iastore, 1) := by decide +kernel
theorem dX9_symmetries_85 : decode cX9_symmetries 85 = .ok (.iinc 7 1, 3) := by decide +kernel
theorem dX9_symmetries_88 : decode cX9_symmetries 88 = .ok (.goto (-21), 3) := by decide +kernel
theorem dX9_symmetries_91 : decode cX9_symmetries 91 = .ok (.aload_n 0, 1) := by decide +kernel
theorem dX9_symmetries_92 : decode cX9_symmetries 92 = .ok (.getfield 60, 3) := by decide +kernel
theorem dX9_symmetries_95 : decode cX9_symmetries 95 = .ok (.iload 4, 2) := by decide +kernel
theorem dX9_symmetries_97 : decode cX9_symmetries 97 = .ok (.iload 6, 2) := by decide +kernel
theorem dX9_symmetries_99 : decode cX9_symmetries 99 = .ok (.iastore, 1) := by decide +kernel
theorem dX9_symmetries_100 : decode cX9_symmetries 100 = .ok (.aload_n 0, 1) := by decide +kernel
theorem dX9_symmetries_101 : decode cX9_symmetries 101 = .ok (.iload_n 1, 1) := by decide +kernel
theorem dX9_symmetries_102 : decode cX9_symmetries 102 = .ok (.iload_n 1, 1) := by decide +kernel
theorem dX9_symmetries_103 : decode cX9_symmetries 103 = .ok (.iload 4, 2) := by decide +kernel
theorem dX9_symmetries_105 : decode cX9_symmetries 105 = .ok (.iconst 1, 1) := by decide +kernel
theorem dX9_symmetries_106 : decode cX9_symmetries 106 = .ok (.iadd, 1) := by decide +kernel
theorem dX9_symmetries_107 : decode cX9_symmetries 107 = .ok (.invokevirtual 250, 3) := by decide +kernel
theorem dX9_symmetries_110 : decode cX9_symmetries 110 = .ok (.ifCond .eq 6, 3) := by decide +kernel
theorem dX9_symmetries_113 : decode cX9_symmetries 113 = .ok (.iinc 5 1, 3) := by decide +kernel
theorem dX9_symmetries_116 : decode cX9_symmetries 116 = .ok (.iinc 6 1, 3) := by decide +kernel
theorem dX9_symmetries_119 : decode cX9_symmetries 119 = .ok (.goto (-68), 3) := by decide +kernel
theorem dX9_symmetries_122 : decode cX9_symmetries 122 = .ok (.lload_n 2, 1) := by decide +kernel
theorem dX9_symmetries_123 : decode cX9_symmetries 123 = .ok (.iload 5, 2) := by decide +kernel
theorem dX9_symmetries_125 : decode cX9_symmetries 125 = .ok (.i2l, 1) := by decide +kernel
theorem dX9_symmetries_126 : decode cX9_symmetries 126 = .ok (.lmul, 1) := by decide +kernel
theorem dX9_symmetries_127 : decode cX9_symmetries 127 = .ok (.lstore_n 2, 1) := by decide +kernel
theorem dX9_symmetries_128 : decode cX9_symmetries 128 = .ok (.iinc 4 1, 3) := by decide +kernel
theorem dX9_symmetries_131 : decode cX9_symmetries 131 = .ok (.goto (-97), 3) := by decide +kernel
theorem dX9_symmetries_134 : decode cX9_symmetries 134 = .ok (.lload_n 2, 1) := by decide +kernel
theorem dX9_symmetries_135 : decode cX9_symmetries 135 = .ok (.lreturn, 1) := by decide +kernel
theorem dX9_isKnot_0 : decode cX9_isKnot 0 = .ok (.aload_n 0, 1) := by decide +kernel
theorem dX9_isKnot_1 : decode cX9_isKnot 1 = .ok (.iload_n 1, 1) := by decide +kernel
theorem dX9_isKnot_2 : decode cX9_isKnot 2 = .ok (.invokevirtual 86, 3) := by decide +kernel
theorem dX9_isKnot_5 : decode cX9_isKnot 5 = .ok (.ifCond .eq 25, 3) := by decide +kernel
theorem dX9_isKnot_8 : decode cX9_isKnot 8 = .ok (.iload_n 2, 1) := by decide +kernel
theorem dX9_isKnot_9 : decode cX9_isKnot 9 = .ok (.iconst 0, 1) := by decide +kernel
theorem dX9_isKnot_10 : decode cX9_isKnot 10 = .ok (.iconst 4, 1) := by decide +kernel
theorem dX9_isKnot_11 : decode cX9_isKnot 11 = .ok (.aload_n 0, 1) := by decide +kernel
theorem dX9_isKnot_12 : decode cX9_isKnot 12 = .ok (.getfield 13, 3) := by decide +kernel
theorem dX9_isKnot_15 : decode cX9_isKnot 15 = .ok (.iload_n 1, 1) := by decide +kernel
theorem dX9_isKnot_16 : decode cX9_isKnot 16 = .ok (.iaload, 1) := by decide +kernel
theorem dX9_isKnot_17 : decode cX9_isKnot 17 = .ok (.imul, 1) := by decide +kernel
theorem dX9_isKnot_18 : decode cX9_isKnot 18 = .ok (.iconst 1, 1) := by decide +kernel
theorem dX9_isKnot_19 : decode cX9_isKnot 19 = .ok (.isub, 1) := by decide +kernel
theorem dX9_isKnot_20 : decode cX9_isKnot 20 = .ok (.invokestatic 82, 3) := by decide +kernel
theorem dX9_isKnot_23 : decode cX9_isKnot 23 = .ok (.ifCond .eq 7, 3) := by decide +kernel
theorem dX9_isKnot_26 : decode cX9_isKnot 26 = .ok (.iconst 1, 1) := by decide +kernel
theorem dX9_isKnot_27 : decode cX9_isKnot 27 = .ok (.goto 4, 3) := by decide +kernel
theorem dX9_isKnot_30 : decode cX9_isKnot 30 = .ok (.iconst 0, 1) := by decide +kernel
theorem dX9_isKnot_31 : decode cX9_isKnot 31 = .ok (.ireturn, 1) := by decide +kernel
theorem dX9_isLineBetween_0 : decode cX9_isLineBetween 0 = .ok (.iconst 2, 1) := by decide +kernel
theorem dX9_isLineBetween_1 : decode cX9_isLineBetween 1 = .ok (.aload_n 0, 1) := by decide +kernel
theorem dX9_isLineBetween_2 : decode cX9_isLineBetween 2 = .ok (.getfield 13, 3) := by decide +kernel
theorem dX9_isLineBetween_5 : decode cX9_isLineBetween 5 = .ok (.iload_n 1, 1) := by decide +kernel
theorem dX9_isLineBetween_6 : decode cX9_isLineBetween 6 = .ok (.iaload, 1) := by decide +kernel
theorem dX9_isLineBetween_7 : decode cX9_isLineBetween 7 = .ok (.imul, 1) := by decide +kernel
theorem dX9_isLineBetween_8 : decode cX9_isLineBetween 8 = .ok (.istore 4, 2) := by decide +kernel
theorem dX9_isLineBetween_10 : decode cX9_isLineBetween 10 = .ok (.iload_n 2, 1) := by decide +kernel
theorem dX9_isLineBetween_11 : decode cX9_isLineBetween 11 = .ok (.iload 4, 2) := by decide +kernel
theorem dX9_isLineBetween_13 : decode cX9_isLineBetween 13 = .ok (.if_icmp .ge 7, 3) := by decide +kernel
theorem dX9_isLineBetween_16 : decode cX9_isLineBetween 16 = .ok (.iconst 1, 1) := by decide +kernel
theorem dX9_isLineBetween_17 : decode cX9_isLineBetween 17 = .ok (.goto 4, 3) := by decide +kernel
theorem dX9_isLineBetween_20 : decode cX9_isLineBetween 20 = .ok (.iconst 0, 1) := by decide +kernel
theorem dX9_isLineBetween_21 : decode cX9_isLineBetween 21 = .ok (.iload_n 3, 1) := by decide +kernel
theorem dX9_isLineBetween_22 : decode cX9_isLineBetween 22 = .ok (.iload 4, 2) := by decide +kernel
theorem dX9_isLineBetween_24 : decode cX9_isLineBetween 24 = .ok (.if_icmp .ge 7, 3) := by decide +kernel
theorem dX9_isLineBetween_27 : decode cX9_isLineBetween 27 = .ok (.iconst 1, 1) := by decide +kernel
theorem dX9_isLineBetween_28 : decode cX9_isLineBetween 28 = .ok (.goto 4, 3) := by decide +kernel
theorem dX9_isLineBetween_31 : decode cX9_isLineBetween 31 = .ok (.iconst 0, 1) := by decide +kernel
theorem dX9_isLineBetween_32 : decode cX9_isLineBetween 32 = .ok (.if_icmp .ne 5, 3) := by decide +kernel
theorem dX9_isLineBetween_35 : decode cX9_isLineBetween 35 = .ok (.iconst 0, 1) := by decide +kernel
theorem dX9_isLineBetween_36 : decode cX9_isLineBetween 36 = .ok (.ireturn, 1) := by decide +kernel
theorem dX9_isLineBetween_37 : decode cX9_isLineBetween 37 = .ok (.iload_n 2, 1) := by decide +kernel
theorem dX9_isLineBetween_38 : decode cX9_isLineBetween 38 = .ok (.iload 4, 2) := by decide +kernel
theorem dX9_isLineBetween_40 : decode cX9_isLineBetween 40 = .ok (.if_icmp .ge 7, 3) := by decide +kernel
theorem dX9_isLineBetween_43 : decode cX9_isLineBetween 43 = .ok (.iload_n 2, 1) := by decide +kernel
theorem dX9_isLineBetween_44 : decode cX9_isLineBetween 44 = .ok (.goto 4, 3) := by decide +kernel
theorem dX9_isLineBetween_47 : decode cX9_isLineBetween 47 = .ok (.iload_n 3, 1) := by decide +kernel
theorem dX9_isLineBetween_48 : decode cX9_isLineBetween 48 = .ok (.istore 5, 2) := by decide +kernel
theorem dX9_isLineBetween_50 : decode cX9_isLineBetween 50 = .ok (.iload_n 2, 1) := by decide +kernel
theorem dX9_isLineBetween_51 : decode cX9_isLineBetween 51 = .ok (.iload 4, 2) := by decide +kernel
theorem dX9_isLineBetween_53 : decode cX9_isLineBetween 53 = .ok (.if_icmp .ge 10, 3) := by decide +kernel
theorem dX9_isLineBetween_56 : decode cX9_isLineBetween 56 = .ok (.iload_n 3, 1) := by decide +kernel
theorem dX9_isLineBetween_57 : decode cX9_isLineBetween 57 = .ok (.iload 4, 2) := by decide +kernel
theorem dX9_isLineBetween_59 : decode cX9_isLineBetween 59 = .ok (.isub, 1) := by decide +kernel
theorem dX9_isLineBetween_60 : decode cX9_isLineBetween 60 = .ok (.goto 7, 3) := by decide +kernel
theorem dX9_isLineBetween_63 : decode cX9_isLineBetween 63 = .ok (.iload_n 2, 1) := by decide +kernel
theorem dX9_isLineBetween_64 : decode cX9_isLineBetween 64 = .ok (.iload 4, 2) := by decide +kernel
theorem dX9_isLineBetween_66 : decode cX9_isLineBetween 66 = .ok (.isub, 1) := by decide +kernel
theorem dX9_isLineBetween_67 : decode cX9_isLineBetween 67 = .ok (.istore 6, 2) := by decide +kernel
theorem dX9_isLineBetween_69 : decode cX9_isLineBetween 69 = .ok (.aload_n 0, 1) := by decide +kernel
theorem dX9_isLineBetween_70 : decode cX9_isLineBetween 70 = .ok (.iload_n 1, 1) := by decide +kernel
theorem dX9_isLineBetween_71 : decode cX9_isLineBetween 71 = .ok (.iload 5, 2) := by decide +kernel
theorem dX9_isLineBetween_73 : decode cX9_isLineBetween 73 = .ok (.iconst 2, 1) := by decide +kernel
theorem dX9_isLineBetween_74 : decode cX9_isLineBetween 74 = .ok (.idiv, 1) := by decide +kernel
theorem dX9_isLineBetween_75 : decode cX9_isLineBetween 75 = .ok (.iload 6, 2) := by decide +kernel
theorem dX9_isLineBetween_77 : decode cX9_isLineBetween 77 = .ok (.iconst 2, 1) := by decide +kernel
theorem dX9_isLineBetween_78 : decode cX9_isLineBetween 78 = .ok (.idiv, 1) := by decide +kernel
theorem dX9_isLineBetween_79 : decode cX9_isLineBetween 79 = .ok (.invokevirtual 98, 3) := by decide +kernel
theorem dX9_isLineBetween_82 : decode cX9_isLineBetween 82 = .ok (.iload 5, 2) := by decide +kernel
theorem dX9_isLineBetween_84 : decode cX9_isLineBetween 84 = .ok (.iconst 2, 1) := by decide +kernel
theorem dX9_isLineBetween_85 : decode cX9_isLineBetween 85 = .ok (.irem, 1) := by decide +kernel
theorem dX9_isLineBetween_86 : decode cX9_isLineBetween 86 = .ok (.iload 6, 2) := by decide +kernel
theorem dX9_isLineBetween_88 : decode cX9_isLineBetween 88 = .ok (.iconst 2, 1) := by decide +kernel
theorem dX9_isLineBetween_89 : decode cX9_isLineBetween 89 = .ok (.irem, 1) := by decide +kernel
theorem dX9_isLineBetween_90 : decode cX9_isLineBetween 90 = .ok (.if_icmp .eq 7, 3) := by decide +kernel
theorem dX9_isLineBetween_93 : decode cX9_isLineBetween 93 = .ok (.iconst 1, 1) := by decide +kernel
theorem dX9_isLineBetween_94 : decode cX9_isLineBetween 94 = .ok (.goto 4, 3) := by decide +kernel
theorem dX9_isLineBetween_97 : decode cX9_isLineBetween 97 = .ok (.iconst 0, 1) := by decide +kernel
theorem dX9_isLineBetween_98 : decode cX9_isLineBetween 98 = .ok (.if_icmp .ne 7, 3) := by decide +kernel
theorem dX9_isLineBetween_101 : decode cX9_isLineBetween 101 = .ok (.iconst 1, 1) := by decide +kernel
theorem dX9_isLineBetween_102 : decode cX9_isLineBetween 102 = .ok (.goto 4, 3) := by decide +kernel
theorem dX9_isLineBetween_105 : decode cX9_isLineBetween 105 = .ok (.iconst 0, 1) := by decide +kernel
theorem dX9_isLineBetween_106 : decode cX9_isLineBetween 106 = .ok (.ireturn, 1) := by decide +kernel
theorem dX9_joined_0 : decode cX9_joined 0 = .ok (.aload_n 0, 1) := by decide +kernel
theorem dX9_joined_1 : decode cX9_joined 1 = .ok (.iload_n 1, 1) := by decide +kernel
theorem dX9_joined_2 : decode cX9_joined 2 = .ok (.iload_n 2, 1) := by decide +kernel
theorem dX9_joined_3 : decode cX9_joined 3 = .ok (.invokevirtual 262, 3) := by decide +kernel
theorem dX9_joined_6 : decode cX9_joined 6 = .ok (.ifCond .eq 12, 3) := by decide +kernel
theorem dX9_joined_9 : decode cX9_joined 9 = .ok (.aload_n 0, 1) := by decide +kernel
theorem dX9_joined_10 : decode cX9_joined 10 = .ok (.iload_n 1, 1) := by decide +kernel
theorem dX9_joined_11 : decode cX9_joined 11 = .ok (.iload_n 3, 1) := by decide +kernel
theorem dX9_joined_12 : decode cX9_joined 12 = .ok (.invokevirtual 262, 3) := by decide +kernel
theorem dX9_joined_15 : decode cX9_joined 15 = .ok (.ifCond .ne 5, 3) := by decide +kernel
theorem dX9_joined_18 : decode cX9_joined 18 = .ok (.iconst (-1), 1) := by decide +kernel
theorem dX9_joined_19 : decode cX9_joined 19 = .ok (.ireturn, 1) := by decide +kernel
theorem dX9_joined_20 : decode cX9_joined 20 = .ok (.aload_n 0, 1) := by decide +kernel
theorem dX9_joined_21 : decode cX9_joined 21 = .ok (.iload_n 1, 1) := by decide +kernel
theorem dX9_joined_22 : decode cX9_joined 22 = .ok (.iload_n 2, 1) := by decide +kernel
theorem dX9_joined_23 : decode cX9_joined 23 = .ok (.iload_n 3, 1) := by decide +kernel
theorem dX9_joined_24 : decode cX9_joined 24 = .ok (.invokevirtual 265, 3) := by decide +kernel
theorem dX9_joined_27 : decode cX9_joined 27 = .ok (.ifCond .eq 7, 3) := by decide +kernel
theorem dX9_joined_30 : decode cX9_joined 30 = .ok (.iconst 1, 1) := by decide +kernel
theorem dX9_joined_31 : decode cX9_joined 31 = .ok (.goto 4, 3) := by decide +kernel
theorem dX9_joined_34 : decode cX9_joined 34 = .ok (.iconst 0, 1) := by decide +kernel
theorem dX9_joined_35 : decode cX9_joined 35 = .ok (.ireturn, 1) := by decide +kernel
theorem dX9_common_0 : decode cX9_common 0 = .ok (.aload_n 0, 1) := by decide +kernel
theorem dX9_common_1 : decode cX9_common 1 = .ok (.iload_n 1, 1) := by decide +kernel
theorem dX9_common_2 : decode cX9_common 2 = .ok (.iload_n 2, 1) := by decide +kernel
theorem dX9_common_3 : decode cX9_common 3 = .ok (.invokevirtual 262, 3) := by decide +kernel
theorem dX9_common_6 : decode cX9_common 6 = .ok (.ifCond .eq 12, 3) := by decide +kernel
theorem dX9_common_9 : decode cX9_common 9 = .ok (.aload_n 0, 1) := by decide +kernel
theorem dX9_common_10 : decode cX9_common 10 = .ok (.iload_n 1, 1) := by decide +kernel
theorem dX9_common_11 : decode cX9_common 11 = .ok (.iload_n 3, 1) := by decide +kernel
theorem dX9_common_12 : decode cX9_common 12 = .ok (.invokevirtual 262, 3) := by decide +kernel
theorem dX9_common_15 : decode cX9_common 15 = .ok (.ifCond .ne 5, 3) := by decide +kernel
theorem dX9_common_18 : decode cX9_common 18 = .ok (.iconst (-1), 1) := by decide +kernel
theorem dX9_common_19 : decode cX9_common 19 = .ok (.ireturn, 1) := by decide +kernel
theorem dX9_common_20 : decode cX9_common 20 = .ok (.iconst 0, 1) := by decide +kernel
theorem dX9_common_21 : decode cX9_common 21 = .ok (.istore 4, 2) := by decide +kernel
theorem dX9_common_23 : decode cX9_common 23 = .ok (.iconst 0, 1) := by decide +kernel
theorem dX9_common_24 : decode cX9_common 24 = .ok (.istore 5, 2) := by decide +kernel
theorem dX9_common_26 : decode cX9_common 26 = .ok (.iload 5, 2) := by decide +kernel
theorem dX9_common_28 : decode cX9_common 28 = .ok (.iconst 4, 1) := by decide +kernel
theorem dX9_common_29 : decode cX9_common 29 = .ok (.aload_n 0, 1) := by decide +kernel
theorem dX9_common_30 : decode cX9_common 30 = .ok (.getfield 13, 3) := by decide +kernel
theorem dX9_common_33 : decode cX9_common 33 = .ok (.iload_n 1, 1) := by decide +kernel
theorem dX9_common_34 : decode cX9_common 34 = .ok (.iaload, 1) := by decide +kernel
theorem dX9_common_35 : decode cX9_common 35 = .ok (.imul, 1) := by decide +kernel
theorem dX9_common_36 : decode cX9_common 36 = .ok (.if_icmp .ge 34, 3) := by decide +kernel
theorem dX9_common_39 : decode cX9_common 39 = .ok (.aload_n 0, 1) := by decide +kernel
theorem dX9_common_40 : decode cX9_common 40 = .ok (.iload_n 1, 1) := by decide +kernel
theorem dX9_common_41 : decode cX9_common 41 = .ok (.iload_n 2, 1) := by decide +kernel
theorem dX9_common_42 : decode cX9_common 42 = .ok (.iload 5, 2) := by decide +kernel
theorem dX9_common_44 : decode cX9_common 44 = .ok (.invokevirtual 265, 3) := by decide +kernel
theorem dX9_common_47 : decode cX9_common 47 = .ok (.ifCond .eq 17, 3) := by decide +kernel
theorem dX9_common_50 : decode cX9_common 50 = .ok (.aload_n 0, 1) := by decide +kernel
theorem dX9_common_51 : decode cX9_common 51 = .ok (.iload_n 1, 1) := by decide +kernel
theorem dX9_common_52 : decode cX9_common 52 = .ok (.iload 5, 2) := by decide +kernel
theorem dX9_common_54 : decode cX9_common 54 = .ok (.iload_n 3, 1) := by decide +kernel
theorem dX9_common_55 : decode cX9_common 55 = .ok (.invokevirtual 265, 3) := by decide +kernel
theorem dX9_common_58 : decode cX9_common 58 = .ok (.ifCond .eq 6, 3) := by decide +kernel
theorem dX9_common_61 : decode cX9_common 61 = .ok (.iinc 4 1, 3) := by decide +kernel
theorem dX9_common_64 : decode cX9_common 64 = .ok (.iinc 5 1, 3) := by decide +kernel
theorem dX9_common_67 : decode cX9_common 67 = .ok (.goto (-41), 3) := by decide +kernel
theorem dX9_common_70 : decode cX9_common 70 = .ok (.iload 4, 2) := by decide +kernel
theorem dX9_common_72 : decode cX9_common 72 = .ok (.ireturn, 1) := by decide +kernel
theorem dX9_isDesign_0 : decode cX9_isDesign 0 = .ok (.aload_n 0, 1) := by decide +kernel
theorem dX9_isDesign_1 : decode cX9_isDesign 1 = .ok (.iload_n 1, 1) := by decide +kernel
theorem dX9_isDesign_2 : decode cX9_isDesign 2 = .ok (.iload_n 2, 1) := by decide +kernel
theorem dX9_isDesign_3 : decode cX9_isDesign 3 = .ok (.invokevirtual 182, 3) := by decide +kernel
theorem dX9_isDesign_6 : decode cX9_isDesign 6 = .ok (.ifCond .eq 26, 3) := by decide +kernel
theorem dX9_isDesign_9 : decode cX9_isDesign 9 = .ok (.aload_n 0, 1) := by decide +kernel
theorem dX9_isDesign_10 : decode cX9_isDesign 10 = .ok (.iload_n 1, 1) := by decide +kernel
theorem dX9_isDesign_11 : decode cX9_isDesign 11 = .ok (.iload_n 3, 1) := by decide +kernel
theorem dX9_isDesign_12 : decode cX9_isDesign 12 = .ok (.invokevirtual 182, 3) := by decide +kernel
theorem dX9_isDesign_15 : decode cX9_isDesign 15 = .ok (.ifCond .eq 17, 3) := by decide +kernel
theorem dX9_isDesign_18 : decode cX9_isDesign 18 = .ok (.aload_n 0, 1) := by decide +kernel
theorem dX9_isDesign_19 : decode cX9_isDesign 19 = .ok (.getfield 13, 3) := by decide +kernel
theorem dX9_isDesign_22 : decode cX9_isDesign 22 = .ok (.iload_n 1, 1) := by decide +kernel
theorem dX9_isDesign_23 : decode cX9_isDesign 23 = .ok (.iaload, 1) := by decide +kernel
theorem dX9_isDesign_24 : decode cX9_isDesign 24 = .ok (.iconst 4, 1) := by decide +kernel
theorem dX9_isDesign_25 : decode cX9_isDesign 25 = .ok (.if_icmp .lt 7, 3) := by decide +kernel
theorem dX9_isDesign_28 : decode cX9_isDesign 28 = .ok (.iconst 1, 1) := by decide +kernel
theorem dX9_isDesign_29 : decode cX9_isDesign 29 = .ok (.goto 4, 3) := by decide +kernel
theorem dX9_isDesign_32 : decode cX9_isDesign 32 = .ok (.iconst 0, 1) := by decide +kernel
theorem dX9_isDesign_33 : decode cX9_isDesign 33 = .ok (.ireturn, 1) := by decide +kernel
theorem dX9_blockFor_0 : decode cX9_blockFor 0 = .ok (.aload_n 0, 1) := by decide +kernel
theorem dX9_blockFor_1 : decode cX9_blockFor 1 = .ok (.iload_n 1, 1) := by decide +kernel
theorem dX9_blockFor_2 : decode cX9_blockFor 2 = .ok (.iload 4, 2) := by decide +kernel
theorem dX9_blockFor_4 : decode cX9_blockFor 4 = .ok (.invokevirtual 90, 3) := by decide +kernel
theorem dX9_blockFor_7 : decode cX9_blockFor 7 = .ok (.aload_n 0, 1) := by decide +kernel
theorem dX9_blockFor_8 : decode cX9_blockFor 8 = .ok (.iload_n 1, 1) := by decide +kernel
theorem dX9_blockFor_9 : decode cX9_blockFor 9 = .ok (.iload_n 2, 1) := by decide +kernel
theorem dX9_blockFor_10 : decode cX9_blockFor 10 = .ok (.invokevirtual 90, 3) := by decide +kernel
theorem dX9_blockFor_13 : decode cX9_blockFor 13 = .ok (.ixor, 1) := by decide +kernel
theorem dX9_blockFor_14 : decode cX9_blockFor 14 = .ok (.istore 5, 2) := by decide +kernel
theorem dX9_blockFor_16 : decode cX9_blockFor 16 = .ok (.iload 5, 2) := by decide +kernel
theorem dX9_blockFor_18 : decode cX9_blockFor 18 = .ok (.iload_n 3, 1) := by decide +kernel
theorem dX9_blockFor_19 : decode cX9_blockFor 19 = .ok (.invokestatic 94, 3) := by decide +kernel
theorem dX9_blockFor_22 : decode cX9_blockFor 22 = .ok (.ifCond .eq 18, 3) := by decide +kernel
theorem dX9_blockFor_25 : decode cX9_blockFor 25 = .ok (.iload 5, 2) := by decide +kernel
theorem dX9_blockFor_27 : decode cX9_blockFor 27 = .ok (.iconst 1, 1) := by decide +kernel
theorem dX9_blockFor_28 : decode cX9_blockFor 28 = .ok (.aload_n 0, 1) := by decide +kernel
theorem dX9_blockFor_29 : decode cX9_blockFor 29 = .ok (.getfield 13, 3) := by decide +kernel
theorem dX9_blockFor_32 : decode cX9_blockFor 32 = .ok (.iload_n 1, 1) := by decide +kernel
theorem dX9_blockFor_33 : decode cX9_blockFor 33 = .ok (.iaload, 1) := by decide +kernel
theorem dX9_blockFor_34 : decode cX9_blockFor 34 = .ok (.ishl, 1) := by decide +kernel
theorem dX9_blockFor_35 : decode cX9_blockFor 35 = .ok (.iconst 1, 1) := by decide +kernel
theorem dX9_blockFor_36 : decode cX9_blockFor 36 = .ok (.isub, 1) := by decide +kernel
theorem dX9_blockFor_37 : decode cX9_blockFor 37 = .ok (.ixor, 1) := by decide +kernel
theorem dX9_blockFor_38 : decode cX9_blockFor 38 = .ok (.istore 5, 2) := by decide +kernel
theorem dX9_blockFor_40 : decode cX9_blockFor 40 = .ok (.iconst 1, 1) := by decide +kernel
theorem dX9_blockFor_41 : decode cX9_blockFor 41 = .ok (.aload_n 0, 1) := by decide +kernel
theorem dX9_blockFor_42 : decode cX9_blockFor 42 = .ok (.getfield 13, 3) := by decide +kernel
theorem dX9_blockFor_45 : decode cX9_blockFor 45 = .ok (.iload_n 1, 1) := by decide +kernel
theorem dX9_blockFor_46 : decode cX9_blockFor 46 = .ok (.iaload, 1) := by decide +kernel
theorem dX9_blockFor_47 : decode cX9_blockFor 47 = .ok (.ishl, 1) := by decide +kernel
theorem dX9_blockFor_48 : decode cX9_blockFor 48 = .ok (.iconst 1, 1) := by decide +kernel
theorem dX9_blockFor_49 : decode cX9_blockFor 49 = .ok (.isub, 1) := by decide +kernel
theorem dX9_blockFor_50 : decode cX9_blockFor 50 = .ok (.iload 5, 2) := by decide +kernel
theorem dX9_blockFor_52 : decode cX9_blockFor 52 = .ok (.iconst (-1), 1) := by decide +kernel
theorem dX9_blockFor_53 : decode cX9_blockFor 53 = .ok (.ixor, 1) := by decide +kernel
theorem dX9_blockFor_54 : decode cX9_blockFor 54 = .ok (.iand, 1) := by decide +kernel
theorem dX9_blockFor_55 : decode cX9_blockFor 55 = .ok (.iconst 1, 1) := by decide +kernel
theorem dX9_blockFor_56 : decode cX9_blockFor 56 = .ok (.iload_n 3, 1) := by decide +kernel
theorem dX9_blockFor_57 : decode cX9_blockFor 57 = .ok (.ishl, 1) := by decide +kernel
theorem dX9_blockFor_58 : decode cX9_blockFor 58 = .ok (.iconst (-1), 1) := by decide +kernel
theorem dX9_blockFor_59 : decode cX9_blockFor 59 = .ok (.ixor, 1) := by decide +kernel
theorem dX9_blockFor_60 : decode cX9_blockFor 60 = .ok (.iand, 1) := by decide +kernel
theorem dX9_blockFor_61 : decode cX9_blockFor 61 = .ok (.ireturn, 1) := by decide +kernel
theorem dX9_block_0 : decode cX9_block 0 = .ok (.aload_n 0, 1) := by decide +kernel
theorem dX9_block_1 : decode cX9_block 1 = .ok (.iload_n 1, 1) := by decide +kernel
theorem dX9_block_2 : decode cX9_block 2 = .ok (.iload_n 2, 1) := by decide +kernel
theorem dX9_block_3 : decode cX9_block 3 = .ok (.iload_n 3, 1) := by decide +kernel
theorem dX9_block_4 : decode cX9_block 4 = .ok (.invokevirtual 268, 3) := by decide +kernel
theorem dX9_block_7 : decode cX9_block 7 = .ok (.ifCond .eq 13, 3) := by decide +kernel
theorem dX9_block_10 : decode cX9_block 10 = .ok (.aload_n 0, 1) := by decide +kernel
theorem dX9_block_11 : decode cX9_block 11 = .ok (.iload_n 1, 1) := by decide +kernel
theorem dX9_block_12 : decode cX9_block 12 = .ok (.iload 4, 2) := by decide +kernel
theorem dX9_block_14 : decode cX9_block 14 = .ok (.invokevirtual 182, 3) := by decide +kernel
theorem dX9_block_17 : decode cX9_block 17 = .ok (.ifCond .ne 5, 3) := by decide +kernel
theorem dX9_block_20 : decode cX9_block 20 = .ok (.iconst (-1), 1) := by decide +kernel
theorem dX9_block_21 : decode cX9_block 21 = .ok (.ireturn, 1) := by decide +kernel
theorem dX9_block_22 : decode cX9_block 22 = .ok (.iload 4, 2) := by decide +kernel
theorem dX9_block_24 : decode cX9_block 24 = .ok (.iload_n 2, 1) := by decide +kernel
theorem dX9_block_25 : decode cX9_block 25 = .ok (.if_icmp .ne 8, 3) := by decide +kernel
theorem dX9_block_28 : decode cX9_block 28 = .ok (.bipush (-2), 2) := by decide +kernel
theorem dX9_block_30 : decode cX9_block 30 = .ok (.goto 12, 3) := by decide +kernel
theorem dX9_block_33 : decode cX9_block 33 = .ok (.aload_n 0, 1) := by decide +kernel
theorem dX9_block_34 : decode cX9_block 34 = .ok (.iload_n 1, 1) := by decide +kernel
theorem dX9_block_35 : decode cX9_block 35 = .ok (.iload_n 2, 1) := by decide +kernel
theorem dX9_block_36 : decode cX9_block 36 = .ok (.iload_n 3, 1) := by decide +kernel
theorem dX9_block_37 : decode cX9_block 37 = .ok (.iload 4, 2) := by decide +kernel
theorem dX9_block_39 : decode cX9_block 39 = .ok (.invokevirtual 271, 3) := by decide +kernel
theorem dX9_block_42 : decode cX9_block 42 = .ok (.ireturn, 1) := by decide +kernel
theorem dX9_isSet_0 : decode cX9_isSet 0 = .ok (.iload_n 2, 1) := by decide +kernel
theorem dX9_isSet_1 : decode cX9_isSet 1 = .ok (.aload_n 0, 1) := by decide +kernel
theorem dX9_isSet_2 : decode cX9_isSet 2 = .ok (.getfield 13, 3) := by decide +kernel
theorem dX9_isSet_5 : decode cX9_isSet 5 = .ok (.iload_n 1, 1) := by decide +kernel
theorem dX9_isSet_6 : decode cX9_isSet 6 = .ok (.iaload, 1) := by decide +kernel
theorem dX9_isSet_7 : decode cX9_isSet 7 = .ok (.invokestatic 160, 3) := by decide +kernel
theorem dX9_isSet_10 : decode cX9_isSet 10 = .ok (.ireturn, 1) := by decide +kernel
theorem dX9_through_0 : decode cX9_through 0 = .ok (.aload_n 0, 1) := by decide +kernel
theorem dX9_through_1 : decode cX9_through 1 = .ok (.iload_n 1, 1) := by decide +kernel
theorem dX9_through_2 : decode cX9_through 2 = .ok (.iload_n 2, 1) := by decide +kernel
theorem dX9_through_3 : decode cX9_through 3 = .ok (.iload_n 3, 1) := by decide +kernel
theorem dX9_through_4 : decode cX9_through 4 = .ok (.invokevirtual 268, 3) := by decide +kernel
theorem dX9_through_7 : decode cX9_through 7 = .ok (.ifCond .eq 22, 3) := by decide +kernel
theorem dX9_through_10 : decode cX9_through 10 = .ok (.aload_n 0, 1) := by decide +kernel
theorem dX9_through_11 : decode cX9_through 11 = .ok (.iload_n 1, 1) := by decide +kernel
theorem dX9_through_12 : decode cX9_through 12 = .ok (.iload 4, 2) := by decide +kernel
theorem dX9_through_14 : decode cX9_through 14 = .ok (.invokevirtual 274, 3) := by decide +kernel
theorem dX9_through_17 : decode cX9_through 17 = .ok (.ifCond .eq 12, 3) := by decide +kernel
theorem dX9_through_20 : decode cX9_through 20 = .ok (.iload 4, 2) := by decide +kernel
theorem dX9_through_22 : decode cX9_through 22 = .ok (.iload_n 3, 1) := by decide +kernel
theorem dX9_through_23 : decode cX9_through 23 = .ok (.invokestatic 94, 3) := by decide +kernel
theorem dX9_through_26 : decode cX9_through 26 = .ok (.ifCond .eq 5, 3) := by decide +kernel
theorem dX9_through_29 : decode cX9_through 29 = .ok (.iconst (-1), 1) := by decide +kernel
theorem dX9_through_30 : decode cX9_through 30 = .ok (.ireturn, 1) := by decide +kernel
theorem dX9_through_31 : decode cX9_through 31 = .ok (.iconst 0, 1) := by decide +kernel
theorem dX9_through_32 : decode cX9_through 32 = .ok (.istore 5, 2) := by decide +kernel
theorem dX9_through_34 : decode cX9_through 34 = .ok (.iconst 0, 1) := by decide +kernel
theorem dX9_through_35 : decode cX9_through 35 = .ok (.istore 6, 2) := by decide +kernel
theorem dX9_through_37 : decode cX9_through 37 = .ok (.iload 6, 2) := by decide +kernel
theorem dX9_through_39 : decode cX9_through 39 = .ok (.aload_n 0, 1) := by decide +kernel
theorem dX9_through_40 : decode cX9_through 40 = .ok (.getfield 13, 3) := by decide +kernel
theorem dX9_through_43 : decode cX9_through 43 = .ok (.iload_n 1, 1) := by decide +kernel
theorem dX9_through_44 : decode cX9_through 44 = .ok (.iaload, 1) := by decide +kernel
theorem dX9_through_45 : decode cX9_through 45 = .ok (.if_icmp .ge 35, 3) := by decide +kernel
theorem dX9_through_48 : decode cX9_through 48 = .ok (.iload 6, 2) := by decide +kernel
theorem dX9_through_50 : decode cX9_through 50 = .ok (.iload_n 2, 1) := by decide +kernel
theorem dX9_through_51 : decode cX9_through 51 = .ok (.if_icmp .eq 23, 3) := by decide +kernel
theorem dX9_through_54 : decode cX9_through 54 = .ok (.iload 4, 2) := by decide +kernel
theorem dX9_through_56 : decode cX9_through 56 = .ok (.aload_n 0, 1) := by decide +kernel
theorem dX9_through_57 : decode cX9_through 57 = .ok (.iload_n 1, 1) := by decide +kernel
theorem dX9_through_58 : decode cX9_through 58 = .ok (.iload_n 2, 1) := by decide +kernel
theorem dX9_through_59 : decode cX9_through 59 = .ok (.iload_n 3, 1) := by decide +kernel
theorem dX9_through_60 : decode cX9_through 60 = .ok (.iload 6, 2) := by decide +kernel
theorem dX9_through_62 : decode cX9_through 62 = .ok (.invokevirtual 271, 3) := by decide +kernel
theorem dX9_through_65 : decode cX9_through 65 = .ok (.iconst (-1), 1) := by decide +kernel
theorem dX9_through_66 : decode cX9_through 66 = .ok (.ixor, 1) := by decide +kernel
theorem dX9_through_67 : decode cX9_through 67 = .ok (.iand, 1) := by decide +kernel
theorem dX9_through_68 : decode cX9_through 68 = .ok (.ifCond .ne 6, 3) := by decide +kernel
theorem dX9_through_71 : decode cX9_through 71 = .ok (.iinc 5 1, 3) := by decide +kernel
theorem dX9_through_74 : decode cX9_through 74 = .ok (.iinc 6 1, 3) := by decide +kernel
theorem dX9_through_77 : decode cX9_through 77 = .ok (.goto (-40), 3) := by decide +kernel
theorem dX9_through_80 : decode cX9_through 80 = .ok (.iload 5, 2) := by decide +kernel
theorem dX9_through_82 : decode cX9_through 82 = .ok (.ireturn, 1) := by decide +kernel
theorem dX9_halves_0 : decode cX9_halves 0 = .ok (.aload_n 0, 1) := by decide +kernel
theorem dX9_halves_1 : decode cX9_halves 1 = .ok (.iload_n 1, 1) := by decide +kernel
theorem dX9_halves_2 : decode cX9_halves 2 = .ok (.iload_n 2, 1) := by decide +kernel
theorem dX9_halves_3 : decode cX9_halves 3 = .ok (.invokevirtual 182, 3) := by decide +kernel
theorem dX9_halves_6 : decode cX9_halves 6 = .ok (.ifCond .eq 12, 3) := by decide +kernel
theorem dX9_halves_9 : decode cX9_halves 9 = .ok (.aload_n 0, 1) := by decide +kernel
theorem dX9_halves_10 : decode cX9_halves 10 = .ok (.iload_n 1, 1) := by decide +kernel
theorem dX9_halves_11 : decode cX9_halves 11 = .ok (.iload_n 3, 1) := by decide +kernel
theorem dX9_halves_12 : decode cX9_halves 12 = .ok (.invokevirtual 274, 3) := by decide +kernel
theorem dX9_halves_15 : decode cX9_halves 15 = .ok (.ifCond .ne 5, 3) := by decide +kernel
theorem dX9_halves_18 : decode cX9_halves 18 = .ok (.iconst (-1), 1) := by decide +kernel
theorem dX9_halves_19 : decode cX9_halves 19 = .ok (.ireturn, 1) := by decide +kernel
theorem dX9_halves_20 : decode cX9_halves 20 = .ok (.iconst 0, 1) := by decide +kernel
theorem dX9_halves_21 : decode cX9_halves 21 = .ok (.istore 4, 2) := by decide +kernel
theorem dX9_halves_23 : decode cX9_halves 23 = .ok (.iconst 0, 1) := by decide +kernel
theorem dX9_halves_24 : decode cX9_halves 24 = .ok (.istore 5, 2) := by decide +kernel
theorem dX9_halves_26 : decode cX9_halves 26 = .ok (.iload 5, 2) := by decide +kernel
theorem dX9_halves_28 : decode cX9_halves 28 = .ok (.aload_n 0, 1) := by decide +kernel
theorem dX9_halves_29 : decode cX9_halves 29 = .ok (.getfield 13, 3) := by decide +kernel
theorem dX9_halves_32 : decode cX9_halves 32 = .ok (.iload_n 1, 1) := by decide +kernel
theorem dX9_halves_33 : decode cX9_halves 33 = .ok (.iaload, 1) := by decide +kernel
theorem dX9_halves_34 : decode cX9_halves 34 = .ok (.if_icmp .ge 59, 3) := by decide +kernel
theorem dX9_halves_37 : decode cX9_halves 37 = .ok (.aload_n 0, 1) := by decide +kernel
theorem dX9_halves_38 : decode cX9_halves 38 = .ok (.iload_n 1, 1) := by decide +kernel
theorem dX9_halves_39 : decode cX9_halves 39 = .ok (.iload 5, 2) := by decide +kernel
theorem dX9_halves_41 : decode cX9_halves 41 = .ok (.invokevirtual 90, 3) := by decide +kernel
theorem dX9_halves_44 : decode cX9_halves 44 = .ok (.aload_n 0, 1) := by decide +kernel
theorem dX9_halves_45 : decode cX9_halves 45 = .ok (.iload_n 1, 1) := by decide +kernel
theorem dX9_halves_46 : decode cX9_halves 46 = .ok (.iload_n 2, 1) := by decide +kernel
theorem dX9_halves_47 : decode cX9_halves 47 = .ok (.invokevirtual 90, 3) := by decide +kernel
theorem dX9_halves_50 : decode cX9_halves 50 = .ok (.ixor, 1) := by decide +kernel
theorem dX9_halves_51 : decode cX9_halves 51 = .ok (.istore 6, 2) := by decide +kernel
theorem dX9_halves_53 : decode cX9_halves 53 = .ok (.iload 5, 2) := by decide +kernel
theorem dX9_halves_55 : decode cX9_halves 55 = .ok (.iload_n 2, 1) := by decide +kernel
theorem dX9_halves_56 : decode cX9_halves 56 = .ok (.if_icmp .eq 13, 3) := by decide +kernel
theorem dX9_halves_59 : decode cX9_halves 59 = .ok (.iload_n 3, 1) := by decide +kernel
theorem dX9_halves_60 : decode cX9_halves 60 = .ok (.iload 6, 2) := by decide +kernel
theorem dX9_halves_62 : decode cX9_halves 62 = .ok (.iand, 1) := by decide +kernel
theorem dX9_halves_63 : decode cX9_halves 63 = .ok (.ifCond .ne 6, 3) := by decide +kernel
theorem dX9_halves_66 : decode cX9_halves 66 = .ok (.iinc 4 1, 3) := by decide +kernel
theorem dX9_halves_69 : decode cX9_halves 69 = .ok (.iload 5, 2) := by decide +kernel
theorem dX9_halves_71 : decode cX9_halves 71 = .ok (.iload_n 2, 1) := by decide +kernel
theorem dX9_halves_72 : decode cX9_halves 72 = .ok (.if_icmp .eq 15, 3) := by decide +kernel
theorem dX9_halves_75 : decode cX9_halves 75 = .ok (.iload_n 3, 1) := by decide +kernel
theorem dX9_halves_76 : decode cX9_halves 76 = .ok (.iload 6, 2) := by decide +kernel
theorem dX9_halves_78 : decode cX9_halves 78 = .ok (.iconst (-1), 1) := by decide +kernel
theorem dX9_halves_79 : decode cX9_halves 79 = .ok (.ixor, 1) := by decide +kernel
theorem dX9_halves_80 : decode cX9_halves 80 = .ok (.iand, 1) := by decide +kernel
theorem dX9_halves_81 : decode cX9_halves 81 = .ok (.ifCond .ne 6, 3) := by decide +kernel
theorem dX9_halves_84 : decode cX9_halves 84 = .ok (.iinc 4 1, 3) := by decide +kernel
theorem dX9_halves_87 : decode cX9_halves 87 = .ok (.iinc 5 1, 3) := by decide +kernel
theorem dX9_halves_90 : decode cX9_halves 90 = .ok (.goto (-64), 3) := by decide +kernel
theorem dX9_halves_93 : decode cX9_halves 93 = .ok (.iload 4, 2) := by decide +kernel
theorem dX9_halves_95 : decode cX9_halves 95 = .ok (.ireturn, 1) := by decide +kernel
theorem dX9_nearest_0 : decode cX9_nearest 0 = .ok (.aload_n 0, 1) := by decide +kernel
theorem dX9_nearest_1 : decode cX9_nearest 1 = .ok (.iload_n 1, 1) := by decide +kernel
theorem dX9_nearest_2 : decode cX9_nearest 2 = .ok (.invokevirtual 86, 3) := by decide +kernel
theorem dX9_nearest_5 : decode cX9_nearest 5 = .ok (.ifCond .eq 21, 3) := by decide +kernel
theorem dX9_nearest_8 : decode cX9_nearest 8 = .ok (.aload_n 0, 1) := by decide +kernel
theorem dX9_nearest_9 : decode cX9_nearest 9 = .ok (.iload_n 1, 1) := by decide +kernel
theorem dX9_nearest_10 : decode cX9_nearest 10 = .ok (.iload_n 2, 1) := by decide +kernel
theorem dX9_nearest_11 : decode cX9_nearest 11 = .ok (.invokevirtual 274, 3) := by decide +kernel
theorem dX9_nearest_14 : decode cX9_nearest 14 = .ok (.ifCond .eq 12, 3) := by decide +kernel
theorem dX9_nearest_17 : decode cX9_nearest 17 = .ok (.iload_n 3, 1) := by decide +kernel
theorem dX9_nearest_18 : decode cX9_nearest 18 = .ok (.iconst 0, 1) := by decide +kernel
theorem dX9_nearest_19 : decode cX9_nearest 19 = .ok (.iconst 3, 1) := by decide +kernel
theorem dX9_nearest_20 : decode cX9_nearest 20 = .ok (.invokestatic 82, 3) := by decide +kernel
theorem dX9_nearest_23 : decode cX9_nearest 23 = .ok (.ifCond .ne 5, 3) := by decide +kernel
theorem dX9_nearest_26 : decode cX9_nearest 26 = .ok (.iconst (-1), 1) := by decide +kernel
theorem dX9_nearest_27 : decode cX9_nearest 27 = .ok (.ireturn, 1) := by decide +kernel
theorem dX9_nearest_28 : decode cX9_nearest 28 = .ok (.iconst (-1), 1) := by decide +kernel
theorem dX9_nearest_29 : decode cX9_nearest 29 = .ok (.istore 4, 2) := by decide +kernel
theorem dX9_nearest_31 : decode cX9_nearest 31 = .ok (.bipush 29, 2) := by decide +kernel
theorem dX9_nearest_33 : decode cX9_nearest 33 = .ok (.istore 5, 2) := by decide +kernel
theorem dX9_nearest_35 : decode cX9_nearest 35 = .ok (.iconst 0, 1) := by decide +kernel
theorem dX9_nearest_36 : decode cX9_nearest 36 = .ok (.istore 6, 2) := by decide +kernel
theorem dX9_nearest_38 : decode cX9_nearest 38 = .ok (.iconst 0, 1) := by decide +kernel
theorem dX9_nearest_39 : decode cX9_nearest 39 = .ok (.istore 7, 2) := by decide +kernel
theorem dX9_nearest_41 : decode cX9_nearest 41 = .ok (.iload 7, 2) := by decide +kernel
theorem dX9_nearest_43 : decode cX9_nearest 43 = .ok (.iconst 2, 1) := by decide +kernel
theorem dX9_nearest_44 : decode cX9_nearest 44 = .ok (.aload_n 0, 1) := by decide +kernel
theorem dX9_nearest_45 : decode cX9_nearest 45 = .ok (.getfield 13, 3) := by decide +kernel
theorem dX9_nearest_48 : decode cX9_nearest 48 = .ok (.iload_n 1, 1) := by decide +kernel
theorem dX9_nearest_49 : decode cX9_nearest 49 = .ok (.iaload, 1) := by decide +kernel
theorem dX9_nearest_50 : decode cX9_nearest 50 = .ok (.imul, 1) := by decide +kernel
theorem dX9_nearest_51 : decode cX9_nearest 51 = .ok (.if_icmp .ge 75, 3) := by decide +kernel
theorem dX9_nearest_54 : decode cX9_nearest 54 = .ok (.aload_n 0, 1) := by decide +kernel
theorem dX9_nearest_55 : decode cX9_nearest 55 = .ok (.iload_n 1, 1) := by decide +kernel
theorem dX9_nearest_56 : decode cX9_nearest 56 = .ok (.iload 7, 2) := by decide +kernel
theorem dX9_nearest_58 : decode cX9_nearest 58 = .ok (.iconst 2, 1) := by decide +kernel
theorem dX9_nearest_59 : decode cX9_nearest 59 = .ok (.idiv, 1) := by decide +kernel
theorem dX9_nearest_60 : decode cX9_nearest 60 = .ok (.invokevirtual 90, 3) := by decide +kernel
theorem dX9_nearest_63 : decode cX9_nearest 63 = .ok (.iload_n 2, 1) := by decide +kernel
theorem dX9_nearest_64 : decode cX9_nearest 64 = .ok (.ixor, 1) := by decide +kernel
theorem dX9_nearest_65 : decode cX9_nearest 65 = .ok (.invokestatic 166, 3) := by decide +kernel
theorem dX9_nearest_68 : decode cX9_nearest 68 = .ok (.istore 8, 2) := by decide +kernel
theorem dX9_nearest_70 : decode cX9_nearest 70 = .ok (.iload 7, 2) := by decide +kernel
theorem dX9_nearest_72 : decode cX9_nearest 72 = .ok (.iconst 2, 1) := by decide +kernel
theorem dX9_nearest_73 : decode cX9_nearest 73 = .ok (.irem, 1) := by decide +kernel
theorem dX9_nearest_74 : decode cX9_nearest 74 = .ok (.iconst 1, 1) := by decide +kernel
theorem dX9_nearest_75 : decode cX9_nearest 75 = .ok (.if_icmp .ne 14, 3) := by decide +kernel
theorem dX9_nearest_78 : decode cX9_nearest 78 = .ok (.aload_n 0, 1) := by decide +kernel
theorem dX9_nearest_79 : decode cX9_nearest 79 = .ok (.getfield 13, 3) := by decide +kernel
theorem dX9_nearest_82 : decode cX9_nearest 82 = .ok (.iload_n 1, 1) := by decide +kernel
theorem dX9_nearest_83 : decode cX9_nearest 83 = .ok (.iaload, 1) := by decide +kernel
theorem dX9_nearest_84 : decode cX9_nearest 84 = .ok (.iload 8, 2) := by decide +kernel
theorem dX9_nearest_86 : decode cX9_nearest 86 = .ok (.isub, 1) := by decide +kernel
theorem dX9_nearest_87 : decode cX9_nearest 87 = .ok (.istore 8, 2) := by decide +kernel
theorem dX9_nearest_89 : decode cX9_nearest 89 = .ok (.iload 8, 2) := by decide +kernel
theorem dX9_nearest_91 : decode cX9_nearest 91 = .ok (.iload 5, 2) := by decide +kernel
theorem dX9_nearest_93 : decode cX9_nearest 93 = .ok (.if_icmp .ne 6, 3) := by decide +kernel
theorem dX9_nearest_96 : decode cX9_nearest 96 = .ok (.iinc 6 1, 3) := by decide +kernel
theorem dX9_nearest_99 : decode cX9_nearest 99 = .ok (.iload 8, 2) := by decide +kernel
theorem dX9_nearest_101 : decode cX9_nearest 101 = .ok (.iload 5, 2) := by decide +kernel
theorem dX9_nearest_103 : decode cX9_nearest 103 = .ok (.if_icmp .lt 6, 3) := by decide +kernel
theorem dX9_nearest_106 : decode cX9_nearest 106 = .ok (.goto 14, 3) := by decide +kernel
theorem dX9_nearest_109 : decode cX9_nearest 109 = .ok (.iload 8, 2) := by decide +kernel
theorem dX9_nearest_111 : decode cX9_nearest 111 = .ok (.istore 5, 2) := by decide +kernel
theorem dX9_nearest_113 : decode cX9_nearest 113 = .ok (.iload 7, 2) := by decide +kernel
theorem dX9_nearest_115 : decode cX9_nearest 115 = .ok (.istore 4, 2) := by decide +kernel
theorem dX9_nearest_117 : decode cX9_nearest 117 = .ok (.iconst 1, 1) := by decide +kernel
theorem dX9_nearest_118 : decode cX9_nearest 118 = .ok (.istore 6, 2) := by decide +kernel
theorem dX9_nearest_120 : decode cX9_nearest 120 = .ok (.iinc 7 1, 3) := by decide +kernel
theorem dX9_nearest_123 : decode cX9_nearest 123 = .ok (.goto (-82), 3) := by decide +kernel
theorem dX9_nearest_126 : decode cX9_nearest 126 = .ok (.iload_n 3, 1) := by decide +kernel
theorem dX9_nearest_127 : decode cX9_nearest 127 = .ok (.ifCond .ne 10, 3) := by decide +kernel
theorem dX9_nearest_130 : decode cX9_nearest 130 = .ok (.iload 4, 2) := by decide +kernel
theorem dX9_nearest_132 : decode cX9_nearest 132 = .ok (.iconst 2, 1) := by decide +kernel
theorem dX9_nearest_133 : decode cX9_nearest 133 = .ok (.idiv, 1) := by decide +kernel
theorem dX9_nearest_134 : decode cX9_nearest 134 = .ok (.goto 27, 3) := by decide +kernel
theorem dX9_nearest_137 : decode cX9_nearest 137 = .ok (.iload_n 3, 1) := by decide +kernel
theorem dX9_nearest_138 : decode cX9_nearest 138 = .ok (.iconst 1, 1) := by decide +kernel
theorem dX9_nearest_139 : decode cX9_nearest 139 = .ok (.if_icmp .ne 10, 3) := by decide +kernel
theorem dX9_nearest_142 : decode cX9_nearest 142 = .ok (.iload 4, 2) := by decide +kernel
theorem dX9_nearest_144 : decode cX9_nearest 144 = .ok (.iconst 2, 1) := by decide +kernel
theorem dX9_nearest_145 : decode cX9_nearest 145 = .ok (.irem, 1) := by decide +kernel
theorem dX9_nearest_146 : decode cX9_nearest 146 = .ok (.goto 15, 3) := by decide +kernel
theorem dX9_nearest_149 : decode cX9_nearest 149 = .ok (.iload_n 3, 1) := by decide +kernel
theorem dX9_nearest_150 : decode cX9_nearest 150 = .ok (.iconst 2, 1) := by decide +kernel
theorem dX9_nearest_151 : decode cX9_nearest 151 = .ok (.if_icmp .ne 8, 3) := by decide +kernel
theorem dX9_nearest_154 : decode cX9_nearest 154 = .ok (.iload 5, 2) := by decide +kernel
theorem dX9_nearest_156 : decode cX9_nearest 156 = .ok (.goto 5, 3) := by decide +kernel
theorem dX9_nearest_159 : decode cX9_nearest 159 = .ok (.iload 6, 2) := by decide +kernel
theorem dX9_nearest_161 : decode cX9_nearest 161 = .ok (.ireturn, 1) := by decide +kernel
theorem dX9_signal_0 : decode cX9_signal 0 = .ok (.iload_n 1, 1) := by decide +kernel
theorem dX9_signal_1 : decode cX9_signal 1 = .ok (.iconst 0, 1) := by decide +kernel
theorem dX9_signal_2 : decode cX9_signal 2 = .ok (.bipush 27, 2) := by decide +kernel
theorem dX9_signal_4 : decode cX9_signal 4 = .ok (.invokestatic 82, 3) := by decide +kernel
theorem dX9_signal_7 : decode cX9_signal 7 = .ok (.ifCond .eq 16, 3) := by decide +kernel
theorem dX9_signal_10 : decode cX9_signal 10 = .ok (.iload_n 2, 1) := by decide +kernel
theorem dX9_signal_11 : decode cX9_signal 11 = .ok (.sipush (-999), 3) := by decide +kernel
theorem dX9_signal_14 : decode cX9_signal 14 = .ok (.sipush 999, 3) := by decide +kernel
theorem dX9_signal_17 : decode cX9_signal 17 = .ok (.invokestatic 82, 3) := by decide +kernel
theorem dX9_signal_20 : decode cX9_signal 20 = .ok (.ifCond .ne 7, 3) := by decide +kernel
theorem dX9_signal_23 : decode cX9_signal 23 = .ok (.sipush (-1000), 3) := by decide +kernel
theorem dX9_signal_26 : decode cX9_signal 26 = .ok (.ireturn, 1) := by decide +kernel
theorem dX9_signal_27 : decode cX9_signal 27 = .ok (.aload_n 0, 1) := by decide +kernel
theorem dX9_signal_28 : decode cX9_signal 28 = .ok (.getfield 72, 3) := by decide +kernel
theorem dX9_signal_31 : decode cX9_signal 31 = .ok (.iload_n 1, 1) := by decide +kernel
theorem dX9_signal_32 : decode cX9_signal 32 = .ok (.iaload, 1) := by decide +kernel
theorem dX9_signal_33 : decode cX9_signal 33 = .ok (.istore_n 3, 1) := by decide +kernel
theorem dX9_signal_34 : decode cX9_signal 34 = .ok (.aload_n 0, 1) := by decide +kernel
theorem dX9_signal_35 : decode cX9_signal 35 = .ok (.getfield 72, 3) := by decide +kernel
theorem dX9_signal_38 : decode cX9_signal 38 = .ok (.iload_n 1, 1) := by decide +kernel
theorem dX9_signal_39 : decode cX9_signal 39 = .ok (.iload_n 2, 1) := by decide +kernel
theorem dX9_signal_40 : decode cX9_signal 40 = .ok (.iastore, 1) := by decide +kernel
theorem dX9_signal_41 : decode cX9_signal 41 = .ok (.iload_n 3, 1) := by decide +kernel
theorem dX9_signal_42 : decode cX9_signal 42 = .ok (.ireturn, 1) := by decide +kernel
theorem dX9_spectrumAt_0 : decode cX9_spectrumAt 0 = .ok (.iconst 0, 1) := by decide +kernel
theorem dX9_spectrumAt_1 : decode cX9_spectrumAt 1 = .ok (.istore_n 3, 1) := by decide +kernel
theorem dX9_spectrumAt_2 : decode cX9_spectrumAt 2 = .ok (.iconst 0, 1) := by decide +kernel
theorem dX9_spectrumAt_3 : decode cX9_spectrumAt 3 = .ok (.istore 4, 2) := by decide +kernel
theorem dX9_spectrumAt_5 : decode cX9_spectrumAt 5 = .ok (.iload 4, 2) := by decide +kernel
theorem dX9_spectrumAt_7 : decode cX9_spectrumAt 7 = .ok (.aload_n 0, 1) := by decide +kernel
theorem dX9_spectrumAt_8 : decode cX9_spectrumAt 8 = .ok (.getfield 13, 3) := by decide +kernel
theorem dX9_spectrumAt_11 : decode cX9_spectrumAt 11 = .ok (.iload_n 1, 1) := by decide +kernel
theorem dX9_spectrumAt_12 : decode cX9_spectrumAt 12 = .ok (.iaload, 1) := by decide +kernel
theorem dX9_spectrumAt_13 : decode cX9_spectrumAt 13 = .ok (.if_icmp .ge 41, 3) := by decide +kernel
theorem dX9_spectrumAt_16 : decode cX9_spectrumAt 16 = .ok (.iload_n 3, 1) := by decide +kernel
theorem dX9_spectrumAt_17 : decode cX9_spectrumAt 17 = .ok (.aload_n 0, 1) := by decide +kernel
theorem dX9_spectrumAt_18 : decode cX9_spectrumAt 18 = .ok (.iload_n 1, 1) := by decide +kernel
theorem dX9_spectrumAt_19 : decode cX9_spectrumAt 19 = .ok (.iload_n 2, 1) := by decide +kernel
theorem dX9_spectrumAt_20 : decode cX9_spectrumAt 20 = .ok (.iload 4, 2) := by decide +kernel
theorem dX9_spectrumAt_22 : decode cX9_spectrumAt 22 = .ok (.invokevirtual 98, 3) := by decide +kernel
theorem dX9_spectrumAt_25 : decode cX9_spectrumAt 25 = .ok (.ifCond .eq 14, 3) := by decide +kernel
theorem dX9_spectrumAt_28 : decode cX9_spectrumAt 28 = .ok (.aload_n 0, 1) := by decide +kernel
theorem dX9_spectrumAt_29 : decode cX9_spectrumAt 29 = .ok (.getfield 72, 3) := by decide +kernel
theorem dX9_spectrumAt_32 : decode cX9_spectrumAt 32 = .ok (.iload 4, 2) := by decide +kernel
theorem dX9_spectrumAt_34 : decode cX9_spectrumAt 34 = .ok (.iaload, 1) := by decide +kernel
theorem dX9_spectrumAt_35 : decode cX9_spectrumAt 35 = .ok (.ineg, 1) := by decide +kernel
theorem dX9_spectrumAt_36 : decode cX9_spectrumAt 36 = .ok (.goto 10, 3) := by decide +kernel
theorem dX9_spectrumAt_39 : decode cX9_spectrumAt 39 = .ok (.aload_n 0, 1) := by decide +kernel
theorem dX9_spectrumAt_40 : decode cX9_spectrumAt 40 = .ok (.getfield 72, 3) := by decide +kernel
theorem dX9_spectrumAt_43 : decode cX9_spectrumAt 43 = .ok (.iload 4, 2) := by decide +kernel
theorem dX9_spectrumAt_45 : decode cX9_spectrumAt 45 = .ok (.iaload, 1) := by decide +kernel
theorem dX9_spectrumAt_46 : decode cX9_spectrumAt 46 = .ok (.iadd, 1) := by decide +kernel
theorem dX9_spectrumAt_47 : decode cX9_spectrumAt 47 = .ok (.istore_n 3, 1) := by decide +kernel
theorem dX9_spectrumAt_48 : decode cX9_spectrumAt 48 = .ok (.iinc 4 1, 3) := by decide +kernel
theorem dX9_spectrumAt_51 : decode cX9_spectrumAt 51 = .ok (.goto (-46), 3) := by decide +kernel
theorem dX9_spectrumAt_54 : decode cX9_spectrumAt 54 = .ok (.iload_n 3, 1) := by decide +kernel
theorem dX9_spectrumAt_55 : decode cX9_spectrumAt 55 = .ok (.ireturn, 1) := by decide +kernel
theorem dX9_spectrum_0 : decode cX9_spectrum 0 = .ok (.aload_n 0, 1) := by decide +kernel
theorem dX9_spectrum_1 : decode cX9_spectrum 1 = .ok (.iload_n 1, 1) := by decide +kernel
theorem dX9_spectrum_2 : decode cX9_spectrum 2 = .ok (.iload_n 2, 1) := by decide +kernel
theorem dX9_spectrum_3 : decode cX9_spectrum 3 = .ok (.invokevirtual 182, 3) := by decide +kernel
theorem dX9_spectrum_6 : decode cX9_spectrum 6 = .ok (.ifCond .ne 7, 3) := by decide +kernel
theorem dX9_spectrum_9 : decode cX9_spectrum 9 = .ok (.ldc_w 277, 3) := by decide +kernel
theorem dX9_spectrum_12 : decode cX9_spectrum 12 = .ok (.ireturn, 1) := by decide +kernel
theorem dX9_spectrum_13 : decode cX9_spectrum 13 = .ok (.iload_n 3, 1) := by decide +kernel
theorem dX9_spectrum_14 : decode cX9_spectrum 14 = .ok (.ifCond .ne 10, 3) := by decide +kernel
theorem dX9_spectrum_17 : decode cX9_spectrum 17 = .ok (.aload_n 0, 1) := by decide +kernel
theorem dX9_spectrum_18 : decode cX9_spectrum 18 = .ok (.iload_n 1, 1) := by decide +kernel
theorem dX9_spectrum_19 : decode cX9_spectrum 19 = .ok (.iload_n 2, 1) := by decide +kernel
theorem dX9_spectrum_20 : decode cX9_spectrum 20 = .ok (.invokevirtual 278, 3) := by decide +kernel
theorem dX9_spectrum_23 : decode cX9_spectrum 23 = .ok (.ireturn, 1) := by decide +kernel
theorem dX9_spectrum_24 : decode cX9_spectrum 24 = .ok (.iconst 0, 1) := by decide +kernel
theorem dX9_spectrum_25 : decode cX9_spectrum 25 = .ok (.istore 4, 2) := by decide +kernel
theorem dX9_spectrum_27 : decode cX9_spectrum 27 = .ok (.iconst 0, 1) := by decide +kernel
theorem dX9_spectrum_28 : decode cX9_spectrum 28 = .ok (.istore 5, 2) := by decide +kernel
theorem dX9_spectrum_30 : decode cX9_spectrum 30 = .ok (.iload 5, 2) := by decide +kernel
theorem dX9_spectrum_32 : decode cX9_spectrum 32 = .ok (.aload_n 0, 1) := by decide +kernel
theorem dX9_spectrum_33 : decode cX9_spectrum 33 = .ok (.getfield 13, 3) := by decide +kernel
theorem dX9_spectrum_36 : decode cX9_spectrum 36 = .ok (.iload_n 1, 1) := by decide +kernel
theorem dX9_spectrum_37 : decode cX9_spectrum 37 = .ok (.iaload, 1) := by decide +kernel
theorem dX9_spectrum_38 : decode cX9_spectrum 38 = .ok (.if_icmp .ge 43, 3) := by decide +kernel
theorem dX9_spectrum_41 : decode cX9_spectrum 41 = .ok (.iload 4, 2) := by decide +kernel
theorem dX9_spectrum_43 : decode cX9_spectrum 43 = .ok (.aload_n 0, 1) := by decide +kernel
theorem dX9_spectrum_44 : decode cX9_spectrum 44 = .ok (.iload_n 1, 1) := by decide +kernel
theorem dX9_spectrum_45 : decode cX9_spectrum 45 = .ok (.iload 5, 2) := by decide +kernel
theorem dX9_spectrum_47 : decode cX9_spectrum 47 = .ok (.iload_n 2, 1) := by decide +kernel
theorem dX9_spectrum_48 : decode cX9_spectrum 48 = .ok (.invokevirtual 98, 3) := by decide +kernel
theorem dX9_spectrum_51 : decode cX9_spectrum 51 = .ok (.ifCond .eq 14, 3) := by decide +kernel
theorem dX9_spectrum_54 : decode cX9_spectrum 54 = .ok (.aload_n 0, 1) := by decide +kernel
theorem dX9_spectrum_55 : decode cX9_spectrum 55 = .ok (.iload_n 1, 1) := by decide +kernel
theorem dX9_spectrum_56 : decode cX9_spectrum 56 = .ok (.iload 5, 2) := by decide +kernel
theorem dX9_spectrum_58 : decode cX9_spectrum 58 = .ok (.invokevirtual 278, 3) := by decide +kernel
theorem dX9_spectrum_61 : decode cX9_spectrum 61 = .ok (.ineg, 1) := by decide +kernel
theorem dX9_spectrum_62 : decode cX9_spectrum 62 = .ok (.goto 10, 3) := by decide +kernel
theorem dX9_spectrum_65 : decode cX9_spectrum 65 = .ok (.aload_n 0, 1) := by decide +kernel
theorem dX9_spectrum_66 : decode cX9_spectrum 66 = .ok (.iload_n 1, 1) := by decide +kernel
theorem dX9_spectrum_67 : decode cX9_spectrum 67 = .ok (.iload 5, 2) := by decide +kernel
theorem dX9_spectrum_69 : decode cX9_spectrum 69 = .ok (.invokevirtual 278, 3) := by decide +kernel
theorem dX9_spectrum_72 : decode cX9_spectrum 72 = .ok (.iadd, 1) := by decide +kernel
theorem dX9_spectrum_73 : decode cX9_spectrum 73 = .ok (.istore 4, 2) := by decide +kernel
theorem dX9_spectrum_75 : decode cX9_spectrum 75 = .ok (.iinc 5 1, 3) := by decide +kernel
theorem dX9_spectrum_78 : decode cX9_spectrum 78 = .ok (.goto (-48), 3) := by decide +kernel
theorem dX9_spectrum_81 : decode cX9_spectrum 81 = .ok (.iload 4, 2) := by decide +kernel
theorem dX9_spectrum_83 : decode cX9_spectrum 83 = .ok (.ireturn, 1) := by decide +kernel
theorem dX9_isEven_0 : decode cX9_isEven 0 = .ok (.iload_n 0, 1) := by decide +kernel
theorem dX9_isEven_1 : decode cX9_isEven 1 = .ok (.iconst 0, 1) := by decide +kernel
theorem dX9_isEven_2 : decode cX9_isEven 2 = .ok (.invokestatic 94, 3) := by decide +kernel
theorem dX9_isEven_5 : decode cX9_isEven 5 = .ok (.ifCond .eq 5, 3) := by decide +kernel
theorem dX9_isEven_8 : decode cX9_isEven 8 = .ok (.iconst 0, 1) := by decide +kernel
theorem dX9_isEven_9 : decode cX9_isEven 9 = .ok (.ireturn, 1) := by decide +kernel
theorem dX9_isEven_10 : decode cX9_isEven 10 = .ok (.iconst 1, 1) := by decide +kernel
theorem dX9_isEven_11 : decode cX9_isEven 11 = .ok (.istore_n 2, 1) := by decide +kernel
theorem dX9_isEven_12 : decode cX9_isEven 12 = .ok (.iload_n 2, 1) := by decide +kernel
theorem dX9_isEven_13 : decode cX9_isEven 13 = .ok (.iload_n 1, 1) := by decide +kernel
theorem dX9_isEven_14 : decode cX9_isEven 14 = .ok (.if_icmp .ge 26, 3) := by decide +kernel
theorem dX9_isEven_17 : decode cX9_isEven 17 = .ok (.iload_n 0, 1) := by decide +kernel
theorem dX9_isEven_18 : decode cX9_isEven 18 = .ok (.iload_n 2, 1) := by decide +kernel
theorem dX9_isEven_19 : decode cX9_isEven 19 = .ok (.invokestatic 94, 3) := by decide +kernel
theorem dX9_isEven_22 : decode cX9_isEven 22 = .ok (.iload_n 0, 1) := by decide +kernel
theorem dX9_isEven_23 : decode cX9_isEven 23 = .ok (.iload_n 1, 1) := by decide +kernel
theorem dX9_isEven_24 : decode cX9_isEven 24 = .ok (.iload_n 2, 1) := by decide +kernel
theorem dX9_isEven_25 : decode cX9_isEven 25 = .ok (.isub, 1) := by decide +kernel
theorem dX9_isEven_26 : decode cX9_isEven 26 = .ok (.invokestatic 94, 3) := by decide +kernel
theorem dX9_isEven_29 : decode cX9_isEven 29 = .ok (.if_icmp .eq 5, 3) := by decide +kernel
theorem dX9_isEven_32 : decode cX9_isEven 32 = .ok (.iconst 0, 1) := by decide +kernel
theorem dX9_isEven_33 : decode cX9_isEven 33 = .ok (.ireturn, 1) := by decide +kernel
theorem dX9_isEven_34 : decode cX9_isEven 34 = .ok (.iinc 2 1, 3) := by decide +kernel
theorem dX9_isEven_37 : decode cX9_isEven 37 = .ok (.goto (-25), 3) := by decide +kernel
theorem dX9_isEven_40 : decode cX9_isEven 40 = .ok (.iconst 1, 1) := by decide +kernel
theorem dX9_isEven_41 : decode cX9_isEven 41 = .ok (.ireturn, 1) := by decide +kernel
theorem dX9_echo_0 : decode cX9_echo 0 = .ok (.iconst 0, 1) := by decide +kernel
theorem dX9_echo_1 : decode cX9_echo 1 = .ok (.istore_n 3, 1) := by decide +kernel
theorem dX9_echo_2 : decode cX9_echo 2 = .ok (.iconst 0, 1) := by decide +kernel
theorem dX9_echo_3 : decode cX9_echo 3 = .ok (.istore 4, 2) := by decide +kernel
theorem dX9_echo_5 : decode cX9_echo 5 = .ok (.iload 4, 2) := by decide +kernel
theorem dX9_echo_7 : decode cX9_echo 7 = .ok (.iload_n 1, 1) := by decide +kernel
theorem dX9_echo_8 : decode cX9_echo 8 = .ok (.if_icmp .ge 36, 3) := by decide +kernel
theorem dX9_echo_11 : decode cX9_echo 11 = .ok (.iload_n 3, 1) := by decide +kernel
theorem dX9_echo_12 : decode cX9_echo 12 = .ok (.iload_n 0, 1) := by decide +kernel
theorem dX9_echo_13 : decode cX9_echo 13 = .ok (.iload 4, 2) := by decide +kernel
theorem dX9_echo_15 : decode cX9_echo 15 = .ok (.invokestatic 94, 3) := by decide +kernel
theorem dX9_echo_18 : decode cX9_echo 18 = .ok (.iload_n 0, 1) := by decide +kernel
theorem dX9_echo_19 : decode cX9_echo 19 = .ok (.iload 4, 2) := by decide +kernel
theorem dX9_echo_21 : decode cX9_echo 21 = .ok (.iload_n 2, 1) := by decide +kernel
theorem dX9_echo_22 : decode cX9_echo 22 = .ok (.iadd, 1) := by decide +kernel
theorem dX9_echo_23 : decode cX9_echo 23 = .ok (.iload_n 1, 1) := by decide +kernel
theorem dX9_echo_24 : decode cX9_echo 24 = .ok (.irem, 1) := by decide +kernel
theorem dX9_echo_25 : decode cX9_echo 25 = .ok (.invokestatic 94, 3) := by decide +kernel
theorem dX9_echo_28 : decode cX9_echo 28 = .ok (.if_icmp .ne 7, 3) := by decide +kernel
theorem dX9_echo_31 : decode cX9_echo 31 = .ok (.iconst 1, 1) := by decide +kernel
theorem dX9_echo_32 : decode cX9_echo 32 = .ok (.goto 4, 3) := by decide +kernel
theorem dX9_echo_35 : decode cX9_echo 35 = .ok (.iconst (-1), 1) := by decide +kernel
theorem dX9_echo_36 : decode cX9_echo 36 = .ok (.iadd, 1) := by decide +kernel
theorem dX9_echo_37 : decode cX9_echo 37 = .ok (.istore_n 3, 1) := by decide +kernel
theorem dX9_echo_38 : decode cX9_echo 38 = .ok (.iinc 4 1, 3) := by decide +kernel
theorem dX9_echo_41 : decode cX9_echo 41 = .ok (.goto (-36), 3) := by decide +kernel
theorem dX9_echo_44 : decode cX9_echo 44 = .ok (.iload_n 3, 1) := by decide +kernel
theorem dX9_echo_45 : decode cX9_echo 45 = .ok (.ireturn, 1) := by decide +kernel
theorem dX9_areFour_0 : decode cX9_areFour 0 = .ok (.iconst 1, 1) := by decide +kernel
theorem dX9_areFour_1 : decode cX9_areFour 1 = .ok (.istore_n 2, 1) := by decide +kernel
theorem dX9_areFour_2 : decode cX9_areFour 2 = .ok (.iload_n 2, 1) := by decide +kernel
theorem dX9_areFour_3 : decode cX9_areFour 3 = .ok (.iload_n 1, 1) := by decide +kernel
theorem dX9_areFour_4 : decode cX9_areFour 4 = .ok (.if_icmp .ge 47, 3) := by decide +kernel
theorem dX9_areFour_7 : decode cX9_areFour 7 = .ok (.iconst 0, 1) := by decide +kernel
theorem dX9_areFour_8 : decode cX9_areFour 8 = .ok (.istore_n 3, 1) := by decide +kernel
theorem dX9_areFour_9 : decode cX9_areFour 9 = .ok (.iconst 0, 1) := by decide +kernel
theorem dX9_areFour_10 : decode cX9_areFour 10 = .ok (.istore 4, 2) := by decide +kernel
theorem dX9_areFour_12 : decode cX9_areFour 12 = .ok (.iload 4, 2) := by decide +kernel
theorem dX9_areFour_14 : decode cX9_areFour 14 = .ok (.iconst 4, 1) := by decide +kernel
theorem dX9_areFour_15 : decode cX9_areFour 15 = .ok (.if_icmp .ge 24, 3) := by decide +kernel
theorem dX9_areFour_18 : decode cX9_areFour 18 = .ok (.iload_n 3, 1) := by decide +kernel
theorem dX9_areFour_19 : decode cX9_areFour 19 = .ok (.aload_n 0, 1) := by decide +kernel
theorem dX9_areFour_20 : decode cX9_areFour 20 = .ok (.getfield 41, 3) := by decide +kernel
theorem dX9_areFour_23 : decode cX9_areFour 23 = .ok (.iload 4, 2) := by decide +kernel
theorem dX9_areFour_25 : decode cX9_areFour 25 = .ok (.iaload, 1) := by decide +kernel
theorem dX9_areFour_26 : decode cX9_areFour 26 = .ok (.iload_n 1, 1) := by decide +kernel
theorem dX9_areFour_27 : decode cX9_areFour 27 = .ok (.iload_n 2, 1) := by decide +kernel
theorem dX9_areFour_28 : decode cX9_areFour 28 = .ok (.invokestatic 281, 3) := by decide +kernel
theorem dX9_areFour_31 : decode cX9_areFour 31 = .ok (.iadd, 1) := by decide +kernel
theorem dX9_areFour_32 : decode cX9_areFour 32 = .ok (.istore_n 3, 1) := by decide +kernel
theorem dX9_areFour_33 : decode cX9_areFour 33 = .ok (.iinc 4 1, 3) := by decide +kernel
theorem dX9_areFour_36 : decode cX9_areFour 36 = .ok (.goto (-24), 3) := by decide +kernel
theorem dX9_areFour_39 : decode cX9_areFour 39 = .ok (.iload_n 3, 1) := by decide +kernel
theorem dX9_areFour_40 : decode cX9_areFour 40 = .ok (.ifCond .eq 5, 3) := by decide +kernel
theorem dX9_areFour_43 : decode cX9_areFour 43 = .ok (.iconst 0, 1) := by decide +kernel
theorem dX9_areFour_44 : decode cX9_areFour 44 = .ok (.ireturn, 1) := by decide +kernel
theorem dX9_areFour_45 : decode cX9_areFour 45 = .ok (.iinc 2 1, 3) := by decide +kernel
theorem dX9_areFour_48 : decode cX9_areFour 48 = .ok (.goto (-46), 3) := by decide +kernel
theorem dX9_areFour_51 : decode cX9_areFour 51 = .ok (.iconst 1, 1) := by decide +kernel
theorem dX9_areFour_52 : decode cX9_areFour 52 = .ok (.ireturn, 1) := by decide +kernel
theorem dX9_fours_0 : decode cX9_fours 0 = .ok (.iload_n 1, 1) := by decide +kernel
theorem dX9_fours_1 : decode cX9_fours 1 = .ok (.iconst 1, 1) := by decide +kernel
theorem dX9_fours_2 : decode cX9_fours 2 = .ok (.if_icmp .eq 19, 3) := by decide +kernel
theorem dX9_fours_5 : decode cX9_fours 5 = .ok (.iload_n 1, 1) := by decide +kernel
theorem dX9_fours_6 : decode cX9_fours 6 = .ok (.iconst 3, 1) := by decide +kernel
theorem dX9_fours_7 : decode cX9_fours 7 = .ok (.if_icmp .eq 14, 3) := by decide +kernel
theorem dX9_fours_10 : decode cX9_fours 10 = .ok (.iload_n 1, 1) := by decide +kernel
theorem dX9_fours_11 : decode cX9_fours 11 = .ok (.iconst 5, 1) := by decide +kernel
theorem dX9_fours_12 : decode cX9_fours 12 = .ok (.if_icmp .eq 9, 3) := by decide +kernel
theorem dX9_fours_15 : decode cX9_fours 15 = .ok (.iload_n 1, 1) := by decide +kernel
theorem dX9_fours_16 : decode cX9_fours 16 = .ok (.bipush 7, 2) := by decide +kernel
theorem dX9_fours_18 : decode cX9_fours 18 = .ok (.if_icmp .ne 26, 3) := by decide +kernel
theorem dX9_fours_21 : decode cX9_fours 21 = .ok (.iload_n 3, 1) := by decide +kernel
theorem dX9_fours_22 : decode cX9_fours 22 = .ok (.iconst 0, 1) := by decide +kernel
theorem dX9_fours_23 : decode cX9_fours 23 = .ok (.iconst 3, 1) := by decide +kernel
theorem dX9_fours_24 : decode cX9_fours 24 = .ok (.invokestatic 82, 3) := by decide +kernel
theorem dX9_fours_27 : decode cX9_fours 27 = .ok (.ifCond .eq 17, 3) := by decide +kernel
theorem dX9_fours_30 : decode cX9_fours 30 = .ok (.iload_n 2, 1) := by decide +kernel
theorem dX9_fours_31 : decode cX9_fours 31 = .ok (.iconst (-1), 1) := by decide +kernel
theorem dX9_fours_32 : decode cX9_fours 32 = .ok (.if_icmp .lt 12, 3) := by decide +kernel
theorem dX9_fours_35 : decode cX9_fours 35 = .ok (.iload_n 2, 1) := by decide +kernel
theorem dX9_fours_36 : decode cX9_fours 36 = .ok (.iconst (-1), 1) := by decide +kernel
theorem dX9_fours_37 : decode cX9_fours 37 = .ok (.if_icmp .ne 9, 3) := by decide +kernel
theorem dX9_fours_40 : decode cX9_fours 40 = .ok (.iload_n 3, 1) := by decide +kernel
theorem dX9_fours_41 : decode cX9_fours 41 = .ok (.ifCond .le 5, 3) := by decide +kernel
theorem dX9_fours_44 : decode cX9_fours 44 = .ok (.iconst (-1), 1) := by decide +kernel
theorem dX9_fours_45 : decode cX9_fours 45 = .ok (.ireturn, 1) := by decide +kernel
theorem dX9_fours_46 : decode cX9_fours 46 = .ok (.iconst 0, 1) := by decide +kernel
theorem dX9_fours_47 : decode cX9_fours 47 = .ok (.istore 4, 2) := by decide +kernel
theorem dX9_fours_49 : decode cX9_fours 49 = .ok (.iconst 0, 1) := by decide +kernel
theorem dX9_fours_50 : decode cX9_fours 50 = .ok (.istore 5, 2) := by decide +kernel
theorem dX9_fours_52 : decode cX9_fours 52 = .ok (.iload 5, 2) := by decide +kernel
theorem dX9_fours_54 : decode cX9_fours 54 = .ok (.iconst 1, 1) := by decide +kernel
theorem dX9_fours_55 : decode cX9_fours 55 = .ok (.iload_n 1, 1) := by decide +kernel
theorem dX9_fours_56 : decode cX9_fours 56 = .ok (.ishl, 1) := by decide +kernel
theorem dX9_fours_57 : decode cX9_fours 57 = .ok (.if_icmp .ge 33, 3) := by decide +kernel
theorem dX9_fours_60 : decode cX9_fours 60 = .ok (.iload 5, 2) := by decide +kernel
theorem dX9_fours_62 : decode cX9_fours 62 = .ok (.iload_n 1, 1) := by decide +kernel
theorem dX9_fours_63 : decode cX9_fours 63 = .ok (.invokestatic 284, 3) := by decide +kernel
theorem dX9_fours_66 : decode cX9_fours 66 = .ok (.ifCond .ne 6, 3) := by decide +kernel
theorem dX9_fours_69 : decode cX9_fours 69 = .ok (.goto 15, 3) := by decide +kernel
theorem dX9_fours_72 : decode cX9_fours 72 = .ok (.aload_n 0, 1) := by decide +kernel
theorem dX9_fours_73 : decode cX9_fours 73 = .ok (.getfield 75, 3) := by decide +kernel
theorem dX9_fours_76 : decode cX9_fours 76 = .ok (.iload 4, 2) := by decide +kernel
theorem dX9_fours_78 : decode cX9_fours 78 = .ok (.iload 5, 2) := by decide +kernel
theorem dX9_fours_80 : decode cX9_fours 80 = .ok (.iastore, 1) := by decide +kernel
theorem dX9_fours_81 : decode cX9_fours 81 = .ok (.iinc 4 1, 3) := by decide +kernel
theorem dX9_fours_84 : decode cX9_fours 84 = .ok (.iinc 5 1, 3) := by decide +kernel
theorem dX9_fours_87 : decode cX9_fours 87 = .ok (.goto (-35), 3) := by decide +kernel
theorem dX9_fours_90 : decode cX9_fours 90 = .ok (.iconst 0, 1) := by decide +kernel
theorem dX9_fours_91 : decode cX9_fours 91 = .ok (.istore 5, 2) := by decide +kernel
theorem dX9_fours_93 : decode cX9_fours 93 = .ok (.iconst 0, 1) := by decide +kernel
theorem dX9_fours_94 : decode cX9_fours 94 = .ok (.istore 6, 2) := by decide +kernel
theorem dX9_fours_96 : decode cX9_fours 96 = .ok (.iload 6, 2) := by decide +kernel
theorem dX9_fours_98 : decode cX9_fours 98 = .ok (.iload 4, 2) := by decide +kernel
theorem dX9_fours_100 : decode cX9_fours 100 = .ok (.iload 4, 2) := by decide +kernel
theorem dX9_fours_102 : decode cX9_fours 102 = .ok (.imul, 1) := by decide +kernel
theorem dX9_fours_103 : decode cX9_fours 103 = .ok (.iload 4, 2) := by decide +kernel
theorem dX9_fours_105 : decode cX9_fours 105 = .ok (.imul, 1) := by decide +kernel
theorem dX9_fours_106 : decode cX9_fours 106 = .ok (.iload 4, 2) := by decide +kernel
theorem dX9_fours_108 : decode cX9_fours 108 = .ok (.imul, 1) := by decide +kernel
theorem dX9_fours_109 : decode cX9_fours 109 = .ok (.if_icmp .ge 78, 3) := by decide +kernel
theorem dX9_fours_112 : decode cX9_fours 112 = .ok (.iload 6, 2) := by decide +kernel
theorem dX9_fours_114 : decode cX9_fours 114 = .ok (.istore 7, 2) := by decide +kernel
theorem dX9_fours_116 : decode cX9_fours 116 = .ok (.iconst 3, 1) := by decide +kernel
theorem dX9_fours_117 : decode cX9_fours 117 = .ok (.istore 8, 2) := by decide +kernel
theorem dX9_fours_119 : decode cX9_fours 119 = .ok (.iload 8, 2) := by decide +kernel
theorem dX9_fours_121 : decode cX9_fours 121 = .ok (.ifCond .lt 33, 3) := by decide +kernel
theorem dX9_fours_124 : decode cX9_fours 124 = .ok (.aload_n 0, 1) := by decide +kernel
theorem dX9_fours_125 : decode cX9_fours 125 = .ok (.getfield 41, 3) := by decide +kernel
theorem dX9_fours_128 : decode cX9_fours 128 = .ok (.iload 8, 2) := by decide +kernel
theorem dX9_fours_130 : decode cX9_fours 130 = .ok (.aload_n 0, 1) := by decide +kernel
theorem dX9_fours_131 : decode cX9_fours 131 = .ok (.getfield 75, 3) := by decide +kernel
theorem dX9_fours_134 : decode cX9_fours 134 = .ok (.iload 7, 2) := by decide +kernel
theorem dX9_fours_136 : decode cX9_fours 136 = .ok (.iload 4, 2) := by decide +kernel
theorem dX9_fours_138 : decode cX9_fours 138 = .ok (.irem, 1) := by decide +kernel
theorem dX9_fours_139 : decode cX9_fours 139 = .ok (.iaload, 1) := by decide +kernel
theorem dX9_fours_140 : decode cX9_fours 140 = .ok (.iastore, 1) := by decide +kernel
theorem dX9_fours_141 : decode cX9_fours 141 = .ok (.iload 7, 2) := by decide +kernel
theorem dX9_fours_143 : decode cX9_fours 143 = .ok (.iload 4, 2) := by decide +kernel
theorem dX9_fours_145 : decode cX9_fours 145 = .ok (.idiv, 1) := by decide +kernel
theorem dX9_fours_146 : decode cX9_fours 146 = .ok (.istore 7, 2) := by decide +kernel
theorem dX9_fours_148 : decode cX9_fours 148 = .ok (.iinc 8 (-1), 3) := by decide +kernel
theorem dX9_fours_151 : decode cX9_fours 151 = .ok (.goto (-32), 3) := by decide +kernel
theorem dX9_fours_154 : decode cX9_fours 154 = .ok (.aload_n 0, 1) := by decide +kernel
theorem dX9_fours_155 : decode cX9_fours 155 = .ok (.iload_n 1, 1) := by decide +kernel
theorem dX9_fours_156 : decode cX9_fours 156 = .ok (.invokevirtual 287, 3) := by decide +kernel
theorem dX9_fours_159 : decode cX9_fours 159 = .ok (.ifCond .ne 6, 3) := by decide +kernel
theorem dX9_fours_162 : decode cX9_fours 162 = .ok (.goto 19, 3) := by decide +kernel
theorem dX9_fours_165 : decode cX9_fours 165 = .ok (.iload 5, 2) := by decide +kernel
theorem dX9_fours_167 : decode cX9_fours 167 = .ok (.iload_n 2, 1) := by decide +kernel
theorem dX9_fours_168 : decode cX9_fours 168 = .ok (.if_icmp .ne 10, 3) := by decide +kernel
theorem dX9_fours_171 : decode cX9_fours 171 = .ok (.aload_n 0, 1) := by decide +kernel
theorem dX9_fours_172 : decode cX9_fours 172 = .ok (.getfield 41, 3) := by decide +kernel
theorem dX9_fours_175 : decode cX9_fours 175 = .ok (.iload_n 3, 1) := by decide +kernel
theorem dX9_fours_176 : decode cX9_fours 176 = .ok (.iaload, 1) := by decide +kernel
theorem dX9_fours_177 : decode cX9_fours 177 = .ok (.ireturn, 1) := by decide +kernel
theorem dX9_fours_178 : decode cX9_fours 178 = .ok (.iinc 5 1, 3) := by decide +kernel
theorem dX9_fours_181 : decode cX9_fours 181 = .ok (.iinc 6 1, 3) := by decide +kernel
theorem dX9_fours_184 : decode cX9_fours 184 = .ok (.goto (-88), 3) := by decide +kernel
theorem dX9_fours_187 : decode cX9_fours 187 = .ok (.iload_n 2, 1) := by decide +kernel
theorem dX9_fours_188 : decode cX9_fours 188 = .ok (.iconst (-1), 1) := by decide +kernel
theorem dX9_fours_189 : decode cX9_fours 189 = .ok (.if_icmp .ne 8, 3) := by decide +kernel
theorem dX9_fours_192 : decode cX9_fours 192 = .ok (.iload 5, 2) := by decide +kernel
theorem dX9_fours_194 : decode cX9_fours 194 = .ok (.goto 4, 3) := by decide +kernel
theorem dX9_fours_197 : decode cX9_fours 197 = .ok (.iconst (-1), 1) := by decide +kernel
theorem dX9_fours_198 : decode cX9_fours 198 = .ok (.ireturn, 1) := by decide +kernel
theorem dX9_count_0 : decode cX9_count 0 = .ok (.iconst 0, 1) := by decide +kernel
theorem dX9_count_1 : decode cX9_count 1 = .ok (.istore_n 2, 1) := by decide +kernel
theorem dX9_count_2 : decode cX9_count 2 = .ok (.iconst 0, 1) := by decide +kernel
theorem dX9_count_3 : decode cX9_count 3 = .ok (.istore_n 3, 1) := by decide +kernel
theorem dX9_count_4 : decode cX9_count 4 = .ok (.iconst 0, 1) := by decide +kernel
theorem dX9_count_5 : decode cX9_count 5 = .ok (.istore 4, 2) := by decide +kernel
theorem dX9_count_7 : decode cX9_count 7 = .ok (.iconst 0, 1) := by decide +kernel
theorem dX9_count_8 : decode cX9_count 8 = .ok (.istore 5, 2) := by decide +kernel
theorem dX9_count_10 : decode cX9_count 10 = .ok (.iload 5, 2) := by decide +kernel
theorem dX9_count_12 : decode cX9_count 12 = .ok (.bipush 6, 2) := by decide +kernel
theorem dX9_count_14 : decode cX9_count 14 = .ok (.if_icmp .ge 50, 3) := by decide +kernel
theorem dX9_count_17 : decode cX9_count 17 = .ok (.aload_n 0, 1) := by decide +kernel
theorem dX9_count_18 : decode cX9_count 18 = .ok (.getfield 13, 3) := by decide +kernel
theorem dX9_count_21 : decode cX9_count 21 = .ok (.iload 5, 2) := by decide +kernel
theorem dX9_count_23 : decode cX9_count 23 = .ok (.iaload, 1) := by decide +kernel
theorem dX9_count_24 : decode cX9_count 24 = .ok (.ifCond .ne 6, 3) := by decide +kernel
theorem dX9_count_27 : decode cX9_count 27 = .ok (.goto 31, 3) := by decide +kernel
theorem dX9_count_30 : decode cX9_count 30 = .ok (.iinc 2 1, 3) := by decide +kernel
theorem dX9_count_33 : decode cX9_count 33 = .ok (.iload_n 3, 1) := by decide +kernel
theorem dX9_count_34 : decode cX9_count 34 = .ok (.iconst 1, 1) := by decide +kernel
theorem dX9_count_35 : decode cX9_count 35 = .ok (.iload 5, 2) := by decide +kernel
theorem dX9_count_37 : decode cX9_count 37 = .ok (.ishl, 1) := by decide +kernel
theorem dX9_count_38 : decode cX9_count 38 = .ok (.ior, 1) := by decide +kernel
theorem dX9_count_39 : decode cX9_count 39 = .ok (.istore_n 3, 1) := by decide +kernel
theorem dX9_count_40 : decode cX9_count 40 = .ok (.aload_n 0, 1) := by decide +kernel
theorem dX9_count_41 : decode cX9_count 41 = .ok (.iload 5, 2) := by decide +kernel
theorem dX9_count_43 : decode cX9_count 43 = .ok (.invokevirtual 244, 3) := by decide +kernel
theorem dX9_count_46 : decode cX9_count 46 = .ok (.ifCond .eq 12, 3) := by decide +kernel
theorem dX9_count_49 : decode cX9_count 49 = .ok (.iload 4, 2) := by decide +kernel
theorem dX9_count_51 : decode cX9_count 51 = .ok (.iconst 1, 1) := by decide +kernel
theorem dX9_count_52 : decode cX9_count 52 = .ok (.iload 5, 2) := by decide +kernel
theorem dX9_count_54 : decode cX9_count 54 = .ok (.ishl, 1) := by decide +kernel
theorem dX9_count_55 : decode cX9_count 55 = .ok (.ior, 1) := by decide +kernel
theorem dX9_count_56 : decode cX9_count 56 = .ok (.istore 4, 2) := by decide +kernel
theorem dX9_count_58 : decode cX9_count 58 = .ok (.iinc 5 1, 3) := by decide +kernel
theorem dX9_count_61 : decode cX9_count 61 = .ok (.goto (-51), 3) := by decide +kernel
theorem dX9_count_64 : decode cX9_count 64 = .ok (.iload_n 1, 1) := by decide +kernel
theorem dX9_count_65 : decode cX9_count 65 = .ok (.ifCond .ne 7, 3) := by decide +kernel
theorem dX9_count_68 : decode cX9_count 68 = .ok (.iload_n 2, 1) := by decide +kernel
theorem dX9_count_69 : decode cX9_count 69 = .ok (.goto 35, 3) := by decide +kernel
theorem dX9_count_72 : decode cX9_count 72 = .ok (.iload_n 1, 1) := by decide +kernel
theorem dX9_count_73 : decode cX9_count 73 = .ok (.iconst 1, 1) := by decide +kernel
theorem dX9_count_74 : decode cX9_count 74 = .ok (.if_icmp .ne 7, 3) := by decide +kernel
theorem dX9_count_77 : decode cX9_count 77 = .ok (.iload_n 3, 1) := by decide +kernel
theorem dX9_count_78 : decode cX9_count 78 = .ok (.goto 26, 3) := by decide +kernel
theorem dX9_count_81 : decode cX9_count 81 = .ok (.iload_n 1, 1) := by decide +kernel
theorem dX9_count_82 : decode cX9_count 82 = .ok (.iconst 2, 1) := by decide +kernel
theorem dX9_count_83 : decode cX9_count 83 = .ok (.if_icmp .ne 10, 3) := by decide +kernel
theorem dX9_count_86 : decode cX9_count 86 = .ok (.aload_n 0, 1) := by decide +kernel
theorem dX9_count_87 : decode cX9_count 87 = .ok (.getfield 112, 3) := by decide +kernel
theorem dX9_count_90 : decode cX9_count 90 = .ok (.goto 14, 3) := by decide +kernel
theorem dX9_count_93 : decode cX9_count 93 = .ok (.iload_n 1, 1) := by decide +kernel
theorem dX9_count_94 : decode cX9_count 94 = .ok (.iconst 3, 1) := by decide +kernel
theorem dX9_count_95 : decode cX9_count 95 = .ok (.if_icmp .ne 8, 3) := by decide +kernel
theorem dX9_count_98 : decode cX9_count 98 = .ok (.iload 4, 2) := by decide +kernel
theorem dX9_count_100 : decode cX9_count 100 = .ok (.goto 4, 3) := by decide +kernel
theorem dX9_count_103 : decode cX9_count 103 = .ok (.iconst (-1), 1) := by decide +kernel
theorem dX9_count_104 : decode cX9_count 104 = .ok (.ireturn, 1) := by decide +kernel
theorem dJ6_numberOfTrailingZeros_0f7a4_0 : decode cJ6_numberOfTrailingZeros_0f7a4 0 = .ok (.iload_n 0, 1) := by decide +kernel
theorem dJ6_numberOfTrailingZeros_0f7a4_1 : decode cJ6_numberOfTrailingZeros_0f7a4 1 = .ok (.iconst (-1), 1) := by decide +kernel
theorem dJ6_numberOfTrailingZeros_0f7a4_2 : decode cJ6_numberOfTrailingZeros_0f7a4 2 = .ok (.ixor, 1) := by decide +kernel
theorem dJ6_numberOfTrailingZeros_0f7a4_3 : decode cJ6_numberOfTrailingZeros_0f7a4 3 = .ok (.iload_n 0, 1) := by decide +kernel
theorem dJ6_numberOfTrailingZeros_0f7a4_4 : decode cJ6_numberOfTrailingZeros_0f7a4 4 = .ok (.iconst 1, 1) := by decide +kernel
theorem dJ6_numberOfTrailingZeros_0f7a4_5 : decode cJ6_numberOfTrailingZeros_0f7a4 5 = .ok (.isub, 1) := by decide +kernel
theorem dJ6_numberOfTrailingZeros_0f7a4_6 : decode cJ6_numberOfTrailingZeros_0f7a4 6 = .ok (.iand, 1) := by decide +kernel
theorem dJ6_numberOfTrailingZeros_0f7a4_7 : decode cJ6_numberOfTrailingZeros_0f7a4 7 = .ok (.istore_n 0, 1) := by decide +kernel
theorem dJ6_numberOfTrailingZeros_0f7a4_8 : decode cJ6_numberOfTrailingZeros_0f7a4 8 = .ok (.iload_n 0, 1) := by decide +kernel
theorem dJ6_numberOfTrailingZeros_0f7a4_9 : decode cJ6_numberOfTrailingZeros_0f7a4 9 = .ok (.ifCond .gt 8, 3) := by decide +kernel
theorem dJ6_numberOfTrailingZeros_0f7a4_12 : decode cJ6_numberOfTrailingZeros_0f7a4 12 = .ok (.iload_n 0, 1) := by decide +kernel
theorem dJ6_numberOfTrailingZeros_0f7a4_13 : decode cJ6_numberOfTrailingZeros_0f7a4 13 = .ok (.bipush 32, 2) := by decide +kernel
theorem dJ6_numberOfTrailingZeros_0f7a4_15 : decode cJ6_numberOfTrailingZeros_0f7a4 15 = .ok (.iand, 1) := by decide +kernel
theorem dJ6_numberOfTrailingZeros_0f7a4_16 : decode cJ6_numberOfTrailingZeros_0f7a4 16 = .ok (.ireturn, 1) := by decide +kernel
theorem dJ6_numberOfTrailingZeros_0f7a4_17 : decode cJ6_numberOfTrailingZeros_0f7a4 17 = .ok (.iconst 1, 1) := by decide +kernel
theorem dJ6_numberOfTrailingZeros_0f7a4_18 : decode cJ6_numberOfTrailingZeros_0f7a4 18 = .ok (.istore_n 1, 1) := by decide +kernel
theorem dJ6_numberOfTrailingZeros_0f7a4_19 : decode cJ6_numberOfTrailingZeros_0f7a4 19 = .ok (.iload_n 0, 1) := by decide +kernel
theorem dJ6_numberOfTrailingZeros_0f7a4_20 : decode cJ6_numberOfTrailingZeros_0f7a4 20 = .ok (.ldc_w 264, 3) := by decide +kernel
theorem dJ6_numberOfTrailingZeros_0f7a4_23 : decode cJ6_numberOfTrailingZeros_0f7a4 23 = .ok (.if_icmp .le 11, 3) := by decide +kernel
theorem dJ6_numberOfTrailingZeros_0f7a4_26 : decode cJ6_numberOfTrailingZeros_0f7a4 26 = .ok (.iinc 1 16, 3) := by decide +kernel
theorem dJ6_numberOfTrailingZeros_0f7a4_29 : decode cJ6_numberOfTrailingZeros_0f7a4 29 = .ok (.iload_n 0, 1) := by decide +kernel
theorem dJ6_numberOfTrailingZeros_0f7a4_30 : decode cJ6_numberOfTrailingZeros_0f7a4 30 = .ok (.bipush 16, 2) := by decide +kernel
theorem dJ6_numberOfTrailingZeros_0f7a4_32 : decode cJ6_numberOfTrailingZeros_0f7a4 32 = .ok (.iushr, 1) := by decide +kernel
theorem dJ6_numberOfTrailingZeros_0f7a4_33 : decode cJ6_numberOfTrailingZeros_0f7a4 33 = .ok (.istore_n 0, 1) := by decide +kernel
theorem dJ6_numberOfTrailingZeros_0f7a4_34 : decode cJ6_numberOfTrailingZeros_0f7a4 34 = .ok (.iload_n 0, 1) := by decide +kernel
theorem dJ6_numberOfTrailingZeros_0f7a4_35 : decode cJ6_numberOfTrailingZeros_0f7a4 35 = .ok (.sipush 256, 3) := by decide +kernel
theorem dJ6_numberOfTrailingZeros_0f7a4_38 : decode cJ6_numberOfTrailingZeros_0f7a4 38 = .ok (.if_icmp .le 11, 3) := by decide +kernel
theorem dJ6_numberOfTrailingZeros_0f7a4_41 : decode cJ6_numberOfTrailingZeros_0f7a4 41 = .ok (.iinc 1 8, 3) := by decide +kernel
theorem dJ6_numberOfTrailingZeros_0f7a4_44 : decode cJ6_numberOfTrailingZeros_0f7a4 44 = .ok (.iload_n 0, 1) := by decide +kernel
theorem dJ6_numberOfTrailingZeros_0f7a4_45 : decode cJ6_numberOfTrailingZeros_0f7a4 45 = .ok (.bipush 8, 2) := by decide +kernel
theorem dJ6_numberOfTrailingZeros_0f7a4_47 : decode cJ6_numberOfTrailingZeros_0f7a4 47 = .ok (.iushr, 1) := by decide +kernel
theorem dJ6_numberOfTrailingZeros_0f7a4_48 : decode cJ6_numberOfTrailingZeros_0f7a4 48 = .ok (.istore_n 0, 1) := by decide +kernel
theorem dJ6_numberOfTrailingZeros_0f7a4_49 : decode cJ6_numberOfTrailingZeros_0f7a4 49 = .ok (.iload_n 0, 1) := by decide +kernel
theorem dJ6_numberOfTrailingZeros_0f7a4_50 : decode cJ6_numberOfTrailingZeros_0f7a4 50 = .ok (.bipush 16, 2) := by decide +kernel
theorem dJ6_numberOfTrailingZeros_0f7a4_52 : decode cJ6_numberOfTrailingZeros_0f7a4 52 = .ok (.if_icmp .le 10, 3) := by decide +kernel
theorem dJ6_numberOfTrailingZeros_0f7a4_55 : decode cJ6_numberOfTrailingZeros_0f7a4 55 = .ok (.iinc 1 4, 3) := by decide +kernel
theorem dJ6_numberOfTrailingZeros_0f7a4_58 : decode cJ6_numberOfTrailingZeros_0f7a4 58 = .ok (.iload_n 0, 1) := by decide +kernel
theorem dJ6_numberOfTrailingZeros_0f7a4_59 : decode cJ6_numberOfTrailingZeros_0f7a4 59 = .ok (.iconst 4, 1) := by decide +kernel
theorem dJ6_numberOfTrailingZeros_0f7a4_60 : decode cJ6_numberOfTrailingZeros_0f7a4 60 = .ok (.iushr, 1) := by decide +kernel
theorem dJ6_numberOfTrailingZeros_0f7a4_61 : decode cJ6_numberOfTrailingZeros_0f7a4 61 = .ok (.istore_n 0, 1) := by decide +kernel
theorem dJ6_numberOfTrailingZeros_0f7a4_62 : decode cJ6_numberOfTrailingZeros_0f7a4 62 = .ok (.iload_n 0, 1) := by decide +kernel
theorem dJ6_numberOfTrailingZeros_0f7a4_63 : decode cJ6_numberOfTrailingZeros_0f7a4 63 = .ok (.iconst 4, 1) := by decide +kernel
theorem dJ6_numberOfTrailingZeros_0f7a4_64 : decode cJ6_numberOfTrailingZeros_0f7a4 64 = .ok (.if_icmp .le 10, 3) := by decide +kernel
theorem dJ6_numberOfTrailingZeros_0f7a4_67 : decode cJ6_numberOfTrailingZeros_0f7a4 67 = .ok (.iinc 1 2, 3) := by decide +kernel
theorem dJ6_numberOfTrailingZeros_0f7a4_70 : decode cJ6_numberOfTrailingZeros_0f7a4 70 = .ok (.iload_n 0, 1) := by decide +kernel
theorem dJ6_numberOfTrailingZeros_0f7a4_71 : decode cJ6_numberOfTrailingZeros_0f7a4 71 = .ok (.iconst 2, 1) := by decide +kernel
theorem dJ6_numberOfTrailingZeros_0f7a4_72 : decode cJ6_numberOfTrailingZeros_0f7a4 72 = .ok (.iushr, 1) := by decide +kernel
theorem dJ6_numberOfTrailingZeros_0f7a4_73 : decode cJ6_numberOfTrailingZeros_0f7a4 73 = .ok (.istore_n 0, 1) := by decide +kernel
theorem dJ6_numberOfTrailingZeros_0f7a4_74 : decode cJ6_numberOfTrailingZeros_0f7a4 74 = .ok (.iload_n 1, 1) := by decide +kernel
theorem dJ6_numberOfTrailingZeros_0f7a4_75 : decode cJ6_numberOfTrailingZeros_0f7a4 75 = .ok (.iload_n 0, 1) := by decide +kernel
theorem dJ6_numberOfTrailingZeros_0f7a4_76 : decode cJ6_numberOfTrailingZeros_0f7a4 76 = .ok (.iconst 1, 1) := by decide +kernel
theorem dJ6_numberOfTrailingZeros_0f7a4_77 : decode cJ6_numberOfTrailingZeros_0f7a4 77 = .ok (.iushr, 1) := by decide +kernel
theorem dJ6_numberOfTrailingZeros_0f7a4_78 : decode cJ6_numberOfTrailingZeros_0f7a4 78 = .ok (.iadd, 1) := by decide +kernel
theorem dJ6_numberOfTrailingZeros_0f7a4_79 : decode cJ6_numberOfTrailingZeros_0f7a4 79 = .ok (.ireturn, 1) := by decide +kernel
theorem dJ6_bitCount_0f7a4_0 : decode cJ6_bitCount_0f7a4 0 = .ok (.iload_n 0, 1) := by decide +kernel
theorem dJ6_bitCount_0f7a4_1 : decode cJ6_bitCount_0f7a4 1 = .ok (.iload_n 0, 1) := by decide +kernel
theorem dJ6_bitCount_0f7a4_2 : decode cJ6_bitCount_0f7a4 2 = .ok (.iconst 1, 1) := by decide +kernel
theorem dJ6_bitCount_0f7a4_3 : decode cJ6_bitCount_0f7a4 3 = .ok (.iushr, 1) := by decide +kernel
theorem dJ6_bitCount_0f7a4_4 : decode cJ6_bitCount_0f7a4 4 = .ok (.ldc_w 265, 3) := by decide +kernel
theorem dJ6_bitCount_0f7a4_7 : decode cJ6_bitCount_0f7a4 7 = .ok (.iand, 1) := by decide +kernel
theorem dJ6_bitCount_0f7a4_8 : decode cJ6_bitCount_0f7a4 8 = .ok (.isub, 1) := by decide +kernel
theorem dJ6_bitCount_0f7a4_9 : decode cJ6_bitCount_0f7a4 9 = .ok (.istore_n 0, 1) := by decide +kernel
theorem dJ6_bitCount_0f7a4_10 : decode cJ6_bitCount_0f7a4 10 = .ok (.iload_n 0, 1) := by decide +kernel
theorem dJ6_bitCount_0f7a4_11 : decode cJ6_bitCount_0f7a4 11 = .ok (.ldc_w 266, 3) := by decide +kernel
theorem dJ6_bitCount_0f7a4_14 : decode cJ6_bitCount_0f7a4 14 = .ok (.iand, 1) := by decide +kernel
theorem dJ6_bitCount_0f7a4_15 : decode cJ6_bitCount_0f7a4 15 = .ok (.iload_n 0, 1) := by decide +kernel
theorem dJ6_bitCount_0f7a4_16 : decode cJ6_bitCount_0f7a4 16 = .ok (.iconst 2, 1) := by decide +kernel
theorem dJ6_bitCount_0f7a4_17 : decode cJ6_bitCount_0f7a4 17 = .ok (.iushr, 1) := by decide +kernel
theorem dJ6_bitCount_0f7a4_18 : decode cJ6_bitCount_0f7a4 18 = .ok (.ldc_w 266, 3) := by decide +kernel
theorem dJ6_bitCount_0f7a4_21 : decode cJ6_bitCount_0f7a4 21 = .ok (.iand, 1) := by decide +kernel
theorem dJ6_bitCount_0f7a4_22 : decode cJ6_bitCount_0f7a4 22 = .ok (.iadd, 1) := by decide +kernel
theorem dJ6_bitCount_0f7a4_23 : decode cJ6_bitCount_0f7a4 23 = .ok (.istore_n 0, 1) := by decide +kernel
theorem dJ6_bitCount_0f7a4_24 : decode cJ6_bitCount_0f7a4 24 = .ok (.iload_n 0, 1) := by decide +kernel
theorem dJ6_bitCount_0f7a4_25 : decode cJ6_bitCount_0f7a4 25 = .ok (.iload_n 0, 1) := by decide +kernel
theorem dJ6_bitCount_0f7a4_26 : decode cJ6_bitCount_0f7a4 26 = .ok (.iconst 4, 1) := by decide +kernel
theorem dJ6_bitCount_0f7a4_27 : decode cJ6_bitCount_0f7a4 27 = .ok (.iushr, 1) := by decide +kernel
theorem dJ6_bitCount_0f7a4_28 : decode cJ6_bitCount_0f7a4 28 = .ok (.iadd, 1) := by decide +kernel
theorem dJ6_bitCount_0f7a4_29 : decode cJ6_bitCount_0f7a4 29 = .ok (.ldc_w 267, 3) := by decide +kernel
theorem dJ6_bitCount_0f7a4_32 : decode cJ6_bitCount_0f7a4 32 = .ok (.iand, 1) := by decide +kernel
theorem dJ6_bitCount_0f7a4_33 : decode cJ6_bitCount_0f7a4 33 = .ok (.istore_n 0, 1) := by decide +kernel
theorem dJ6_bitCount_0f7a4_34 : decode cJ6_bitCount_0f7a4 34 = .ok (.iload_n 0, 1) := by decide +kernel
theorem dJ6_bitCount_0f7a4_35 : decode cJ6_bitCount_0f7a4 35 = .ok (.iload_n 0, 1) := by decide +kernel
theorem dJ6_bitCount_0f7a4_36 : decode cJ6_bitCount_0f7a4 36 = .ok (.bipush 8, 2) := by decide +kernel
theorem dJ6_bitCount_0f7a4_38 : decode cJ6_bitCount_0f7a4 38 = .ok (.iushr, 1) := by decide +kernel
theorem dJ6_bitCount_0f7a4_39 : decode cJ6_bitCount_0f7a4 39 = .ok (.iadd, 1) := by decide +kernel
theorem dJ6_bitCount_0f7a4_40 : decode cJ6_bitCount_0f7a4 40 = .ok (.istore_n 0, 1) := by decide +kernel
theorem dJ6_bitCount_0f7a4_41 : decode cJ6_bitCount_0f7a4 41 = .ok (.iload_n 0, 1) := by decide +kernel
theorem dJ6_bitCount_0f7a4_42 : decode cJ6_bitCount_0f7a4 42 = .ok (.iload_n 0, 1) := by decide +kernel
theorem dJ6_bitCount_0f7a4_43 : decode cJ6_bitCount_0f7a4 43 = .ok (.bipush 16, 2) := by decide +kernel
theorem dJ6_bitCount_0f7a4_45 : decode cJ6_bitCount_0f7a4 45 = .ok (.iushr, 1) := by decide +kernel
theorem dJ6_bitCount_0f7a4_46 : decode cJ6_bitCount_0f7a4 46 = .ok (.iadd, 1) := by decide +kernel
theorem dJ6_bitCount_0f7a4_47 : decode cJ6_bitCount_0f7a4 47 = .ok (.istore_n 0, 1) := by decide +kernel
theorem dJ6_bitCount_0f7a4_48 : decode cJ6_bitCount_0f7a4 48 = .ok (.iload_n 0, 1) := by decide +kernel
theorem dJ6_bitCount_0f7a4_49 : decode cJ6_bitCount_0f7a4 49 = .ok (.bipush 63, 2) := by decide +kernel
theorem dJ6_bitCount_0f7a4_51 : decode cJ6_bitCount_0f7a4 51 = .ok (.iand, 1) := by decide +kernel
theorem dJ6_bitCount_0f7a4_52 : decode cJ6_bitCount_0f7a4 52 = .ok (.ireturn, 1) := by decide +kernel
theorem dJ9_floorMod_7cf53_0 : decode cJ9_floorMod_7cf53 0 = .ok (.iload_n 0, 1) := by decide +kernel
theorem dJ9_floorMod_7cf53_1 : decode cJ9_floorMod_7cf53 1 = .ok (.iload_n 1, 1) := by decide +kernel
theorem dJ9_floorMod_7cf53_2 : decode cJ9_floorMod_7cf53 2 = .ok (.irem, 1) := by decide +kernel
theorem dJ9_floorMod_7cf53_3 : decode cJ9_floorMod_7cf53 3 = .ok (.istore_n 2, 1) := by decide +kernel
theorem dJ9_floorMod_7cf53_4 : decode cJ9_floorMod_7cf53 4 = .ok (.iload_n 0, 1) := by decide +kernel
theorem dJ9_floorMod_7cf53_5 : decode cJ9_floorMod_7cf53 5 = .ok (.iload_n 1, 1) := by decide +kernel
theorem dJ9_floorMod_7cf53_6 : decode cJ9_floorMod_7cf53 6 = .ok (.ixor, 1) := by decide +kernel
theorem dJ9_floorMod_7cf53_7 : decode cJ9_floorMod_7cf53 7 = .ok (.ifCond .ge 11, 3) := by decide +kernel
theorem dJ9_floorMod_7cf53_10 : decode cJ9_floorMod_7cf53 10 = .ok (.iload_n 2, 1) := by decide +kernel
theorem dJ9_floorMod_7cf53_11 : decode cJ9_floorMod_7cf53 11 = .ok (.ifCond .eq 7, 3) := by decide +kernel
theorem dJ9_floorMod_7cf53_14 : decode cJ9_floorMod_7cf53 14 = .ok (.iload_n 2, 1) := by decide +kernel
theorem dJ9_floorMod_7cf53_15 : decode cJ9_floorMod_7cf53 15 = .ok (.iload_n 1, 1) := by decide +kernel
theorem dJ9_floorMod_7cf53_16 : decode cJ9_floorMod_7cf53 16 = .ok (.iadd, 1) := by decide +kernel
theorem dJ9_floorMod_7cf53_17 : decode cJ9_floorMod_7cf53 17 = .ok (.ireturn, 1) := by decide +kernel
theorem dJ9_floorMod_7cf53_18 : decode cJ9_floorMod_7cf53 18 = .ok (.iload_n 2, 1) := by decide +kernel
theorem dJ9_floorMod_7cf53_19 : decode cJ9_floorMod_7cf53 19 = .ok (.ireturn, 1) := by decide +kernel
theorem dJ9_abs_0f7a4_0 : decode cJ9_abs_0f7a4 0 = .ok (.iload_n 0, 1) := by decide +kernel
theorem dJ9_abs_0f7a4_1 : decode cJ9_abs_0f7a4 1 = .ok (.ifCond .ge 8, 3) := by decide +kernel
theorem dJ9_abs_0f7a4_4 : decode cJ9_abs_0f7a4 4 = .ok (.iload_n 0, 1) := by decide +kernel
theorem dJ9_abs_0f7a4_5 : decode cJ9_abs_0f7a4 5 = .ok (.ineg, 1) := by decide +kernel
theorem dJ9_abs_0f7a4_6 : decode cJ9_abs_0f7a4 6 = .ok (.goto 4, 3) := by decide +kernel
theorem dJ9_abs_0f7a4_9 : decode cJ9_abs_0f7a4 9 = .ok (.iload_n 0, 1) := by decide +kernel
theorem dJ9_abs_0f7a4_10 : decode cJ9_abs_0f7a4 10 = .ok (.ireturn, 1) := by decide +kernel
theorem dJ9_max_7cf53_0 : decode cJ9_max_7cf53 0 = .ok (.iload_n 0, 1) := by decide +kernel
theorem dJ9_max_7cf53_1 : decode cJ9_max_7cf53 1 = .ok (.iload_n 1, 1) := by decide +kernel
theorem dJ9_max_7cf53_2 : decode cJ9_max_7cf53 2 = .ok (.if_icmp .lt 7, 3) := by decide +kernel
theorem dJ9_max_7cf53_5 : decode cJ9_max_7cf53 5 = .ok (.iload_n 0, 1) := by decide +kernel
theorem dJ9_max_7cf53_6 : decode cJ9_max_7cf53 6 = .ok (.goto 4, 3) := by decide +kernel
theorem dJ9_max_7cf53_9 : decode cJ9_max_7cf53 9 = .ok (.iload_n 1, 1) := by decide +kernel
theorem dJ9_max_7cf53_10 : decode cJ9_max_7cf53 10 = .ok (.ireturn, 1) := by decide +kernel
theorem dJ9_min_7cf53_0 : decode cJ9_min_7cf53 0 = .ok (.iload_n 0, 1) := by decide +kernel
theorem dJ9_min_7cf53_1 : decode cJ9_min_7cf53 1 = .ok (.iload_n 1, 1) := by decide +kernel
theorem dJ9_min_7cf53_2 : decode cJ9_min_7cf53 2 = .ok (.if_icmp .gt 7, 3) := by decide +kernel
theorem dJ9_min_7cf53_5 : decode cJ9_min_7cf53 5 = .ok (.iload_n 0, 1) := by decide +kernel
theorem dJ9_min_7cf53_6 : decode cJ9_min_7cf53 6 = .ok (.goto 4, 3) := by decide +kernel
theorem dJ9_min_7cf53_9 : decode cJ9_min_7cf53 9 = .ok (.iload_n 1, 1) := by decide +kernel
theorem dJ9_min_7cf53_10 : decode cJ9_min_7cf53 10 = .ok (.ireturn, 1) := by decide +kernel
theorem dJ7_rangeCheck_23922_0 : decode cJ7_rangeCheck_23922 0 = .ok (.iload_n 1, 1) := by decide +kernel
theorem dJ7_rangeCheck_23922_1 : decode cJ7_rangeCheck_23922 1 = .ok (.iload_n 2, 1) := by decide +kernel
theorem dJ7_rangeCheck_23922_2 : decode cJ7_rangeCheck_23922 2 = .ok (.if_icmp .le 44, 3) := by decide +kernel
theorem dJ7_rangeCheck_23922_5 : decode cJ7_rangeCheck_23922 5 = .ok (.new 43, 3) := by decide +kernel
theorem dJ7_rangeCheck_23922_8 : decode cJ7_rangeCheck_23922 8 = .ok (.dup, 1) := by decide +kernel
theorem dJ7_rangeCheck_23922_9 : decode cJ7_rangeCheck_23922 9 = .ok (.new 45, 3) := by decide +kernel
theorem dJ7_rangeCheck_23922_12 : decode cJ7_rangeCheck_23922 12 = .ok (.dup, 1) := by decide +kernel
theorem dJ7_rangeCheck_23922_13 : decode cJ7_rangeCheck_23922 13 = .ok (.invokespecial 47, 3) := by decide +kernel
theorem dJ7_rangeCheck_23922_16 : decode cJ7_rangeCheck_23922 16 = .ok (.ldc 48, 2) := by decide +kernel
theorem dJ7_rangeCheck_23922_18 : decode cJ7_rangeCheck_23922 18 = .ok (.invokevirtual 50, 3) := by decide +kernel
theorem dJ7_rangeCheck_23922_21 : decode cJ7_rangeCheck_23922 21 = .ok (.iload_n 1, 1) := by decide +kernel
theorem dJ7_rangeCheck_23922_22 : decode cJ7_rangeCheck_23922 22 = .ok (.invokevirtual 54, 3) := by decide +kernel
theorem dJ7_rangeCheck_23922_25 : decode cJ7_rangeCheck_23922 25 = .ok (.ldc 57, 2) := by decide +kernel
theorem dJ7_rangeCheck_23922_27 : decode cJ7_rangeCheck_23922 27 = .ok (.invokevirtual 50, 3) := by decide +kernel
theorem dJ7_rangeCheck_23922_30 : decode cJ7_rangeCheck_23922 30 = .ok (.iload_n 2, 1) := by decide +kernel
theorem dJ7_rangeCheck_23922_31 : decode cJ7_rangeCheck_23922 31 = .ok (.invokevirtual 54, 3) := by decide +kernel
theorem dJ7_rangeCheck_23922_34 : decode cJ7_rangeCheck_23922 34 = .ok (.ldc 59, 2) := by decide +kernel
theorem dJ7_rangeCheck_23922_36 : decode cJ7_rangeCheck_23922 36 = .ok (.invokevirtual 50, 3) := by decide +kernel
theorem dJ7_rangeCheck_23922_39 : decode cJ7_rangeCheck_23922 39 = .ok (.invokevirtual 61, 3) := by decide +kernel
theorem dJ7_rangeCheck_23922_42 : decode cJ7_rangeCheck_23922 42 = .ok (.invokespecial 65, 3) := by decide +kernel
theorem dJ7_rangeCheck_23922_45 : decode cJ7_rangeCheck_23922 45 = .ok (.athrow, 1) := by decide +kernel
theorem dJ7_rangeCheck_23922_46 : decode cJ7_rangeCheck_23922 46 = .ok (.iload_n 1, 1) := by decide +kernel
theorem dJ7_rangeCheck_23922_47 : decode cJ7_rangeCheck_23922 47 = .ok (.ifCond .ge 12, 3) := by decide +kernel
theorem dJ7_rangeCheck_23922_50 : decode cJ7_rangeCheck_23922 50 = .ok (.new 68, 3) := by decide +kernel
theorem dJ7_rangeCheck_23922_53 : decode cJ7_rangeCheck_23922 53 = .ok (.dup, 1) := by decide +kernel
theorem dJ7_rangeCheck_23922_54 : decode cJ7_rangeCheck_23922 54 = .ok (.iload_n 1, 1) := by decide +kernel
theorem dJ7_rangeCheck_23922_55 : decode cJ7_rangeCheck_23922 55 = .ok (.invokespecial 70, 3) := by decide +kernel
theorem dJ7_rangeCheck_23922_58 : decode cJ7_rangeCheck_23922 58 = .ok (.athrow, 1) := by decide +kernel
theorem dJ7_rangeCheck_23922_59 : decode cJ7_rangeCheck_23922 59 = .ok (.iload_n 2, 1) := by decide +kernel
theorem dJ7_rangeCheck_23922_60 : decode cJ7_rangeCheck_23922 60 = .ok (.iload_n 0, 1) := by decide +kernel
theorem dJ7_rangeCheck_23922_61 : decode cJ7_rangeCheck_23922 61 = .ok (.if_icmp .le 12, 3) := by decide +kernel
theorem dJ7_rangeCheck_23922_64 : decode cJ7_rangeCheck_23922 64 = .ok (.new 68, 3) := by decide +kernel
theorem dJ7_rangeCheck_23922_67 : decode cJ7_rangeCheck_23922 67 = .ok (.dup, 1) := by decide +kernel
theorem dJ7_rangeCheck_23922_68 : decode cJ7_rangeCheck_23922 68 = .ok (.iload_n 2, 1) := by decide +kernel
theorem dJ7_rangeCheck_23922_69 : decode cJ7_rangeCheck_23922 69 = .ok (.invokespecial 70, 3) := by decide +kernel
theorem dJ7_rangeCheck_23922_72 : decode cJ7_rangeCheck_23922 72 = .ok (.athrow, 1) := by decide +kernel
theorem dJ7_rangeCheck_23922_73 : decode cJ7_rangeCheck_23922 73 = .ok (.return_, 1) := by decide +kernel
theorem dJ7_fill_53178_0 : decode cJ7_fill_53178 0 = .ok (.iconst 0, 1) := by decide +kernel
theorem dJ7_fill_53178_1 : decode cJ7_fill_53178 1 = .ok (.istore_n 2, 1) := by decide +kernel
theorem dJ7_fill_53178_2 : decode cJ7_fill_53178 2 = .ok (.aload_n 0, 1) := by decide +kernel
theorem dJ7_fill_53178_3 : decode cJ7_fill_53178 3 = .ok (.arraylength, 1) := by decide +kernel
theorem dJ7_fill_53178_4 : decode cJ7_fill_53178 4 = .ok (.istore_n 3, 1) := by decide +kernel
theorem dJ7_fill_53178_5 : decode cJ7_fill_53178 5 = .ok (.iload_n 2, 1) := by decide +kernel
theorem dJ7_fill_53178_6 : decode cJ7_fill_53178 6 = .ok (.iload_n 3, 1) := by decide +kernel
theorem dJ7_fill_53178_7 : decode cJ7_fill_53178 7 = .ok (.if_icmp .ge 13, 3) := by decide +kernel
theorem dJ7_fill_53178_10 : decode cJ7_fill_53178 10 = .ok (.aload_n 0, 1) := by decide +kernel
theorem dJ7_fill_53178_11 : decode cJ7_fill_53178 11 = .ok (.iload_n 2, 1) := by decide +kernel
theorem dJ7_fill_53178_12 : decode cJ7_fill_53178 12 = .ok (.iload_n 1, 1) := by decide +kernel
theorem dJ7_fill_53178_13 : decode cJ7_fill_53178 13 = .ok (.iastore, 1) := by decide +kernel
theorem dJ7_fill_53178_14 : decode cJ7_fill_53178 14 = .ok (.iinc 2 1, 3) := by decide +kernel
theorem dJ7_fill_53178_17 : decode cJ7_fill_53178 17 = .ok (.goto (-12), 3) := by decide +kernel
theorem dJ7_fill_53178_20 : decode cJ7_fill_53178 20 = .ok (.return_, 1) := by decide +kernel
theorem dJ7_fill_fda19_0 : decode cJ7_fill_fda19 0 = .ok (.aload_n 0, 1) := by decide +kernel
theorem dJ7_fill_fda19_1 : decode cJ7_fill_fda19 1 = .ok (.arraylength, 1) := by decide +kernel
theorem dJ7_fill_fda19_2 : decode cJ7_fill_fda19 2 = .ok (.iload_n 1, 1) := by decide +kernel
theorem dJ7_fill_fda19_3 : decode cJ7_fill_fda19 3 = .ok (.iload_n 2, 1) := by decide +kernel
theorem dJ7_fill_fda19_4 : decode cJ7_fill_fda19 4 = .ok (.invokestatic 13, 3) := by decide +kernel
theorem dJ7_fill_fda19_7 : decode cJ7_fill_fda19 7 = .ok (.iload_n 1, 1) := by decide +kernel
theorem dJ7_fill_fda19_8 : decode cJ7_fill_fda19 8 = .ok (.istore 4, 2) := by decide +kernel
theorem dJ7_fill_fda19_10 : decode cJ7_fill_fda19 10 = .ok (.iload 4, 2) := by decide +kernel
theorem dJ7_fill_fda19_12 : decode cJ7_fill_fda19 12 = .ok (.iload_n 2, 1) := by decide +kernel
theorem dJ7_fill_fda19_13 : decode cJ7_fill_fda19 13 = .ok (.if_icmp .ge 14, 3) := by decide +kernel
theorem dJ7_fill_fda19_16 : decode cJ7_fill_fda19 16 = .ok (.aload_n 0, 1) := by decide +kernel
theorem dJ7_fill_fda19_17 : decode cJ7_fill_fda19 17 = .ok (.iload 4, 2) := by decide +kernel
theorem dJ7_fill_fda19_19 : decode cJ7_fill_fda19 19 = .ok (.iload_n 3, 1) := by decide +kernel
theorem dJ7_fill_fda19_20 : decode cJ7_fill_fda19 20 = .ok (.iastore, 1) := by decide +kernel
theorem dJ7_fill_fda19_21 : decode cJ7_fill_fda19 21 = .ok (.iinc 4 1, 3) := by decide +kernel
theorem dJ7_fill_fda19_24 : decode cJ7_fill_fda19 24 = .ok (.goto (-14), 3) := by decide +kernel
theorem dJ7_fill_fda19_27 : decode cJ7_fill_fda19 27 = .ok (.return_, 1) := by decide +kernel
theorem dL_law_0 : decode cL_law 0 = .ok (.new 7, 3) := by decide +kernel
theorem dL_law_3 : decode cL_law 3 = .ok (.dup, 1) := by decide +kernel
theorem dL_law_4 : decode cL_law 4 = .ok (.invokespecial 9, 3) := by decide +kernel
theorem dL_law_7 : decode cL_law 7 = .ok (.astore_n 1, 1) := by decide +kernel
theorem dL_law_8 : decode cL_law 8 = .ok (.new 10, 3) := by decide +kernel
theorem dL_law_11 : decode cL_law 11 = .ok (.dup, 1) := by decide +kernel
theorem dL_law_12 : decode cL_law 12 = .ok (.invokespecial 12, 3) := by decide +kernel
theorem dL_law_15 : decode cL_law 15 = .ok (.astore_n 2, 1) := by decide +kernel
theorem dL_law_16 : decode cL_law 16 = .ok (.iconst 0, 1) := by decide +kernel
theorem dL_law_17 : decode cL_law 17 = .ok (.istore_n 3, 1) := by decide +kernel
theorem dL_law_18 : decode cL_law 18 = .ok (.iload_n 3, 1) := by decide +kernel
theorem dL_law_19 : decode cL_law 19 = .ok (.aload_n 0, 1) := by decide +kernel
theorem dL_law_20 : decode cL_law 20 = .ok (.arraylength, 1) := by decide +kernel
theorem dL_law_21 : decode cL_law 21 = .ok (.bipush 7, 2) := by decide +kernel
theorem dL_law_23 : decode cL_law 23 = .ok (.isub, 1) := by decide +kernel
theorem dL_law_24 : decode cL_law 24 = .ok (.if_icmp .gt 1855, 3) := by decide +kernel
theorem dL_law_27 : decode cL_law 27 = .ok (.aload_n 0, 1) := by decide +kernel
theorem dL_law_28 : decode cL_law 28 = .ok (.iload_n 3, 1) := by decide +kernel
theorem dL_law_29 : decode cL_law 29 = .ok (.iaload, 1) := by decide +kernel
theorem dL_law_30 : decode cL_law 30 = .ok (.bipush 63, 2) := by decide +kernel
theorem dL_law_32 : decode cL_law 32 = .ok (.iand, 1) := by decide +kernel
theorem dL_law_33 : decode cL_law 33 = .ok (.tableswitch 1840 0 40 #[179, 202, 215, 238, 261, 284, 317, 380, 413, 436, 459, 482, 541, 610, 633, 708, 731, 754, 813, 882, 951, 984, 1007, 1040, 1099, 1168, 1201, 1225, 1258, 1327, 1351, 1394, 1437, 1490, 1543, 1586, 1629, 1662, 1721, 1774, 1817], 179) := by decide +kernel
theorem dL_law_212 : decode cL_law 212 = .ok (.aload_n 1, 1) := by decide +kernel
theorem dL_law_213 : decode cL_law 213 = .ok (.aload_n 0, 1) := by decide +kernel
theorem dL_law_214 : decode cL_law 214 = .ok (.iload_n 3, 1) := by decide +kernel
theorem dL_law_215 : decode cL_law 215 = .ok (.iconst 1, 1) := by decide +kernel
theorem dL_law_216 : decode cL_law 216 = .ok (.iadd, 1) := by decide +kernel
theorem dL_law_217 : decode cL_law 217 = .ok (.iaload, 1) := by decide +kernel
theorem dL_law_218 : decode cL_law 218 = .ok (.invokevirtual 13, 3) := by decide +kernel
theorem dL_law_221 : decode cL_law 221 = .ok (.aload_n 2, 1) := by decide +kernel
theorem dL_law_222 : decode cL_law 222 = .ok (.aload_n 0, 1) := by decide +kernel
theorem dL_law_223 : decode cL_law 223 = .ok (.iload_n 3, 1) := by decide +kernel
theorem dL_law_224 : decode cL_law 224 = .ok (.iconst 1, 1) := by decide +kernel
theorem dL_law_225 : decode cL_law 225 = .ok (.iadd, 1) := by decide +kernel
theorem dL_law_226 : decode cL_law 226 = .ok (.iaload, 1) := by decide +kernel
theorem dL_law_227 : decode cL_law 227 = .ok (.invokevirtual 17, 3) := by decide +kernel
theorem dL_law_230 : decode cL_law 230 = .ok (.if_icmp .eq 1643, 3) := by decide +kernel
theorem dL_law_233 : decode cL_law 233 = .ok (.iconst 0, 1) := by decide +kernel
theorem dL_law_234 : decode cL_law 234 = .ok (.ireturn, 1) := by decide +kernel
theorem dL_law_235 : decode cL_law 235 = .ok (.aload_n 1, 1) := by decide +kernel
theorem dL_law_236 : decode cL_law 236 = .ok (.invokevirtual 18, 3) := by decide +kernel
theorem dL_law_239 : decode cL_law 239 = .ok (.aload_n 2, 1) := by decide +kernel
theorem dL_law_240 : decode cL_law 240 = .ok (.invokevirtual 22, 3) := by decide +kernel
theorem dL_law_243 : decode cL_law 243 = .ok (.if_icmp .eq 1630, 3) := by decide +kernel
theorem dL_law_246 : decode cL_law 246 = .ok (.iconst 0, 1) := by decide +kernel
theorem dL_law_247 : decode cL_law 247 = .ok (.ireturn, 1) := by decide +kernel
theorem dL_law_248 : decode cL_law 248 = .ok (.aload_n 1, 1) := by decide +kernel
theorem dL_law_249 : decode cL_law 249 = .ok (.aload_n 0, 1) := by decide +kernel
theorem dL_law_250 : decode cL_law 250 = .ok (.iload_n 3, 1) := by decide +kernel
theorem dL_law_251 : decode cL_law 251 = .ok (.iconst 1, 1) := by decide +kernel
theorem dL_law_252 : decode cL_law 252 = .ok (.iadd, 1) := by decide +kernel
theorem dL_law_253 : decode cL_law 253 = .ok (.iaload, 1) := by decide +kernel
theorem dL_law_254 : decode cL_law 254 = .ok (.invokevirtual 23, 3) := by decide +kernel
theorem dL_law_257 : decode cL_law 257 = .ok (.aload_n 2, 1) := by decide +kernel
theorem dL_law_258 : decode cL_law 258 = .ok (.aload_n 0, 1) := by decide +kernel
theorem dL_law_259 : decode cL_law 259 = .ok (.iload_n 3, 1) := by decide +kernel
theorem dL_law_260 : decode cL_law 260 = .ok (.iconst 1, 1) := by decide +kernel
theorem dL_law_261 : decode cL_law 261 = .ok (.iadd, 1) := by decide +kernel
theorem dL_law_262 : decode cL_law 262 = .ok (.iaload, 1) := by decide +kernel
theorem dL_law_263 : decode cL_law 263 = .ok (.invokevirtual 26, 3) := by decide +kernel
theorem dL_law_266 : decode cL_law 266 = .ok (.if_icmp .eq 1607, 3) := by decide +kernel
theorem dL_law_269 : decode cL_law 269 = .ok (.iconst 0, 1) := by decide +kernel
theorem dL_law_270 : decode cL_law 270 = .ok (.ireturn, 1) := by decide +kernel
theorem dL_law_271 : decode cL_law 271 = .ok (.aload_n 1, 1) := by decide +kernel
theorem dL_law_272 : decode cL_law 272 = .ok (.aload_n 0, 1) := by decide +kernel
theorem dL_law_273 : decode cL_law 273 = .ok (.iload_n 3, 1) := by decide +kernel
theorem dL_law_274 : decode cL_law 274 = .ok (.iconst 1, 1) := by decide +kernel
theorem dL_law_275 : decode cL_law 275 = .ok (.iadd, 1) := by decide +kernel
theorem dL_law_276 : decode cL_law 276 = .ok (.iaload, 1) := by decide +kernel
theorem dL_law_277 : decode cL_law 277 = .ok (.invokevirtual 27, 3) := by decide +kernel
theorem dL_law_280 : decode cL_law 280 = .ok (.aload_n 2, 1) := by decide +kernel
theorem dL_law_281 : decode cL_law 281 = .ok (.aload_n 0, 1) := by decide +kernel
theorem dL_law_282 : decode cL_law 282 = .ok (.iload_n 3, 1) := by decide +kernel
theorem dL_law_283 : decode cL_law 283 = .ok (.iconst 1, 1) := by decide +kernel
theorem dL_law_284 : decode cL_law 284 = .ok (.iadd, 1) := by decide +kernel
theorem dL_law_285 : decode cL_law 285 = .ok (.iaload, 1) := by decide +kernel
theorem dL_law_286 : decode cL_law 286 = .ok (.invokevirtual 30, 3) := by decide +kernel
theorem dL_law_289 : decode cL_law 289 = .ok (.if_icmp .eq 1584, 3) := by decide +kernel
theorem dL_law_292 : decode cL_law 292 = .ok (.iconst 0, 1) := by decide +kernel
theorem dL_law_293 : decode cL_law 293 = .ok (.ireturn, 1) := by decide +kernel
theorem dL_law_294 : decode cL_law 294 = .ok (.aload_n 1, 1) := by decide +kernel
theorem dL_law_295 : decode cL_law 295 = .ok (.aload_n 0, 1) := by decide +kernel
theorem dL_law_296 : decode cL_law 296 = .ok (.iload_n 3, 1) := by decide +kernel
theorem dL_law_297 : decode cL_law 297 = .ok (.iconst 1, 1) := by decide +kernel
theorem dL_law_298 : decode cL_law 298 = .ok (.iadd, 1) := by decide +kernel
theorem dL_law_299 : decode cL_law 299 = .ok (.iaload, 1) := by decide +kernel
theorem dL_law_300 : decode cL_law 300 = .ok (.invokevirtual 31, 3) := by decide +kernel
theorem dL_law_303 : decode cL_law 303 = .ok (.aload_n 2, 1) := by decide +kernel
theorem dL_law_304 : decode cL_law 304 = .ok (.aload_n 0, 1) := by decide +kernel
theorem dL_law_305 : decode cL_law 305 = .ok (.iload_n 3, 1) := by decide +kernel
theorem dL_law_306 : decode cL_law 306 = .ok (.iconst 1, 1) := by decide +kernel
theorem dL_law_307 : decode cL_law 307 = .ok (.iadd, 1) := by decide +kernel
theorem dL_law_308 : decode cL_law 308 = .ok (.iaload, 1) := by decide +kernel
theorem dL_law_309 : decode cL_law 309 = .ok (.invokevirtual 34, 3) := by decide +kernel
theorem dL_law_312 : decode cL_law 312 = .ok (.if_icmp .eq 1561, 3) := by decide +kernel
theorem dL_law_315 : decode cL_law 315 = .ok (.iconst 0, 1) := by decide +kernel
theorem dL_law_316 : decode cL_law 316 = .ok (.ireturn, 1) := by decide +kernel
theorem dL_law_317 : decode cL_law 317 = .ok (.aload_n 1, 1) := by decide +kernel
theorem dL_law_318 : decode cL_law 318 = .ok (.aload_n 0, 1) := by decide +kernel
theorem dL_law_319 : decode cL_law 319 = .ok (.iload_n 3, 1) := by decide +kernel
theorem dL_law_320 : decode cL_law 320 = .ok (.iconst 1, 1) := by decide +kernel
theorem dL_law_321 : decode cL_law 321 = .ok (.iadd, 1) := by decide +kernel
theorem dL_law_322 : decode cL_law 322 = .ok (.iaload, 1) := by decide +kernel
theorem dL_law_323 : decode cL_law 323 = .ok (.aload_n 0, 1) := by decide +kernel
theorem dL_law_324 : decode cL_law 324 = .ok (.iload_n 3, 1) := by decide +kernel
theorem dL_law_325 : decode cL_law 325 = .ok (.iconst 2, 1) := by decide +kernel
theorem dL_law_326 : decode cL_law 326 = .ok (.iadd, 1) := by decide +kernel
theorem dL_law_327 : decode cL_law 327 = .ok (.iaload, 1) := by decide +kernel
theorem dL_law_328 : decode cL_law 328 = .ok (.invokevirtual 35, 3) := by decide +kernel
theorem dL_law_331 : decode cL_law 331 = .ok (.aload_n 2, 1) := by decide +kernel
theorem dL_law_332 : decode cL_law 332 = .ok (.aload_n 0, 1) := by decide +kernel
theorem dL_law_333 : decode cL_law 333 = .ok (.iload_n 3, 1) := by decide +kernel
theorem dL_law_334 : decode cL_law 334 = .ok (.iconst 1, 1) := by decide +kernel
theorem dL_law_335 : decode cL_law 335 = .ok (.iadd, 1) := by decide +kernel
theorem dL_law_336 : decode cL_law 336 = .ok (.iaload, 1) := by decide +kernel
theorem dL_law_337 : decode cL_law 337 = .ok (.aload_n 0, 1) := by decide +kernel
theorem dL_law_338 : decode cL_law 338 = .ok (.iload_n 3, 1) := by decide +kernel
theorem dL_law_339 : decode cL_law 339 = .ok (.iconst 2, 1) := by decide +kernel
theorem dL_law_340 : decode cL_law 340 = .ok (.iadd, 1) := by decide +kernel
theorem dL_law_341 : decode cL_law 341 = .ok (.iaload, 1) := by decide +kernel
theorem dL_law_342 : decode cL_law 342 = .ok (.invokevirtual 39, 3) := by decide +kernel
theorem dL_law_345 : decode cL_law 345 = .ok (.if_icmp .eq 1528, 3) := by decide +kernel
theorem dL_law_348 : decode cL_law 348 = .ok (.iconst 0, 1) := by decide +kernel
theorem dL_law_349 : decode cL_law 349 = .ok (.ireturn, 1) := by decide +kernel
theorem dL_law_350 : decode cL_law 350 = .ok (.aload_n 1, 1) := by decide +kernel
theorem dL_law_351 : decode cL_law 351 = .ok (.aload_n 0, 1) := by decide +kernel
theorem dL_law_352 : decode cL_law 352 = .ok (.iload_n 3, 1) := by decide +kernel
theorem dL_law_353 : decode cL_law 353 = .ok (.iconst 1, 1) := by decide +kernel
theorem dL_law_354 : decode cL_law 354 = .ok (.iadd, 1) := by decide +kernel
theorem dL_law_355 : decode cL_law 355 = .ok (.iaload, 1) := by decide +kernel
theorem dL_law_356 : decode cL_law 356 = .ok (.aload_n 0, 1) := by decide +kernel
theorem dL_law_357 : decode cL_law 357 = .ok (.iload_n 3, 1) := by decide +kernel
theorem dL_law_358 : decode cL_law 358 = .ok (.iconst 2, 1) := by decide +kernel
theorem dL_law_359 : decode cL_law 359 = .ok (.iadd, 1) := by decide +kernel
theorem dL_law_360 : decode cL_law 360 = .ok (.iaload, 1) := by decide +kernel
theorem dL_law_361 : decode cL_law 361 = .ok (.aload_n 0, 1) := by decide +kernel
theorem dL_law_362 : decode cL_law 362 = .ok (.iload_n 3, 1) := by decide +kernel
theorem dL_law_363 : decode cL_law 363 = .ok (.iconst 3, 1) := by decide +kernel
theorem dL_law_364 : decode cL_law 364 = .ok (.iadd, 1) := by decide +kernel
theorem dL_law_365 : decode cL_law 365 = .ok (.iaload, 1) := by decide +kernel
theorem dL_law_366 : decode cL_law 366 = .ok (.aload_n 0, 1) := by decide +kernel
theorem dL_law_367 : decode cL_law 367 = .ok (.iload_n 3, 1) := by decide +kernel
theorem dL_law_368 : decode cL_law 368 = .ok (.iconst 4, 1) := by decide +kernel
theorem dL_law_369 : decode cL_law 369 = .ok (.iadd, 1) := by decide +kernel
theorem dL_law_370 : decode cL_law 370 = .ok (.iaload, 1) := by decide +kernel
theorem dL_law_371 : decode cL_law 371 = .ok (.aload_n 0, 1) := by decide +kernel
theorem dL_law_372 : decode cL_law 372 = .ok (.iload_n 3, 1) := by decide +kernel
theorem dL_law_373 : decode cL_law 373 = .ok (.iconst 5, 1) := by decide +kernel
theorem dL_law_374 : decode cL_law 374 = .ok (.iadd, 1) := by decide +kernel
theorem dL_law_375 : decode cL_law 375 = .ok (.iaload, 1) := by decide +kernel
theorem dL_law_376 : decode cL_law 376 = .ok (.invokevirtual 40, 3) := by decide +kernel
theorem dL_law_379 : decode cL_law 379 = .ok (.aload_n 2, 1) := by decide +kernel
theorem dL_law_380 : decode cL_law 380 = .ok (.aload_n 0, 1) := by decide +kernel
theorem dL_law_381 : decode cL_law 381 = .ok (.iload_n 3, 1) := by decide +kernel
theorem dL_law_382 : decode cL_law 382 = .ok (.iconst 1, 1) := by decide +kernel
theorem dL_law_383 : decode cL_law 383 = .ok (.iadd, 1) := by decide +kernel
theorem dL_law_384 : decode cL_law 384 = .ok (.iaload, 1) := by decide +kernel
theorem dL_law_385 : decode cL_law 385 = .ok (.aload_n 0, 1) := by decide +kernel
theorem dL_law_386 : decode cL_law 386 = .ok (.iload_n 3, 1) := by decide +kernel
theorem dL_law_387 : decode cL_law 387 = .ok (.iconst 2, 1) := by decide +kernel
theorem dL_law_388 : decode cL_law 388 = .ok (.iadd, 1) := by decide +kernel
theorem dL_law_389 : decode cL_law 389 = .ok (.iaload, 1) := by decide +kernel
theorem dL_law_390 : decode cL_law 390 = .ok (.aload_n 0, 1) := by decide +kernel
theorem dL_law_391 : decode cL_law 391 = .ok (.iload_n 3, 1) := by decide +kernel
theorem dL_law_392 : decode cL_law 392 = .ok (.iconst 3, 1) := by decide +kernel
theorem dL_law_393 : decode cL_law 393 = .ok (.iadd, 1) := by decide +kernel
theorem dL_law_394 : decode cL_law 394 = .ok (.iaload, 1) := by decide +kernel
theorem dL_law_395 : decode cL_law 395 = .ok (.aload_n 0, 1) := by decide +kernel
theorem dL_law_396 : decode cL_law 396 = .ok (.iload_n 3, 1) := by decide +kernel
theorem dL_law_397 : decode cL_law 397 = .ok (.iconst 4, 1) := by decide +kernel
theorem dL_law_398 : decode cL_law 398 = .ok (.iadd, 1) := by decide +kernel
theorem dL_law_399 : decode cL_law 399 = .ok (.iaload, 1) := by decide +kernel
theorem dL_law_400 : decode cL_law 400 = .ok (.aload_n 0, 1) := by decide +kernel
theorem dL_law_401 : decode cL_law 401 = .ok (.iload_n 3, 1) := by decide +kernel
theorem dL_law_402 : decode cL_law 402 = .ok (.iconst 5, 1) := by decide +kernel
theorem dL_law_403 : decode cL_law 403 = .ok (.iadd, 1) := by decide +kernel
theorem dL_law_404 : decode cL_law 404 = .ok (.iaload, 1) := by decide +kernel
theorem dL_law_405 : decode cL_law 405 = .ok (.invokevirtual 44, 3) := by decide +kernel
theorem dL_law_408 : decode cL_law 408 = .ok (.if_icmp .eq 1465, 3) := by decide +kernel
theorem dL_law_411 : decode cL_law 411 = .ok (.iconst 0, 1) := by decide +kernel
theorem dL_law_412 : decode cL_law 412 = .ok (.ireturn, 1) := by decide +kernel
theorem dL_law_413 : decode cL_law 413 = .ok (.aload_n 1, 1) := by decide +kernel
theorem dL_law_414 : decode cL_law 414 = .ok (.aload_n 0, 1) := by decide +kernel
theorem dL_law_415 : decode cL_law 415 = .ok (.iload_n 3, 1) := by decide +kernel
theorem dL_law_416 : decode cL_law 416 = .ok (.iconst 1, 1) := by decide +kernel
theorem dL_law_417 : decode cL_law 417 = .ok (.iadd, 1) := by decide +kernel
theorem dL_law_418 : decode cL_law 418 = .ok (.iaload, 1) := by decide +kernel
theorem dL_law_419 : decode cL_law 419 = .ok (.aload_n 0, 1) := by decide +kernel
theorem dL_law_420 : decode cL_law 420 = .ok (.iload_n 3, 1) := by decide +kernel
theorem dL_law_421 : decode cL_law 421 = .ok (.iconst 2, 1) := by decide +kernel
theorem dL_law_422 : decode cL_law 422 = .ok (.iadd, 1) := by decide +kernel
theorem dL_law_423 : decode cL_law 423 = .ok (.iaload, 1) := by decide +kernel
theorem dL_law_424 : decode cL_law 424 = .ok (.invokevirtual 45, 3) := by decide +kernel
theorem dL_law_427 : decode cL_law 427 = .ok (.aload_n 2, 1) := by decide +kernel
theorem dL_law_428 : decode cL_law 428 = .ok (.aload_n 0, 1) := by decide +kernel
theorem dL_law_429 : decode cL_law 429 = .ok (.iload_n 3, 1) := by decide +kernel
theorem dL_law_430 : decode cL_law 430 = .ok (.iconst 1, 1) := by decide +kernel
theorem dL_law_431 : decode cL_law 431 = .ok (.iadd, 1) := by decide +kernel
theorem dL_law_432 : decode cL_law 432 = .ok (.iaload, 1) := by decide +kernel
theorem dL_law_433 : decode cL_law 433 = .ok (.aload_n 0, 1) := by decide +kernel
theorem dL_law_434 : decode cL_law 434 = .ok (.iload_n 3, 1) := by decide +kernel
theorem dL_law_435 : decode cL_law 435 = .ok (.iconst 2, 1) := by decide +kernel
theorem dL_law_436 : decode cL_law 436 = .ok (.iadd, 1) := by decide +kernel
theorem dL_law_437 : decode cL_law 437 = .ok (.iaload, 1) := by decide +kernel
theorem dL_law_438 : decode cL_law 438 = .ok (.invokevirtual 48, 3) := by decide +kernel
theorem dL_law_441 : decode cL_law 441 = .ok (.if_icmp .eq 1432, 3) := by decide +kernel
theorem dL_law_444 : decode cL_law 444 = .ok (.iconst 0, 1) := by decide +kernel
theorem dL_law_445 : decode cL_law 445 = .ok (.ireturn, 1) := by decide +kernel
theorem dL_law_446 : decode cL_law 446 = .ok (.aload_n 1, 1) := by decide +kernel
theorem dL_law_447 : decode cL_law 447 = .ok (.aload_n 0, 1) := by decide +kernel
theorem dL_law_448 : decode cL_law 448 = .ok (.iload_n 3, 1) := by decide +kernel
theorem dL_law_449 : decode cL_law 449 = .ok (.iconst 1, 1) := by decide +kernel
theorem dL_law_450 : decode cL_law 450 = .ok (.iadd, 1) := by decide +kernel
theorem dL_law_451 : decode cL_law 451 = .ok (.iaload, 1) := by decide +kernel
theorem dL_law_452 : decode cL_law 452 = .ok (.invokevirtual 49, 3) := by decide +kernel
theorem dL_law_455 : decode cL_law 455 = .ok (.aload_n 2, 1) := by decide +kernel
theorem dL_law_456 : decode cL_law 456 = .ok (.aload_n 0, 1) := by decide +kernel
theorem dL_law_457 : decode cL_law 457 = .ok (.iload_n 3, 1) := by decide +kernel
theorem dL_law_458 : decode cL_law 458 = .ok (.iconst 1, 1) := by decide +kernel
theorem dL_law_459 : decode cL_law 459 = .ok (.iadd, 1) := by decide +kernel
theorem dL_law_460 : decode cL_law 460 = .ok (.iaload, 1) := by decide +kernel
theorem dL_law_461 : decode cL_law 461 = .ok (.invokevirtual 52, 3) := by decide +kernel
theorem dL_law_464 : decode cL_law 464 = .ok (.if_icmp .eq 1409, 3) := by decide +kernel
theorem dL_law_467 : decode cL_law 467 = .ok (.iconst 0, 1) := by decide +kernel
theorem dL_law_468 : decode cL_law 468 = .ok (.ireturn, 1) := by decide +kernel
theorem dL_law_469 : decode cL_law 469 = .ok (.aload_n 1, 1) := by decide +kernel
theorem dL_law_470 : decode cL_law 470 = .ok (.aload_n 0, 1) := by decide +kernel
theorem dL_law_471 : decode cL_law 471 = .ok (.iload_n 3, 1) := by decide +kernel
theorem dL_law_472 : decode cL_law 472 = .ok (.iconst 1, 1) := by decide +kernel
theorem dL_law_473 : decode cL_law 473 = .ok (.iadd, 1) := by decide +kernel
theorem dL_law_474 : decode cL_law 474 = .ok (.iaload, 1) := by decide +kernel
theorem dL_law_475 : decode cL_law 475 = .ok (.invokevirtual 53, 3) := by decide +kernel
theorem dL_law_478 : decode cL_law 478 = .ok (.aload_n 2, 1) := by decide +kernel
theorem dL_law_479 : decode cL_law 479 = .ok (.aload_n 0, 1) := by decide +kernel
theorem dL_law_480 : decode cL_law 480 = .ok (.iload_n 3, 1) := by decide +kernel
theorem dL_law_481 : decode cL_law 481 = .ok (.iconst 1, 1) := by decide +kernel
theorem dL_law_482 : decode cL_law 482 = .ok (.iadd, 1) := by decide +kernel
theorem dL_law_483 : decode cL_law 483 = .ok (.iaload, 1) := by decide +kernel
theorem dL_law_484 : decode cL_law 484 = .ok (.invokevirtual 56, 3) := by decide +kernel
theorem dL_law_487 : decode cL_law 487 = .ok (.if_icmp .eq 1386, 3) := by decide +kernel
theorem dL_law_490 : decode cL_law 490 = .ok (.iconst 0, 1) := by decide +kernel
theorem dL_law_491 : decode cL_law 491 = .ok (.ireturn, 1) := by decide +kernel
theorem dL_law_492 : decode cL_law 492 = .ok (.aload_n 1, 1) := by decide +kernel
theorem dL_law_493 : decode cL_law 493 = .ok (.aload_n 0, 1) := by decide +kernel
theorem dL_law_494 : decode cL_law 494 = .ok (.iload_n 3, 1) := by decide +kernel
theorem dL_law_495 : decode cL_law 495 = .ok (.iconst 1, 1) := by decide +kernel
theorem dL_law_496 : decode cL_law 496 = .ok (.iadd, 1) := by decide +kernel
theorem dL_law_497 : decode cL_law 497 = .ok (.iaload, 1) := by decide +kernel
theorem dL_law_498 : decode cL_law 498 = .ok (.invokevirtual 57, 3) := by decide +kernel
theorem dL_law_501 : decode cL_law 501 = .ok (.aload_n 2, 1) := by decide +kernel
theorem dL_law_502 : decode cL_law 502 = .ok (.aload_n 0, 1) := by decide +kernel
theorem dL_law_503 : decode cL_law 503 = .ok (.iload_n 3, 1) := by decide +kernel
theorem dL_law_504 : decode cL_law 504 = .ok (.iconst 1, 1) := by decide +kernel
theorem dL_law_505 : decode cL_law 505 = .ok (.iadd, 1) := by decide +kernel
theorem dL_law_506 : decode cL_law 506 = .ok (.iaload, 1) := by decide +kernel
theorem dL_law_507 : decode cL_law 507 = .ok (.invokevirtual 61, 3) := by decide +kernel
theorem dL_law_510 : decode cL_law 510 = .ok (.if_icmp .eq 1363, 3) := by decide +kernel
theorem dL_law_513 : decode cL_law 513 = .ok (.iconst 0, 1) := by decide +kernel
theorem dL_law_514 : decode cL_law 514 = .ok (.ireturn, 1) := by decide +kernel
theorem dL_law_515 : decode cL_law 515 = .ok (.aload_n 1, 1) := by decide +kernel
theorem dL_law_516 : decode cL_law 516 = .ok (.aload_n 0, 1) := by decide +kernel
theorem dL_law_517 : decode cL_law 517 = .ok (.iload_n 3, 1) := by decide +kernel
theorem dL_law_518 : decode cL_law 518 = .ok (.iconst 1, 1) := by decide +kernel
theorem dL_law_519 : decode cL_law 519 = .ok (.iadd, 1) := by decide +kernel
theorem dL_law_520 : decode cL_law 520 = .ok (.iaload, 1) := by decide +kernel
theorem dL_law_521 : decode cL_law 521 = .ok (.aload_n 0, 1) := by decide +kernel
theorem dL_law_522 : decode cL_law 522 = .ok (.iload_n 3, 1) := by decide +kernel
theorem dL_law_523 : decode cL_law 523 = .ok (.iconst 2, 1) := by decide +kernel
theorem dL_law_524 : decode cL_law 524 = .ok (.iadd, 1) := by decide +kernel
theorem dL_law_525 : decode cL_law 525 = .ok (.iaload, 1) := by decide +kernel
theorem dL_law_526 : decode cL_law 526 = .ok (.ifCond .eq 7, 3) := by decide +kernel
theorem dL_law_529 : decode cL_law 529 = .ok (.iconst 1, 1) := by decide +kernel
theorem dL_law_530 : decode cL_law 530 = .ok (.goto 4, 3) := by decide +kernel
theorem dL_law_533 : decode cL_law 533 = .ok (.iconst 0, 1) := by decide +kernel
theorem dL_law_534 : decode cL_law 534 = .ok (.aload_n 0, 1) := by decide +kernel
theorem dL_law_535 : decode cL_law 535 = .ok (.iload_n 3, 1) := by decide +kernel
theorem dL_law_536 : decode cL_law 536 = .ok (.iconst 3, 1) := by decide +kernel
theorem dL_law_537 : decode cL_law 537 = .ok (.iadd, 1) := by decide +kernel
theorem dL_law_538 : decode cL_law 538 = .ok (.iaload, 1) := by decide +kernel
theorem dL_law_539 : decode cL_law 539 = .ok (.invokevirtual 62, 3) := by decide +kernel
theorem dL_law_542 : decode cL_law 542 = .ok (.aload_n 2, 1) := by decide +kernel
theorem dL_law_543 : decode cL_law 543 = .ok (.aload_n 0, 1) := by decide +kernel
theorem dL_law_544 : decode cL_law 544 = .ok (.iload_n 3, 1) := by decide +kernel
theorem dL_law_545 : decode cL_law 545 = .ok (.iconst 1, 1) := by decide +kernel
theorem dL_law_546 : decode cL_law 546 = .ok (.iadd, 1) := by decide +kernel
theorem dL_law_547 : decode cL_law 547 = .ok (.iaload, 1) := by decide +kernel
theorem dL_law_548 : decode cL_law 548 = .ok (.aload_n 0, 1) := by decide +kernel
theorem dL_law_549 : decode cL_law 549 = .ok (.iload_n 3, 1) := by decide +kernel
theorem dL_law_550 : decode cL_law 550 = .ok (.iconst 2, 1) := by decide +kernel
theorem dL_law_551 : decode cL_law 551 = .ok (.iadd, 1) := by decide +kernel
theorem dL_law_552 : decode cL_law 552 = .ok (.iaload, 1) := by decide +kernel
theorem dL_law_553 : decode cL_law 553 = .ok (.ifCond .eq 7, 3) := by decide +kernel
theorem dL_law_556 : decode cL_law 556 = .ok (.iconst 1, 1) := by decide +kernel
theorem dL_law_557 : decode cL_law 557 = .ok (.goto 4, 3) := by decide +kernel
theorem dL_law_560 : decode cL_law 560 = .ok (.iconst 0, 1) := by decide +kernel
theorem dL_law_561 : decode cL_law 561 = .ok (.aload_n 0, 1) := by decide +kernel
theorem dL_law_562 : decode cL_law 562 = .ok (.iload_n 3, 1) := by decide +kernel
theorem dL_law_563 : decode cL_law 563 = .ok (.iconst 3, 1) := by decide +kernel
theorem dL_law_564 : decode cL_law 564 = .ok (.iadd, 1) := by decide +kernel
theorem dL_law_565 : decode cL_law 565 = .ok (.iaload, 1) := by decide +kernel
theorem dL_law_566 : decode cL_law 566 = .ok (.invokevirtual 66, 3) := by decide +kernel
theorem dL_law_569 : decode cL_law 569 = .ok (.if_icmp .eq 1304, 3) := by decide +kernel
theorem dL_law_572 : decode cL_law 572 = .ok (.iconst 0, 1) := by decide +kernel
theorem dL_law_573 : decode cL_law 573 = .ok (.ireturn, 1) := by decide +kernel
theorem dL_law_574 : decode cL_law 574 = .ok (.aload_n 1, 1) := by decide +kernel
theorem dL_law_575 : decode cL_law 575 = .ok (.aload_n 0, 1) := by decide +kernel
theorem dL_law_576 : decode cL_law 576 = .ok (.iload_n 3, 1) := by decide +kernel
theorem dL_law_577 : decode cL_law 577 = .ok (.iconst 1, 1) := by decide +kernel
theorem dL_law_578 : decode cL_law 578 = .ok (.iadd, 1) := by decide +kernel
theorem dL_law_579 : decode cL_law 579 = .ok (.iaload, 1) := by decide +kernel
theorem dL_law_580 : decode cL_law 580 = .ok (.aload_n 0, 1) := by decide +kernel
theorem dL_law_581 : decode cL_law 581 = .ok (.iload_n 3, 1) := by decide +kernel
theorem dL_law_582 : decode cL_law 582 = .ok (.iconst 2, 1) := by decide +kernel
theorem dL_law_583 : decode cL_law 583 = .ok (.iadd, 1) := by decide +kernel
theorem dL_law_584 : decode cL_law 584 = .ok (.iaload, 1) := by decide +kernel
theorem dL_law_585 : decode cL_law 585 = .ok (.ifCond .eq 7, 3) := by decide +kernel
theorem dL_law_588 : decode cL_law 588 = .ok (.iconst 1, 1) := by decide +kernel
theorem dL_law_589 : decode cL_law 589 = .ok (.goto 4, 3) := by decide +kernel
theorem dL_law_592 : decode cL_law 592 = .ok (.iconst 0, 1) := by decide +kernel
theorem dL_law_593 : decode cL_law 593 = .ok (.aload_n 0, 1) := by decide +kernel
theorem dL_law_594 : decode cL_law 594 = .ok (.iload_n 3, 1) := by decide +kernel
theorem dL_law_595 : decode cL_law 595 = .ok (.iconst 3, 1) := by decide +kernel
theorem dL_law_596 : decode cL_law 596 = .ok (.iadd, 1) := by decide +kernel
theorem dL_law_597 : decode cL_law 597 = .ok (.iaload, 1) := by decide +kernel
theorem dL_law_598 : decode cL_law 598 = .ok (.aload_n 0, 1) := by decide +kernel
theorem dL_law_599 : decode cL_law 599 = .ok (.iload_n 3, 1) := by decide +kernel
theorem dL_law_600 : decode cL_law 600 = .ok (.iconst 4, 1) := by decide +kernel
theorem dL_law_601 : decode cL_law 601 = .ok (.iadd, 1) := by decide +kernel
theorem dL_law_602 : decode cL_law 602 = .ok (.iaload, 1) := by decide +kernel
theorem dL_law_603 : decode cL_law 603 = .ok (.invokevirtual 67, 3) := by decide +kernel
theorem dL_law_606 : decode cL_law 606 = .ok (.aload_n 2, 1) := by decide +kernel
theorem dL_law_607 : decode cL_law 607 = .ok (.aload_n 0, 1) := by decide +kernel
theorem dL_law_608 : decode cL_law 608 = .ok (.iload_n 3, 1) := by decide +kernel
theorem dL_law_609 : decode cL_law 609 = .ok (.iconst 1, 1) := by decide +kernel
theorem dL_law_610 : decode cL_law 610 = .ok (.iadd, 1) := by decide +kernel
theorem dL_law_611 : decode cL_law 611 = .ok (.iaload, 1) := by decide +kernel
theorem dL_law_612 : decode cL_law 612 = .ok (.aload_n 0, 1) := by decide +kernel
theorem dL_law_613 : decode cL_law 613 = .ok (.iload_n 3, 1) := by decide +kernel
theorem dL_law_614 : decode cL_law 614 = .ok (.iconst 2, 1) := by decide +kernel
theorem dL_law_615 : decode cL_law 615 = .ok (.iadd, 1) := by decide +kernel
theorem dL_law_616 : decode cL_law 616 = .ok (.iaload, 1) := by decide +kernel
theorem dL_law_617 : decode cL_law 617 = .ok (.ifCond .eq 7, 3) := by decide +kernel
theorem dL_law_620 : decode cL_law 620 = .ok (.iconst 1, 1) := by decide +kernel
theorem dL_law_621 : decode cL_law 621 = .ok (.goto 4, 3) := by decide +kernel
theorem dL_law_624 : decode cL_law 624 = .ok (.iconst 0, 1) := by decide +kernel
theorem dL_law_625 : decode cL_law 625 = .ok (.aload_n 0, 1) := by decide +kernel
theorem dL_law_626 : decode cL_law 626 = .ok (.iload_n 3, 1) := by decide +kernel
theorem dL_law_627 : decode cL_law 627 = .ok (.iconst 3, 1) := by decide +kernel
theorem dL_law_628 : decode cL_law 628 = .ok (.iadd, 1) := by decide +kernel
theorem dL_law_629 : decode cL_law 629 = .ok (.iaload, 1) := by decide +kernel
theorem dL_law_630 : decode cL_law 630 = .ok (.aload_n 0, 1) := by decide +kernel
theorem dL_law_631 : decode cL_law 631 = .ok (.iload_n 3, 1) := by decide +kernel
theorem dL_law_632 : decode cL_law 632 = .ok (.iconst 4, 1) := by decide +kernel
theorem dL_law_633 : decode cL_law 633 = .ok (.iadd, 1) := by decide +kernel
theorem dL_law_634 : decode cL_law 634 = .ok (.iaload, 1) := by decide +kernel
theorem dL_law_635 : decode cL_law 635 = .ok (.invokevirtual 71, 3) := by decide +kernel
theorem dL_law_638 : decode cL_law 638 = .ok (.if_icmp .eq 1235, 3) := by decide +kernel
theorem dL_law_641 : decode cL_law 641 = .ok (.iconst 0, 1) := by decide +kernel
theorem dL_law_642 : decode cL_law 642 = .ok (.ireturn, 1) := by decide +kernel
theorem dL_law_643 : decode cL_law 643 = .ok (.aload_n 1, 1) := by decide +kernel
theorem dL_law_644 : decode cL_law 644 = .ok (.aload_n 0, 1) := by decide +kernel
theorem dL_law_645 : decode cL_law 645 = .ok (.iload_n 3, 1) := by decide +kernel
theorem dL_law_646 : decode cL_law 646 = .ok (.iconst 1, 1) := by decide +kernel
theorem dL_law_647 : decode cL_law 647 = .ok (.iadd, 1) := by decide +kernel
theorem dL_law_648 : decode cL_law 648 = .ok (.iaload, 1) := by decide +kernel
theorem dL_law_649 : decode cL_law 649 = .ok (.invokevirtual 72, 3) := by decide +kernel
theorem dL_law_652 : decode cL_law 652 = .ok (.aload_n 2, 1) := by decide +kernel
theorem dL_law_653 : decode cL_law 653 = .ok (.aload_n 0, 1) := by decide +kernel
theorem dL_law_654 : decode cL_law 654 = .ok (.iload_n 3, 1) := by decide +kernel
theorem dL_law_655 : decode cL_law 655 = .ok (.iconst 1, 1) := by decide +kernel
theorem dL_law_656 : decode cL_law 656 = .ok (.iadd, 1) := by decide +kernel
theorem dL_law_657 : decode cL_law 657 = .ok (.iaload, 1) := by decide +kernel
theorem dL_law_658 : decode cL_law 658 = .ok (.invokevirtual 75, 3) := by decide +kernel
theorem dL_law_661 : decode cL_law 661 = .ok (.if_icmp .eq 1212, 3) := by decide +kernel
theorem dL_law_664 : decode cL_law 664 = .ok (.iconst 0, 1) := by decide +kernel
theorem dL_law_665 : decode cL_law 665 = .ok (.ireturn, 1) := by decide +kernel
theorem dL_law_666 : decode cL_law 666 = .ok (.aload_n 1, 1) := by decide +kernel
theorem dL_law_667 : decode cL_law 667 = .ok (.aload_n 0, 1) := by decide +kernel
theorem dL_law_668 : decode cL_law 668 = .ok (.iload_n 3, 1) := by decide +kernel
theorem dL_law_669 : decode cL_law 669 = .ok (.iconst 1, 1) := by decide +kernel
theorem dL_law_670 : decode cL_law 670 = .ok (.iadd, 1) := by decide +kernel
theorem dL_law_671 : decode cL_law 671 = .ok (.iaload, 1) := by decide +kernel
theorem dL_law_672 : decode cL_law 672 = .ok (.aload_n 0, 1) := by decide +kernel
theorem dL_law_673 : decode cL_law 673 = .ok (.iload_n 3, 1) := by decide +kernel
theorem dL_law_674 : decode cL_law 674 = .ok (.iconst 2, 1) := by decide +kernel
theorem dL_law_675 : decode cL_law 675 = .ok (.iadd, 1) := by decide +kernel
theorem dL_law_676 : decode cL_law 676 = .ok (.iaload, 1) := by decide +kernel
theorem dL_law_677 : decode cL_law 677 = .ok (.aload_n 0, 1) := by decide +kernel
theorem dL_law_678 : decode cL_law 678 = .ok (.iload_n 3, 1) := by decide +kernel
theorem dL_law_679 : decode cL_law 679 = .ok (.iconst 3, 1) := by decide +kernel
theorem dL_law_680 : decode cL_law 680 = .ok (.iadd, 1) := by decide +kernel
theorem dL_law_681 : decode cL_law 681 = .ok (.iaload, 1) := by decide +kernel
theorem dL_law_682 : decode cL_law 682 = .ok (.aload_n 0, 1) := by decide +kernel
theorem dL_law_683 : decode cL_law 683 = .ok (.iload_n 3, 1) := by decide +kernel
theorem dL_law_684 : decode cL_law 684 = .ok (.iconst 4, 1) := by decide +kernel
theorem dL_law_685 : decode cL_law 685 = .ok (.iadd, 1) := by decide +kernel
theorem dL_law_686 : decode cL_law 686 = .ok (.iaload, 1) := by decide +kernel
theorem dL_law_687 : decode cL_law 687 = .ok (.aload_n 0, 1) := by decide +kernel
theorem dL_law_688 : decode cL_law 688 = .ok (.iload_n 3, 1) := by decide +kernel
theorem dL_law_689 : decode cL_law 689 = .ok (.iconst 5, 1) := by decide +kernel
theorem dL_law_690 : decode cL_law 690 = .ok (.iadd, 1) := by decide +kernel
theorem dL_law_691 : decode cL_law 691 = .ok (.iaload, 1) := by decide +kernel
theorem dL_law_692 : decode cL_law 692 = .ok (.aload_n 0, 1) := by decide +kernel
theorem dL_law_693 : decode cL_law 693 = .ok (.iload_n 3, 1) := by decide +kernel
theorem dL_law_694 : decode cL_law 694 = .ok (.bipush 6, 2) := by decide +kernel
theorem dL_law_696 : decode cL_law 696 = .ok (.iadd, 1) := by decide +kernel
theorem dL_law_697 : decode cL_law 697 = .ok (.iaload, 1) := by decide +kernel
theorem dL_law_698 : decode cL_law 698 = .ok (.invokevirtual 76, 3) := by decide +kernel
theorem dL_law_701 : decode cL_law 701 = .ok (.aload_n 2, 1) := by decide +kernel
theorem dL_law_702 : decode cL_law 702 = .ok (.aload_n 0, 1) := by decide +kernel
theorem dL_law_703 : decode cL_law 703 = .ok (.iload_n 3, 1) := by decide +kernel
theorem dL_law_704 : decode cL_law 704 = .ok (.iconst 1, 1) := by decide +kernel
theorem dL_law_705 : decode cL_law 705 = .ok (.iadd, 1) := by decide +kernel
theorem dL_law_706 : decode cL_law 706 = .ok (.iaload, 1) := by decide +kernel
theorem dL_law_707 : decode cL_law 707 = .ok (.aload_n 0, 1) := by decide +kernel
theorem dL_law_708 : decode cL_law 708 = .ok (.iload_n 3, 1) := by decide +kernel
theorem dL_law_709 : decode cL_law 709 = .ok (.iconst 2, 1) := by decide +kernel
theorem dL_law_710 : decode cL_law 710 = .ok (.iadd, 1) := by decide +kernel
theorem dL_law_711 : decode cL_law 711 = .ok (.iaload, 1) := by decide +kernel
theorem dL_law_712 : decode cL_law 712 = .ok (.aload_n 0, 1) := by decide +kernel
theorem dL_law_713 : decode cL_law 713 = .ok (.iload_n 3, 1) := by decide +kernel
theorem dL_law_714 : decode cL_law 714 = .ok (.iconst 3, 1) := by decide +kernel
theorem dL_law_715 : decode cL_law 715 = .ok (.iadd, 1) := by decide +kernel
theorem dL_law_716 : decode cL_law 716 = .ok (.iaload, 1) := by decide +kernel
theorem dL_law_717 : decode cL_law 717 = .ok (.aload_n 0, 1) := by decide +kernel
theorem dL_law_718 : decode cL_law 718 = .ok (.iload_n 3, 1) := by decide +kernel
theorem dL_law_719 : decode cL_law 719 = .ok (.iconst 4, 1) := by decide +kernel
theorem dL_law_720 : decode cL_law 720 = .ok (.iadd, 1) := by decide +kernel
theorem dL_law_721 : decode cL_law 721 = .ok (.iaload, 1) := by decide +kernel
theorem dL_law_722 : decode cL_law 722 = .ok (.aload_n 0, 1) := by decide +kernel
theorem dL_law_723 : decode cL_law 723 = .ok (.iload_n 3, 1) := by decide +kernel
theorem dL_law_724 : decode cL_law 724 = .ok (.iconst 5, 1) := by decide +kernel
theorem dL_law_725 : decode cL_law 725 = .ok (.iadd, 1) := by decide +kernel
theorem dL_law_726 : decode cL_law 726 = .ok (.iaload, 1) := by decide +kernel
theorem dL_law_727 : decode cL_law 727 = .ok (.aload_n 0, 1) := by decide +kernel
theorem dL_law_728 : decode cL_law 728 = .ok (.iload_n 3, 1) := by decide +kernel
theorem dL_law_729 : decode cL_law 729 = .ok (.bipush 6, 2) := by decide +kernel
theorem dL_law_731 : decode cL_law 731 = .ok (.iadd, 1) := by decide +kernel
theorem dL_law_732 : decode cL_law 732 = .ok (.iaload, 1) := by decide +kernel
theorem dL_law_733 : decode cL_law 733 = .ok (.invokevirtual 80, 3) := by decide +kernel
theorem dL_law_736 : decode cL_law 736 = .ok (.if_icmp .eq 1137, 3) := by decide +kernel
theorem dL_law_739 : decode cL_law 739 = .ok (.iconst 0, 1) := by decide +kernel
theorem dL_law_740 : decode cL_law 740 = .ok (.ireturn, 1) := by decide +kernel
theorem dL_law_741 : decode cL_law 741 = .ok (.aload_n 1, 1) := by decide +kernel
theorem dL_law_742 : decode cL_law 742 = .ok (.aload_n 0, 1) := by decide +kernel
theorem dL_law_743 : decode cL_law 743 = .ok (.iload_n 3, 1) := by decide +kernel
theorem dL_law_744 : decode cL_law 744 = .ok (.iconst 1, 1) := by decide +kernel
theorem dL_law_745 : decode cL_law 745 = .ok (.iadd, 1) := by decide +kernel
theorem dL_law_746 : decode cL_law 746 = .ok (.iaload, 1) := by decide +kernel
theorem dL_law_747 : decode cL_law 747 = .ok (.invokevirtual 81, 3) := by decide +kernel
theorem dL_law_750 : decode cL_law 750 = .ok (.aload_n 2, 1) := by decide +kernel
theorem dL_law_751 : decode cL_law 751 = .ok (.aload_n 0, 1) := by decide +kernel
theorem dL_law_752 : decode cL_law 752 = .ok (.iload_n 3, 1) := by decide +kernel
theorem dL_law_753 : decode cL_law 753 = .ok (.iconst 1, 1) := by decide +kernel
theorem dL_law_754 : decode cL_law 754 = .ok (.iadd, 1) := by decide +kernel
theorem dL_law_755 : decode cL_law 755 = .ok (.iaload, 1) := by decide +kernel
theorem dL_law_756 : decode cL_law 756 = .ok (.invokevirtual 84, 3) := by decide +kernel
theorem dL_law_759 : decode cL_law 759 = .ok (.if_icmp .eq 1114, 3) := by decide +kernel
theorem dL_law_762 : decode cL_law 762 = .ok (.iconst 0, 1) := by decide +kernel
theorem dL_law_763 : decode cL_law 763 = .ok (.ireturn, 1) := by decide +kernel
theorem dL_law_764 : decode cL_law 764 = .ok (.aload_n 1, 1) := by decide +kernel
theorem dL_law_765 : decode cL_law 765 = .ok (.aload_n 0, 1) := by decide +kernel
theorem dL_law_766 : decode cL_law 766 = .ok (.iload_n 3, 1) := by decide +kernel
theorem dL_law_767 : decode cL_law 767 = .ok (.iconst 1, 1) := by decide +kernel
theorem dL_law_768 : decode cL_law 768 = .ok (.iadd, 1) := by decide +kernel
theorem dL_law_769 : decode cL_law 769 = .ok (.iaload, 1) := by decide +kernel
theorem dL_law_770 : decode cL_law 770 = .ok (.invokevirtual 85, 3) := by decide +kernel
theorem dL_law_773 : decode cL_law 773 = .ok (.aload_n 2, 1) := by decide +kernel
theorem dL_law_774 : decode cL_law 774 = .ok (.aload_n 0, 1) := by decide +kernel
theorem dL_law_775 : decode cL_law 775 = .ok (.iload_n 3, 1) := by decide +kernel
theorem dL_law_776 : decode cL_law 776 = .ok (.iconst 1, 1) := by decide +kernel
theorem dL_law_777 : decode cL_law 777 = .ok (.iadd, 1) := by decide +kernel
theorem dL_law_778 : decode cL_law 778 = .ok (.iaload, 1) := by decide +kernel
theorem dL_law_779 : decode cL_law 779 = .ok (.invokevirtual 88, 3) := by decide +kernel
theorem dL_law_782 : decode cL_law 782 = .ok (.if_icmp .eq 1091, 3) := by decide +kernel
theorem dL_law_785 : decode cL_law 785 = .ok (.iconst 0, 1) := by decide +kernel
theorem dL_law_786 : decode cL_law 786 = .ok (.ireturn, 1) := by decide +kernel
theorem dL_law_787 : decode cL_law 787 = .ok (.aload_n 1, 1) := by decide +kernel
theorem dL_law_788 : decode cL_law 788 = .ok (.aload_n 0, 1) := by decide +kernel
theorem dL_law_789 : decode cL_law 789 = .ok (.iload_n 3, 1) := by decide +kernel
theorem dL_law_790 : decode cL_law 790 = .ok (.iconst 1, 1) := by decide +kernel
theorem dL_law_791 : decode cL_law 791 = .ok (.iadd, 1) := by decide +kernel
theorem dL_law_792 : decode cL_law 792 = .ok (.iaload, 1) := by decide +kernel
theorem dL_law_793 : decode cL_law 793 = .ok (.aload_n 0, 1) := by decide +kernel
theorem dL_law_794 : decode cL_law 794 = .ok (.iload_n 3, 1) := by decide +kernel
theorem dL_law_795 : decode cL_law 795 = .ok (.iconst 2, 1) := by decide +kernel
theorem dL_law_796 : decode cL_law 796 = .ok (.iadd, 1) := by decide +kernel
theorem dL_law_797 : decode cL_law 797 = .ok (.iaload, 1) := by decide +kernel
theorem dL_law_798 : decode cL_law 798 = .ok (.ifCond .eq 7, 3) := by decide +kernel
theorem dL_law_801 : decode cL_law 801 = .ok (.iconst 1, 1) := by decide +kernel
theorem dL_law_802 : decode cL_law 802 = .ok (.goto 4, 3) := by decide +kernel
theorem dL_law_805 : decode cL_law 805 = .ok (.iconst 0, 1) := by decide +kernel
theorem dL_law_806 : decode cL_law 806 = .ok (.aload_n 0, 1) := by decide +kernel
theorem dL_law_807 : decode cL_law 807 = .ok (.iload_n 3, 1) := by decide +kernel
theorem dL_law_808 : decode cL_law 808 = .ok (.iconst 3, 1) := by decide +kernel
theorem dL_law_809 : decode cL_law 809 = .ok (.iadd, 1) := by decide +kernel
theorem dL_law_810 : decode cL_law 810 = .ok (.iaload, 1) := by decide +kernel
theorem dL_law_811 : decode cL_law 811 = .ok (.invokevirtual 89, 3) := by decide +kernel
theorem dL_law_814 : decode cL_law 814 = .ok (.aload_n 2, 1) := by decide +kernel
theorem dL_law_815 : decode cL_law 815 = .ok (.aload_n 0, 1) := by decide +kernel
theorem dL_law_816 : decode cL_law 816 = .ok (.iload_n 3, 1) := by decide +kernel
theorem dL_law_817 : decode cL_law 817 = .ok (.iconst 1, 1) := by decide +kernel
theorem dL_law_818 : decode cL_law 818 = .ok (.iadd, 1) := by decide +kernel
theorem dL_law_819 : decode cL_law 819 = .ok (.iaload, 1) := by decide +kernel
theorem dL_law_820 : decode cL_law 820 = .ok (.aload_n 0, 1) := by decide +kernel
theorem dL_law_821 : decode cL_law 821 = .ok (.iload_n 3, 1) := by decide +kernel
theorem dL_law_822 : decode cL_law 822 = .ok (.iconst 2, 1) := by decide +kernel
theorem dL_law_823 : decode cL_law 823 = .ok (.iadd, 1) := by decide +kernel
theorem dL_law_824 : decode cL_law 824 = .ok (.iaload, 1) := by decide +kernel
theorem dL_law_825 : decode cL_law 825 = .ok (.ifCond .eq 7, 3) := by decide +kernel
theorem dL_law_828 : decode cL_law 828 = .ok (.iconst 1, 1) := by decide +kernel
theorem dL_law_829 : decode cL_law 829 = .ok (.goto 4, 3) := by decide +kernel
theorem dL_law_832 : decode cL_law 832 = .ok (.iconst 0, 1) := by decide +kernel
theorem dL_law_833 : decode cL_law 833 = .ok (.aload_n 0, 1) := by decide +kernel
theorem dL_law_834 : decode cL_law 834 = .ok (.iload_n 3, 1) := by decide +kernel
theorem dL_law_835 : decode cL_law 835 = .ok (.iconst 3, 1) := by decide +kernel
theorem dL_law_836 : decode cL_law 836 = .ok (.iadd, 1) := by decide +kernel
theorem dL_law_837 : decode cL_law 837 = .ok (.iaload, 1) := by decide +kernel
theorem dL_law_838 : decode cL_law 838 = .ok (.invokevirtual 93, 3) := by decide +kernel
theorem dL_law_841 : decode cL_law 841 = .ok (.if_icmp .eq 1032, 3) := by decide +kernel
theorem dL_law_844 : decode cL_law 844 = .ok (.iconst 0, 1) := by decide +kernel
theorem dL_law_845 : decode cL_law 845 = .ok (.ireturn, 1) := by decide +kernel
theorem dL_law_846 : decode cL_law 846 = .ok (.aload_n 1, 1) := by decide +kernel
theorem dL_law_847 : decode cL_law 847 = .ok (.aload_n 0, 1) := by decide +kernel
theorem dL_law_848 : decode cL_law 848 = .ok (.iload_n 3, 1) := by decide +kernel
theorem dL_law_849 : decode cL_law 849 = .ok (.iconst 1, 1) := by decide +kernel
theorem dL_law_850 : decode cL_law 850 = .ok (.iadd, 1) := by decide +kernel
theorem dL_law_851 : decode cL_law 851 = .ok (.iaload, 1) := by decide +kernel
theorem dL_law_852 : decode cL_law 852 = .ok (.aload_n 0, 1) := by decide +kernel
theorem dL_law_853 : decode cL_law 853 = .ok (.iload_n 3, 1) := by decide +kernel
theorem dL_law_854 : decode cL_law 854 = .ok (.iconst 2, 1) := by decide +kernel
theorem dL_law_855 : decode cL_law 855 = .ok (.iadd, 1) := by decide +kernel
theorem dL_law_856 : decode cL_law 856 = .ok (.iaload, 1) := by decide +kernel
theorem dL_law_857 : decode cL_law 857 = .ok (.ifCond .eq 7, 3) := by decide +kernel
theorem dL_law_860 : decode cL_law 860 = .ok (.iconst 1, 1) := by decide +kernel
theorem dL_law_861 : decode cL_law 861 = .ok (.goto 4, 3) := by decide +kernel
theorem dL_law_864 : decode cL_law 864 = .ok (.iconst 0, 1) := by decide +kernel
theorem dL_law_865 : decode cL_law 865 = .ok (.aload_n 0, 1) := by decide +kernel
theorem dL_law_866 : decode cL_law 866 = .ok (.iload_n 3, 1) := by decide +kernel
theorem dL_law_867 : decode cL_law 867 = .ok (.iconst 3, 1) := by decide +kernel
theorem dL_law_868 : decode cL_law 868 = .ok (.iadd, 1) := by decide +kernel
theorem dL_law_869 : decode cL_law 869 = .ok (.iaload, 1) := by decide +kernel
theorem dL_law_870 : decode cL_law 870 = .ok (.aload_n 0, 1) := by decide +kernel
theorem dL_law_871 : decode cL_law 871 = .ok (.iload_n 3, 1) := by decide +kernel
theorem dL_law_872 : decode cL_law 872 = .ok (.iconst 4, 1) := by decide +kernel
theorem dL_law_873 : decode cL_law 873 = .ok (.iadd, 1) := by decide +kernel
theorem dL_law_874 : decode cL_law 874 = .ok (.iaload, 1) := by decide +kernel
theorem dL_law_875 : decode cL_law 875 = .ok (.invokevirtual 94, 3) := by decide +kernel
theorem dL_law_878 : decode cL_law 878 = .ok (.aload_n 2, 1) := by decide +kernel
theorem dL_law_879 : decode cL_law 879 = .ok (.aload_n 0, 1) := by decide +kernel
theorem dL_law_880 : decode cL_law 880 = .ok (.iload_n 3, 1) := by decide +kernel
theorem dL_law_881 : decode cL_law 881 = .ok (.iconst 1, 1) := by decide +kernel
theorem dL_law_882 : decode cL_law 882 = .ok (.iadd, 1) := by decide +kernel
theorem dL_law_883 : decode cL_law 883 = .ok (.iaload, 1) := by decide +kernel
theorem dL_law_884 : decode cL_law 884 = .ok (.aload_n 0, 1) := by decide +kernel
theorem dL_law_885 : decode cL_law 885 = .ok (.iload_n 3, 1) := by decide +kernel
theorem dL_law_886 : decode cL_law 886 = .ok (.iconst 2, 1) := by decide +kernel
theorem dL_law_887 : decode cL_law 887 = .ok (.iadd, 1) := by decide +kernel
theorem dL_law_888 : decode cL_law 888 = .ok (.iaload, 1) := by decide +kernel
theorem dL_law_889 : decode cL_law 889 = .ok (.ifCond .eq 7, 3) := by decide +kernel
theorem dL_law_892 : decode cL_law 892 = .ok (.iconst 1, 1) := by decide +kernel
theorem dL_law_893 : decode cL_law 893 = .ok (.goto 4, 3) := by decide +kernel
theorem dL_law_896 : decode cL_law 896 = .ok (.iconst 0, 1) := by decide +kernel
theorem dL_law_897 : decode cL_law 897 = .ok (.aload_n 0, 1) := by decide +kernel
theorem dL_law_898 : decode cL_law 898 = .ok (.iload_n 3, 1) := by decide +kernel
theorem dL_law_899 : decode cL_law 899 = .ok (.iconst 3, 1) := by decide +kernel
theorem dL_law_900 : decode cL_law 900 = .ok (.iadd, 1) := by decide +kernel
theorem dL_law_901 : decode cL_law 901 = .ok (.iaload, 1) := by decide +kernel
theorem dL_law_902 : decode cL_law 902 = .ok (.aload_n 0, 1) := by decide +kernel
theorem dL_law_903 : decode cL_law 903 = .ok (.iload_n 3, 1) := by decide +kernel
theorem dL_law_904 : decode cL_law 904 = .ok (.iconst 4, 1) := by decide +kernel
theorem dL_law_905 : decode cL_law 905 = .ok (.iadd, 1) := by decide +kernel
theorem dL_law_906 : decode cL_law 906 = .ok (.iaload, 1) := by decide +kernel
theorem dL_law_907 : decode cL_law 907 = .ok (.invokevirtual 98, 3) := by decide +kernel
theorem dL_law_910 : decode cL_law 910 = .ok (.if_icmp .eq 963, 3) := by decide +kernel
theorem dL_law_913 : decode cL_law 913 = .ok (.iconst 0, 1) := by decide +kernel
theorem dL_law_914 : decode cL_law 914 = .ok (.ireturn, 1) := by decide +kernel
theorem dL_law_915 : decode cL_law 915 = .ok (.aload_n 1, 1) := by decide +kernel
theorem dL_law_916 : decode cL_law 916 = .ok (.aload_n 0, 1) := by decide +kernel
theorem dL_law_917 : decode cL_law 917 = .ok (.iload_n 3, 1) := by decide +kernel
theorem dL_law_918 : decode cL_law 918 = .ok (.iconst 1, 1) := by decide +kernel
theorem dL_law_919 : decode cL_law 919 = .ok (.iadd, 1) := by decide +kernel
theorem dL_law_920 : decode cL_law 920 = .ok (.iaload, 1) := by decide +kernel
theorem dL_law_921 : decode cL_law 921 = .ok (.aload_n 0, 1) := by decide +kernel
theorem dL_law_922 : decode cL_law 922 = .ok (.iload_n 3, 1) := by decide +kernel
theorem dL_law_923 : decode cL_law 923 = .ok (.iconst 2, 1) := by decide +kernel
theorem dL_law_924 : decode cL_law 924 = .ok (.iadd, 1) := by decide +kernel
theorem dL_law_925 : decode cL_law 925 = .ok (.iaload, 1) := by decide +kernel
theorem dL_law_926 : decode cL_law 926 = .ok (.ifCond .eq 7, 3) := by decide +kernel
theorem dL_law_929 : decode cL_law 929 = .ok (.iconst 1, 1) := by decide +kernel
theorem dL_law_930 : decode cL_law 930 = .ok (.goto 4, 3) := by decide +kernel
theorem dL_law_933 : decode cL_law 933 = .ok (.iconst 0, 1) := by decide +kernel
theorem dL_law_934 : decode cL_law 934 = .ok (.aload_n 0, 1) := by decide +kernel
theorem dL_law_935 : decode cL_law 935 = .ok (.iload_n 3, 1) := by decide +kernel
theorem dL_law_936 : decode cL_law 936 = .ok (.iconst 3, 1) := by decide +kernel
theorem dL_law_937 : decode cL_law 937 = .ok (.iadd, 1) := by decide +kernel
theorem dL_law_938 : decode cL_law 938 = .ok (.iaload, 1) := by decide +kernel
theorem dL_law_939 : decode cL_law 939 = .ok (.aload_n 0, 1) := by decide +kernel
theorem dL_law_940 : decode cL_law 940 = .ok (.iload_n 3, 1) := by decide +kernel
theorem dL_law_941 : decode cL_law 941 = .ok (.iconst 4, 1) := by decide +kernel
theorem dL_law_942 : decode cL_law 942 = .ok (.iadd, 1) := by decide +kernel
theorem dL_law_943 : decode cL_law 943 = .ok (.iaload, 1) := by decide +kernel
theorem dL_law_944 : decode cL_law 944 = .ok (.invokevirtual 99, 3) := by decide +kernel
theorem dL_law_947 : decode cL_law 947 = .ok (.aload_n 2, 1) := by decide +kernel
theorem dL_law_948 : decode cL_law 948 = .ok (.aload_n 0, 1) := by decide +kernel
theorem dL_law_949 : decode cL_law 949 = .ok (.iload_n 3, 1) := by decide +kernel
theorem dL_law_950 : decode cL_law 950 = .ok (.iconst 1, 1) := by decide +kernel
theorem dL_law_951 : decode cL_law 951 = .ok (.iadd, 1) := by decide +kernel
theorem dL_law_952 : decode cL_law 952 = .ok (.iaload, 1) := by decide +kernel
theorem dL_law_953 : decode cL_law 953 = .ok (.aload_n 0, 1) := by decide +kernel
theorem dL_law_954 : decode cL_law 954 = .ok (.iload_n 3, 1) := by decide +kernel
theorem dL_law_955 : decode cL_law 955 = .ok (.iconst 2, 1) := by decide +kernel
theorem dL_law_956 : decode cL_law 956 = .ok (.iadd, 1) := by decide +kernel
theorem dL_law_957 : decode cL_law 957 = .ok (.iaload, 1) := by decide +kernel
theorem dL_law_958 : decode cL_law 958 = .ok (.ifCond .eq 7, 3) := by decide +kernel
theorem dL_law_961 : decode cL_law 961 = .ok (.iconst 1, 1) := by decide +kernel
theorem dL_law_962 : decode cL_law 962 = .ok (.goto 4, 3) := by decide +kernel
theorem dL_law_965 : decode cL_law 965 = .ok (.iconst 0, 1) := by decide +kernel
theorem dL_law_966 : decode cL_law 966 = .ok (.aload_n 0, 1) := by decide +kernel
theorem dL_law_967 : decode cL_law 967 = .ok (.iload_n 3, 1) := by decide +kernel
theorem dL_law_968 : decode cL_law 968 = .ok (.iconst 3, 1) := by decide +kernel
theorem dL_law_969 : decode cL_law 969 = .ok (.iadd, 1) := by decide +kernel
theorem dL_law_970 : decode cL_law 970 = .ok (.iaload, 1) := by decide +kernel
theorem dL_law_971 : decode cL_law 971 = .ok (.aload_n 0, 1) := by decide +kernel
theorem dL_law_972 : decode cL_law 972 = .ok (.iload_n 3, 1) := by decide +kernel
theorem dL_law_973 : decode cL_law 973 = .ok (.iconst 4, 1) := by decide +kernel
theorem dL_law_974 : decode cL_law 974 = .ok (.iadd, 1) := by decide +kernel
theorem dL_law_975 : decode cL_law 975 = .ok (.iaload, 1) := by decide +kernel
theorem dL_law_976 : decode cL_law 976 = .ok (.invokevirtual 102, 3) := by decide +kernel
theorem dL_law_979 : decode cL_law 979 = .ok (.if_icmp .eq 894, 3) := by decide +kernel
theorem dL_law_982 : decode cL_law 982 = .ok (.iconst 0, 1) := by decide +kernel
theorem dL_law_983 : decode cL_law 983 = .ok (.ireturn, 1) := by decide +kernel
theorem dL_law_984 : decode cL_law 984 = .ok (.aload_n 1, 1) := by decide +kernel
theorem dL_law_985 : decode cL_law 985 = .ok (.aload_n 0, 1) := by decide +kernel
theorem dL_law_986 : decode cL_law 986 = .ok (.iload_n 3, 1) := by decide +kernel
theorem dL_law_987 : decode cL_law 987 = .ok (.iconst 1, 1) := by decide +kernel
theorem dL_law_988 : decode cL_law 988 = .ok (.iadd, 1) := by decide +kernel
theorem dL_law_989 : decode cL_law 989 = .ok (.iaload, 1) := by decide +kernel
theorem dL_law_990 : decode cL_law 990 = .ok (.aload_n 0, 1) := by decide +kernel
theorem dL_law_991 : decode cL_law 991 = .ok (.iload_n 3, 1) := by decide +kernel
theorem dL_law_992 : decode cL_law 992 = .ok (.iconst 2, 1) := by decide +kernel
theorem dL_law_993 : decode cL_law 993 = .ok (.iadd, 1) := by decide +kernel
theorem dL_law_994 : decode cL_law 994 = .ok (.iaload, 1) := by decide +kernel
theorem dL_law_995 : decode cL_law 995 = .ok (.invokevirtual 103, 3) := by decide +kernel
theorem dL_law_998 : decode cL_law 998 = .ok (.aload_n 2, 1) := by decide +kernel
theorem dL_law_999 : decode cL_law 999 = .ok (.aload_n 0, 1) := by decide +kernel
theorem dL_law_1000 : decode cL_law 1000 = .ok (.iload_n 3, 1) := by decide +kernel
theorem dL_law_1001 : decode cL_law 1001 = .ok (.iconst 1, 1) := by decide +kernel
theorem dL_law_1002 : decode cL_law 1002 = .ok (.iadd, 1) := by decide +kernel
theorem dL_law_1003 : decode cL_law 1003 = .ok (.iaload, 1) := by decide +kernel
theorem dL_law_1004 : decode cL_law 1004 = .ok (.aload_n 0, 1) := by decide +kernel
theorem dL_law_1005 : decode cL_law 1005 = .ok (.iload_n 3, 1) := by decide +kernel
theorem dL_law_1006 : decode cL_law 1006 = .ok (.iconst 2, 1) := by decide +kernel
theorem dL_law_1007 : decode cL_law 1007 = .ok (.iadd, 1) := by decide +kernel
theorem dL_law_1008 : decode cL_law 1008 = .ok (.iaload, 1) := by decide +kernel
theorem dL_law_1009 : decode cL_law 1009 = .ok (.invokevirtual 106, 3) := by decide +kernel
theorem dL_law_1012 : decode cL_law 1012 = .ok (.if_icmp .eq 861, 3) := by decide +kernel
theorem dL_law_1015 : decode cL_law 1015 = .ok (.iconst 0, 1) := by decide +kernel
theorem dL_law_1016 : decode cL_law 1016 = .ok (.ireturn, 1) := by decide +kernel
theorem dL_law_1017 : decode cL_law 1017 = .ok (.aload_n 1, 1) := by decide +kernel
theorem dL_law_1018 : decode cL_law 1018 = .ok (.aload_n 0, 1) := by decide +kernel
theorem dL_law_1019 : decode cL_law 1019 = .ok (.iload_n 3, 1) := by decide +kernel
theorem dL_law_1020 : decode cL_law 1020 = .ok (.iconst 1, 1) := by decide +kernel
theorem dL_law_1021 : decode cL_law 1021 = .ok (.iadd, 1) := by decide +kernel
theorem dL_law_1022 : decode cL_law 1022 = .ok (.iaload, 1) := by decide +kernel
theorem dL_law_1023 : decode cL_law 1023 = .ok (.invokevirtual 107, 3) := by decide +kernel
theorem dL_law_1026 : decode cL_law 1026 = .ok (.aload_n 2, 1) := by decide +kernel
theorem dL_law_1027 : decode cL_law 1027 = .ok (.aload_n 0, 1) := by decide +kernel
theorem dL_law_1028 : decode cL_law 1028 = .ok (.iload_n 3, 1) := by decide +kernel
theorem dL_law_1029 : decode cL_law 1029 = .ok (.iconst 1, 1) := by decide +kernel
theorem dL_law_1030 : decode cL_law 1030 = .ok (.iadd, 1) := by decide +kernel
theorem dL_law_1031 : decode cL_law 1031 = .ok (.iaload, 1) := by decide +kernel
theorem dL_law_1032 : decode cL_law 1032 = .ok (.invokevirtual 110, 3) := by decide +kernel
theorem dL_law_1035 : decode cL_law 1035 = .ok (.if_icmp .eq 838, 3) := by decide +kernel
theorem dL_law_1038 : decode cL_law 1038 = .ok (.iconst 0, 1) := by decide +kernel
theorem dL_law_1039 : decode cL_law 1039 = .ok (.ireturn, 1) := by decide +kernel
theorem dL_law_1040 : decode cL_law 1040 = .ok (.aload_n 1, 1) := by decide +kernel
theorem dL_law_1041 : decode cL_law 1041 = .ok (.aload_n 0, 1) := by decide +kernel
theorem dL_law_1042 : decode cL_law 1042 = .ok (.iload_n 3, 1) := by decide +kernel
theorem dL_law_1043 : decode cL_law 1043 = .ok (.iconst 1, 1) := by decide +kernel
theorem dL_law_1044 : decode cL_law 1044 = .ok (.iadd, 1) := by decide +kernel
theorem dL_law_1045 : decode cL_law 1045 = .ok (.iaload, 1) := by decide +kernel
theorem dL_law_1046 : decode cL_law 1046 = .ok (.aload_n 0, 1) := by decide +kernel
theorem dL_law_1047 : decode cL_law 1047 = .ok (.iload_n 3, 1) := by decide +kernel
theorem dL_law_1048 : decode cL_law 1048 = .ok (.iconst 2, 1) := by decide +kernel
theorem dL_law_1049 : decode cL_law 1049 = .ok (.iadd, 1) := by decide +kernel
theorem dL_law_1050 : decode cL_law 1050 = .ok (.iaload, 1) := by decide +kernel
theorem dL_law_1051 : decode cL_law 1051 = .ok (.invokevirtual 111, 3) := by decide +kernel
theorem dL_law_1054 : decode cL_law 1054 = .ok (.aload_n 2, 1) := by decide +kernel
theorem dL_law_1055 : decode cL_law 1055 = .ok (.aload_n 0, 1) := by decide +kernel
theorem dL_law_1056 : decode cL_law 1056 = .ok (.iload_n 3, 1) := by decide +kernel
theorem dL_law_1057 : decode cL_law 1057 = .ok (.iconst 1, 1) := by decide +kernel
theorem dL_law_1058 : decode cL_law 1058 = .ok (.iadd, 1) := by decide +kernel
theorem dL_law_1059 : decode cL_law 1059 = .ok (.iaload, 1) := by decide +kernel
theorem dL_law_1060 : decode cL_law 1060 = .ok (.aload_n 0, 1) := by decide +kernel
theorem dL_law_1061 : decode cL_law 1061 = .ok (.iload_n 3, 1) := by decide +kernel
theorem dL_law_1062 : decode cL_law 1062 = .ok (.iconst 2, 1) := by decide +kernel
theorem dL_law_1063 : decode cL_law 1063 = .ok (.iadd, 1) := by decide +kernel
theorem dL_law_1064 : decode cL_law 1064 = .ok (.iaload, 1) := by decide +kernel
theorem dL_law_1065 : decode cL_law 1065 = .ok (.invokevirtual 114, 3) := by decide +kernel
theorem dL_law_1068 : decode cL_law 1068 = .ok (.if_icmp .eq 805, 3) := by decide +kernel
theorem dL_law_1071 : decode cL_law 1071 = .ok (.iconst 0, 1) := by decide +kernel
theorem dL_law_1072 : decode cL_law 1072 = .ok (.ireturn, 1) := by decide +kernel
theorem dL_law_1073 : decode cL_law 1073 = .ok (.aload_n 1, 1) := by decide +kernel
theorem dL_law_1074 : decode cL_law 1074 = .ok (.aload_n 0, 1) := by decide +kernel
theorem dL_law_1075 : decode cL_law 1075 = .ok (.iload_n 3, 1) := by decide +kernel
theorem dL_law_1076 : decode cL_law 1076 = .ok (.iconst 1, 1) := by decide +kernel
theorem dL_law_1077 : decode cL_law 1077 = .ok (.iadd, 1) := by decide +kernel
theorem dL_law_1078 : decode cL_law 1078 = .ok (.iaload, 1) := by decide +kernel
theorem dL_law_1079 : decode cL_law 1079 = .ok (.aload_n 0, 1) := by decide +kernel
theorem dL_law_1080 : decode cL_law 1080 = .ok (.iload_n 3, 1) := by decide +kernel
theorem dL_law_1081 : decode cL_law 1081 = .ok (.iconst 2, 1) := by decide +kernel
theorem dL_law_1082 : decode cL_law 1082 = .ok (.iadd, 1) := by decide +kernel
theorem dL_law_1083 : decode cL_law 1083 = .ok (.iaload, 1) := by decide +kernel
theorem dL_law_1084 : decode cL_law 1084 = .ok (.ifCond .eq 7, 3) := by decide +kernel
theorem dL_law_1087 : decode cL_law 1087 = .ok (.iconst 1, 1) := by decide +kernel
theorem dL_law_1088 : decode cL_law 1088 = .ok (.goto 4, 3) := by decide +kernel
theorem dL_law_1091 : decode cL_law 1091 = .ok (.iconst 0, 1) := by decide +kernel
theorem dL_law_1092 : decode cL_law 1092 = .ok (.aload_n 0, 1) := by decide +kernel
theorem dL_law_1093 : decode cL_law 1093 = .ok (.iload_n 3, 1) := by decide +kernel
theorem dL_law_1094 : decode cL_law 1094 = .ok (.iconst 3, 1) := by decide +kernel
theorem dL_law_1095 : decode cL_law 1095 = .ok (.iadd, 1) := by decide +kernel
theorem dL_law_1096 : decode cL_law 1096 = .ok (.iaload, 1) := by decide +kernel
theorem dL_law_1097 : decode cL_law 1097 = .ok (.invokevirtual 115, 3) := by decide +kernel
theorem dL_law_1100 : decode cL_law 1100 = .ok (.aload_n 2, 1) := by decide +kernel
theorem dL_law_1101 : decode cL_law 1101 = .ok (.aload_n 0, 1) := by decide +kernel
theorem dL_law_1102 : decode cL_law 1102 = .ok (.iload_n 3, 1) := by decide +kernel
theorem dL_law_1103 : decode cL_law 1103 = .ok (.iconst 1, 1) := by decide +kernel
theorem dL_law_1104 : decode cL_law 1104 = .ok (.iadd, 1) := by decide +kernel
theorem dL_law_1105 : decode cL_law 1105 = .ok (.iaload, 1) := by decide +kernel
theorem dL_law_1106 : decode cL_law 1106 = .ok (.aload_n 0, 1) := by decide +kernel
theorem dL_law_1107 : decode cL_law 1107 = .ok (.iload_n 3, 1) := by decide +kernel
theorem dL_law_1108 : decode cL_law 1108 = .ok (.iconst 2, 1) := by decide +kernel
theorem dL_law_1109 : decode cL_law 1109 = .ok (.iadd, 1) := by decide +kernel
theorem dL_law_1110 : decode cL_law 1110 = .ok (.iaload, 1) := by decide +kernel
theorem dL_law_1111 : decode cL_law 1111 = .ok (.ifCond .eq 7, 3) := by decide +kernel
theorem dL_law_1114 : decode cL_law 1114 = .ok (.iconst 1, 1) := by decide +kernel
theorem dL_law_1115 : decode cL_law 1115 = .ok (.goto 4, 3) := by decide +kernel
theorem dL_law_1118 : decode cL_law 1118 = .ok (.iconst 0, 1) := by decide +kernel
theorem dL_law_1119 : decode cL_law 1119 = .ok (.aload_n 0, 1) := by decide +kernel
theorem dL_law_1120 : decode cL_law 1120 = .ok (.iload_n 3, 1) := by decide +kernel
theorem dL_law_1121 : decode cL_law 1121 = .ok (.iconst 3, 1) := by decide +kernel
theorem dL_law_1122 : decode cL_law 1122 = .ok (.iadd, 1) := by decide +kernel
theorem dL_law_1123 : decode cL_law 1123 = .ok (.iaload, 1) := by decide +kernel
theorem dL_law_1124 : decode cL_law 1124 = .ok (.invokevirtual 118, 3) := by decide +kernel
theorem dL_law_1127 : decode cL_law 1127 = .ok (.if_icmp .eq 746, 3) := by decide +kernel
theorem dL_law_1130 : decode cL_law 1130 = .ok (.iconst 0, 1) := by decide +kernel
theorem dL_law_1131 : decode cL_law 1131 = .ok (.ireturn, 1) := by decide +kernel
theorem dL_law_1132 : decode cL_law 1132 = .ok (.aload_n 1, 1) := by decide +kernel
theorem dL_law_1133 : decode cL_law 1133 = .ok (.aload_n 0, 1) := by decide +kernel
theorem dL_law_1134 : decode cL_law 1134 = .ok (.iload_n 3, 1) := by decide +kernel
theorem dL_law_1135 : decode cL_law 1135 = .ok (.iconst 1, 1) := by decide +kernel
theorem dL_law_1136 : decode cL_law 1136 = .ok (.iadd, 1) := by decide +kernel
theorem dL_law_1137 : decode cL_law 1137 = .ok (.iaload, 1) := by decide +kernel
theorem dL_law_1138 : decode cL_law 1138 = .ok (.aload_n 0, 1) := by decide +kernel
theorem dL_law_1139 : decode cL_law 1139 = .ok (.iload_n 3, 1) := by decide +kernel
theorem dL_law_1140 : decode cL_law 1140 = .ok (.iconst 2, 1) := by decide +kernel
theorem dL_law_1141 : decode cL_law 1141 = .ok (.iadd, 1) := by decide +kernel
theorem dL_law_1142 : decode cL_law 1142 = .ok (.iaload, 1) := by decide +kernel
theorem dL_law_1143 : decode cL_law 1143 = .ok (.ifCond .eq 7, 3) := by decide +kernel
theorem dL_law_1146 : decode cL_law 1146 = .ok (.iconst 1, 1) := by decide +kernel
theorem dL_law_1147 : decode cL_law 1147 = .ok (.goto 4, 3) := by decide +kernel
theorem dL_law_1150 : decode cL_law 1150 = .ok (.iconst 0, 1) := by decide +kernel
theorem dL_law_1151 : decode cL_law 1151 = .ok (.aload_n 0, 1) := by decide +kernel
theorem dL_law_1152 : decode cL_law 1152 = .ok (.iload_n 3, 1) := by decide +kernel
theorem dL_law_1153 : decode cL_law 1153 = .ok (.iconst 3, 1) := by decide +kernel
theorem dL_law_1154 : decode cL_law 1154 = .ok (.iadd, 1) := by decide +kernel
theorem dL_law_1155 : decode cL_law 1155 = .ok (.iaload, 1) := by decide +kernel
theorem dL_law_1156 : decode cL_law 1156 = .ok (.aload_n 0, 1) := by decide +kernel
theorem dL_law_1157 : decode cL_law 1157 = .ok (.iload_n 3, 1) := by decide +kernel
theorem dL_law_1158 : decode cL_law 1158 = .ok (.iconst 4, 1) := by decide +kernel
theorem dL_law_1159 : decode cL_law 1159 = .ok (.iadd, 1) := by decide +kernel
theorem dL_law_1160 : decode cL_law 1160 = .ok (.iaload, 1) := by decide +kernel
theorem dL_law_1161 : decode cL_law 1161 = .ok (.invokevirtual 119, 3) := by decide +kernel
theorem dL_law_1164 : decode cL_law 1164 = .ok (.aload_n 2, 1) := by decide +kernel
theorem dL_law_1165 : decode cL_law 1165 = .ok (.aload_n 0, 1) := by decide +kernel
theorem dL_law_1166 : decode cL_law 1166 = .ok (.iload_n 3, 1) := by decide +kernel
theorem dL_law_1167 : decode cL_law 1167 = .ok (.iconst 1, 1) := by decide +kernel
theorem dL_law_1168 : decode cL_law 1168 = .ok (.iadd, 1) := by decide +kernel
theorem dL_law_1169 : decode cL_law 1169 = .ok (.iaload, 1) := by decide +kernel
theorem dL_law_1170 : decode cL_law 1170 = .ok (.aload_n 0, 1) := by decide +kernel
theorem dL_law_1171 : decode cL_law 1171 = .ok (.iload_n 3, 1) := by decide +kernel
theorem dL_law_1172 : decode cL_law 1172 = .ok (.iconst 2, 1) := by decide +kernel
theorem dL_law_1173 : decode cL_law 1173 = .ok (.iadd, 1) := by decide +kernel
theorem dL_law_1174 : decode cL_law 1174 = .ok (.iaload, 1) := by decide +kernel
theorem dL_law_1175 : decode cL_law 1175 = .ok (.ifCond .eq 7, 3) := by decide +kernel
theorem dL_law_1178 : decode cL_law 1178 = .ok (.iconst 1, 1) := by decide +kernel
theorem dL_law_1179 : decode cL_law 1179 = .ok (.goto 4, 3) := by decide +kernel
theorem dL_law_1182 : decode cL_law 1182 = .ok (.iconst 0, 1) := by decide +kernel
theorem dL_law_1183 : decode cL_law 1183 = .ok (.aload_n 0, 1) := by decide +kernel
theorem dL_law_1184 : decode cL_law 1184 = .ok (.iload_n 3, 1) := by decide +kernel
theorem dL_law_1185 : decode cL_law 1185 = .ok (.iconst 3, 1) := by decide +kernel
theorem dL_law_1186 : decode cL_law 1186 = .ok (.iadd, 1) := by decide +kernel
theorem dL_law_1187 : decode cL_law 1187 = .ok (.iaload, 1) := by decide +kernel
theorem dL_law_1188 : decode cL_law 1188 = .ok (.aload_n 0, 1) := by decide +kernel
theorem dL_law_1189 : decode cL_law 1189 = .ok (.iload_n 3, 1) := by decide +kernel
theorem dL_law_1190 : decode cL_law 1190 = .ok (.iconst 4, 1) := by decide +kernel
theorem dL_law_1191 : decode cL_law 1191 = .ok (.iadd, 1) := by decide +kernel
theorem dL_law_1192 : decode cL_law 1192 = .ok (.iaload, 1) := by decide +kernel
theorem dL_law_1193 : decode cL_law 1193 = .ok (.invokevirtual 122, 3) := by decide +kernel
theorem dL_law_1196 : decode cL_law 1196 = .ok (.if_icmp .eq 677, 3) := by decide +kernel
theorem dL_law_1199 : decode cL_law 1199 = .ok (.iconst 0, 1) := by decide +kernel
theorem dL_law_1200 : decode cL_law 1200 = .ok (.ireturn, 1) := by decide +kernel
theorem dL_law_1201 : decode cL_law 1201 = .ok (.aload_n 1, 1) := by decide +kernel
theorem dL_law_1202 : decode cL_law 1202 = .ok (.aload_n 0, 1) := by decide +kernel
theorem dL_law_1203 : decode cL_law 1203 = .ok (.iload_n 3, 1) := by decide +kernel
theorem dL_law_1204 : decode cL_law 1204 = .ok (.iconst 1, 1) := by decide +kernel
theorem dL_law_1205 : decode cL_law 1205 = .ok (.iadd, 1) := by decide +kernel
theorem dL_law_1206 : decode cL_law 1206 = .ok (.iaload, 1) := by decide +kernel
theorem dL_law_1207 : decode cL_law 1207 = .ok (.aload_n 0, 1) := by decide +kernel
theorem dL_law_1208 : decode cL_law 1208 = .ok (.iload_n 3, 1) := by decide +kernel
theorem dL_law_1209 : decode cL_law 1209 = .ok (.iconst 2, 1) := by decide +kernel
theorem dL_law_1210 : decode cL_law 1210 = .ok (.iadd, 1) := by decide +kernel
theorem dL_law_1211 : decode cL_law 1211 = .ok (.iaload, 1) := by decide +kernel
theorem dL_law_1212 : decode cL_law 1212 = .ok (.invokevirtual 123, 3) := by decide +kernel
theorem dL_law_1215 : decode cL_law 1215 = .ok (.aload_n 2, 1) := by decide +kernel
theorem dL_law_1216 : decode cL_law 1216 = .ok (.aload_n 0, 1) := by decide +kernel
theorem dL_law_1217 : decode cL_law 1217 = .ok (.iload_n 3, 1) := by decide +kernel
theorem dL_law_1218 : decode cL_law 1218 = .ok (.iconst 1, 1) := by decide +kernel
theorem dL_law_1219 : decode cL_law 1219 = .ok (.iadd, 1) := by decide +kernel
theorem dL_law_1220 : decode cL_law 1220 = .ok (.iaload, 1) := by decide +kernel
theorem dL_law_1221 : decode cL_law 1221 = .ok (.aload_n 0, 1) := by decide +kernel
theorem dL_law_1222 : decode cL_law 1222 = .ok (.iload_n 3, 1) := by decide +kernel
theorem dL_law_1223 : decode cL_law 1223 = .ok (.iconst 2, 1) := by decide +kernel
theorem dL_law_1224 : decode cL_law 1224 = .ok (.iadd, 1) := by decide +kernel
theorem dL_law_1225 : decode cL_law 1225 = .ok (.iaload, 1) := by decide +kernel
theorem dL_law_1226 : decode cL_law 1226 = .ok (.invokevirtual 126, 3) := by decide +kernel
theorem dL_law_1229 : decode cL_law 1229 = .ok (.if_icmp .eq 644, 3) := by decide +kernel
theorem dL_law_1232 : decode cL_law 1232 = .ok (.iconst 0, 1) := by decide +kernel
theorem dL_law_1233 : decode cL_law 1233 = .ok (.ireturn, 1) := by decide +kernel
theorem dL_law_1234 : decode cL_law 1234 = .ok (.aload_n 1, 1) := by decide +kernel
theorem dL_law_1235 : decode cL_law 1235 = .ok (.aload_n 0, 1) := by decide +kernel
theorem dL_law_1236 : decode cL_law 1236 = .ok (.iload_n 3, 1) := by decide +kernel
theorem dL_law_1237 : decode cL_law 1237 = .ok (.iconst 1, 1) := by decide +kernel
theorem dL_law_1238 : decode cL_law 1238 = .ok (.iadd, 1) := by decide +kernel
theorem dL_law_1239 : decode cL_law 1239 = .ok (.iaload, 1) := by decide +kernel
theorem dL_law_1240 : decode cL_law 1240 = .ok (.invokevirtual 127, 3) := by decide +kernel
theorem dL_law_1243 : decode cL_law 1243 = .ok (.aload_n 2, 1) := by decide +kernel
theorem dL_law_1244 : decode cL_law 1244 = .ok (.aload_n 0, 1) := by decide +kernel
theorem dL_law_1245 : decode cL_law 1245 = .ok (.iload_n 3, 1) := by decide +kernel
theorem dL_law_1246 : decode cL_law 1246 = .ok (.iconst 1, 1) := by decide +kernel
theorem dL_law_1247 : decode cL_law 1247 = .ok (.iadd, 1) := by decide +kernel
theorem dL_law_1248 : decode cL_law 1248 = .ok (.iaload, 1) := by decide +kernel
theorem dL_law_1249 : decode cL_law 1249 = .ok (.invokevirtual 131, 3) := by decide +kernel
theorem dL_law_1252 : decode cL_law 1252 = .ok (.lcmp, 1) := by decide +kernel
theorem dL_law_1253 : decode cL_law 1253 = .ok (.ifCond .eq 620, 3) := by decide +kernel
theorem dL_law_1256 : decode cL_law 1256 = .ok (.iconst 0, 1) := by decide +kernel
theorem dL_law_1257 : decode cL_law 1257 = .ok (.ireturn, 1) := by decide +kernel
theorem dL_law_1258 : decode cL_law 1258 = .ok (.aload_n 1, 1) := by decide +kernel
theorem dL_law_1259 : decode cL_law 1259 = .ok (.aload_n 0, 1) := by decide +kernel
theorem dL_law_1260 : decode cL_law 1260 = .ok (.iload_n 3, 1) := by decide +kernel
theorem dL_law_1261 : decode cL_law 1261 = .ok (.iconst 1, 1) := by decide +kernel
theorem dL_law_1262 : decode cL_law 1262 = .ok (.iadd, 1) := by decide +kernel
theorem dL_law_1263 : decode cL_law 1263 = .ok (.iaload, 1) := by decide +kernel
theorem dL_law_1264 : decode cL_law 1264 = .ok (.aload_n 0, 1) := by decide +kernel
theorem dL_law_1265 : decode cL_law 1265 = .ok (.iload_n 3, 1) := by decide +kernel
theorem dL_law_1266 : decode cL_law 1266 = .ok (.iconst 2, 1) := by decide +kernel
theorem dL_law_1267 : decode cL_law 1267 = .ok (.iadd, 1) := by decide +kernel
theorem dL_law_1268 : decode cL_law 1268 = .ok (.iaload, 1) := by decide +kernel
theorem dL_law_1269 : decode cL_law 1269 = .ok (.invokevirtual 132, 3) := by decide +kernel
theorem dL_law_1272 : decode cL_law 1272 = .ok (.aload_n 2, 1) := by decide +kernel
theorem dL_law_1273 : decode cL_law 1273 = .ok (.aload_n 0, 1) := by decide +kernel
theorem dL_law_1274 : decode cL_law 1274 = .ok (.iload_n 3, 1) := by decide +kernel
theorem dL_law_1275 : decode cL_law 1275 = .ok (.iconst 1, 1) := by decide +kernel
theorem dL_law_1276 : decode cL_law 1276 = .ok (.iadd, 1) := by decide +kernel
theorem dL_law_1277 : decode cL_law 1277 = .ok (.iaload, 1) := by decide +kernel
theorem dL_law_1278 : decode cL_law 1278 = .ok (.aload_n 0, 1) := by decide +kernel
theorem dL_law_1279 : decode cL_law 1279 = .ok (.iload_n 3, 1) := by decide +kernel
theorem dL_law_1280 : decode cL_law 1280 = .ok (.iconst 2, 1) := by decide +kernel
theorem dL_law_1281 : decode cL_law 1281 = .ok (.iadd, 1) := by decide +kernel
theorem dL_law_1282 : decode cL_law 1282 = .ok (.iaload, 1) := by decide +kernel
theorem dL_law_1283 : decode cL_law 1283 = .ok (.invokevirtual 135, 3) := by decide +kernel
theorem dL_law_1286 : decode cL_law 1286 = .ok (.if_icmp .eq 587, 3) := by decide +kernel
theorem dL_law_1289 : decode cL_law 1289 = .ok (.iconst 0, 1) := by decide +kernel
theorem dL_law_1290 : decode cL_law 1290 = .ok (.ireturn, 1) := by decide +kernel
theorem dL_law_1291 : decode cL_law 1291 = .ok (.aload_n 1, 1) := by decide +kernel
theorem dL_law_1292 : decode cL_law 1292 = .ok (.aload_n 0, 1) := by decide +kernel
theorem dL_law_1293 : decode cL_law 1293 = .ok (.iload_n 3, 1) := by decide +kernel
theorem dL_law_1294 : decode cL_law 1294 = .ok (.iconst 1, 1) := by decide +kernel
theorem dL_law_1295 : decode cL_law 1295 = .ok (.iadd, 1) := by decide +kernel
theorem dL_law_1296 : decode cL_law 1296 = .ok (.iaload, 1) := by decide +kernel
theorem dL_law_1297 : decode cL_law 1297 = .ok (.aload_n 0, 1) := by decide +kernel
theorem dL_law_1298 : decode cL_law 1298 = .ok (.iload_n 3, 1) := by decide +kernel
theorem dL_law_1299 : decode cL_law 1299 = .ok (.iconst 2, 1) := by decide +kernel
theorem dL_law_1300 : decode cL_law 1300 = .ok (.iadd, 1) := by decide +kernel
theorem dL_law_1301 : decode cL_law 1301 = .ok (.iaload, 1) := by decide +kernel
theorem dL_law_1302 : decode cL_law 1302 = .ok (.aload_n 0, 1) := by decide +kernel
theorem dL_law_1303 : decode cL_law 1303 = .ok (.iload_n 3, 1) := by decide +kernel
theorem dL_law_1304 : decode cL_law 1304 = .ok (.iconst 3, 1) := by decide +kernel
theorem dL_law_1305 : decode cL_law 1305 = .ok (.iadd, 1) := by decide +kernel
theorem dL_law_1306 : decode cL_law 1306 = .ok (.iaload, 1) := by decide +kernel
theorem dL_law_1307 : decode cL_law 1307 = .ok (.ifCond .eq 7, 3) := by decide +kernel
theorem dL_law_1310 : decode cL_law 1310 = .ok (.iconst 1, 1) := by decide +kernel
theorem dL_law_1311 : decode cL_law 1311 = .ok (.goto 4, 3) := by decide +kernel
theorem dL_law_1314 : decode cL_law 1314 = .ok (.iconst 0, 1) := by decide +kernel
theorem dL_law_1315 : decode cL_law 1315 = .ok (.aload_n 0, 1) := by decide +kernel
theorem dL_law_1316 : decode cL_law 1316 = .ok (.iload_n 3, 1) := by decide +kernel
theorem dL_law_1317 : decode cL_law 1317 = .ok (.iconst 4, 1) := by decide +kernel
theorem dL_law_1318 : decode cL_law 1318 = .ok (.iadd, 1) := by decide +kernel
theorem dL_law_1319 : decode cL_law 1319 = .ok (.iaload, 1) := by decide +kernel
theorem dL_law_1320 : decode cL_law 1320 = .ok (.invokevirtual 136, 3) := by decide +kernel
theorem dL_law_1323 : decode cL_law 1323 = .ok (.aload_n 2, 1) := by decide +kernel
theorem dL_law_1324 : decode cL_law 1324 = .ok (.aload_n 0, 1) := by decide +kernel
theorem dL_law_1325 : decode cL_law 1325 = .ok (.iload_n 3, 1) := by decide +kernel
theorem dL_law_1326 : decode cL_law 1326 = .ok (.iconst 1, 1) := by decide +kernel
theorem dL_law_1327 : decode cL_law 1327 = .ok (.iadd, 1) := by decide +kernel
theorem dL_law_1328 : decode cL_law 1328 = .ok (.iaload, 1) := by decide +kernel
theorem dL_law_1329 : decode cL_law 1329 = .ok (.aload_n 0, 1) := by decide +kernel
theorem dL_law_1330 : decode cL_law 1330 = .ok (.iload_n 3, 1) := by decide +kernel
theorem dL_law_1331 : decode cL_law 1331 = .ok (.iconst 2, 1) := by decide +kernel
theorem dL_law_1332 : decode cL_law 1332 = .ok (.iadd, 1) := by decide +kernel
theorem dL_law_1333 : decode cL_law 1333 = .ok (.iaload, 1) := by decide +kernel
theorem dL_law_1334 : decode cL_law 1334 = .ok (.aload_n 0, 1) := by decide +kernel
theorem dL_law_1335 : decode cL_law 1335 = .ok (.iload_n 3, 1) := by decide +kernel
theorem dL_law_1336 : decode cL_law 1336 = .ok (.iconst 3, 1) := by decide +kernel
theorem dL_law_1337 : decode cL_law 1337 = .ok (.iadd, 1) := by decide +kernel
theorem dL_law_1338 : decode cL_law 1338 = .ok (.iaload, 1) := by decide +kernel
theorem dL_law_1339 : decode cL_law 1339 = .ok (.ifCond .eq 7, 3) := by decide +kernel
theorem dL_law_1342 : decode cL_law 1342 = .ok (.iconst 1, 1) := by decide +kernel
theorem dL_law_1343 : decode cL_law 1343 = .ok (.goto 4, 3) := by decide +kernel
theorem dL_law_1346 : decode cL_law 1346 = .ok (.iconst 0, 1) := by decide +kernel
theorem dL_law_1347 : decode cL_law 1347 = .ok (.aload_n 0, 1) := by decide +kernel
theorem dL_law_1348 : decode cL_law 1348 = .ok (.iload_n 3, 1) := by decide +kernel
theorem dL_law_1349 : decode cL_law 1349 = .ok (.iconst 4, 1) := by decide +kernel
theorem dL_law_1350 : decode cL_law 1350 = .ok (.iadd, 1) := by decide +kernel
theorem dL_law_1351 : decode cL_law 1351 = .ok (.iaload, 1) := by decide +kernel
theorem dL_law_1352 : decode cL_law 1352 = .ok (.invokevirtual 140, 3) := by decide +kernel
theorem dL_law_1355 : decode cL_law 1355 = .ok (.if_icmp .eq 518, 3) := by decide +kernel
theorem dL_law_1358 : decode cL_law 1358 = .ok (.iconst 0, 1) := by decide +kernel
theorem dL_law_1359 : decode cL_law 1359 = .ok (.ireturn, 1) := by decide +kernel
theorem dL_law_1360 : decode cL_law 1360 = .ok (.aload_n 1, 1) := by decide +kernel
theorem dL_law_1361 : decode cL_law 1361 = .ok (.aload_n 0, 1) := by decide +kernel
theorem dL_law_1362 : decode cL_law 1362 = .ok (.iload_n 3, 1) := by decide +kernel
theorem dL_law_1363 : decode cL_law 1363 = .ok (.iconst 1, 1) := by decide +kernel
theorem dL_law_1364 : decode cL_law 1364 = .ok (.iadd, 1) := by decide +kernel
theorem dL_law_1365 : decode cL_law 1365 = .ok (.iaload, 1) := by decide +kernel
theorem dL_law_1366 : decode cL_law 1366 = .ok (.invokevirtual 141, 3) := by decide +kernel
theorem dL_law_1369 : decode cL_law 1369 = .ok (.aload_n 2, 1) := by decide +kernel
theorem dL_law_1370 : decode cL_law 1370 = .ok (.aload_n 0, 1) := by decide +kernel
theorem dL_law_1371 : decode cL_law 1371 = .ok (.iload_n 3, 1) := by decide +kernel
theorem dL_law_1372 : decode cL_law 1372 = .ok (.iconst 1, 1) := by decide +kernel
theorem dL_law_1373 : decode cL_law 1373 = .ok (.iadd, 1) := by decide +kernel
theorem dL_law_1374 : decode cL_law 1374 = .ok (.iaload, 1) := by decide +kernel
theorem dL_law_1375 : decode cL_law 1375 = .ok (.invokevirtual 144, 3) := by decide +kernel
theorem dL_law_1378 : decode cL_law 1378 = .ok (.lcmp, 1) := by decide +kernel
theorem dL_law_1379 : decode cL_law 1379 = .ok (.ifCond .eq 494, 3) := by decide +kernel
theorem dL_law_1382 : decode cL_law 1382 = .ok (.iconst 0, 1) := by decide +kernel
theorem dL_law_1383 : decode cL_law 1383 = .ok (.ireturn, 1) := by decide +kernel
theorem dL_law_1384 : decode cL_law 1384 = .ok (.aload_n 1, 1) := by decide +kernel
theorem dL_law_1385 : decode cL_law 1385 = .ok (.aload_n 0, 1) := by decide +kernel
theorem dL_law_1386 : decode cL_law 1386 = .ok (.iload_n 3, 1) := by decide +kernel
theorem dL_law_1387 : decode cL_law 1387 = .ok (.iconst 1, 1) := by decide +kernel
theorem dL_law_1388 : decode cL_law 1388 = .ok (.iadd, 1) := by decide +kernel
theorem dL_law_1389 : decode cL_law 1389 = .ok (.iaload, 1) := by decide +kernel
theorem dL_law_1390 : decode cL_law 1390 = .ok (.aload_n 0, 1) := by decide +kernel
theorem dL_law_1391 : decode cL_law 1391 = .ok (.iload_n 3, 1) := by decide +kernel
theorem dL_law_1392 : decode cL_law 1392 = .ok (.iconst 2, 1) := by decide +kernel
theorem dL_law_1393 : decode cL_law 1393 = .ok (.iadd, 1) := by decide +kernel
theorem dL_law_1394 : decode cL_law 1394 = .ok (.iaload, 1) := by decide +kernel
theorem dL_law_1395 : decode cL_law 1395 = .ok (.aload_n 0, 1) := by decide +kernel
theorem dL_law_1396 : decode cL_law 1396 = .ok (.iload_n 3, 1) := by decide +kernel
theorem dL_law_1397 : decode cL_law 1397 = .ok (.iconst 3, 1) := by decide +kernel
theorem dL_law_1398 : decode cL_law 1398 = .ok (.iadd, 1) := by decide +kernel
theorem dL_law_1399 : decode cL_law 1399 = .ok (.iaload, 1) := by decide +kernel
theorem dL_law_1400 : decode cL_law 1400 = .ok (.invokevirtual 145, 3) := by decide +kernel
theorem dL_law_1403 : decode cL_law 1403 = .ok (.aload_n 2, 1) := by decide +kernel
theorem dL_law_1404 : decode cL_law 1404 = .ok (.aload_n 0, 1) := by decide +kernel
theorem dL_law_1405 : decode cL_law 1405 = .ok (.iload_n 3, 1) := by decide +kernel
theorem dL_law_1406 : decode cL_law 1406 = .ok (.iconst 1, 1) := by decide +kernel
theorem dL_law_1407 : decode cL_law 1407 = .ok (.iadd, 1) := by decide +kernel
theorem dL_law_1408 : decode cL_law 1408 = .ok (.iaload, 1) := by decide +kernel
theorem dL_law_1409 : decode cL_law 1409 = .ok (.aload_n 0, 1) := by decide +kernel
theorem dL_law_1410 : decode cL_law 1410 = .ok (.iload_n 3, 1) := by decide +kernel
theorem dL_law_1411 : decode cL_law 1411 = .ok (.iconst 2, 1) := by decide +kernel
theorem dL_law_1412 : decode cL_law 1412 = .ok (.iadd, 1) := by decide +kernel
theorem dL_law_1413 : decode cL_law 1413 = .ok (.iaload, 1) := by decide +kernel
theorem dL_law_1414 : decode cL_law 1414 = .ok (.aload_n 0, 1) := by decide +kernel
theorem dL_law_1415 : decode cL_law 1415 = .ok (.iload_n 3, 1) := by decide +kernel
theorem dL_law_1416 : decode cL_law 1416 = .ok (.iconst 3, 1) := by decide +kernel
theorem dL_law_1417 : decode cL_law 1417 = .ok (.iadd, 1) := by decide +kernel
theorem dL_law_1418 : decode cL_law 1418 = .ok (.iaload, 1) := by decide +kernel
theorem dL_law_1419 : decode cL_law 1419 = .ok (.invokevirtual 149, 3) := by decide +kernel
theorem dL_law_1422 : decode cL_law 1422 = .ok (.if_icmp .eq 451, 3) := by decide +kernel
theorem dL_law_1425 : decode cL_law 1425 = .ok (.iconst 0, 1) := by decide +kernel
theorem dL_law_1426 : decode cL_law 1426 = .ok (.ireturn, 1) := by decide +kernel
theorem dL_law_1427 : decode cL_law 1427 = .ok (.aload_n 1, 1) := by decide +kernel
theorem dL_law_1428 : decode cL_law 1428 = .ok (.aload_n 0, 1) := by decide +kernel
theorem dL_law_1429 : decode cL_law 1429 = .ok (.iload_n 3, 1) := by decide +kernel
theorem dL_law_1430 : decode cL_law 1430 = .ok (.iconst 1, 1) := by decide +kernel
theorem dL_law_1431 : decode cL_law 1431 = .ok (.iadd, 1) := by decide +kernel
theorem dL_law_1432 : decode cL_law 1432 = .ok (.iaload, 1) := by decide +kernel
theorem dL_law_1433 : decode cL_law 1433 = .ok (.aload_n 0, 1) := by decide +kernel
theorem dL_law_1434 : decode cL_law 1434 = .ok (.iload_n 3, 1) := by decide +kernel
theorem dL_law_1435 : decode cL_law 1435 = .ok (.iconst 2, 1) := by decide +kernel
theorem dL_law_1436 : decode cL_law 1436 = .ok (.iadd, 1) := by decide +kernel
theorem dL_law_1437 : decode cL_law 1437 = .ok (.iaload, 1) := by decide +kernel
theorem dL_law_1438 : decode cL_law 1438 = .ok (.aload_n 0, 1) := by decide +kernel
theorem dL_law_1439 : decode cL_law 1439 = .ok (.iload_n 3, 1) := by decide +kernel
theorem dL_law_1440 : decode cL_law 1440 = .ok (.iconst 3, 1) := by decide +kernel
theorem dL_law_1441 : decode cL_law 1441 = .ok (.iadd, 1) := by decide +kernel
theorem dL_law_1442 : decode cL_law 1442 = .ok (.iaload, 1) := by decide +kernel
theorem dL_law_1443 : decode cL_law 1443 = .ok (.invokevirtual 150, 3) := by decide +kernel
theorem dL_law_1446 : decode cL_law 1446 = .ok (.aload_n 2, 1) := by decide +kernel
theorem dL_law_1447 : decode cL_law 1447 = .ok (.aload_n 0, 1) := by decide +kernel
theorem dL_law_1448 : decode cL_law 1448 = .ok (.iload_n 3, 1) := by decide +kernel
theorem dL_law_1449 : decode cL_law 1449 = .ok (.iconst 1, 1) := by decide +kernel
theorem dL_law_1450 : decode cL_law 1450 = .ok (.iadd, 1) := by decide +kernel
theorem dL_law_1451 : decode cL_law 1451 = .ok (.iaload, 1) := by decide +kernel
theorem dL_law_1452 : decode cL_law 1452 = .ok (.aload_n 0, 1) := by decide +kernel
theorem dL_law_1453 : decode cL_law 1453 = .ok (.iload_n 3, 1) := by decide +kernel
theorem dL_law_1454 : decode cL_law 1454 = .ok (.iconst 2, 1) := by decide +kernel
theorem dL_law_1455 : decode cL_law 1455 = .ok (.iadd, 1) := by decide +kernel
theorem dL_law_1456 : decode cL_law 1456 = .ok (.iaload, 1) := by decide +kernel
theorem dL_law_1457 : decode cL_law 1457 = .ok (.aload_n 0, 1) := by decide +kernel
theorem dL_law_1458 : decode cL_law 1458 = .ok (.iload_n 3, 1) := by decide +kernel
theorem dL_law_1459 : decode cL_law 1459 = .ok (.iconst 3, 1) := by decide +kernel
theorem dL_law_1460 : decode cL_law 1460 = .ok (.iadd, 1) := by decide +kernel
theorem dL_law_1461 : decode cL_law 1461 = .ok (.iaload, 1) := by decide +kernel
theorem dL_law_1462 : decode cL_law 1462 = .ok (.invokevirtual 153, 3) := by decide +kernel
theorem dL_law_1465 : decode cL_law 1465 = .ok (.if_icmp .eq 408, 3) := by decide +kernel
theorem dL_law_1468 : decode cL_law 1468 = .ok (.iconst 0, 1) := by decide +kernel
theorem dL_law_1469 : decode cL_law 1469 = .ok (.ireturn, 1) := by decide +kernel
theorem dL_law_1470 : decode cL_law 1470 = .ok (.aload_n 1, 1) := by decide +kernel
theorem dL_law_1471 : decode cL_law 1471 = .ok (.aload_n 0, 1) := by decide +kernel
theorem dL_law_1472 : decode cL_law 1472 = .ok (.iload_n 3, 1) := by decide +kernel
theorem dL_law_1473 : decode cL_law 1473 = .ok (.iconst 1, 1) := by decide +kernel
theorem dL_law_1474 : decode cL_law 1474 = .ok (.iadd, 1) := by decide +kernel
theorem dL_law_1475 : decode cL_law 1475 = .ok (.iaload, 1) := by decide +kernel
theorem dL_law_1476 : decode cL_law 1476 = .ok (.aload_n 0, 1) := by decide +kernel
theorem dL_law_1477 : decode cL_law 1477 = .ok (.iload_n 3, 1) := by decide +kernel
theorem dL_law_1478 : decode cL_law 1478 = .ok (.iconst 2, 1) := by decide +kernel
theorem dL_law_1479 : decode cL_law 1479 = .ok (.iadd, 1) := by decide +kernel
theorem dL_law_1480 : decode cL_law 1480 = .ok (.iaload, 1) := by decide +kernel
theorem dL_law_1481 : decode cL_law 1481 = .ok (.aload_n 0, 1) := by decide +kernel
theorem dL_law_1482 : decode cL_law 1482 = .ok (.iload_n 3, 1) := by decide +kernel
theorem dL_law_1483 : decode cL_law 1483 = .ok (.iconst 3, 1) := by decide +kernel
theorem dL_law_1484 : decode cL_law 1484 = .ok (.iadd, 1) := by decide +kernel
theorem dL_law_1485 : decode cL_law 1485 = .ok (.iaload, 1) := by decide +kernel
theorem dL_law_1486 : decode cL_law 1486 = .ok (.aload_n 0, 1) := by decide +kernel
theorem dL_law_1487 : decode cL_law 1487 = .ok (.iload_n 3, 1) := by decide +kernel
theorem dL_law_1488 : decode cL_law 1488 = .ok (.iconst 4, 1) := by decide +kernel
theorem dL_law_1489 : decode cL_law 1489 = .ok (.iadd, 1) := by decide +kernel
theorem dL_law_1490 : decode cL_law 1490 = .ok (.iaload, 1) := by decide +kernel
theorem dL_law_1491 : decode cL_law 1491 = .ok (.invokevirtual 154, 3) := by decide +kernel
theorem dL_law_1494 : decode cL_law 1494 = .ok (.aload_n 2, 1) := by decide +kernel
theorem dL_law_1495 : decode cL_law 1495 = .ok (.aload_n 0, 1) := by decide +kernel
theorem dL_law_1496 : decode cL_law 1496 = .ok (.iload_n 3, 1) := by decide +kernel
theorem dL_law_1497 : decode cL_law 1497 = .ok (.iconst 1, 1) := by decide +kernel
theorem dL_law_1498 : decode cL_law 1498 = .ok (.iadd, 1) := by decide +kernel
theorem dL_law_1499 : decode cL_law 1499 = .ok (.iaload, 1) := by decide +kernel
theorem dL_law_1500 : decode cL_law 1500 = .ok (.aload_n 0, 1) := by decide +kernel
theorem dL_law_1501 : decode cL_law 1501 = .ok (.iload_n 3, 1) := by decide +kernel
theorem dL_law_1502 : decode cL_law 1502 = .ok (.iconst 2, 1) := by decide +kernel
theorem dL_law_1503 : decode cL_law 1503 = .ok (.iadd, 1) := by decide +kernel
theorem dL_law_1504 : decode cL_law 1504 = .ok (.iaload, 1) := by decide +kernel
theorem dL_law_1505 : decode cL_law 1505 = .ok (.aload_n 0, 1) := by decide +kernel
theorem dL_law_1506 : decode cL_law 1506 = .ok (.iload_n 3, 1) := by decide +kernel
theorem dL_law_1507 : decode cL_law 1507 = .ok (.iconst 3, 1) := by decide +kernel
theorem dL_law_1508 : decode cL_law 1508 = .ok (.iadd, 1) := by decide +kernel
theorem dL_law_1509 : decode cL_law 1509 = .ok (.iaload, 1) := by decide +kernel
theorem dL_law_1510 : decode cL_law 1510 = .ok (.aload_n 0, 1) := by decide +kernel
theorem dL_law_1511 : decode cL_law 1511 = .ok (.iload_n 3, 1) := by decide +kernel
theorem dL_law_1512 : decode cL_law 1512 = .ok (.iconst 4, 1) := by decide +kernel
theorem dL_law_1513 : decode cL_law 1513 = .ok (.iadd, 1) := by decide +kernel
theorem dL_law_1514 : decode cL_law 1514 = .ok (.iaload, 1) := by decide +kernel
theorem dL_law_1515 : decode cL_law 1515 = .ok (.invokevirtual 158, 3) := by decide +kernel
theorem dL_law_1518 : decode cL_law 1518 = .ok (.if_icmp .eq 355, 3) := by decide +kernel
theorem dL_law_1521 : decode cL_law 1521 = .ok (.iconst 0, 1) := by decide +kernel
theorem dL_law_1522 : decode cL_law 1522 = .ok (.ireturn, 1) := by decide +kernel
theorem dL_law_1523 : decode cL_law 1523 = .ok (.aload_n 1, 1) := by decide +kernel
theorem dL_law_1524 : decode cL_law 1524 = .ok (.aload_n 0, 1) := by decide +kernel
theorem dL_law_1525 : decode cL_law 1525 = .ok (.iload_n 3, 1) := by decide +kernel
theorem dL_law_1526 : decode cL_law 1526 = .ok (.iconst 1, 1) := by decide +kernel
theorem dL_law_1527 : decode cL_law 1527 = .ok (.iadd, 1) := by decide +kernel
theorem dL_law_1528 : decode cL_law 1528 = .ok (.iaload, 1) := by decide +kernel
theorem dL_law_1529 : decode cL_law 1529 = .ok (.aload_n 0, 1) := by decide +kernel
theorem dL_law_1530 : decode cL_law 1530 = .ok (.iload_n 3, 1) := by decide +kernel
theorem dL_law_1531 : decode cL_law 1531 = .ok (.iconst 2, 1) := by decide +kernel
theorem dL_law_1532 : decode cL_law 1532 = .ok (.iadd, 1) := by decide +kernel
theorem dL_law_1533 : decode cL_law 1533 = .ok (.iaload, 1) := by decide +kernel
theorem dL_law_1534 : decode cL_law 1534 = .ok (.aload_n 0, 1) := by decide +kernel
theorem dL_law_1535 : decode cL_law 1535 = .ok (.iload_n 3, 1) := by decide +kernel
theorem dL_law_1536 : decode cL_law 1536 = .ok (.iconst 3, 1) := by decide +kernel
theorem dL_law_1537 : decode cL_law 1537 = .ok (.iadd, 1) := by decide +kernel
theorem dL_law_1538 : decode cL_law 1538 = .ok (.iaload, 1) := by decide +kernel
theorem dL_law_1539 : decode cL_law 1539 = .ok (.aload_n 0, 1) := by decide +kernel
theorem dL_law_1540 : decode cL_law 1540 = .ok (.iload_n 3, 1) := by decide +kernel
theorem dL_law_1541 : decode cL_law 1541 = .ok (.iconst 4, 1) := by decide +kernel
theorem dL_law_1542 : decode cL_law 1542 = .ok (.iadd, 1) := by decide +kernel
theorem dL_law_1543 : decode cL_law 1543 = .ok (.iaload, 1) := by decide +kernel
theorem dL_law_1544 : decode cL_law 1544 = .ok (.invokevirtual 159, 3) := by decide +kernel
theorem dL_law_1547 : decode cL_law 1547 = .ok (.aload_n 2, 1) := by decide +kernel
theorem dL_law_1548 : decode cL_law 1548 = .ok (.aload_n 0, 1) := by decide +kernel
theorem dL_law_1549 : decode cL_law 1549 = .ok (.iload_n 3, 1) := by decide +kernel
theorem dL_law_1550 : decode cL_law 1550 = .ok (.iconst 1, 1) := by decide +kernel
theorem dL_law_1551 : decode cL_law 1551 = .ok (.iadd, 1) := by decide +kernel
theorem dL_law_1552 : decode cL_law 1552 = .ok (.iaload, 1) := by decide +kernel
theorem dL_law_1553 : decode cL_law 1553 = .ok (.aload_n 0, 1) := by decide +kernel
theorem dL_law_1554 : decode cL_law 1554 = .ok (.iload_n 3, 1) := by decide +kernel
theorem dL_law_1555 : decode cL_law 1555 = .ok (.iconst 2, 1) := by decide +kernel
theorem dL_law_1556 : decode cL_law 1556 = .ok (.iadd, 1) := by decide +kernel
theorem dL_law_1557 : decode cL_law 1557 = .ok (.iaload, 1) := by decide +kernel
theorem dL_law_1558 : decode cL_law 1558 = .ok (.aload_n 0, 1) := by decide +kernel
theorem dL_law_1559 : decode cL_law 1559 = .ok (.iload_n 3, 1) := by decide +kernel
theorem dL_law_1560 : decode cL_law 1560 = .ok (.iconst 3, 1) := by decide +kernel
theorem dL_law_1561 : decode cL_law 1561 = .ok (.iadd, 1) := by decide +kernel
theorem dL_law_1562 : decode cL_law 1562 = .ok (.iaload, 1) := by decide +kernel
theorem dL_law_1563 : decode cL_law 1563 = .ok (.aload_n 0, 1) := by decide +kernel
theorem dL_law_1564 : decode cL_law 1564 = .ok (.iload_n 3, 1) := by decide +kernel
theorem dL_law_1565 : decode cL_law 1565 = .ok (.iconst 4, 1) := by decide +kernel
theorem dL_law_1566 : decode cL_law 1566 = .ok (.iadd, 1) := by decide +kernel
theorem dL_law_1567 : decode cL_law 1567 = .ok (.iaload, 1) := by decide +kernel
theorem dL_law_1568 : decode cL_law 1568 = .ok (.invokevirtual 162, 3) := by decide +kernel
theorem dL_law_1571 : decode cL_law 1571 = .ok (.if_icmp .eq 302, 3) := by decide +kernel
theorem dL_law_1574 : decode cL_law 1574 = .ok (.iconst 0, 1) := by decide +kernel
theorem dL_law_1575 : decode cL_law 1575 = .ok (.ireturn, 1) := by decide +kernel
theorem dL_law_1576 : decode cL_law 1576 = .ok (.aload_n 1, 1) := by decide +kernel
theorem dL_law_1577 : decode cL_law 1577 = .ok (.aload_n 0, 1) := by decide +kernel
theorem dL_law_1578 : decode cL_law 1578 = .ok (.iload_n 3, 1) := by decide +kernel
theorem dL_law_1579 : decode cL_law 1579 = .ok (.iconst 1, 1) := by decide +kernel
theorem dL_law_1580 : decode cL_law 1580 = .ok (.iadd, 1) := by decide +kernel
theorem dL_law_1581 : decode cL_law 1581 = .ok (.iaload, 1) := by decide +kernel
theorem dL_law_1582 : decode cL_law 1582 = .ok (.aload_n 0, 1) := by decide +kernel
theorem dL_law_1583 : decode cL_law 1583 = .ok (.iload_n 3, 1) := by decide +kernel
theorem dL_law_1584 : decode cL_law 1584 = .ok (.iconst 2, 1) := by decide +kernel
theorem dL_law_1585 : decode cL_law 1585 = .ok (.iadd, 1) := by decide +kernel
theorem dL_law_1586 : decode cL_law 1586 = .ok (.iaload, 1) := by decide +kernel
theorem dL_law_1587 : decode cL_law 1587 = .ok (.aload_n 0, 1) := by decide +kernel
theorem dL_law_1588 : decode cL_law 1588 = .ok (.iload_n 3, 1) := by decide +kernel
theorem dL_law_1589 : decode cL_law 1589 = .ok (.iconst 3, 1) := by decide +kernel
theorem dL_law_1590 : decode cL_law 1590 = .ok (.iadd, 1) := by decide +kernel
theorem dL_law_1591 : decode cL_law 1591 = .ok (.iaload, 1) := by decide +kernel
theorem dL_law_1592 : decode cL_law 1592 = .ok (.invokevirtual 163, 3) := by decide +kernel
theorem dL_law_1595 : decode cL_law 1595 = .ok (.aload_n 2, 1) := by decide +kernel
theorem dL_law_1596 : decode cL_law 1596 = .ok (.aload_n 0, 1) := by decide +kernel
theorem dL_law_1597 : decode cL_law 1597 = .ok (.iload_n 3, 1) := by decide +kernel
theorem dL_law_1598 : decode cL_law 1598 = .ok (.iconst 1, 1) := by decide +kernel
theorem dL_law_1599 : decode cL_law 1599 = .ok (.iadd, 1) := by decide +kernel
theorem dL_law_1600 : decode cL_law 1600 = .ok (.iaload, 1) := by decide +kernel
theorem dL_law_1601 : decode cL_law 1601 = .ok (.aload_n 0, 1) := by decide +kernel
theorem dL_law_1602 : decode cL_law 1602 = .ok (.iload_n 3, 1) := by decide +kernel
theorem dL_law_1603 : decode cL_law 1603 = .ok (.iconst 2, 1) := by decide +kernel
theorem dL_law_1604 : decode cL_law 1604 = .ok (.iadd, 1) := by decide +kernel
theorem dL_law_1605 : decode cL_law 1605 = .ok (.iaload, 1) := by decide +kernel
theorem dL_law_1606 : decode cL_law 1606 = .ok (.aload_n 0, 1) := by decide +kernel
theorem dL_law_1607 : decode cL_law 1607 = .ok (.iload_n 3, 1) := by decide +kernel
theorem dL_law_1608 : decode cL_law 1608 = .ok (.iconst 3, 1) := by decide +kernel
theorem dL_law_1609 : decode cL_law 1609 = .ok (.iadd, 1) := by decide +kernel
theorem dL_law_1610 : decode cL_law 1610 = .ok (.iaload, 1) := by decide +kernel
theorem dL_law_1611 : decode cL_law 1611 = .ok (.invokevirtual 166, 3) := by decide +kernel
theorem dL_law_1614 : decode cL_law 1614 = .ok (.if_icmp .eq 259, 3) := by decide +kernel
theorem dL_law_1617 : decode cL_law 1617 = .ok (.iconst 0, 1) := by decide +kernel
theorem dL_law_1618 : decode cL_law 1618 = .ok (.ireturn, 1) := by decide +kernel
theorem dL_law_1619 : decode cL_law 1619 = .ok (.aload_n 1, 1) := by decide +kernel
theorem dL_law_1620 : decode cL_law 1620 = .ok (.aload_n 0, 1) := by decide +kernel
theorem dL_law_1621 : decode cL_law 1621 = .ok (.iload_n 3, 1) := by decide +kernel
theorem dL_law_1622 : decode cL_law 1622 = .ok (.iconst 1, 1) := by decide +kernel
theorem dL_law_1623 : decode cL_law 1623 = .ok (.iadd, 1) := by decide +kernel
theorem dL_law_1624 : decode cL_law 1624 = .ok (.iaload, 1) := by decide +kernel
theorem dL_law_1625 : decode cL_law 1625 = .ok (.aload_n 0, 1) := by decide +kernel
theorem dL_law_1626 : decode cL_law 1626 = .ok (.iload_n 3, 1) := by decide +kernel
theorem dL_law_1627 : decode cL_law 1627 = .ok (.iconst 2, 1) := by decide +kernel
theorem dL_law_1628 : decode cL_law 1628 = .ok (.iadd, 1) := by decide +kernel
theorem dL_law_1629 : decode cL_law 1629 = .ok (.iaload, 1) := by decide +kernel
theorem dL_law_1630 : decode cL_law 1630 = .ok (.aload_n 0, 1) := by decide +kernel
theorem dL_law_1631 : decode cL_law 1631 = .ok (.iload_n 3, 1) := by decide +kernel
theorem dL_law_1632 : decode cL_law 1632 = .ok (.iconst 3, 1) := by decide +kernel
theorem dL_law_1633 : decode cL_law 1633 = .ok (.iadd, 1) := by decide +kernel
theorem dL_law_1634 : decode cL_law 1634 = .ok (.iaload, 1) := by decide +kernel
theorem dL_law_1635 : decode cL_law 1635 = .ok (.invokevirtual 167, 3) := by decide +kernel
theorem dL_law_1638 : decode cL_law 1638 = .ok (.aload_n 2, 1) := by decide +kernel
theorem dL_law_1639 : decode cL_law 1639 = .ok (.aload_n 0, 1) := by decide +kernel
theorem dL_law_1640 : decode cL_law 1640 = .ok (.iload_n 3, 1) := by decide +kernel
theorem dL_law_1641 : decode cL_law 1641 = .ok (.iconst 1, 1) := by decide +kernel
theorem dL_law_1642 : decode cL_law 1642 = .ok (.iadd, 1) := by decide +kernel
theorem dL_law_1643 : decode cL_law 1643 = .ok (.iaload, 1) := by decide +kernel
theorem dL_law_1644 : decode cL_law 1644 = .ok (.aload_n 0, 1) := by decide +kernel
theorem dL_law_1645 : decode cL_law 1645 = .ok (.iload_n 3, 1) := by decide +kernel
theorem dL_law_1646 : decode cL_law 1646 = .ok (.iconst 2, 1) := by decide +kernel
theorem dL_law_1647 : decode cL_law 1647 = .ok (.iadd, 1) := by decide +kernel
theorem dL_law_1648 : decode cL_law 1648 = .ok (.iaload, 1) := by decide +kernel
theorem dL_law_1649 : decode cL_law 1649 = .ok (.aload_n 0, 1) := by decide +kernel
theorem dL_law_1650 : decode cL_law 1650 = .ok (.iload_n 3, 1) := by decide +kernel
theorem dL_law_1651 : decode cL_law 1651 = .ok (.iconst 3, 1) := by decide +kernel
theorem dL_law_1652 : decode cL_law 1652 = .ok (.iadd, 1) := by decide +kernel
theorem dL_law_1653 : decode cL_law 1653 = .ok (.iaload, 1) := by decide +kernel
theorem dL_law_1654 : decode cL_law 1654 = .ok (.invokevirtual 170, 3) := by decide +kernel
theorem dL_law_1657 : decode cL_law 1657 = .ok (.if_icmp .eq 216, 3) := by decide +kernel
theorem dL_law_1660 : decode cL_law 1660 = .ok (.iconst 0, 1) := by decide +kernel
theorem dL_law_1661 : decode cL_law 1661 = .ok (.ireturn, 1) := by decide +kernel
theorem dL_law_1662 : decode cL_law 1662 = .ok (.aload_n 1, 1) := by decide +kernel
theorem dL_law_1663 : decode cL_law 1663 = .ok (.aload_n 0, 1) := by decide +kernel
theorem dL_law_1664 : decode cL_law 1664 = .ok (.iload_n 3, 1) := by decide +kernel
theorem dL_law_1665 : decode cL_law 1665 = .ok (.iconst 1, 1) := by decide +kernel
theorem dL_law_1666 : decode cL_law 1666 = .ok (.iadd, 1) := by decide +kernel
theorem dL_law_1667 : decode cL_law 1667 = .ok (.iaload, 1) := by decide +kernel
theorem dL_law_1668 : decode cL_law 1668 = .ok (.aload_n 0, 1) := by decide +kernel
theorem dL_law_1669 : decode cL_law 1669 = .ok (.iload_n 3, 1) := by decide +kernel
theorem dL_law_1670 : decode cL_law 1670 = .ok (.iconst 2, 1) := by decide +kernel
theorem dL_law_1671 : decode cL_law 1671 = .ok (.iadd, 1) := by decide +kernel
theorem dL_law_1672 : decode cL_law 1672 = .ok (.iaload, 1) := by decide +kernel
theorem dL_law_1673 : decode cL_law 1673 = .ok (.invokevirtual 171, 3) := by decide +kernel
theorem dL_law_1676 : decode cL_law 1676 = .ok (.aload_n 2, 1) := by decide +kernel
theorem dL_law_1677 : decode cL_law 1677 = .ok (.aload_n 0, 1) := by decide +kernel
theorem dL_law_1678 : decode cL_law 1678 = .ok (.iload_n 3, 1) := by decide +kernel
theorem dL_law_1679 : decode cL_law 1679 = .ok (.iconst 1, 1) := by decide +kernel
theorem dL_law_1680 : decode cL_law 1680 = .ok (.iadd, 1) := by decide +kernel
theorem dL_law_1681 : decode cL_law 1681 = .ok (.iaload, 1) := by decide +kernel
theorem dL_law_1682 : decode cL_law 1682 = .ok (.aload_n 0, 1) := by decide +kernel
theorem dL_law_1683 : decode cL_law 1683 = .ok (.iload_n 3, 1) := by decide +kernel
theorem dL_law_1684 : decode cL_law 1684 = .ok (.iconst 2, 1) := by decide +kernel
theorem dL_law_1685 : decode cL_law 1685 = .ok (.iadd, 1) := by decide +kernel
theorem dL_law_1686 : decode cL_law 1686 = .ok (.iaload, 1) := by decide +kernel
theorem dL_law_1687 : decode cL_law 1687 = .ok (.invokevirtual 174, 3) := by decide +kernel
theorem dL_law_1690 : decode cL_law 1690 = .ok (.if_icmp .eq 183, 3) := by decide +kernel
theorem dL_law_1693 : decode cL_law 1693 = .ok (.iconst 0, 1) := by decide +kernel
theorem dL_law_1694 : decode cL_law 1694 = .ok (.ireturn, 1) := by decide +kernel
theorem dL_law_1695 : decode cL_law 1695 = .ok (.aload_n 1, 1) := by decide +kernel
theorem dL_law_1696 : decode cL_law 1696 = .ok (.aload_n 0, 1) := by decide +kernel
theorem dL_law_1697 : decode cL_law 1697 = .ok (.iload_n 3, 1) := by decide +kernel
theorem dL_law_1698 : decode cL_law 1698 = .ok (.iconst 1, 1) := by decide +kernel
theorem dL_law_1699 : decode cL_law 1699 = .ok (.iadd, 1) := by decide +kernel
theorem dL_law_1700 : decode cL_law 1700 = .ok (.iaload, 1) := by decide +kernel
theorem dL_law_1701 : decode cL_law 1701 = .ok (.aload_n 0, 1) := by decide +kernel
theorem dL_law_1702 : decode cL_law 1702 = .ok (.iload_n 3, 1) := by decide +kernel
theorem dL_law_1703 : decode cL_law 1703 = .ok (.iconst 2, 1) := by decide +kernel
theorem dL_law_1704 : decode cL_law 1704 = .ok (.iadd, 1) := by decide +kernel
theorem dL_law_1705 : decode cL_law 1705 = .ok (.iaload, 1) := by decide +kernel
theorem dL_law_1706 : decode cL_law 1706 = .ok (.aload_n 0, 1) := by decide +kernel
theorem dL_law_1707 : decode cL_law 1707 = .ok (.iload_n 3, 1) := by decide +kernel
theorem dL_law_1708 : decode cL_law 1708 = .ok (.iconst 3, 1) := by decide +kernel
theorem dL_law_1709 : decode cL_law 1709 = .ok (.iadd, 1) := by decide +kernel
theorem dL_law_1710 : decode cL_law 1710 = .ok (.iaload, 1) := by decide +kernel
theorem dL_law_1711 : decode cL_law 1711 = .ok (.ifCond .eq 7, 3) := by decide +kernel
theorem dL_law_1714 : decode cL_law 1714 = .ok (.iconst 1, 1) := by decide +kernel
theorem dL_law_1715 : decode cL_law 1715 = .ok (.goto 4, 3) := by decide +kernel
theorem dL_law_1718 : decode cL_law 1718 = .ok (.iconst 0, 1) := by decide +kernel
theorem dL_law_1719 : decode cL_law 1719 = .ok (.invokevirtual 175, 3) := by decide +kernel
theorem dL_law_1722 : decode cL_law 1722 = .ok (.aload_n 2, 1) := by decide +kernel
theorem dL_law_1723 : decode cL_law 1723 = .ok (.aload_n 0, 1) := by decide +kernel
theorem dL_law_1724 : decode cL_law 1724 = .ok (.iload_n 3, 1) := by decide +kernel
theorem dL_law_1725 : decode cL_law 1725 = .ok (.iconst 1, 1) := by decide +kernel
theorem dL_law_1726 : decode cL_law 1726 = .ok (.iadd, 1) := by decide +kernel
theorem dL_law_1727 : decode cL_law 1727 = .ok (.iaload, 1) := by decide +kernel
theorem dL_law_1728 : decode cL_law 1728 = .ok (.aload_n 0, 1) := by decide +kernel
theorem dL_law_1729 : decode cL_law 1729 = .ok (.iload_n 3, 1) := by decide +kernel
theorem dL_law_1730 : decode cL_law 1730 = .ok (.iconst 2, 1) := by decide +kernel
theorem dL_law_1731 : decode cL_law 1731 = .ok (.iadd, 1) := by decide +kernel
theorem dL_law_1732 : decode cL_law 1732 = .ok (.iaload, 1) := by decide +kernel
theorem dL_law_1733 : decode cL_law 1733 = .ok (.aload_n 0, 1) := by decide +kernel
theorem dL_law_1734 : decode cL_law 1734 = .ok (.iload_n 3, 1) := by decide +kernel
theorem dL_law_1735 : decode cL_law 1735 = .ok (.iconst 3, 1) := by decide +kernel
theorem dL_law_1736 : decode cL_law 1736 = .ok (.iadd, 1) := by decide +kernel
theorem dL_law_1737 : decode cL_law 1737 = .ok (.iaload, 1) := by decide +kernel
theorem dL_law_1738 : decode cL_law 1738 = .ok (.ifCond .eq 7, 3) := by decide +kernel
theorem dL_law_1741 : decode cL_law 1741 = .ok (.iconst 1, 1) := by decide +kernel
theorem dL_law_1742 : decode cL_law 1742 = .ok (.goto 4, 3) := by decide +kernel
theorem dL_law_1745 : decode cL_law 1745 = .ok (.iconst 0, 1) := by decide +kernel
theorem dL_law_1746 : decode cL_law 1746 = .ok (.invokevirtual 179, 3) := by decide +kernel
theorem dL_law_1749 : decode cL_law 1749 = .ok (.if_icmp .eq 124, 3) := by decide +kernel
theorem dL_law_1752 : decode cL_law 1752 = .ok (.iconst 0, 1) := by decide +kernel
theorem dL_law_1753 : decode cL_law 1753 = .ok (.ireturn, 1) := by decide +kernel
theorem dL_law_1754 : decode cL_law 1754 = .ok (.aload_n 1, 1) := by decide +kernel
theorem dL_law_1755 : decode cL_law 1755 = .ok (.aload_n 0, 1) := by decide +kernel
theorem dL_law_1756 : decode cL_law 1756 = .ok (.iload_n 3, 1) := by decide +kernel
theorem dL_law_1757 : decode cL_law 1757 = .ok (.iconst 1, 1) := by decide +kernel
theorem dL_law_1758 : decode cL_law 1758 = .ok (.iadd, 1) := by decide +kernel
theorem dL_law_1759 : decode cL_law 1759 = .ok (.iaload, 1) := by decide +kernel
theorem dL_law_1760 : decode cL_law 1760 = .ok (.aload_n 0, 1) := by decide +kernel
theorem dL_law_1761 : decode cL_law 1761 = .ok (.iload_n 3, 1) := by decide +kernel
theorem dL_law_1762 : decode cL_law 1762 = .ok (.iconst 2, 1) := by decide +kernel
theorem dL_law_1763 : decode cL_law 1763 = .ok (.iadd, 1) := by decide +kernel
theorem dL_law_1764 : decode cL_law 1764 = .ok (.iaload, 1) := by decide +kernel
theorem dL_law_1765 : decode cL_law 1765 = .ok (.aload_n 0, 1) := by decide +kernel
theorem dL_law_1766 : decode cL_law 1766 = .ok (.iload_n 3, 1) := by decide +kernel
theorem dL_law_1767 : decode cL_law 1767 = .ok (.iconst 3, 1) := by decide +kernel
theorem dL_law_1768 : decode cL_law 1768 = .ok (.iadd, 1) := by decide +kernel
theorem dL_law_1769 : decode cL_law 1769 = .ok (.iaload, 1) := by decide +kernel
theorem dL_law_1770 : decode cL_law 1770 = .ok (.aload_n 0, 1) := by decide +kernel
theorem dL_law_1771 : decode cL_law 1771 = .ok (.iload_n 3, 1) := by decide +kernel
theorem dL_law_1772 : decode cL_law 1772 = .ok (.iconst 4, 1) := by decide +kernel
theorem dL_law_1773 : decode cL_law 1773 = .ok (.iadd, 1) := by decide +kernel
theorem dL_law_1774 : decode cL_law 1774 = .ok (.iaload, 1) := by decide +kernel
theorem dL_law_1775 : decode cL_law 1775 = .ok (.invokevirtual 180, 3) := by decide +kernel
theorem dL_law_1778 : decode cL_law 1778 = .ok (.aload_n 2, 1) := by decide +kernel
theorem dL_law_1779 : decode cL_law 1779 = .ok (.aload_n 0, 1) := by decide +kernel
theorem dL_law_1780 : decode cL_law 1780 = .ok (.iload_n 3, 1) := by decide +kernel
theorem dL_law_1781 : decode cL_law 1781 = .ok (.iconst 1, 1) := by decide +kernel
theorem dL_law_1782 : decode cL_law 1782 = .ok (.iadd, 1) := by decide +kernel
theorem dL_law_1783 : decode cL_law 1783 = .ok (.iaload, 1) := by decide +kernel
theorem dL_law_1784 : decode cL_law 1784 = .ok (.aload_n 0, 1) := by decide +kernel
theorem dL_law_1785 : decode cL_law 1785 = .ok (.iload_n 3, 1) := by decide +kernel
theorem dL_law_1786 : decode cL_law 1786 = .ok (.iconst 2, 1) := by decide +kernel
theorem dL_law_1787 : decode cL_law 1787 = .ok (.iadd, 1) := by decide +kernel
theorem dL_law_1788 : decode cL_law 1788 = .ok (.iaload, 1) := by decide +kernel
theorem dL_law_1789 : decode cL_law 1789 = .ok (.aload_n 0, 1) := by decide +kernel
theorem dL_law_1790 : decode cL_law 1790 = .ok (.iload_n 3, 1) := by decide +kernel
theorem dL_law_1791 : decode cL_law 1791 = .ok (.iconst 3, 1) := by decide +kernel
theorem dL_law_1792 : decode cL_law 1792 = .ok (.iadd, 1) := by decide +kernel
theorem dL_law_1793 : decode cL_law 1793 = .ok (.iaload, 1) := by decide +kernel
theorem dL_law_1794 : decode cL_law 1794 = .ok (.aload_n 0, 1) := by decide +kernel
theorem dL_law_1795 : decode cL_law 1795 = .ok (.iload_n 3, 1) := by decide +kernel
theorem dL_law_1796 : decode cL_law 1796 = .ok (.iconst 4, 1) := by decide +kernel
theorem dL_law_1797 : decode cL_law 1797 = .ok (.iadd, 1) := by decide +kernel
theorem dL_law_1798 : decode cL_law 1798 = .ok (.iaload, 1) := by decide +kernel
theorem dL_law_1799 : decode cL_law 1799 = .ok (.invokevirtual 183, 3) := by decide +kernel
theorem dL_law_1802 : decode cL_law 1802 = .ok (.if_icmp .eq 71, 3) := by decide +kernel
theorem dL_law_1805 : decode cL_law 1805 = .ok (.iconst 0, 1) := by decide +kernel
theorem dL_law_1806 : decode cL_law 1806 = .ok (.ireturn, 1) := by decide +kernel
theorem dL_law_1807 : decode cL_law 1807 = .ok (.aload_n 1, 1) := by decide +kernel
theorem dL_law_1808 : decode cL_law 1808 = .ok (.aload_n 0, 1) := by decide +kernel
theorem dL_law_1809 : decode cL_law 1809 = .ok (.iload_n 3, 1) := by decide +kernel
theorem dL_law_1810 : decode cL_law 1810 = .ok (.iconst 1, 1) := by decide +kernel
theorem dL_law_1811 : decode cL_law 1811 = .ok (.iadd, 1) := by decide +kernel
theorem dL_law_1812 : decode cL_law 1812 = .ok (.iaload, 1) := by decide +kernel
theorem dL_law_1813 : decode cL_law 1813 = .ok (.aload_n 0, 1) := by decide +kernel
theorem dL_law_1814 : decode cL_law 1814 = .ok (.iload_n 3, 1) := by decide +kernel
theorem dL_law_1815 : decode cL_law 1815 = .ok (.iconst 2, 1) := by decide +kernel
theorem dL_law_1816 : decode cL_law 1816 = .ok (.iadd, 1) := by decide +kernel
theorem dL_law_1817 : decode cL_law 1817 = .ok (.iaload, 1) := by decide +kernel
theorem dL_law_1818 : decode cL_law 1818 = .ok (.aload_n 0, 1) := by decide +kernel
theorem dL_law_1819 : decode cL_law 1819 = .ok (.iload_n 3, 1) := by decide +kernel
theorem dL_law_1820 : decode cL_law 1820 = .ok (.iconst 3, 1) := by decide +kernel
theorem dL_law_1821 : decode cL_law 1821 = .ok (.iadd, 1) := by decide +kernel
theorem dL_law_1822 : decode cL_law 1822 = .ok (.iaload, 1) := by decide +kernel
theorem dL_law_1823 : decode cL_law 1823 = .ok (.invokevirtual 184, 3) := by decide +kernel
theorem dL_law_1826 : decode cL_law 1826 = .ok (.aload_n 2, 1) := by decide +kernel
theorem dL_law_1827 : decode cL_law 1827 = .ok (.aload_n 0, 1) := by decide +kernel
theorem dL_law_1828 : decode cL_law 1828 = .ok (.iload_n 3, 1) := by decide +kernel
theorem dL_law_1829 : decode cL_law 1829 = .ok (.iconst 1, 1) := by decide +kernel
theorem dL_law_1830 : decode cL_law 1830 = .ok (.iadd, 1) := by decide +kernel
theorem dL_law_1831 : decode cL_law 1831 = .ok (.iaload, 1) := by decide +kernel
theorem dL_law_1832 : decode cL_law 1832 = .ok (.aload_n 0, 1) := by decide +kernel
theorem dL_law_1833 : decode cL_law 1833 = .ok (.iload_n 3, 1) := by decide +kernel
theorem dL_law_1834 : decode cL_law 1834 = .ok (.iconst 2, 1) := by decide +kernel
theorem dL_law_1835 : decode cL_law 1835 = .ok (.iadd, 1) := by decide +kernel
theorem dL_law_1836 : decode cL_law 1836 = .ok (.iaload, 1) := by decide +kernel
theorem dL_law_1837 : decode cL_law 1837 = .ok (.aload_n 0, 1) := by decide +kernel
theorem dL_law_1838 : decode cL_law 1838 = .ok (.iload_n 3, 1) := by decide +kernel
theorem dL_law_1839 : decode cL_law 1839 = .ok (.iconst 3, 1) := by decide +kernel
theorem dL_law_1840 : decode cL_law 1840 = .ok (.iadd, 1) := by decide +kernel
theorem dL_law_1841 : decode cL_law 1841 = .ok (.iaload, 1) := by decide +kernel
theorem dL_law_1842 : decode cL_law 1842 = .ok (.invokevirtual 187, 3) := by decide +kernel
theorem dL_law_1845 : decode cL_law 1845 = .ok (.if_icmp .eq 28, 3) := by decide +kernel
theorem dL_law_1848 : decode cL_law 1848 = .ok (.iconst 0, 1) := by decide +kernel
theorem dL_law_1849 : decode cL_law 1849 = .ok (.ireturn, 1) := by decide +kernel
theorem dL_law_1850 : decode cL_law 1850 = .ok (.aload_n 1, 1) := by decide +kernel
theorem dL_law_1851 : decode cL_law 1851 = .ok (.aload_n 0, 1) := by decide +kernel
theorem dL_law_1852 : decode cL_law 1852 = .ok (.iload_n 3, 1) := by decide +kernel
theorem dL_law_1853 : decode cL_law 1853 = .ok (.iconst 1, 1) := by decide +kernel
theorem dL_law_1854 : decode cL_law 1854 = .ok (.iadd, 1) := by decide +kernel
theorem dL_law_1855 : decode cL_law 1855 = .ok (.iaload, 1) := by decide +kernel
theorem dL_law_1856 : decode cL_law 1856 = .ok (.invokevirtual 188, 3) := by decide +kernel
theorem dL_law_1859 : decode cL_law 1859 = .ok (.aload_n 2, 1) := by decide +kernel
theorem dL_law_1860 : decode cL_law 1860 = .ok (.aload_n 0, 1) := by decide +kernel
theorem dL_law_1861 : decode cL_law 1861 = .ok (.iload_n 3, 1) := by decide +kernel
theorem dL_law_1862 : decode cL_law 1862 = .ok (.iconst 1, 1) := by decide +kernel
theorem dL_law_1863 : decode cL_law 1863 = .ok (.iadd, 1) := by decide +kernel
theorem dL_law_1864 : decode cL_law 1864 = .ok (.iaload, 1) := by decide +kernel
theorem dL_law_1865 : decode cL_law 1865 = .ok (.invokevirtual 191, 3) := by decide +kernel
theorem dL_law_1868 : decode cL_law 1868 = .ok (.if_icmp .eq 5, 3) := by decide +kernel
theorem dL_law_1871 : decode cL_law 1871 = .ok (.iconst 0, 1) := by decide +kernel
theorem dL_law_1872 : decode cL_law 1872 = .ok (.ireturn, 1) := by decide +kernel
theorem dL_law_1873 : decode cL_law 1873 = .ok (.iinc 3 7, 3) := by decide +kernel
theorem dL_law_1876 : decode cL_law 1876 = .ok (.goto (-1858), 3) := by decide +kernel
theorem dL_law_1879 : decode cL_law 1879 = .ok (.iconst 1, 1) := by decide +kernel
theorem dL_law_1880 : decode cL_law 1880 = .ok (.ireturn, 1) := by decide +kernel
