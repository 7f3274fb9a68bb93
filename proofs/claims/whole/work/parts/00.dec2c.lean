theorem dc12_paid_88 : decode prog_14_method_46_code 88 = .ok (.bipush 25, 2) := by decide +kernel
theorem dc12_paid_90 : decode prog_14_method_46_code 90 = .ok (.iaload, 1) := by decide +kernel
theorem dc12_paid_91 : decode prog_14_method_46_code 91 = .ok (.iastore, 1) := by decide +kernel
theorem dc12_paid_92 : decode prog_14_method_46_code 92 = .ok (.aload_n 0, 1) := by decide +kernel
theorem dc12_paid_93 : decode prog_14_method_46_code 93 = .ok (.invokevirtual 321, 3) := by decide +kernel
theorem dc12_paid_96 : decode prog_14_method_46_code 96 = .ok (.istore 4, 2) := by decide +kernel
theorem dc12_paid_98 : decode prog_14_method_46_code 98 = .ok (.iconst 0, 1) := by decide +kernel
theorem dc12_paid_99 : decode prog_14_method_46_code 99 = .ok (.bipush 99, 2) := by decide +kernel
theorem dc12_paid_101 : decode prog_14_method_46_code 101 = .ok (.iload 4, 2) := by decide +kernel
theorem dc12_paid_103 : decode prog_14_method_46_code 103 = .ok (.invokestatic 324, 3) := by decide +kernel
theorem dc12_paid_106 : decode prog_14_method_46_code 106 = .ok (.invokestatic 326, 3) := by decide +kernel
theorem dc12_paid_109 : decode prog_14_method_46_code 109 = .ok (.ireturn, 1) := by decide +kernel
theorem dc12_worthNow_0 : decode prog_14_method_45_code 0 = .ok (.lconst 1, 1) := by decide +kernel
theorem dc12_worthNow_1 : decode prog_14_method_45_code 1 = .ok (.aload_n 0, 1) := by decide +kernel
theorem dc12_worthNow_2 : decode prog_14_method_45_code 2 = .ok (.getfield 61, 3) := by decide +kernel
theorem dc12_worthNow_5 : decode prog_14_method_45_code 5 = .ok (.i2l, 1) := by decide +kernel
theorem dc12_worthNow_6 : decode prog_14_method_45_code 6 = .ok (.ladd, 1) := by decide +kernel
theorem dc12_worthNow_7 : decode prog_14_method_45_code 7 = .ok (.lstore_n 1, 1) := by decide +kernel
theorem dc12_worthNow_8 : decode prog_14_method_45_code 8 = .ok (.ldc2_w 304, 3) := by decide +kernel
theorem dc12_worthNow_11 : decode prog_14_method_45_code 11 = .ok (.lload_n 1, 1) := by decide +kernel
theorem dc12_worthNow_12 : decode prog_14_method_45_code 12 = .ok (.lmul, 1) := by decide +kernel
theorem dc12_worthNow_13 : decode prog_14_method_45_code 13 = .ok (.aload_n 0, 1) := by decide +kernel
theorem dc12_worthNow_14 : decode prog_14_method_45_code 14 = .ok (.getfield 20, 3) := by decide +kernel
theorem dc12_worthNow_17 : decode prog_14_method_45_code 17 = .ok (.bipush 111, 2) := by decide +kernel
theorem dc12_worthNow_19 : decode prog_14_method_45_code 19 = .ok (.iaload, 1) := by decide +kernel
theorem dc12_worthNow_20 : decode prog_14_method_45_code 20 = .ok (.i2l, 1) := by decide +kernel
theorem dc12_worthNow_21 : decode prog_14_method_45_code 21 = .ok (.ladd, 1) := by decide +kernel
theorem dc12_worthNow_22 : decode prog_14_method_45_code 22 = .ok (.lstore_n 1, 1) := by decide +kernel
theorem dc12_worthNow_23 : decode prog_14_method_45_code 23 = .ok (.ldc2_w 306, 3) := by decide +kernel
theorem dc12_worthNow_26 : decode prog_14_method_45_code 26 = .ok (.lload_n 1, 1) := by decide +kernel
theorem dc12_worthNow_27 : decode prog_14_method_45_code 27 = .ok (.lmul, 1) := by decide +kernel
theorem dc12_worthNow_28 : decode prog_14_method_45_code 28 = .ok (.aload_n 0, 1) := by decide +kernel
theorem dc12_worthNow_29 : decode prog_14_method_45_code 29 = .ok (.getfield 20, 3) := by decide +kernel
theorem dc12_worthNow_32 : decode prog_14_method_45_code 32 = .ok (.bipush 110, 2) := by decide +kernel
theorem dc12_worthNow_34 : decode prog_14_method_45_code 34 = .ok (.iaload, 1) := by decide +kernel
theorem dc12_worthNow_35 : decode prog_14_method_45_code 35 = .ok (.i2l, 1) := by decide +kernel
theorem dc12_worthNow_36 : decode prog_14_method_45_code 36 = .ok (.ladd, 1) := by decide +kernel
theorem dc12_worthNow_37 : decode prog_14_method_45_code 37 = .ok (.lstore_n 1, 1) := by decide +kernel
theorem dc12_worthNow_38 : decode prog_14_method_45_code 38 = .ok (.ldc2_w 308, 3) := by decide +kernel
theorem dc12_worthNow_41 : decode prog_14_method_45_code 41 = .ok (.lload_n 1, 1) := by decide +kernel
theorem dc12_worthNow_42 : decode prog_14_method_45_code 42 = .ok (.lmul, 1) := by decide +kernel
theorem dc12_worthNow_43 : decode prog_14_method_45_code 43 = .ok (.aload_n 0, 1) := by decide +kernel
theorem dc12_worthNow_44 : decode prog_14_method_45_code 44 = .ok (.getfield 20, 3) := by decide +kernel
theorem dc12_worthNow_47 : decode prog_14_method_45_code 47 = .ok (.bipush 119, 2) := by decide +kernel
theorem dc12_worthNow_49 : decode prog_14_method_45_code 49 = .ok (.iaload, 1) := by decide +kernel
theorem dc12_worthNow_50 : decode prog_14_method_45_code 50 = .ok (.i2l, 1) := by decide +kernel
theorem dc12_worthNow_51 : decode prog_14_method_45_code 51 = .ok (.ladd, 1) := by decide +kernel
theorem dc12_worthNow_52 : decode prog_14_method_45_code 52 = .ok (.lstore_n 1, 1) := by decide +kernel
theorem dc12_worthNow_53 : decode prog_14_method_45_code 53 = .ok (.ldc2_w 310, 3) := by decide +kernel
theorem dc12_worthNow_56 : decode prog_14_method_45_code 56 = .ok (.lload_n 1, 1) := by decide +kernel
theorem dc12_worthNow_57 : decode prog_14_method_45_code 57 = .ok (.lmul, 1) := by decide +kernel
theorem dc12_worthNow_58 : decode prog_14_method_45_code 58 = .ok (.aload_n 0, 1) := by decide +kernel
theorem dc12_worthNow_59 : decode prog_14_method_45_code 59 = .ok (.getfield 20, 3) := by decide +kernel
theorem dc12_worthNow_62 : decode prog_14_method_45_code 62 = .ok (.bipush 118, 2) := by decide +kernel
theorem dc12_worthNow_64 : decode prog_14_method_45_code 64 = .ok (.iaload, 1) := by decide +kernel
theorem dc12_worthNow_65 : decode prog_14_method_45_code 65 = .ok (.i2l, 1) := by decide +kernel
theorem dc12_worthNow_66 : decode prog_14_method_45_code 66 = .ok (.ladd, 1) := by decide +kernel
theorem dc12_worthNow_67 : decode prog_14_method_45_code 67 = .ok (.lstore_n 1, 1) := by decide +kernel
theorem dc12_worthNow_68 : decode prog_14_method_45_code 68 = .ok (.ldc2_w 312, 3) := by decide +kernel
theorem dc12_worthNow_71 : decode prog_14_method_45_code 71 = .ok (.lload_n 1, 1) := by decide +kernel
theorem dc12_worthNow_72 : decode prog_14_method_45_code 72 = .ok (.lmul, 1) := by decide +kernel
theorem dc12_worthNow_73 : decode prog_14_method_45_code 73 = .ok (.aload_n 0, 1) := by decide +kernel
theorem dc12_worthNow_74 : decode prog_14_method_45_code 74 = .ok (.getfield 20, 3) := by decide +kernel
theorem dc12_worthNow_77 : decode prog_14_method_45_code 77 = .ok (.bipush 115, 2) := by decide +kernel
theorem dc12_worthNow_79 : decode prog_14_method_45_code 79 = .ok (.iaload, 1) := by decide +kernel
theorem dc12_worthNow_80 : decode prog_14_method_45_code 80 = .ok (.i2l, 1) := by decide +kernel
theorem dc12_worthNow_81 : decode prog_14_method_45_code 81 = .ok (.ladd, 1) := by decide +kernel
theorem dc12_worthNow_82 : decode prog_14_method_45_code 82 = .ok (.lstore_n 1, 1) := by decide +kernel
theorem dc12_worthNow_83 : decode prog_14_method_45_code 83 = .ok (.ldc2_w 314, 3) := by decide +kernel
theorem dc12_worthNow_86 : decode prog_14_method_45_code 86 = .ok (.lload_n 1, 1) := by decide +kernel
theorem dc12_worthNow_87 : decode prog_14_method_45_code 87 = .ok (.lmul, 1) := by decide +kernel
theorem dc12_worthNow_88 : decode prog_14_method_45_code 88 = .ok (.aload_n 0, 1) := by decide +kernel
theorem dc12_worthNow_89 : decode prog_14_method_45_code 89 = .ok (.getfield 20, 3) := by decide +kernel
theorem dc12_worthNow_92 : decode prog_14_method_45_code 92 = .ok (.bipush 116, 2) := by decide +kernel
theorem dc12_worthNow_94 : decode prog_14_method_45_code 94 = .ok (.iaload, 1) := by decide +kernel
theorem dc12_worthNow_95 : decode prog_14_method_45_code 95 = .ok (.i2l, 1) := by decide +kernel
theorem dc12_worthNow_96 : decode prog_14_method_45_code 96 = .ok (.ladd, 1) := by decide +kernel
theorem dc12_worthNow_97 : decode prog_14_method_45_code 97 = .ok (.lstore_n 1, 1) := by decide +kernel
theorem dc12_worthNow_98 : decode prog_14_method_45_code 98 = .ok (.lload_n 1, 1) := by decide +kernel
theorem dc12_worthNow_99 : decode prog_14_method_45_code 99 = .ok (.ldc2_w 316, 3) := by decide +kernel
theorem dc12_worthNow_102 : decode prog_14_method_45_code 102 = .ok (.lrem, 1) := by decide +kernel
theorem dc12_worthNow_103 : decode prog_14_method_45_code 103 = .ok (.l2i, 1) := by decide +kernel
theorem dc12_worthNow_104 : decode prog_14_method_45_code 104 = .ok (.istore_n 3, 1) := by decide +kernel
theorem dc12_worthNow_105 : decode prog_14_method_45_code 105 = .ok (.aload_n 0, 1) := by decide +kernel
theorem dc12_worthNow_106 : decode prog_14_method_45_code 106 = .ok (.getfield 65, 3) := by decide +kernel
theorem dc12_worthNow_109 : decode prog_14_method_45_code 109 = .ok (.iload_n 3, 1) := by decide +kernel
theorem dc12_worthNow_110 : decode prog_14_method_45_code 110 = .ok (.laload, 1) := by decide +kernel
theorem dc12_worthNow_111 : decode prog_14_method_45_code 111 = .ok (.lload_n 1, 1) := by decide +kernel
theorem dc12_worthNow_112 : decode prog_14_method_45_code 112 = .ok (.lcmp, 1) := by decide +kernel
theorem dc12_worthNow_113 : decode prog_14_method_45_code 113 = .ok (.ifCond .ne 10, 3) := by decide +kernel
theorem dc12_worthNow_116 : decode prog_14_method_45_code 116 = .ok (.aload_n 0, 1) := by decide +kernel
theorem dc12_worthNow_117 : decode prog_14_method_45_code 117 = .ok (.getfield 69, 3) := by decide +kernel
theorem dc12_worthNow_120 : decode prog_14_method_45_code 120 = .ok (.iload_n 3, 1) := by decide +kernel
theorem dc12_worthNow_121 : decode prog_14_method_45_code 121 = .ok (.iaload, 1) := by decide +kernel
theorem dc12_worthNow_122 : decode prog_14_method_45_code 122 = .ok (.ireturn, 1) := by decide +kernel
theorem dc12_worthNow_123 : decode prog_14_method_45_code 123 = .ok (.aload_n 0, 1) := by decide +kernel
theorem dc12_worthNow_124 : decode prog_14_method_45_code 124 = .ok (.aload_n 0, 1) := by decide +kernel
theorem dc12_worthNow_125 : decode prog_14_method_45_code 125 = .ok (.getfield 13, 3) := by decide +kernel
theorem dc12_worthNow_128 : decode prog_14_method_45_code 128 = .ok (.sipush 240, 3) := by decide +kernel
theorem dc12_worthNow_131 : decode prog_14_method_45_code 131 = .ok (.aload_n 0, 1) := by decide +kernel
theorem dc12_worthNow_132 : decode prog_14_method_45_code 132 = .ok (.getfield 61, 3) := by decide +kernel
theorem dc12_worthNow_135 : decode prog_14_method_45_code 135 = .ok (.imul, 1) := by decide +kernel
theorem dc12_worthNow_136 : decode prog_14_method_45_code 136 = .ok (.aload_n 0, 1) := by decide +kernel
theorem dc12_worthNow_137 : decode prog_14_method_45_code 137 = .ok (.getfield 16, 3) := by decide +kernel
theorem dc12_worthNow_140 : decode prog_14_method_45_code 140 = .ok (.aload_n 0, 1) := by decide +kernel
theorem dc12_worthNow_141 : decode prog_14_method_45_code 141 = .ok (.getfield 61, 3) := by decide +kernel
theorem dc12_worthNow_144 : decode prog_14_method_45_code 144 = .ok (.iaload, 1) := by decide +kernel
theorem dc12_worthNow_145 : decode prog_14_method_45_code 145 = .ok (.invokevirtual 276, 3) := by decide +kernel
theorem dc12_worthNow_148 : decode prog_14_method_45_code 148 = .ok (.aload_n 0, 1) := by decide +kernel
theorem dc12_worthNow_149 : decode prog_14_method_45_code 149 = .ok (.getfield 65, 3) := by decide +kernel
theorem dc12_worthNow_152 : decode prog_14_method_45_code 152 = .ok (.iload_n 3, 1) := by decide +kernel
theorem dc12_worthNow_153 : decode prog_14_method_45_code 153 = .ok (.lload_n 1, 1) := by decide +kernel
theorem dc12_worthNow_154 : decode prog_14_method_45_code 154 = .ok (.lastore, 1) := by decide +kernel
theorem dc12_worthNow_155 : decode prog_14_method_45_code 155 = .ok (.aload_n 0, 1) := by decide +kernel
theorem dc12_worthNow_156 : decode prog_14_method_45_code 156 = .ok (.getfield 69, 3) := by decide +kernel
theorem dc12_worthNow_159 : decode prog_14_method_45_code 159 = .ok (.iload_n 3, 1) := by decide +kernel
theorem dc12_worthNow_160 : decode prog_14_method_45_code 160 = .ok (.aload_n 0, 1) := by decide +kernel
theorem dc12_worthNow_161 : decode prog_14_method_45_code 161 = .ok (.getfield 208, 3) := by decide +kernel
theorem dc12_worthNow_164 : decode prog_14_method_45_code 164 = .ok (.iastore, 1) := by decide +kernel
theorem dc12_worthNow_165 : decode prog_14_method_45_code 165 = .ok (.aload_n 0, 1) := by decide +kernel
theorem dc12_worthNow_166 : decode prog_14_method_45_code 166 = .ok (.getfield 208, 3) := by decide +kernel
theorem dc12_worthNow_169 : decode prog_14_method_45_code 169 = .ok (.ireturn, 1) := by decide +kernel
theorem dc12_sell_0 : decode prog_14_method_59_code 0 = .ok (.aload_n 0, 1) := by decide +kernel
theorem dc12_sell_1 : decode prog_14_method_59_code 1 = .ok (.iconst 0, 1) := by decide +kernel
theorem dc12_sell_2 : decode prog_14_method_59_code 2 = .ok (.putfield 100, 3) := by decide +kernel
theorem dc12_sell_5 : decode prog_14_method_59_code 5 = .ok (.iload_n 3, 1) := by decide +kernel
theorem dc12_sell_6 : decode prog_14_method_59_code 6 = .ok (.i2l, 1) := by decide +kernel
theorem dc12_sell_7 : decode prog_14_method_59_code 7 = .ok (.lconst 1, 1) := by decide +kernel
theorem dc12_sell_8 : decode prog_14_method_59_code 8 = .ok (.ldc2_w 369, 3) := by decide +kernel
theorem dc12_sell_11 : decode prog_14_method_59_code 11 = .ok (.invokestatic 221, 3) := by decide +kernel
theorem dc12_sell_14 : decode prog_14_method_59_code 14 = .ok (.ifCond .eq 17, 3) := by decide +kernel
theorem dc12_sell_17 : decode prog_14_method_59_code 17 = .ok (.aload_n 0, 1) := by decide +kernel
theorem dc12_sell_18 : decode prog_14_method_59_code 18 = .ok (.aload_n 0, 1) := by decide +kernel
theorem dc12_sell_19 : decode prog_14_method_59_code 19 = .ok (.getfield 55, 3) := by decide +kernel
theorem dc12_sell_22 : decode prog_14_method_59_code 22 = .ok (.iload_n 1, 1) := by decide +kernel
theorem dc12_sell_23 : decode prog_14_method_59_code 23 = .ok (.iload_n 2, 1) := by decide +kernel
theorem dc12_sell_24 : decode prog_14_method_59_code 24 = .ok (.iload_n 3, 1) := by decide +kernel
theorem dc12_sell_25 : decode prog_14_method_59_code 25 = .ok (.invokevirtual 371, 3) := by decide +kernel
theorem dc12_sell_28 : decode prog_14_method_59_code 28 = .ok (.ifCond .ne 5, 3) := by decide +kernel
theorem dc12_sell_31 : decode prog_14_method_59_code 31 = .ok (.iconst (-1), 1) := by decide +kernel
theorem dc12_sell_32 : decode prog_14_method_59_code 32 = .ok (.ireturn, 1) := by decide +kernel
theorem dc12_sell_33 : decode prog_14_method_59_code 33 = .ok (.aload_n 0, 1) := by decide +kernel
theorem dc12_sell_34 : decode prog_14_method_59_code 34 = .ok (.invokevirtual 366, 3) := by decide +kernel
theorem dc12_sell_37 : decode prog_14_method_59_code 37 = .ok (.aload_n 0, 1) := by decide +kernel
theorem dc12_sell_38 : decode prog_14_method_59_code 38 = .ok (.getfield 55, 3) := by decide +kernel
theorem dc12_sell_41 : decode prog_14_method_59_code 41 = .ok (.iload_n 1, 1) := by decide +kernel
theorem dc12_sell_42 : decode prog_14_method_59_code 42 = .ok (.iload_n 2, 1) := by decide +kernel
theorem dc12_sell_43 : decode prog_14_method_59_code 43 = .ok (.iload_n 3, 1) := by decide +kernel
theorem dc12_sell_44 : decode prog_14_method_59_code 44 = .ok (.invokestatic 375, 3) := by decide +kernel
theorem dc12_sell_47 : decode prog_14_method_59_code 47 = .ok (.aload_n 0, 1) := by decide +kernel
theorem dc12_sell_48 : decode prog_14_method_59_code 48 = .ok (.getfield 55, 3) := by decide +kernel
theorem dc12_sell_51 : decode prog_14_method_59_code 51 = .ok (.iconst 4, 1) := by decide +kernel
theorem dc12_sell_52 : decode prog_14_method_59_code 52 = .ok (.iload_n 1, 1) := by decide +kernel
theorem dc12_sell_53 : decode prog_14_method_59_code 53 = .ok (.imul, 1) := by decide +kernel
theorem dc12_sell_54 : decode prog_14_method_59_code 54 = .ok (.iconst 3, 1) := by decide +kernel
theorem dc12_sell_55 : decode prog_14_method_59_code 55 = .ok (.iadd, 1) := by decide +kernel
theorem dc12_sell_56 : decode prog_14_method_59_code 56 = .ok (.iaload, 1) := by decide +kernel
theorem dc12_sell_57 : decode prog_14_method_59_code 57 = .ok (.ireturn, 1) := by decide +kernel
theorem dc12_canSell_0 : decode prog_14_method_57_code 0 = .ok (.aload_n 0, 1) := by decide +kernel
theorem dc12_canSell_1 : decode prog_14_method_57_code 1 = .ok (.iload_n 2, 1) := by decide +kernel
theorem dc12_canSell_2 : decode prog_14_method_57_code 2 = .ok (.invokevirtual 353, 3) := by decide +kernel
theorem dc12_canSell_5 : decode prog_14_method_57_code 5 = .ok (.ifCond .eq 28, 3) := by decide +kernel
theorem dc12_canSell_8 : decode prog_14_method_57_code 8 = .ok (.aload_n 0, 1) := by decide +kernel
theorem dc12_canSell_9 : decode prog_14_method_57_code 9 = .ok (.iload_n 3, 1) := by decide +kernel
theorem dc12_canSell_10 : decode prog_14_method_57_code 10 = .ok (.invokevirtual 353, 3) := by decide +kernel
theorem dc12_canSell_13 : decode prog_14_method_57_code 13 = .ok (.ifCond .eq 20, 3) := by decide +kernel
theorem dc12_canSell_16 : decode prog_14_method_57_code 16 = .ok (.iload_n 2, 1) := by decide +kernel
theorem dc12_canSell_17 : decode prog_14_method_57_code 17 = .ok (.iload_n 3, 1) := by decide +kernel
theorem dc12_canSell_18 : decode prog_14_method_57_code 18 = .ok (.if_icmp .eq 15, 3) := by decide +kernel
theorem dc12_canSell_21 : decode prog_14_method_57_code 21 = .ok (.aload_n 1, 1) := by decide +kernel
theorem dc12_canSell_22 : decode prog_14_method_57_code 22 = .ok (.iconst 4, 1) := by decide +kernel
theorem dc12_canSell_23 : decode prog_14_method_57_code 23 = .ok (.iload_n 2, 1) := by decide +kernel
theorem dc12_canSell_24 : decode prog_14_method_57_code 24 = .ok (.imul, 1) := by decide +kernel
theorem dc12_canSell_25 : decode prog_14_method_57_code 25 = .ok (.iconst 0, 1) := by decide +kernel
theorem dc12_canSell_26 : decode prog_14_method_57_code 26 = .ok (.iadd, 1) := by decide +kernel
theorem dc12_canSell_27 : decode prog_14_method_57_code 27 = .ok (.iaload, 1) := by decide +kernel
theorem dc12_canSell_28 : decode prog_14_method_57_code 28 = .ok (.iload 4, 2) := by decide +kernel
theorem dc12_canSell_30 : decode prog_14_method_57_code 30 = .ok (.if_icmp .ge 5, 3) := by decide +kernel
theorem dc12_canSell_33 : decode prog_14_method_57_code 33 = .ok (.iconst 0, 1) := by decide +kernel
theorem dc12_canSell_34 : decode prog_14_method_57_code 34 = .ok (.ireturn, 1) := by decide +kernel
theorem dc12_canSell_35 : decode prog_14_method_57_code 35 = .ok (.iload 4, 2) := by decide +kernel
theorem dc12_canSell_37 : decode prog_14_method_57_code 37 = .ok (.aload_n 1, 1) := by decide +kernel
theorem dc12_canSell_38 : decode prog_14_method_57_code 38 = .ok (.bipush 24, 2) := by decide +kernel
theorem dc12_canSell_40 : decode prog_14_method_57_code 40 = .ok (.iaload, 1) := by decide +kernel
theorem dc12_canSell_41 : decode prog_14_method_57_code 41 = .ok (.imul, 1) := by decide +kernel
theorem dc12_canSell_42 : decode prog_14_method_57_code 42 = .ok (.istore 5, 2) := by decide +kernel
theorem dc12_canSell_44 : decode prog_14_method_57_code 44 = .ok (.aload_n 1, 1) := by decide +kernel
theorem dc12_canSell_45 : decode prog_14_method_57_code 45 = .ok (.iconst 4, 1) := by decide +kernel
theorem dc12_canSell_46 : decode prog_14_method_57_code 46 = .ok (.iload_n 3, 1) := by decide +kernel
theorem dc12_canSell_47 : decode prog_14_method_57_code 47 = .ok (.imul, 1) := by decide +kernel
theorem dc12_canSell_48 : decode prog_14_method_57_code 48 = .ok (.iconst 3, 1) := by decide +kernel
theorem dc12_canSell_49 : decode prog_14_method_57_code 49 = .ok (.iadd, 1) := by decide +kernel
theorem dc12_canSell_50 : decode prog_14_method_57_code 50 = .ok (.iaload, 1) := by decide +kernel
theorem dc12_canSell_51 : decode prog_14_method_57_code 51 = .ok (.iload 5, 2) := by decide +kernel
theorem dc12_canSell_53 : decode prog_14_method_57_code 53 = .ok (.if_icmp .lt 23, 3) := by decide +kernel
theorem dc12_canSell_56 : decode prog_14_method_57_code 56 = .ok (.aload_n 1, 1) := by decide +kernel
theorem dc12_canSell_57 : decode prog_14_method_57_code 57 = .ok (.iconst 4, 1) := by decide +kernel
theorem dc12_canSell_58 : decode prog_14_method_57_code 58 = .ok (.iload_n 2, 1) := by decide +kernel
theorem dc12_canSell_59 : decode prog_14_method_57_code 59 = .ok (.imul, 1) := by decide +kernel
theorem dc12_canSell_60 : decode prog_14_method_57_code 60 = .ok (.iconst 3, 1) := by decide +kernel
theorem dc12_canSell_61 : decode prog_14_method_57_code 61 = .ok (.iadd, 1) := by decide +kernel
theorem dc12_canSell_62 : decode prog_14_method_57_code 62 = .ok (.iaload, 1) := by decide +kernel
theorem dc12_canSell_63 : decode prog_14_method_57_code 63 = .ok (.iload 5, 2) := by decide +kernel
theorem dc12_canSell_65 : decode prog_14_method_57_code 65 = .ok (.iadd, 1) := by decide +kernel
theorem dc12_canSell_66 : decode prog_14_method_57_code 66 = .ok (.sipush 999, 3) := by decide +kernel
theorem dc12_canSell_69 : decode prog_14_method_57_code 69 = .ok (.if_icmp .gt 7, 3) := by decide +kernel
theorem dc12_canSell_72 : decode prog_14_method_57_code 72 = .ok (.iconst 1, 1) := by decide +kernel
theorem dc12_canSell_73 : decode prog_14_method_57_code 73 = .ok (.goto 4, 3) := by decide +kernel
theorem dc12_canSell_76 : decode prog_14_method_57_code 76 = .ok (.iconst 0, 1) := by decide +kernel
theorem dc12_canSell_77 : decode prog_14_method_57_code 77 = .ok (.ireturn, 1) := by decide +kernel
theorem dc12_sells_0 : decode prog_14_method_58_code 0 = .ok (.iload_n 3, 1) := by decide +kernel
theorem dc12_sells_1 : decode prog_14_method_58_code 1 = .ok (.aload_n 0, 1) := by decide +kernel
theorem dc12_sells_2 : decode prog_14_method_58_code 2 = .ok (.bipush 24, 2) := by decide +kernel
theorem dc12_sells_4 : decode prog_14_method_58_code 4 = .ok (.iaload, 1) := by decide +kernel
theorem dc12_sells_5 : decode prog_14_method_58_code 5 = .ok (.imul, 1) := by decide +kernel
theorem dc12_sells_6 : decode prog_14_method_58_code 6 = .ok (.istore 4, 2) := by decide +kernel
theorem dc12_sells_8 : decode prog_14_method_58_code 8 = .ok (.aload_n 0, 1) := by decide +kernel
theorem dc12_sells_9 : decode prog_14_method_58_code 9 = .ok (.iconst 4, 1) := by decide +kernel
theorem dc12_sells_10 : decode prog_14_method_58_code 10 = .ok (.iload_n 1, 1) := by decide +kernel
theorem dc12_sells_11 : decode prog_14_method_58_code 11 = .ok (.imul, 1) := by decide +kernel
theorem dc12_sells_12 : decode prog_14_method_58_code 12 = .ok (.iconst 0, 1) := by decide +kernel
theorem dc12_sells_13 : decode prog_14_method_58_code 13 = .ok (.iadd, 1) := by decide +kernel
theorem dc12_sells_14 : decode prog_14_method_58_code 14 = .ok (.dup2, 1) := by decide +kernel
theorem dc12_sells_15 : decode prog_14_method_58_code 15 = .ok (.iaload, 1) := by decide +kernel
theorem dc12_sells_16 : decode prog_14_method_58_code 16 = .ok (.iload_n 3, 1) := by decide +kernel
theorem dc12_sells_17 : decode prog_14_method_58_code 17 = .ok (.isub, 1) := by decide +kernel
theorem dc12_sells_18 : decode prog_14_method_58_code 18 = .ok (.iastore, 1) := by decide +kernel
theorem dc12_sells_19 : decode prog_14_method_58_code 19 = .ok (.aload_n 0, 1) := by decide +kernel
theorem dc12_sells_20 : decode prog_14_method_58_code 20 = .ok (.iconst 4, 1) := by decide +kernel
theorem dc12_sells_21 : decode prog_14_method_58_code 21 = .ok (.iload_n 2, 1) := by decide +kernel
theorem dc12_sells_22 : decode prog_14_method_58_code 22 = .ok (.imul, 1) := by decide +kernel
theorem dc12_sells_23 : decode prog_14_method_58_code 23 = .ok (.iconst 0, 1) := by decide +kernel
theorem dc12_sells_24 : decode prog_14_method_58_code 24 = .ok (.iadd, 1) := by decide +kernel
theorem dc12_sells_25 : decode prog_14_method_58_code 25 = .ok (.sipush 999, 3) := by decide +kernel
theorem dc12_sells_28 : decode prog_14_method_58_code 28 = .ok (.aload_n 0, 1) := by decide +kernel
theorem dc12_sells_29 : decode prog_14_method_58_code 29 = .ok (.iconst 4, 1) := by decide +kernel
theorem dc12_sells_30 : decode prog_14_method_58_code 30 = .ok (.iload_n 2, 1) := by decide +kernel
theorem dc12_sells_31 : decode prog_14_method_58_code 31 = .ok (.imul, 1) := by decide +kernel
theorem dc12_sells_32 : decode prog_14_method_58_code 32 = .ok (.iconst 0, 1) := by decide +kernel
theorem dc12_sells_33 : decode prog_14_method_58_code 33 = .ok (.iadd, 1) := by decide +kernel
theorem dc12_sells_34 : decode prog_14_method_58_code 34 = .ok (.iaload, 1) := by decide +kernel
theorem dc12_sells_35 : decode prog_14_method_58_code 35 = .ok (.iload_n 3, 1) := by decide +kernel
theorem dc12_sells_36 : decode prog_14_method_58_code 36 = .ok (.iadd, 1) := by decide +kernel
theorem dc12_sells_37 : decode prog_14_method_58_code 37 = .ok (.invokestatic 324, 3) := by decide +kernel
theorem dc12_sells_40 : decode prog_14_method_58_code 40 = .ok (.iastore, 1) := by decide +kernel
theorem dc12_sells_41 : decode prog_14_method_58_code 41 = .ok (.aload_n 0, 1) := by decide +kernel
theorem dc12_sells_42 : decode prog_14_method_58_code 42 = .ok (.iconst 4, 1) := by decide +kernel
theorem dc12_sells_43 : decode prog_14_method_58_code 43 = .ok (.iload_n 1, 1) := by decide +kernel
theorem dc12_sells_44 : decode prog_14_method_58_code 44 = .ok (.imul, 1) := by decide +kernel
theorem dc12_sells_45 : decode prog_14_method_58_code 45 = .ok (.iconst 3, 1) := by decide +kernel
theorem dc12_sells_46 : decode prog_14_method_58_code 46 = .ok (.iadd, 1) := by decide +kernel
theorem dc12_sells_47 : decode prog_14_method_58_code 47 = .ok (.dup2, 1) := by decide +kernel
theorem dc12_sells_48 : decode prog_14_method_58_code 48 = .ok (.iaload, 1) := by decide +kernel
theorem dc12_sells_49 : decode prog_14_method_58_code 49 = .ok (.iload 4, 2) := by decide +kernel
theorem dc12_sells_51 : decode prog_14_method_58_code 51 = .ok (.iadd, 1) := by decide +kernel
theorem dc12_sells_52 : decode prog_14_method_58_code 52 = .ok (.iastore, 1) := by decide +kernel
theorem dc12_sells_53 : decode prog_14_method_58_code 53 = .ok (.aload_n 0, 1) := by decide +kernel
theorem dc12_sells_54 : decode prog_14_method_58_code 54 = .ok (.iconst 4, 1) := by decide +kernel
theorem dc12_sells_55 : decode prog_14_method_58_code 55 = .ok (.iload_n 2, 1) := by decide +kernel
theorem dc12_sells_56 : decode prog_14_method_58_code 56 = .ok (.imul, 1) := by decide +kernel
theorem dc12_sells_57 : decode prog_14_method_58_code 57 = .ok (.iconst 3, 1) := by decide +kernel
theorem dc12_sells_58 : decode prog_14_method_58_code 58 = .ok (.iadd, 1) := by decide +kernel
theorem dc12_sells_59 : decode prog_14_method_58_code 59 = .ok (.dup2, 1) := by decide +kernel
theorem dc12_sells_60 : decode prog_14_method_58_code 60 = .ok (.iaload, 1) := by decide +kernel
theorem dc12_sells_61 : decode prog_14_method_58_code 61 = .ok (.iload 4, 2) := by decide +kernel
theorem dc12_sells_63 : decode prog_14_method_58_code 63 = .ok (.isub, 1) := by decide +kernel
theorem dc12_sells_64 : decode prog_14_method_58_code 64 = .ok (.iastore, 1) := by decide +kernel
theorem dc12_sells_65 : decode prog_14_method_58_code 65 = .ok (.return_, 1) := by decide +kernel
theorem dc12_forgive_0 : decode prog_14_method_62_code 0 = .ok (.aload_n 0, 1) := by decide +kernel
theorem dc12_forgive_1 : decode prog_14_method_62_code 1 = .ok (.iconst 0, 1) := by decide +kernel
theorem dc12_forgive_2 : decode prog_14_method_62_code 2 = .ok (.putfield 100, 3) := by decide +kernel
theorem dc12_forgive_5 : decode prog_14_method_62_code 5 = .ok (.aload_n 0, 1) := by decide +kernel
theorem dc12_forgive_6 : decode prog_14_method_62_code 6 = .ok (.aload_n 0, 1) := by decide +kernel
theorem dc12_forgive_7 : decode prog_14_method_62_code 7 = .ok (.getfield 55, 3) := by decide +kernel
theorem dc12_forgive_10 : decode prog_14_method_62_code 10 = .ok (.iload_n 1, 1) := by decide +kernel
theorem dc12_forgive_11 : decode prog_14_method_62_code 11 = .ok (.iload_n 2, 1) := by decide +kernel
theorem dc12_forgive_12 : decode prog_14_method_62_code 12 = .ok (.invokevirtual 379, 3) := by decide +kernel
theorem dc12_forgive_15 : decode prog_14_method_62_code 15 = .ok (.ifCond .ne 5, 3) := by decide +kernel
theorem dc12_forgive_18 : decode prog_14_method_62_code 18 = .ok (.iconst (-1), 1) := by decide +kernel
theorem dc12_forgive_19 : decode prog_14_method_62_code 19 = .ok (.ireturn, 1) := by decide +kernel
theorem dc12_forgive_20 : decode prog_14_method_62_code 20 = .ok (.aload_n 0, 1) := by decide +kernel
theorem dc12_forgive_21 : decode prog_14_method_62_code 21 = .ok (.invokevirtual 366, 3) := by decide +kernel
theorem dc12_forgive_24 : decode prog_14_method_62_code 24 = .ok (.aload_n 0, 1) := by decide +kernel
theorem dc12_forgive_25 : decode prog_14_method_62_code 25 = .ok (.aload_n 0, 1) := by decide +kernel
theorem dc12_forgive_26 : decode prog_14_method_62_code 26 = .ok (.getfield 55, 3) := by decide +kernel
theorem dc12_forgive_29 : decode prog_14_method_62_code 29 = .ok (.iload_n 1, 1) := by decide +kernel
theorem dc12_forgive_30 : decode prog_14_method_62_code 30 = .ok (.iload_n 2, 1) := by decide +kernel
theorem dc12_forgive_31 : decode prog_14_method_62_code 31 = .ok (.invokevirtual 383, 3) := by decide +kernel
theorem dc12_forgive_34 : decode prog_14_method_62_code 34 = .ok (.aload_n 0, 1) := by decide +kernel
theorem dc12_forgive_35 : decode prog_14_method_62_code 35 = .ok (.getfield 55, 3) := by decide +kernel
theorem dc12_forgive_38 : decode prog_14_method_62_code 38 = .ok (.iconst 4, 1) := by decide +kernel
theorem dc12_forgive_39 : decode prog_14_method_62_code 39 = .ok (.iload_n 1, 1) := by decide +kernel
theorem dc12_forgive_40 : decode prog_14_method_62_code 40 = .ok (.imul, 1) := by decide +kernel
theorem dc12_forgive_41 : decode prog_14_method_62_code 41 = .ok (.iconst 0, 1) := by decide +kernel
theorem dc12_forgive_42 : decode prog_14_method_62_code 42 = .ok (.iadd, 1) := by decide +kernel
theorem dc12_forgive_43 : decode prog_14_method_62_code 43 = .ok (.iaload, 1) := by decide +kernel
theorem dc12_forgive_44 : decode prog_14_method_62_code 44 = .ok (.ireturn, 1) := by decide +kernel
theorem dc12_canForgive_0 : decode prog_14_method_60_code 0 = .ok (.aload_n 0, 1) := by decide +kernel
theorem dc12_canForgive_1 : decode prog_14_method_60_code 1 = .ok (.iload_n 2, 1) := by decide +kernel
theorem dc12_canForgive_2 : decode prog_14_method_60_code 2 = .ok (.invokevirtual 353, 3) := by decide +kernel
theorem dc12_canForgive_5 : decode prog_14_method_60_code 5 = .ok (.ifCond .eq 30, 3) := by decide +kernel
theorem dc12_canForgive_8 : decode prog_14_method_60_code 8 = .ok (.iload_n 3, 1) := by decide +kernel
theorem dc12_canForgive_9 : decode prog_14_method_60_code 9 = .ok (.i2l, 1) := by decide +kernel
theorem dc12_canForgive_10 : decode prog_14_method_60_code 10 = .ok (.lconst 1, 1) := by decide +kernel
theorem dc12_canForgive_11 : decode prog_14_method_60_code 11 = .ok (.ldc2_w 369, 3) := by decide +kernel
theorem dc12_canForgive_14 : decode prog_14_method_60_code 14 = .ok (.invokestatic 221, 3) := by decide +kernel
theorem dc12_canForgive_17 : decode prog_14_method_60_code 17 = .ok (.ifCond .eq 18, 3) := by decide +kernel
theorem dc12_canForgive_20 : decode prog_14_method_60_code 20 = .ok (.iload_n 3, 1) := by decide +kernel
theorem dc12_canForgive_21 : decode prog_14_method_60_code 21 = .ok (.aload_n 1, 1) := by decide +kernel
theorem dc12_canForgive_22 : decode prog_14_method_60_code 22 = .ok (.iconst 4, 1) := by decide +kernel
theorem dc12_canForgive_23 : decode prog_14_method_60_code 23 = .ok (.iload_n 2, 1) := by decide +kernel
theorem dc12_canForgive_24 : decode prog_14_method_60_code 24 = .ok (.imul, 1) := by decide +kernel
theorem dc12_canForgive_25 : decode prog_14_method_60_code 25 = .ok (.iconst 0, 1) := by decide +kernel
theorem dc12_canForgive_26 : decode prog_14_method_60_code 26 = .ok (.iadd, 1) := by decide +kernel
theorem dc12_canForgive_27 : decode prog_14_method_60_code 27 = .ok (.iaload, 1) := by decide +kernel
theorem dc12_canForgive_28 : decode prog_14_method_60_code 28 = .ok (.if_icmp .gt 7, 3) := by decide +kernel
theorem dc12_canForgive_31 : decode prog_14_method_60_code 31 = .ok (.iconst 1, 1) := by decide +kernel
theorem dc12_canForgive_32 : decode prog_14_method_60_code 32 = .ok (.goto 4, 3) := by decide +kernel
theorem dc12_canForgive_35 : decode prog_14_method_60_code 35 = .ok (.iconst 0, 1) := by decide +kernel
theorem dc12_canForgive_36 : decode prog_14_method_60_code 36 = .ok (.ireturn, 1) := by decide +kernel
theorem dc12_forgives_0 : decode prog_14_method_61_code 0 = .ok (.aload_n 1, 1) := by decide +kernel
theorem dc12_forgives_1 : decode prog_14_method_61_code 1 = .ok (.iconst 4, 1) := by decide +kernel
theorem dc12_forgives_2 : decode prog_14_method_61_code 2 = .ok (.iload_n 2, 1) := by decide +kernel
theorem dc12_forgives_3 : decode prog_14_method_61_code 3 = .ok (.imul, 1) := by decide +kernel
theorem dc12_forgives_4 : decode prog_14_method_61_code 4 = .ok (.iconst 0, 1) := by decide +kernel
theorem dc12_forgives_5 : decode prog_14_method_61_code 5 = .ok (.iadd, 1) := by decide +kernel
theorem dc12_forgives_6 : decode prog_14_method_61_code 6 = .ok (.dup2, 1) := by decide +kernel
theorem dc12_forgives_7 : decode prog_14_method_61_code 7 = .ok (.iaload, 1) := by decide +kernel
theorem dc12_forgives_8 : decode prog_14_method_61_code 8 = .ok (.iload_n 3, 1) := by decide +kernel
theorem dc12_forgives_9 : decode prog_14_method_61_code 9 = .ok (.isub, 1) := by decide +kernel
theorem dc12_forgives_10 : decode prog_14_method_61_code 10 = .ok (.iastore, 1) := by decide +kernel
theorem dc12_forgives_11 : decode prog_14_method_61_code 11 = .ok (.iconst 0, 1) := by decide +kernel
theorem dc12_forgives_12 : decode prog_14_method_61_code 12 = .ok (.istore 4, 2) := by decide +kernel
theorem dc12_forgives_14 : decode prog_14_method_61_code 14 = .ok (.iload 4, 2) := by decide +kernel
theorem dc12_forgives_16 : decode prog_14_method_61_code 16 = .ok (.aload_n 0, 1) := by decide +kernel
theorem dc12_forgives_17 : decode prog_14_method_61_code 17 = .ok (.getfield 290, 3) := by decide +kernel
theorem dc12_forgives_20 : decode prog_14_method_61_code 20 = .ok (.if_icmp .ge 32, 3) := by decide +kernel
theorem dc12_forgives_23 : decode prog_14_method_61_code 23 = .ok (.aload_n 1, 1) := by decide +kernel
theorem dc12_forgives_24 : decode prog_14_method_61_code 24 = .ok (.iconst 4, 1) := by decide +kernel
theorem dc12_forgives_25 : decode prog_14_method_61_code 25 = .ok (.iload 4, 2) := by decide +kernel
theorem dc12_forgives_27 : decode prog_14_method_61_code 27 = .ok (.imul, 1) := by decide +kernel
theorem dc12_forgives_28 : decode prog_14_method_61_code 28 = .ok (.iconst 2, 1) := by decide +kernel
theorem dc12_forgives_29 : decode prog_14_method_61_code 29 = .ok (.iadd, 1) := by decide +kernel
theorem dc12_forgives_30 : decode prog_14_method_61_code 30 = .ok (.bipush 30, 2) := by decide +kernel
theorem dc12_forgives_32 : decode prog_14_method_61_code 32 = .ok (.aload_n 1, 1) := by decide +kernel
theorem dc12_forgives_33 : decode prog_14_method_61_code 33 = .ok (.iconst 4, 1) := by decide +kernel
theorem dc12_forgives_34 : decode prog_14_method_61_code 34 = .ok (.iload 4, 2) := by decide +kernel
theorem dc12_forgives_36 : decode prog_14_method_61_code 36 = .ok (.imul, 1) := by decide +kernel
theorem dc12_forgives_37 : decode prog_14_method_61_code 37 = .ok (.iconst 2, 1) := by decide +kernel
theorem dc12_forgives_38 : decode prog_14_method_61_code 38 = .ok (.iadd, 1) := by decide +kernel
theorem dc12_forgives_39 : decode prog_14_method_61_code 39 = .ok (.iaload, 1) := by decide +kernel
theorem dc12_forgives_40 : decode prog_14_method_61_code 40 = .ok (.iconst 1, 1) := by decide +kernel
theorem dc12_forgives_41 : decode prog_14_method_61_code 41 = .ok (.iadd, 1) := by decide +kernel
theorem dc12_forgives_42 : decode prog_14_method_61_code 42 = .ok (.invokestatic 324, 3) := by decide +kernel
theorem dc12_forgives_45 : decode prog_14_method_61_code 45 = .ok (.iastore, 1) := by decide +kernel
theorem dc12_forgives_46 : decode prog_14_method_61_code 46 = .ok (.iinc 4 1, 3) := by decide +kernel
theorem dc12_forgives_49 : decode prog_14_method_61_code 49 = .ok (.goto (-35), 3) := by decide +kernel
theorem dc12_forgives_52 : decode prog_14_method_61_code 52 = .ok (.return_, 1) := by decide +kernel
theorem dc12_hedge_0 : decode prog_14_method_65_code 0 = .ok (.aload_n 0, 1) := by decide +kernel
theorem dc12_hedge_1 : decode prog_14_method_65_code 1 = .ok (.iconst 0, 1) := by decide +kernel
theorem dc12_hedge_2 : decode prog_14_method_65_code 2 = .ok (.putfield 100, 3) := by decide +kernel
theorem dc12_hedge_5 : decode prog_14_method_65_code 5 = .ok (.aload_n 0, 1) := by decide +kernel
theorem dc12_hedge_6 : decode prog_14_method_65_code 6 = .ok (.aload_n 0, 1) := by decide +kernel
theorem dc12_hedge_7 : decode prog_14_method_65_code 7 = .ok (.getfield 55, 3) := by decide +kernel
theorem dc12_hedge_10 : decode prog_14_method_65_code 10 = .ok (.iload_n 1, 1) := by decide +kernel
theorem dc12_hedge_11 : decode prog_14_method_65_code 11 = .ok (.invokevirtual 387, 3) := by decide +kernel
theorem dc12_hedge_14 : decode prog_14_method_65_code 14 = .ok (.ifCond .ne 5, 3) := by decide +kernel
theorem dc12_hedge_17 : decode prog_14_method_65_code 17 = .ok (.iconst (-1), 1) := by decide +kernel
theorem dc12_hedge_18 : decode prog_14_method_65_code 18 = .ok (.ireturn, 1) := by decide +kernel
theorem dc12_hedge_19 : decode prog_14_method_65_code 19 = .ok (.aload_n 0, 1) := by decide +kernel
theorem dc12_hedge_20 : decode prog_14_method_65_code 20 = .ok (.invokevirtual 366, 3) := by decide +kernel
theorem dc12_hedge_23 : decode prog_14_method_65_code 23 = .ok (.aload_n 0, 1) := by decide +kernel
theorem dc12_hedge_24 : decode prog_14_method_65_code 24 = .ok (.getfield 55, 3) := by decide +kernel
theorem dc12_hedge_27 : decode prog_14_method_65_code 27 = .ok (.iload_n 1, 1) := by decide +kernel
theorem dc12_hedge_28 : decode prog_14_method_65_code 28 = .ok (.invokestatic 391, 3) := by decide +kernel
theorem dc12_hedge_31 : decode prog_14_method_65_code 31 = .ok (.aload_n 0, 1) := by decide +kernel
theorem dc12_hedge_32 : decode prog_14_method_65_code 32 = .ok (.getfield 55, 3) := by decide +kernel
theorem dc12_hedge_35 : decode prog_14_method_65_code 35 = .ok (.iconst 4, 1) := by decide +kernel
theorem dc12_hedge_36 : decode prog_14_method_65_code 36 = .ok (.iload_n 1, 1) := by decide +kernel
theorem dc12_hedge_37 : decode prog_14_method_65_code 37 = .ok (.imul, 1) := by decide +kernel
theorem dc12_hedge_38 : decode prog_14_method_65_code 38 = .ok (.iconst 0, 1) := by decide +kernel
theorem dc12_hedge_39 : decode prog_14_method_65_code 39 = .ok (.iadd, 1) := by decide +kernel
theorem dc12_hedge_40 : decode prog_14_method_65_code 40 = .ok (.iaload, 1) := by decide +kernel
theorem dc12_hedge_41 : decode prog_14_method_65_code 41 = .ok (.ireturn, 1) := by decide +kernel
theorem dc12_canHedge_0 : decode prog_14_method_63_code 0 = .ok (.aload_n 0, 1) := by decide +kernel
theorem dc12_canHedge_1 : decode prog_14_method_63_code 1 = .ok (.iload_n 2, 1) := by decide +kernel
theorem dc12_canHedge_2 : decode prog_14_method_63_code 2 = .ok (.invokevirtual 353, 3) := by decide +kernel
theorem dc12_canHedge_5 : decode prog_14_method_63_code 5 = .ok (.ifCond .eq 13, 3) := by decide +kernel
theorem dc12_canHedge_8 : decode prog_14_method_63_code 8 = .ok (.iload_n 2, 1) := by decide +kernel
theorem dc12_canHedge_9 : decode prog_14_method_63_code 9 = .ok (.iconst 1, 1) := by decide +kernel
theorem dc12_canHedge_10 : decode prog_14_method_63_code 10 = .ok (.iadd, 1) := by decide +kernel
theorem dc12_canHedge_11 : decode prog_14_method_63_code 11 = .ok (.aload_n 0, 1) := by decide +kernel
theorem dc12_canHedge_12 : decode prog_14_method_63_code 12 = .ok (.getfield 290, 3) := by decide +kernel
theorem dc12_canHedge_15 : decode prog_14_method_63_code 15 = .ok (.if_icmp .ne 5, 3) := by decide +kernel
theorem dc12_canHedge_18 : decode prog_14_method_63_code 18 = .ok (.iconst 0, 1) := by decide +kernel
theorem dc12_canHedge_19 : decode prog_14_method_63_code 19 = .ok (.ireturn, 1) := by decide +kernel
theorem dc12_canHedge_20 : decode prog_14_method_63_code 20 = .ok (.aload_n 1, 1) := by decide +kernel
theorem dc12_canHedge_21 : decode prog_14_method_63_code 21 = .ok (.iconst 4, 1) := by decide +kernel
theorem dc12_canHedge_22 : decode prog_14_method_63_code 22 = .ok (.iload_n 2, 1) := by decide +kernel
theorem dc12_canHedge_23 : decode prog_14_method_63_code 23 = .ok (.imul, 1) := by decide +kernel
theorem dc12_canHedge_24 : decode prog_14_method_63_code 24 = .ok (.iconst 0, 1) := by decide +kernel
theorem dc12_canHedge_25 : decode prog_14_method_63_code 25 = .ok (.iadd, 1) := by decide +kernel
theorem dc12_canHedge_26 : decode prog_14_method_63_code 26 = .ok (.iaload, 1) := by decide +kernel
theorem dc12_canHedge_27 : decode prog_14_method_63_code 27 = .ok (.aload_n 1, 1) := by decide +kernel
theorem dc12_canHedge_28 : decode prog_14_method_63_code 28 = .ok (.iconst 4, 1) := by decide +kernel
theorem dc12_canHedge_29 : decode prog_14_method_63_code 29 = .ok (.iload_n 2, 1) := by decide +kernel
theorem dc12_canHedge_30 : decode prog_14_method_63_code 30 = .ok (.imul, 1) := by decide +kernel
theorem dc12_canHedge_31 : decode prog_14_method_63_code 31 = .ok (.iconst 4, 1) := by decide +kernel
theorem dc12_canHedge_32 : decode prog_14_method_63_code 32 = .ok (.iadd, 1) := by decide +kernel
theorem dc12_canHedge_33 : decode prog_14_method_63_code 33 = .ok (.iconst 0, 1) := by decide +kernel
theorem dc12_canHedge_34 : decode prog_14_method_63_code 34 = .ok (.iadd, 1) := by decide +kernel
theorem dc12_canHedge_35 : decode prog_14_method_63_code 35 = .ok (.iaload, 1) := by decide +kernel
theorem dc12_canHedge_36 : decode prog_14_method_63_code 36 = .ok (.if_icmp .ne 22, 3) := by decide +kernel
theorem dc12_canHedge_39 : decode prog_14_method_63_code 39 = .ok (.aload_n 1, 1) := by decide +kernel
theorem dc12_canHedge_40 : decode prog_14_method_63_code 40 = .ok (.iconst 4, 1) := by decide +kernel
theorem dc12_canHedge_41 : decode prog_14_method_63_code 41 = .ok (.iload_n 2, 1) := by decide +kernel
theorem dc12_canHedge_42 : decode prog_14_method_63_code 42 = .ok (.imul, 1) := by decide +kernel
theorem dc12_canHedge_43 : decode prog_14_method_63_code 43 = .ok (.iconst 1, 1) := by decide +kernel
theorem dc12_canHedge_44 : decode prog_14_method_63_code 44 = .ok (.iadd, 1) := by decide +kernel
theorem dc12_canHedge_45 : decode prog_14_method_63_code 45 = .ok (.iaload, 1) := by decide +kernel
theorem dc12_canHedge_46 : decode prog_14_method_63_code 46 = .ok (.aload_n 1, 1) := by decide +kernel
theorem dc12_canHedge_47 : decode prog_14_method_63_code 47 = .ok (.iconst 4, 1) := by decide +kernel
theorem dc12_canHedge_48 : decode prog_14_method_63_code 48 = .ok (.iload_n 2, 1) := by decide +kernel
theorem dc12_canHedge_49 : decode prog_14_method_63_code 49 = .ok (.imul, 1) := by decide +kernel
theorem dc12_canHedge_50 : decode prog_14_method_63_code 50 = .ok (.iconst 4, 1) := by decide +kernel
theorem dc12_canHedge_51 : decode prog_14_method_63_code 51 = .ok (.iadd, 1) := by decide +kernel
theorem dc12_canHedge_52 : decode prog_14_method_63_code 52 = .ok (.iconst 1, 1) := by decide +kernel
theorem dc12_canHedge_53 : decode prog_14_method_63_code 53 = .ok (.iadd, 1) := by decide +kernel
theorem dc12_canHedge_54 : decode prog_14_method_63_code 54 = .ok (.iaload, 1) := by decide +kernel
theorem dc12_canHedge_55 : decode prog_14_method_63_code 55 = .ok (.if_icmp .eq 7, 3) := by decide +kernel
theorem dc12_canHedge_58 : decode prog_14_method_63_code 58 = .ok (.iconst 1, 1) := by decide +kernel
theorem dc12_canHedge_59 : decode prog_14_method_63_code 59 = .ok (.goto 4, 3) := by decide +kernel
theorem dc12_canHedge_62 : decode prog_14_method_63_code 62 = .ok (.iconst 0, 1) := by decide +kernel
theorem dc12_canHedge_63 : decode prog_14_method_63_code 63 = .ok (.ireturn, 1) := by decide +kernel
theorem dc12_hedges_0 : decode prog_14_method_64_code 0 = .ok (.iconst 0, 1) := by decide +kernel
theorem dc12_hedges_1 : decode prog_14_method_64_code 1 = .ok (.istore_n 2, 1) := by decide +kernel
theorem dc12_hedges_2 : decode prog_14_method_64_code 2 = .ok (.iload_n 2, 1) := by decide +kernel
theorem dc12_hedges_3 : decode prog_14_method_64_code 3 = .ok (.iconst 2, 1) := by decide +kernel
theorem dc12_hedges_4 : decode prog_14_method_64_code 4 = .ok (.if_icmp .ge 43, 3) := by decide +kernel
theorem dc12_hedges_7 : decode prog_14_method_64_code 7 = .ok (.aload_n 0, 1) := by decide +kernel
theorem dc12_hedges_8 : decode prog_14_method_64_code 8 = .ok (.iconst 4, 1) := by decide +kernel
theorem dc12_hedges_9 : decode prog_14_method_64_code 9 = .ok (.iload_n 1, 1) := by decide +kernel
theorem dc12_hedges_10 : decode prog_14_method_64_code 10 = .ok (.imul, 1) := by decide +kernel
theorem dc12_hedges_11 : decode prog_14_method_64_code 11 = .ok (.iload_n 2, 1) := by decide +kernel
theorem dc12_hedges_12 : decode prog_14_method_64_code 12 = .ok (.iadd, 1) := by decide +kernel
theorem dc12_hedges_13 : decode prog_14_method_64_code 13 = .ok (.iaload, 1) := by decide +kernel
theorem dc12_hedges_14 : decode prog_14_method_64_code 14 = .ok (.istore_n 3, 1) := by decide +kernel
theorem dc12_hedges_15 : decode prog_14_method_64_code 15 = .ok (.aload_n 0, 1) := by decide +kernel
theorem dc12_hedges_16 : decode prog_14_method_64_code 16 = .ok (.iconst 4, 1) := by decide +kernel
theorem dc12_hedges_17 : decode prog_14_method_64_code 17 = .ok (.iload_n 1, 1) := by decide +kernel
theorem dc12_hedges_18 : decode prog_14_method_64_code 18 = .ok (.imul, 1) := by decide +kernel
theorem dc12_hedges_19 : decode prog_14_method_64_code 19 = .ok (.iload_n 2, 1) := by decide +kernel
theorem dc12_hedges_20 : decode prog_14_method_64_code 20 = .ok (.iadd, 1) := by decide +kernel
theorem dc12_hedges_21 : decode prog_14_method_64_code 21 = .ok (.aload_n 0, 1) := by decide +kernel
theorem dc12_hedges_22 : decode prog_14_method_64_code 22 = .ok (.iconst 4, 1) := by decide +kernel
theorem dc12_hedges_23 : decode prog_14_method_64_code 23 = .ok (.iload_n 1, 1) := by decide +kernel
theorem dc12_hedges_24 : decode prog_14_method_64_code 24 = .ok (.imul, 1) := by decide +kernel
theorem dc12_hedges_25 : decode prog_14_method_64_code 25 = .ok (.iconst 4, 1) := by decide +kernel
theorem dc12_hedges_26 : decode prog_14_method_64_code 26 = .ok (.iadd, 1) := by decide +kernel
theorem dc12_hedges_27 : decode prog_14_method_64_code 27 = .ok (.iload_n 2, 1) := by decide +kernel
theorem dc12_hedges_28 : decode prog_14_method_64_code 28 = .ok (.iadd, 1) := by decide +kernel
theorem dc12_hedges_29 : decode prog_14_method_64_code 29 = .ok (.iaload, 1) := by decide +kernel
theorem dc12_hedges_30 : decode prog_14_method_64_code 30 = .ok (.iastore, 1) := by decide +kernel
theorem dc12_hedges_31 : decode prog_14_method_64_code 31 = .ok (.aload_n 0, 1) := by decide +kernel
theorem dc12_hedges_32 : decode prog_14_method_64_code 32 = .ok (.iconst 4, 1) := by decide +kernel
theorem dc12_hedges_33 : decode prog_14_method_64_code 33 = .ok (.iload_n 1, 1) := by decide +kernel
theorem dc12_hedges_34 : decode prog_14_method_64_code 34 = .ok (.imul, 1) := by decide +kernel
theorem dc12_hedges_35 : decode prog_14_method_64_code 35 = .ok (.iconst 4, 1) := by decide +kernel
theorem dc12_hedges_36 : decode prog_14_method_64_code 36 = .ok (.iadd, 1) := by decide +kernel
theorem dc12_hedges_37 : decode prog_14_method_64_code 37 = .ok (.iload_n 2, 1) := by decide +kernel
theorem dc12_hedges_38 : decode prog_14_method_64_code 38 = .ok (.iadd, 1) := by decide +kernel
theorem dc12_hedges_39 : decode prog_14_method_64_code 39 = .ok (.iload_n 3, 1) := by decide +kernel
theorem dc12_hedges_40 : decode prog_14_method_64_code 40 = .ok (.iastore, 1) := by decide +kernel
theorem dc12_hedges_41 : decode prog_14_method_64_code 41 = .ok (.iinc 2 1, 3) := by decide +kernel
theorem dc12_hedges_44 : decode prog_14_method_64_code 44 = .ok (.goto (-42), 3) := by decide +kernel
theorem dc12_hedges_47 : decode prog_14_method_64_code 47 = .ok (.return_, 1) := by decide +kernel
theorem dc12_can_0 : decode prog_14_method_68_code 0 = .ok (.aload_n 0, 1) := by decide +kernel
theorem dc12_can_1 : decode prog_14_method_68_code 1 = .ok (.iconst 0, 1) := by decide +kernel
theorem dc12_can_2 : decode prog_14_method_68_code 2 = .ok (.putfield 100, 3) := by decide +kernel
theorem dc12_can_5 : decode prog_14_method_68_code 5 = .ok (.aload_n 0, 1) := by decide +kernel
theorem dc12_can_6 : decode prog_14_method_68_code 6 = .ok (.aload_n 0, 1) := by decide +kernel
theorem dc12_can_7 : decode prog_14_method_68_code 7 = .ok (.getfield 55, 3) := by decide +kernel
theorem dc12_can_10 : decode prog_14_method_68_code 10 = .ok (.iload_n 1, 1) := by decide +kernel
theorem dc12_can_11 : decode prog_14_method_68_code 11 = .ok (.invokevirtual 394, 3) := by decide +kernel
theorem dc12_can_14 : decode prog_14_method_68_code 14 = .ok (.ifCond .ne 5, 3) := by decide +kernel
theorem dc12_can_17 : decode prog_14_method_68_code 17 = .ok (.iconst (-1), 1) := by decide +kernel
theorem dc12_can_18 : decode prog_14_method_68_code 18 = .ok (.ireturn, 1) := by decide +kernel
theorem dc12_can_19 : decode prog_14_method_68_code 19 = .ok (.aload_n 0, 1) := by decide +kernel
theorem dc12_can_20 : decode prog_14_method_68_code 20 = .ok (.invokevirtual 366, 3) := by decide +kernel
theorem dc12_can_23 : decode prog_14_method_68_code 23 = .ok (.aload_n 0, 1) := by decide +kernel
theorem dc12_can_24 : decode prog_14_method_68_code 24 = .ok (.getfield 55, 3) := by decide +kernel
theorem dc12_can_27 : decode prog_14_method_68_code 27 = .ok (.iload_n 1, 1) := by decide +kernel
theorem dc12_can_28 : decode prog_14_method_68_code 28 = .ok (.invokestatic 397, 3) := by decide +kernel
theorem dc12_can_31 : decode prog_14_method_68_code 31 = .ok (.aload_n 0, 1) := by decide +kernel
theorem dc12_can_32 : decode prog_14_method_68_code 32 = .ok (.getfield 55, 3) := by decide +kernel
theorem dc12_can_35 : decode prog_14_method_68_code 35 = .ok (.iconst 4, 1) := by decide +kernel
theorem dc12_can_36 : decode prog_14_method_68_code 36 = .ok (.iload_n 1, 1) := by decide +kernel
theorem dc12_can_37 : decode prog_14_method_68_code 37 = .ok (.imul, 1) := by decide +kernel
theorem dc12_can_38 : decode prog_14_method_68_code 38 = .ok (.iconst 2, 1) := by decide +kernel
theorem dc12_can_39 : decode prog_14_method_68_code 39 = .ok (.iadd, 1) := by decide +kernel
theorem dc12_can_40 : decode prog_14_method_68_code 40 = .ok (.iaload, 1) := by decide +kernel
theorem dc12_can_41 : decode prog_14_method_68_code 41 = .ok (.ireturn, 1) := by decide +kernel
theorem dc12_canFill_0 : decode prog_14_method_66_code 0 = .ok (.aload_n 0, 1) := by decide +kernel
theorem dc12_canFill_1 : decode prog_14_method_66_code 1 = .ok (.iload_n 2, 1) := by decide +kernel
theorem dc12_canFill_2 : decode prog_14_method_66_code 2 = .ok (.invokevirtual 353, 3) := by decide +kernel
theorem dc12_canFill_5 : decode prog_14_method_66_code 5 = .ok (.ifCond .eq 30, 3) := by decide +kernel
theorem dc12_canFill_8 : decode prog_14_method_66_code 8 = .ok (.aload_n 1, 1) := by decide +kernel
theorem dc12_canFill_9 : decode prog_14_method_66_code 9 = .ok (.iconst 4, 1) := by decide +kernel
theorem dc12_canFill_10 : decode prog_14_method_66_code 10 = .ok (.iload_n 2, 1) := by decide +kernel
theorem dc12_canFill_11 : decode prog_14_method_66_code 11 = .ok (.imul, 1) := by decide +kernel
theorem dc12_canFill_12 : decode prog_14_method_66_code 12 = .ok (.iconst 3, 1) := by decide +kernel
theorem dc12_canFill_13 : decode prog_14_method_66_code 13 = .ok (.iadd, 1) := by decide +kernel
theorem dc12_canFill_14 : decode prog_14_method_66_code 14 = .ok (.iaload, 1) := by decide +kernel
theorem dc12_canFill_15 : decode prog_14_method_66_code 15 = .ok (.iconst 3, 1) := by decide +kernel
theorem dc12_canFill_16 : decode prog_14_method_66_code 16 = .ok (.if_icmp .lt 19, 3) := by decide +kernel
theorem dc12_canFill_19 : decode prog_14_method_66_code 19 = .ok (.aload_n 1, 1) := by decide +kernel
theorem dc12_canFill_20 : decode prog_14_method_66_code 20 = .ok (.iconst 4, 1) := by decide +kernel
theorem dc12_canFill_21 : decode prog_14_method_66_code 21 = .ok (.iload_n 2, 1) := by decide +kernel
theorem dc12_canFill_22 : decode prog_14_method_66_code 22 = .ok (.imul, 1) := by decide +kernel
theorem dc12_canFill_23 : decode prog_14_method_66_code 23 = .ok (.iconst 2, 1) := by decide +kernel
theorem dc12_canFill_24 : decode prog_14_method_66_code 24 = .ok (.iadd, 1) := by decide +kernel
theorem dc12_canFill_25 : decode prog_14_method_66_code 25 = .ok (.iaload, 1) := by decide +kernel
theorem dc12_canFill_26 : decode prog_14_method_66_code 26 = .ok (.bipush 30, 2) := by decide +kernel
theorem dc12_canFill_28 : decode prog_14_method_66_code 28 = .ok (.if_icmp .ge 7, 3) := by decide +kernel
theorem dc12_canFill_31 : decode prog_14_method_66_code 31 = .ok (.iconst 1, 1) := by decide +kernel
theorem dc12_canFill_32 : decode prog_14_method_66_code 32 = .ok (.goto 4, 3) := by decide +kernel
theorem dc12_canFill_35 : decode prog_14_method_66_code 35 = .ok (.iconst 0, 1) := by decide +kernel
theorem dc12_canFill_36 : decode prog_14_method_66_code 36 = .ok (.ireturn, 1) := by decide +kernel
theorem dc12_fills_0 : decode prog_14_method_67_code 0 = .ok (.aload_n 0, 1) := by decide +kernel
theorem dc12_fills_1 : decode prog_14_method_67_code 1 = .ok (.iconst 4, 1) := by decide +kernel
theorem dc12_fills_2 : decode prog_14_method_67_code 2 = .ok (.iload_n 1, 1) := by decide +kernel
theorem dc12_fills_3 : decode prog_14_method_67_code 3 = .ok (.imul, 1) := by decide +kernel
theorem dc12_fills_4 : decode prog_14_method_67_code 4 = .ok (.iconst 3, 1) := by decide +kernel
theorem dc12_fills_5 : decode prog_14_method_67_code 5 = .ok (.iadd, 1) := by decide +kernel
theorem dc12_fills_6 : decode prog_14_method_67_code 6 = .ok (.dup2, 1) := by decide +kernel
theorem dc12_fills_7 : decode prog_14_method_67_code 7 = .ok (.iaload, 1) := by decide +kernel
theorem dc12_fills_8 : decode prog_14_method_67_code 8 = .ok (.iconst 3, 1) := by decide +kernel
theorem dc12_fills_9 : decode prog_14_method_67_code 9 = .ok (.isub, 1) := by decide +kernel
theorem dc12_fills_10 : decode prog_14_method_67_code 10 = .ok (.iastore, 1) := by decide +kernel
theorem dc12_fills_11 : decode prog_14_method_67_code 11 = .ok (.aload_n 0, 1) := by decide +kernel
theorem dc12_fills_12 : decode prog_14_method_67_code 12 = .ok (.iconst 4, 1) := by decide +kernel
theorem dc12_fills_13 : decode prog_14_method_67_code 13 = .ok (.iload_n 1, 1) := by decide +kernel
theorem dc12_fills_14 : decode prog_14_method_67_code 14 = .ok (.imul, 1) := by decide +kernel
theorem dc12_fills_15 : decode prog_14_method_67_code 15 = .ok (.iconst 2, 1) := by decide +kernel
theorem dc12_fills_16 : decode prog_14_method_67_code 16 = .ok (.iadd, 1) := by decide +kernel
theorem dc12_fills_17 : decode prog_14_method_67_code 17 = .ok (.bipush 30, 2) := by decide +kernel
theorem dc12_fills_19 : decode prog_14_method_67_code 19 = .ok (.aload_n 0, 1) := by decide +kernel
theorem dc12_fills_20 : decode prog_14_method_67_code 20 = .ok (.iconst 4, 1) := by decide +kernel
theorem dc12_fills_21 : decode prog_14_method_67_code 21 = .ok (.iload_n 1, 1) := by decide +kernel
theorem dc12_fills_22 : decode prog_14_method_67_code 22 = .ok (.imul, 1) := by decide +kernel
theorem dc12_fills_23 : decode prog_14_method_67_code 23 = .ok (.iconst 2, 1) := by decide +kernel
theorem dc12_fills_24 : decode prog_14_method_67_code 24 = .ok (.iadd, 1) := by decide +kernel
theorem dc12_fills_25 : decode prog_14_method_67_code 25 = .ok (.iaload, 1) := by decide +kernel
theorem dc12_fills_26 : decode prog_14_method_67_code 26 = .ok (.iconst 2, 1) := by decide +kernel
theorem dc12_fills_27 : decode prog_14_method_67_code 27 = .ok (.iadd, 1) := by decide +kernel
theorem dc12_fills_28 : decode prog_14_method_67_code 28 = .ok (.invokestatic 324, 3) := by decide +kernel
theorem dc12_fills_31 : decode prog_14_method_67_code 31 = .ok (.iastore, 1) := by decide +kernel
theorem dc12_fills_32 : decode prog_14_method_67_code 32 = .ok (.return_, 1) := by decide +kernel
theorem dc12_price_0 : decode prog_14_method_69_code 0 = .ok (.aload_n 0, 1) := by decide +kernel
theorem dc12_price_1 : decode prog_14_method_69_code 1 = .ok (.iconst 0, 1) := by decide +kernel
theorem dc12_price_2 : decode prog_14_method_69_code 2 = .ok (.putfield 100, 3) := by decide +kernel
theorem dc12_price_5 : decode prog_14_method_69_code 5 = .ok (.aload_n 0, 1) := by decide +kernel
theorem dc12_price_6 : decode prog_14_method_69_code 6 = .ok (.getfield 290, 3) := by decide +kernel
theorem dc12_price_9 : decode prog_14_method_69_code 9 = .ok (.ifCond .eq 26, 3) := by decide +kernel
theorem dc12_price_12 : decode prog_14_method_69_code 12 = .ok (.iload_n 1, 1) := by decide +kernel
theorem dc12_price_13 : decode prog_14_method_69_code 13 = .ok (.i2l, 1) := by decide +kernel
theorem dc12_price_14 : decode prog_14_method_69_code 14 = .ok (.lconst 0, 1) := by decide +kernel
theorem dc12_price_15 : decode prog_14_method_69_code 15 = .ok (.ldc2_w 400, 3) := by decide +kernel
theorem dc12_price_18 : decode prog_14_method_69_code 18 = .ok (.invokestatic 221, 3) := by decide +kernel
theorem dc12_price_21 : decode prog_14_method_69_code 21 = .ok (.ifCond .eq 14, 3) := by decide +kernel
theorem dc12_price_24 : decode prog_14_method_69_code 24 = .ok (.aload_n 0, 1) := by decide +kernel
theorem dc12_price_25 : decode prog_14_method_69_code 25 = .ok (.getfield 55, 3) := by decide +kernel
theorem dc12_price_28 : decode prog_14_method_69_code 28 = .ok (.bipush 24, 2) := by decide +kernel
theorem dc12_price_30 : decode prog_14_method_69_code 30 = .ok (.iaload, 1) := by decide +kernel
theorem dc12_price_31 : decode prog_14_method_69_code 31 = .ok (.iload_n 1, 1) := by decide +kernel
theorem dc12_price_32 : decode prog_14_method_69_code 32 = .ok (.if_icmp .ne 5, 3) := by decide +kernel
theorem dc12_price_35 : decode prog_14_method_69_code 35 = .ok (.iconst (-1), 1) := by decide +kernel
theorem dc12_price_36 : decode prog_14_method_69_code 36 = .ok (.ireturn, 1) := by decide +kernel
theorem dc12_price_37 : decode prog_14_method_69_code 37 = .ok (.aload_n 0, 1) := by decide +kernel
theorem dc12_price_38 : decode prog_14_method_69_code 38 = .ok (.invokevirtual 366, 3) := by decide +kernel
theorem dc12_price_41 : decode prog_14_method_69_code 41 = .ok (.aload_n 0, 1) := by decide +kernel
theorem dc12_price_42 : decode prog_14_method_69_code 42 = .ok (.getfield 55, 3) := by decide +kernel
theorem dc12_price_45 : decode prog_14_method_69_code 45 = .ok (.bipush 24, 2) := by decide +kernel
theorem dc12_price_47 : decode prog_14_method_69_code 47 = .ok (.iaload, 1) := by decide +kernel
theorem dc12_price_48 : decode prog_14_method_69_code 48 = .ok (.istore_n 2, 1) := by decide +kernel
theorem dc12_price_49 : decode prog_14_method_69_code 49 = .ok (.aload_n 0, 1) := by decide +kernel
theorem dc12_price_50 : decode prog_14_method_69_code 50 = .ok (.getfield 55, 3) := by decide +kernel
theorem dc12_price_53 : decode prog_14_method_69_code 53 = .ok (.bipush 24, 2) := by decide +kernel
theorem dc12_price_55 : decode prog_14_method_69_code 55 = .ok (.iload_n 1, 1) := by decide +kernel
theorem dc12_price_56 : decode prog_14_method_69_code 56 = .ok (.iastore, 1) := by decide +kernel
theorem dc12_price_57 : decode prog_14_method_69_code 57 = .ok (.iload_n 2, 1) := by decide +kernel
theorem dc12_price_58 : decode prog_14_method_69_code 58 = .ok (.ireturn, 1) := by decide +kernel
theorem dc12_years_0 : decode prog_14_method_71_code 0 = .ok (.aload_n 0, 1) := by decide +kernel
theorem dc12_years_1 : decode prog_14_method_71_code 1 = .ok (.iconst 0, 1) := by decide +kernel
theorem dc12_years_2 : decode prog_14_method_71_code 2 = .ok (.putfield 100, 3) := by decide +kernel
theorem dc12_years_5 : decode prog_14_method_71_code 5 = .ok (.aload_n 0, 1) := by decide +kernel
theorem dc12_years_6 : decode prog_14_method_71_code 6 = .ok (.getfield 290, 3) := by decide +kernel
theorem dc12_years_9 : decode prog_14_method_71_code 9 = .ok (.ifCond .eq 30, 3) := by decide +kernel
theorem dc12_years_12 : decode prog_14_method_71_code 12 = .ok (.iload_n 1, 1) := by decide +kernel
theorem dc12_years_13 : decode prog_14_method_71_code 13 = .ok (.i2l, 1) := by decide +kernel
theorem dc12_years_14 : decode prog_14_method_71_code 14 = .ok (.lconst 1, 1) := by decide +kernel
theorem dc12_years_15 : decode prog_14_method_71_code 15 = .ok (.ldc2_w 410, 3) := by decide +kernel
theorem dc12_years_18 : decode prog_14_method_71_code 18 = .ok (.invokestatic 221, 3) := by decide +kernel
theorem dc12_years_21 : decode prog_14_method_71_code 21 = .ok (.ifCond .eq 18, 3) := by decide +kernel
theorem dc12_years_24 : decode prog_14_method_71_code 24 = .ok (.aload_n 0, 1) := by decide +kernel
theorem dc12_years_25 : decode prog_14_method_71_code 25 = .ok (.getfield 55, 3) := by decide +kernel
theorem dc12_years_28 : decode prog_14_method_71_code 28 = .ok (.bipush 25, 2) := by decide +kernel
theorem dc12_years_30 : decode prog_14_method_71_code 30 = .ok (.iaload, 1) := by decide +kernel
theorem dc12_years_31 : decode prog_14_method_71_code 31 = .ok (.iload_n 1, 1) := by decide +kernel
theorem dc12_years_32 : decode prog_14_method_71_code 32 = .ok (.iadd, 1) := by decide +kernel
theorem dc12_years_33 : decode prog_14_method_71_code 33 = .ok (.sipush 999, 3) := by decide +kernel
theorem dc12_years_36 : decode prog_14_method_71_code 36 = .ok (.if_icmp .le 5, 3) := by decide +kernel
theorem dc12_years_39 : decode prog_14_method_71_code 39 = .ok (.iconst (-1), 1) := by decide +kernel
theorem dc12_years_40 : decode prog_14_method_71_code 40 = .ok (.ireturn, 1) := by decide +kernel
theorem dc12_years_41 : decode prog_14_method_71_code 41 = .ok (.aload_n 0, 1) := by decide +kernel
theorem dc12_years_42 : decode prog_14_method_71_code 42 = .ok (.lload_n 2, 1) := by decide +kernel
theorem dc12_years_43 : decode prog_14_method_71_code 43 = .ok (.putfield 402, 3) := by decide +kernel
theorem dc12_years_46 : decode prog_14_method_71_code 46 = .ok (.iconst 0, 1) := by decide +kernel
theorem dc12_years_47 : decode prog_14_method_71_code 47 = .ok (.istore 4, 2) := by decide +kernel
theorem dc12_years_49 : decode prog_14_method_71_code 49 = .ok (.iload 4, 2) := by decide +kernel
theorem dc12_years_51 : decode prog_14_method_71_code 51 = .ok (.iload_n 1, 1) := by decide +kernel
theorem dc12_years_52 : decode prog_14_method_71_code 52 = .ok (.if_icmp .ge 77, 3) := by decide +kernel
theorem dc12_years_55 : decode prog_14_method_71_code 55 = .ok (.aload_n 0, 1) := by decide +kernel
theorem dc12_years_56 : decode prog_14_method_71_code 56 = .ok (.invokevirtual 366, 3) := by decide +kernel
theorem dc12_years_59 : decode prog_14_method_71_code 59 = .ok (.aload_n 0, 1) := by decide +kernel
theorem dc12_years_60 : decode prog_14_method_71_code 60 = .ok (.bipush 10, 2) := by decide +kernel
theorem dc12_years_62 : decode prog_14_method_71_code 62 = .ok (.invokevirtual 412, 3) := by decide +kernel
theorem dc12_years_65 : decode prog_14_method_71_code 65 = .ok (.aload_n 0, 1) := by decide +kernel
theorem dc12_years_66 : decode prog_14_method_71_code 66 = .ok (.getfield 360, 3) := by decide +kernel
theorem dc12_years_69 : decode prog_14_method_71_code 69 = .ok (.if_icmp .ge 40, 3) := by decide +kernel
theorem dc12_years_72 : decode prog_14_method_71_code 72 = .ok (.aload_n 0, 1) := by decide +kernel
theorem dc12_years_73 : decode prog_14_method_71_code 73 = .ok (.aload_n 0, 1) := by decide +kernel
theorem dc12_years_74 : decode prog_14_method_71_code 74 = .ok (.getfield 290, 3) := by decide +kernel
theorem dc12_years_77 : decode prog_14_method_71_code 77 = .ok (.invokevirtual 412, 3) := by decide +kernel
theorem dc12_years_80 : decode prog_14_method_71_code 80 = .ok (.istore 5, 2) := by decide +kernel
theorem dc12_years_82 : decode prog_14_method_71_code 82 = .ok (.aload_n 0, 1) := by decide +kernel
theorem dc12_years_83 : decode prog_14_method_71_code 83 = .ok (.getfield 55, 3) := by decide +kernel
theorem dc12_years_86 : decode prog_14_method_71_code 86 = .ok (.iconst 4, 1) := by decide +kernel
theorem dc12_years_87 : decode prog_14_method_71_code 87 = .ok (.iload 5, 2) := by decide +kernel
theorem dc12_years_89 : decode prog_14_method_71_code 89 = .ok (.imul, 1) := by decide +kernel
theorem dc12_years_90 : decode prog_14_method_71_code 90 = .ok (.iconst 0, 1) := by decide +kernel
theorem dc12_years_91 : decode prog_14_method_71_code 91 = .ok (.iadd, 1) := by decide +kernel
theorem dc12_years_92 : decode prog_14_method_71_code 92 = .ok (.dup2, 1) := by decide +kernel
theorem dc12_years_93 : decode prog_14_method_71_code 93 = .ok (.iaload, 1) := by decide +kernel
theorem dc12_years_94 : decode prog_14_method_71_code 94 = .ok (.aload_n 0, 1) := by decide +kernel
theorem dc12_years_95 : decode prog_14_method_71_code 95 = .ok (.getfield 55, 3) := by decide +kernel
theorem dc12_years_98 : decode prog_14_method_71_code 98 = .ok (.iconst 4, 1) := by decide +kernel
theorem dc12_years_99 : decode prog_14_method_71_code 99 = .ok (.iload 5, 2) := by decide +kernel
theorem dc12_years_101 : decode prog_14_method_71_code 101 = .ok (.imul, 1) := by decide +kernel
theorem dc12_years_102 : decode prog_14_method_71_code 102 = .ok (.iconst 0, 1) := by decide +kernel
theorem dc12_years_103 : decode prog_14_method_71_code 103 = .ok (.iadd, 1) := by decide +kernel
theorem dc12_years_104 : decode prog_14_method_71_code 104 = .ok (.iaload, 1) := by decide +kernel
theorem dc12_years_105 : decode prog_14_method_71_code 105 = .ok (.iconst 2, 1) := by decide +kernel
theorem dc12_years_106 : decode prog_14_method_71_code 106 = .ok (.idiv, 1) := by decide +kernel
theorem dc12_years_107 : decode prog_14_method_71_code 107 = .ok (.isub, 1) := by decide +kernel
theorem dc12_years_108 : decode prog_14_method_71_code 108 = .ok (.iastore, 1) := by decide +kernel
theorem dc12_years_109 : decode prog_14_method_71_code 109 = .ok (.aload_n 0, 1) := by decide +kernel
theorem dc12_years_110 : decode prog_14_method_71_code 110 = .ok (.aload_n 0, 1) := by decide +kernel
theorem dc12_years_111 : decode prog_14_method_71_code 111 = .ok (.getfield 55, 3) := by decide +kernel
theorem dc12_years_114 : decode prog_14_method_71_code 114 = .ok (.aload_n 0, 1) := by decide +kernel
theorem dc12_years_115 : decode prog_14_method_71_code 115 = .ok (.bipush 100, 2) := by decide +kernel
theorem dc12_years_117 : decode prog_14_method_71_code 117 = .ok (.invokevirtual 412, 3) := by decide +kernel
theorem dc12_years_120 : decode prog_14_method_71_code 120 = .ok (.invokevirtual 349, 3) := by decide +kernel
theorem dc12_years_123 : decode prog_14_method_71_code 123 = .ok (.iinc 4 1, 3) := by decide +kernel
theorem dc12_years_126 : decode prog_14_method_71_code 126 = .ok (.goto (-77), 3) := by decide +kernel
theorem dc12_years_129 : decode prog_14_method_71_code 129 = .ok (.aload_n 0, 1) := by decide +kernel
theorem dc12_years_130 : decode prog_14_method_71_code 130 = .ok (.getfield 55, 3) := by decide +kernel
theorem dc12_years_133 : decode prog_14_method_71_code 133 = .ok (.bipush 25, 2) := by decide +kernel
theorem dc12_years_135 : decode prog_14_method_71_code 135 = .ok (.iaload, 1) := by decide +kernel
theorem dc12_years_136 : decode prog_14_method_71_code 136 = .ok (.ireturn, 1) := by decide +kernel
theorem dc12_draw_0 : decode prog_14_method_70_code 0 = .ok (.aload_n 0, 1) := by decide +kernel
theorem dc12_draw_1 : decode prog_14_method_70_code 1 = .ok (.aload_n 0, 1) := by decide +kernel
theorem dc12_draw_2 : decode prog_14_method_70_code 2 = .ok (.getfield 402, 3) := by decide +kernel
theorem dc12_draw_5 : decode prog_14_method_70_code 5 = .ok (.ldc2_w 406, 3) := by decide +kernel
theorem dc12_draw_8 : decode prog_14_method_70_code 8 = .ok (.lmul, 1) := by decide +kernel
theorem dc12_draw_9 : decode prog_14_method_70_code 9 = .ok (.ldc2_w 408, 3) := by decide +kernel
theorem dc12_draw_12 : decode prog_14_method_70_code 12 = .ok (.ladd, 1) := by decide +kernel
theorem dc12_draw_13 : decode prog_14_method_70_code 13 = .ok (.putfield 402, 3) := by decide +kernel
theorem dc12_draw_16 : decode prog_14_method_70_code 16 = .ok (.aload_n 0, 1) := by decide +kernel
theorem dc12_draw_17 : decode prog_14_method_70_code 17 = .ok (.getfield 402, 3) := by decide +kernel
theorem dc12_draw_20 : decode prog_14_method_70_code 20 = .ok (.bipush 33, 2) := by decide +kernel
theorem dc12_draw_22 : decode prog_14_method_70_code 22 = .ok (.lushr, 1) := by decide +kernel
theorem dc12_draw_23 : decode prog_14_method_70_code 23 = .ok (.iload_n 1, 1) := by decide +kernel
theorem dc12_draw_24 : decode prog_14_method_70_code 24 = .ok (.i2l, 1) := by decide +kernel
theorem dc12_draw_25 : decode prog_14_method_70_code 25 = .ok (.lrem, 1) := by decide +kernel
theorem dc12_draw_26 : decode prog_14_method_70_code 26 = .ok (.l2i, 1) := by decide +kernel
theorem dc12_draw_27 : decode prog_14_method_70_code 27 = .ok (.ireturn, 1) := by decide +kernel
theorem dc12_undo_0 : decode prog_14_method_72_code 0 = .ok (.aload_n 0, 1) := by decide +kernel
theorem dc12_undo_1 : decode prog_14_method_72_code 1 = .ok (.iconst 0, 1) := by decide +kernel
theorem dc12_undo_2 : decode prog_14_method_72_code 2 = .ok (.putfield 100, 3) := by decide +kernel
theorem dc12_undo_5 : decode prog_14_method_72_code 5 = .ok (.aload_n 0, 1) := by decide +kernel
theorem dc12_undo_6 : decode prog_14_method_72_code 6 = .ok (.getfield 296, 3) := by decide +kernel
theorem dc12_undo_9 : decode prog_14_method_72_code 9 = .ok (.ifCond .ne 5, 3) := by decide +kernel
theorem dc12_undo_12 : decode prog_14_method_72_code 12 = .ok (.iconst (-1), 1) := by decide +kernel
theorem dc12_undo_13 : decode prog_14_method_72_code 13 = .ok (.ireturn, 1) := by decide +kernel
theorem dc12_undo_14 : decode prog_14_method_72_code 14 = .ok (.aload_n 0, 1) := by decide +kernel
theorem dc12_undo_15 : decode prog_14_method_72_code 15 = .ok (.dup, 1) := by decide +kernel
theorem dc12_undo_16 : decode prog_14_method_72_code 16 = .ok (.getfield 296, 3) := by decide +kernel
theorem dc12_undo_19 : decode prog_14_method_72_code 19 = .ok (.iconst 1, 1) := by decide +kernel
theorem dc12_undo_20 : decode prog_14_method_72_code 20 = .ok (.isub, 1) := by decide +kernel
theorem dc12_undo_21 : decode prog_14_method_72_code 21 = .ok (.putfield 296, 3) := by decide +kernel
theorem dc12_undo_24 : decode prog_14_method_72_code 24 = .ok (.iconst 0, 1) := by decide +kernel
theorem dc12_undo_25 : decode prog_14_method_72_code 25 = .ok (.istore_n 1, 1) := by decide +kernel
theorem dc12_undo_26 : decode prog_14_method_72_code 26 = .ok (.iload_n 1, 1) := by decide +kernel
theorem dc12_undo_27 : decode prog_14_method_72_code 27 = .ok (.sipush 207, 3) := by decide +kernel
theorem dc12_undo_30 : decode prog_14_method_72_code 30 = .ok (.if_icmp .ge 30, 3) := by decide +kernel
theorem dc12_undo_33 : decode prog_14_method_72_code 33 = .ok (.aload_n 0, 1) := by decide +kernel
theorem dc12_undo_34 : decode prog_14_method_72_code 34 = .ok (.getfield 55, 3) := by decide +kernel
theorem dc12_undo_37 : decode prog_14_method_72_code 37 = .ok (.iload_n 1, 1) := by decide +kernel
theorem dc12_undo_38 : decode prog_14_method_72_code 38 = .ok (.aload_n 0, 1) := by decide +kernel
theorem dc12_undo_39 : decode prog_14_method_72_code 39 = .ok (.getfield 78, 3) := by decide +kernel
theorem dc12_undo_42 : decode prog_14_method_72_code 42 = .ok (.sipush 207, 3) := by decide +kernel
theorem dc12_undo_45 : decode prog_14_method_72_code 45 = .ok (.aload_n 0, 1) := by decide +kernel
theorem dc12_undo_46 : decode prog_14_method_72_code 46 = .ok (.getfield 296, 3) := by decide +kernel
theorem dc12_undo_49 : decode prog_14_method_72_code 49 = .ok (.imul, 1) := by decide +kernel
theorem dc12_undo_50 : decode prog_14_method_72_code 50 = .ok (.iload_n 1, 1) := by decide +kernel
theorem dc12_undo_51 : decode prog_14_method_72_code 51 = .ok (.iadd, 1) := by decide +kernel
theorem dc12_undo_52 : decode prog_14_method_72_code 52 = .ok (.iaload, 1) := by decide +kernel
theorem dc12_undo_53 : decode prog_14_method_72_code 53 = .ok (.iastore, 1) := by decide +kernel
theorem dc12_undo_54 : decode prog_14_method_72_code 54 = .ok (.iinc 1 1, 3) := by decide +kernel
theorem dc12_undo_57 : decode prog_14_method_72_code 57 = .ok (.goto (-31), 3) := by decide +kernel
theorem dc12_undo_60 : decode prog_14_method_72_code 60 = .ok (.aload_n 0, 1) := by decide +kernel
theorem dc12_undo_61 : decode prog_14_method_72_code 61 = .ok (.getfield 296, 3) := by decide +kernel
theorem dc12_undo_64 : decode prog_14_method_72_code 64 = .ok (.ireturn, 1) := by decide +kernel
theorem dc12_log_0 : decode prog_14_method_73_code 0 = .ok (.aload_n 0, 1) := by decide +kernel
theorem dc12_log_1 : decode prog_14_method_73_code 1 = .ok (.iconst 0, 1) := by decide +kernel
theorem dc12_log_2 : decode prog_14_method_73_code 2 = .ok (.putfield 100, 3) := by decide +kernel
theorem dc12_log_5 : decode prog_14_method_73_code 5 = .ok (.iload_n 1, 1) := by decide +kernel
theorem dc12_log_6 : decode prog_14_method_73_code 6 = .ok (.i2l, 1) := by decide +kernel
theorem dc12_log_7 : decode prog_14_method_73_code 7 = .ok (.lconst 0, 1) := by decide +kernel
theorem dc12_log_8 : decode prog_14_method_73_code 8 = .ok (.aload_n 0, 1) := by decide +kernel
theorem dc12_log_9 : decode prog_14_method_73_code 9 = .ok (.getfield 55, 3) := by decide +kernel
theorem dc12_log_12 : decode prog_14_method_73_code 12 = .ok (.bipush 26, 2) := by decide +kernel
theorem dc12_log_14 : decode prog_14_method_73_code 14 = .ok (.iaload, 1) := by decide +kernel
theorem dc12_log_15 : decode prog_14_method_73_code 15 = .ok (.iconst 1, 1) := by decide +kernel
theorem dc12_log_16 : decode prog_14_method_73_code 16 = .ok (.isub, 1) := by decide +kernel
theorem dc12_log_17 : decode prog_14_method_73_code 17 = .ok (.i2l, 1) := by decide +kernel
theorem dc12_log_18 : decode prog_14_method_73_code 18 = .ok (.invokestatic 221, 3) := by decide +kernel
theorem dc12_log_21 : decode prog_14_method_73_code 21 = .ok (.ifCond .eq 41, 3) := by decide +kernel
theorem dc12_log_24 : decode prog_14_method_73_code 24 = .ok (.iload_n 2, 1) := by decide +kernel
theorem dc12_log_25 : decode prog_14_method_73_code 25 = .ok (.i2l, 1) := by decide +kernel
theorem dc12_log_26 : decode prog_14_method_73_code 26 = .ok (.lconst 0, 1) := by decide +kernel
theorem dc12_log_27 : decode prog_14_method_73_code 27 = .ok (.ldc2_w 271, 3) := by decide +kernel
theorem dc12_log_30 : decode prog_14_method_73_code 30 = .ok (.invokestatic 221, 3) := by decide +kernel
theorem dc12_log_33 : decode prog_14_method_73_code 33 = .ok (.ifCond .eq 29, 3) := by decide +kernel
theorem dc12_log_36 : decode prog_14_method_73_code 36 = .ok (.aload_n 0, 1) := by decide +kernel
theorem dc12_log_37 : decode prog_14_method_73_code 37 = .ok (.getfield 55, 3) := by decide +kernel
theorem dc12_log_40 : decode prog_14_method_73_code 40 = .ok (.bipush 27, 2) := by decide +kernel
theorem dc12_log_42 : decode prog_14_method_73_code 42 = .ok (.iconst 3, 1) := by decide +kernel
theorem dc12_log_43 : decode prog_14_method_73_code 43 = .ok (.aload_n 0, 1) := by decide +kernel
theorem dc12_log_44 : decode prog_14_method_73_code 44 = .ok (.getfield 55, 3) := by decide +kernel
theorem dc12_log_47 : decode prog_14_method_73_code 47 = .ok (.bipush 26, 2) := by decide +kernel
theorem dc12_log_49 : decode prog_14_method_73_code 49 = .ok (.iaload, 1) := by decide +kernel
theorem dc12_log_50 : decode prog_14_method_73_code 50 = .ok (.iconst 1, 1) := by decide +kernel
theorem dc12_log_51 : decode prog_14_method_73_code 51 = .ok (.isub, 1) := by decide +kernel
theorem dc12_log_52 : decode prog_14_method_73_code 52 = .ok (.iload_n 1, 1) := by decide +kernel
theorem dc12_log_53 : decode prog_14_method_73_code 53 = .ok (.isub, 1) := by decide +kernel
theorem dc12_log_54 : decode prog_14_method_73_code 54 = .ok (.imul, 1) := by decide +kernel
theorem dc12_log_55 : decode prog_14_method_73_code 55 = .ok (.iadd, 1) := by decide +kernel
theorem dc12_log_56 : decode prog_14_method_73_code 56 = .ok (.iload_n 2, 1) := by decide +kernel
theorem dc12_log_57 : decode prog_14_method_73_code 57 = .ok (.iadd, 1) := by decide +kernel
theorem dc12_log_58 : decode prog_14_method_73_code 58 = .ok (.iaload, 1) := by decide +kernel
theorem dc12_log_59 : decode prog_14_method_73_code 59 = .ok (.goto 4, 3) := by decide +kernel
theorem dc12_log_62 : decode prog_14_method_73_code 62 = .ok (.iconst (-1), 1) := by decide +kernel
theorem dc12_log_63 : decode prog_14_method_73_code 63 = .ok (.ireturn, 1) := by decide +kernel
theorem dc12_step_0 : decode prog_14_method_75_code 0 = .ok (.aload_n 0, 1) := by decide +kernel
theorem dc12_step_1 : decode prog_14_method_75_code 1 = .ok (.iconst 0, 1) := by decide +kernel
theorem dc12_step_2 : decode prog_14_method_75_code 2 = .ok (.putfield 100, 3) := by decide +kernel
theorem dc12_step_5 : decode prog_14_method_75_code 5 = .ok (.aload_n 0, 1) := by decide +kernel
theorem dc12_step_6 : decode prog_14_method_75_code 6 = .ok (.iload_n 1, 1) := by decide +kernel
theorem dc12_step_7 : decode prog_14_method_75_code 7 = .ok (.invokevirtual 415, 3) := by decide +kernel
theorem dc12_step_10 : decode prog_14_method_75_code 10 = .ok (.ifCond .eq 51, 3) := by decide +kernel
theorem dc12_step_13 : decode prog_14_method_75_code 13 = .ok (.iload_n 2, 1) := by decide +kernel
theorem dc12_step_14 : decode prog_14_method_75_code 14 = .ok (.i2l, 1) := by decide +kernel
theorem dc12_step_15 : decode prog_14_method_75_code 15 = .ok (.lconst 0, 1) := by decide +kernel
theorem dc12_step_16 : decode prog_14_method_75_code 16 = .ok (.aload_n 0, 1) := by decide +kernel
theorem dc12_step_17 : decode prog_14_method_75_code 17 = .ok (.getfield 52, 3) := by decide +kernel
theorem dc12_step_20 : decode prog_14_method_75_code 20 = .ok (.iload_n 1, 1) := by decide +kernel
theorem dc12_step_21 : decode prog_14_method_75_code 21 = .ok (.iaload, 1) := by decide +kernel
theorem dc12_step_22 : decode prog_14_method_75_code 22 = .ok (.iconst 1, 1) := by decide +kernel
theorem dc12_step_23 : decode prog_14_method_75_code 23 = .ok (.isub, 1) := by decide +kernel
theorem dc12_step_24 : decode prog_14_method_75_code 24 = .ok (.i2l, 1) := by decide +kernel
theorem dc12_step_25 : decode prog_14_method_75_code 25 = .ok (.invokestatic 221, 3) := by decide +kernel
theorem dc12_step_28 : decode prog_14_method_75_code 28 = .ok (.ifCond .eq 33, 3) := by decide +kernel
theorem dc12_step_31 : decode prog_14_method_75_code 31 = .ok (.iload_n 3, 1) := by decide +kernel
theorem dc12_step_32 : decode prog_14_method_75_code 32 = .ok (.i2l, 1) := by decide +kernel
theorem dc12_step_33 : decode prog_14_method_75_code 33 = .ok (.lconst 0, 1) := by decide +kernel
theorem dc12_step_34 : decode prog_14_method_75_code 34 = .ok (.ldc2_w 271, 3) := by decide +kernel
theorem dc12_step_37 : decode prog_14_method_75_code 37 = .ok (.invokestatic 221, 3) := by decide +kernel
theorem dc12_step_40 : decode prog_14_method_75_code 40 = .ok (.ifCond .eq 21, 3) := by decide +kernel
theorem dc12_step_43 : decode prog_14_method_75_code 43 = .ok (.aload_n 0, 1) := by decide +kernel
theorem dc12_step_44 : decode prog_14_method_75_code 44 = .ok (.getfield 49, 3) := by decide +kernel
theorem dc12_step_47 : decode prog_14_method_75_code 47 = .ok (.iconst 3, 1) := by decide +kernel
theorem dc12_step_48 : decode prog_14_method_75_code 48 = .ok (.bipush 16, 2) := by decide +kernel
theorem dc12_step_50 : decode prog_14_method_75_code 50 = .ok (.iload_n 1, 1) := by decide +kernel
theorem dc12_step_51 : decode prog_14_method_75_code 51 = .ok (.imul, 1) := by decide +kernel
theorem dc12_step_52 : decode prog_14_method_75_code 52 = .ok (.iload_n 2, 1) := by decide +kernel
theorem dc12_step_53 : decode prog_14_method_75_code 53 = .ok (.iadd, 1) := by decide +kernel
theorem dc12_step_54 : decode prog_14_method_75_code 54 = .ok (.imul, 1) := by decide +kernel
theorem dc12_step_55 : decode prog_14_method_75_code 55 = .ok (.iload_n 3, 1) := by decide +kernel
theorem dc12_step_56 : decode prog_14_method_75_code 56 = .ok (.iadd, 1) := by decide +kernel
theorem dc12_step_57 : decode prog_14_method_75_code 57 = .ok (.iaload, 1) := by decide +kernel
theorem dc12_step_58 : decode prog_14_method_75_code 58 = .ok (.goto 6, 3) := by decide +kernel
theorem dc12_step_61 : decode prog_14_method_75_code 61 = .ok (.ldc_w 418, 3) := by decide +kernel
theorem dc12_step_64 : decode prog_14_method_75_code 64 = .ok (.ireturn, 1) := by decide +kernel
theorem dc12_isPlan_0 : decode prog_14_method_74_code 0 = .ok (.iload_n 1, 1) := by decide +kernel
theorem dc12_isPlan_1 : decode prog_14_method_74_code 1 = .ok (.ifCond .lt 15, 3) := by decide +kernel
theorem dc12_isPlan_4 : decode prog_14_method_74_code 4 = .ok (.iload_n 1, 1) := by decide +kernel
theorem dc12_isPlan_5 : decode prog_14_method_74_code 5 = .ok (.aload_n 0, 1) := by decide +kernel
theorem dc12_isPlan_6 : decode prog_14_method_74_code 6 = .ok (.getfield 285, 3) := by decide +kernel
theorem dc12_isPlan_9 : decode prog_14_method_74_code 9 = .ok (.if_icmp .ge 7, 3) := by decide +kernel
theorem dc12_isPlan_12 : decode prog_14_method_74_code 12 = .ok (.iconst 1, 1) := by decide +kernel
theorem dc12_isPlan_13 : decode prog_14_method_74_code 13 = .ok (.goto 4, 3) := by decide +kernel
theorem dc12_isPlan_16 : decode prog_14_method_74_code 16 = .ok (.iconst 0, 1) := by decide +kernel
theorem dc12_isPlan_17 : decode prog_14_method_74_code 17 = .ok (.ireturn, 1) := by decide +kernel
theorem dc12_run_0 : decode prog_14_method_78_code 0 = .ok (.aload_n 0, 1) := by decide +kernel
theorem dc12_run_1 : decode prog_14_method_78_code 1 = .ok (.iconst 0, 1) := by decide +kernel
theorem dc12_run_2 : decode prog_14_method_78_code 2 = .ok (.putfield 100, 3) := by decide +kernel
theorem dc12_run_5 : decode prog_14_method_78_code 5 = .ok (.aload_n 0, 1) := by decide +kernel
theorem dc12_run_6 : decode prog_14_method_78_code 6 = .ok (.iload_n 1, 1) := by decide +kernel
theorem dc12_run_7 : decode prog_14_method_78_code 7 = .ok (.invokevirtual 415, 3) := by decide +kernel
theorem dc12_run_10 : decode prog_14_method_78_code 10 = .ok (.ifCond .eq 20, 3) := by decide +kernel
theorem dc12_run_13 : decode prog_14_method_78_code 13 = .ok (.aload_n 0, 1) := by decide +kernel
theorem dc12_run_14 : decode prog_14_method_78_code 14 = .ok (.getfield 290, 3) := by decide +kernel
theorem dc12_run_17 : decode prog_14_method_78_code 17 = .ok (.ifCond .eq 13, 3) := by decide +kernel
theorem dc12_run_20 : decode prog_14_method_78_code 20 = .ok (.iload_n 2, 1) := by decide +kernel
theorem dc12_run_21 : decode prog_14_method_78_code 21 = .ok (.i2l, 1) := by decide +kernel
theorem dc12_run_22 : decode prog_14_method_78_code 22 = .ok (.lconst 0, 1) := by decide +kernel
theorem dc12_run_23 : decode prog_14_method_78_code 23 = .ok (.lconst 1, 1) := by decide +kernel
theorem dc12_run_24 : decode prog_14_method_78_code 24 = .ok (.invokestatic 221, 3) := by decide +kernel
theorem dc12_run_27 : decode prog_14_method_78_code 27 = .ok (.ifCond .ne 7, 3) := by decide +kernel
theorem dc12_run_30 : decode prog_14_method_78_code 30 = .ok (.ldc_w 418, 3) := by decide +kernel
theorem dc12_run_33 : decode prog_14_method_78_code 33 = .ok (.ireturn, 1) := by decide +kernel
theorem dc12_run_34 : decode prog_14_method_78_code 34 = .ok (.aload_n 0, 1) := by decide +kernel
theorem dc12_run_35 : decode prog_14_method_78_code 35 = .ok (.getfield 55, 3) := by decide +kernel
theorem dc12_run_38 : decode prog_14_method_78_code 38 = .ok (.aload_n 0, 1) := by decide +kernel
theorem dc12_run_39 : decode prog_14_method_78_code 39 = .ok (.getfield 58, 3) := by decide +kernel
theorem dc12_run_42 : decode prog_14_method_78_code 42 = .ok (.invokestatic 345, 3) := by decide +kernel
theorem dc12_run_45 : decode prog_14_method_78_code 45 = .ok (.iconst 0, 1) := by decide +kernel
theorem dc12_run_46 : decode prog_14_method_78_code 46 = .ok (.istore_n 3, 1) := by decide +kernel
theorem dc12_run_47 : decode prog_14_method_78_code 47 = .ok (.iconst 0, 1) := by decide +kernel
theorem dc12_run_48 : decode prog_14_method_78_code 48 = .ok (.istore 4, 2) := by decide +kernel
theorem dc12_run_50 : decode prog_14_method_78_code 50 = .ok (.iload_n 3, 1) := by decide +kernel
theorem dc12_run_51 : decode prog_14_method_78_code 51 = .ok (.aload_n 0, 1) := by decide +kernel
theorem dc12_run_52 : decode prog_14_method_78_code 52 = .ok (.getfield 52, 3) := by decide +kernel
theorem dc12_run_55 : decode prog_14_method_78_code 55 = .ok (.iload_n 1, 1) := by decide +kernel
theorem dc12_run_56 : decode prog_14_method_78_code 56 = .ok (.iaload, 1) := by decide +kernel
theorem dc12_run_57 : decode prog_14_method_78_code 57 = .ok (.if_icmp .ge 49, 3) := by decide +kernel
theorem dc12_run_60 : decode prog_14_method_78_code 60 = .ok (.aload_n 0, 1) := by decide +kernel
theorem dc12_run_61 : decode prog_14_method_78_code 61 = .ok (.aload_n 0, 1) := by decide +kernel
theorem dc12_run_62 : decode prog_14_method_78_code 62 = .ok (.getfield 58, 3) := by decide +kernel
theorem dc12_run_65 : decode prog_14_method_78_code 65 = .ok (.iconst 3, 1) := by decide +kernel
theorem dc12_run_66 : decode prog_14_method_78_code 66 = .ok (.bipush 16, 2) := by decide +kernel
theorem dc12_run_68 : decode prog_14_method_78_code 68 = .ok (.iload_n 1, 1) := by decide +kernel
theorem dc12_run_69 : decode prog_14_method_78_code 69 = .ok (.imul, 1) := by decide +kernel
theorem dc12_run_70 : decode prog_14_method_78_code 70 = .ok (.iload_n 3, 1) := by decide +kernel
theorem dc12_run_71 : decode prog_14_method_78_code 71 = .ok (.iadd, 1) := by decide +kernel
theorem dc12_run_72 : decode prog_14_method_78_code 72 = .ok (.imul, 1) := by decide +kernel
theorem dc12_run_73 : decode prog_14_method_78_code 73 = .ok (.invokevirtual 419, 3) := by decide +kernel
theorem dc12_run_76 : decode prog_14_method_78_code 76 = .ok (.ifCond .eq 30, 3) := by decide +kernel
theorem dc12_run_79 : decode prog_14_method_78_code 79 = .ok (.iload 4, 2) := by decide +kernel
theorem dc12_run_81 : decode prog_14_method_78_code 81 = .ok (.aload_n 0, 1) := by decide +kernel
theorem dc12_run_82 : decode prog_14_method_78_code 82 = .ok (.aload_n 0, 1) := by decide +kernel
theorem dc12_run_83 : decode prog_14_method_78_code 83 = .ok (.getfield 58, 3) := by decide +kernel
theorem dc12_run_86 : decode prog_14_method_78_code 86 = .ok (.iconst 3, 1) := by decide +kernel
theorem dc12_run_87 : decode prog_14_method_78_code 87 = .ok (.bipush 16, 2) := by decide +kernel
theorem dc12_run_89 : decode prog_14_method_78_code 89 = .ok (.iload_n 1, 1) := by decide +kernel
theorem dc12_run_90 : decode prog_14_method_78_code 90 = .ok (.imul, 1) := by decide +kernel
theorem dc12_run_91 : decode prog_14_method_78_code 91 = .ok (.iload_n 3, 1) := by decide +kernel
theorem dc12_run_92 : decode prog_14_method_78_code 92 = .ok (.iadd, 1) := by decide +kernel
theorem dc12_run_93 : decode prog_14_method_78_code 93 = .ok (.imul, 1) := by decide +kernel
theorem dc12_run_94 : decode prog_14_method_78_code 94 = .ok (.invokevirtual 422, 3) := by decide +kernel
theorem dc12_run_97 : decode prog_14_method_78_code 97 = .ok (.iadd, 1) := by decide +kernel
theorem dc12_run_98 : decode prog_14_method_78_code 98 = .ok (.istore 4, 2) := by decide +kernel
theorem dc12_run_100 : decode prog_14_method_78_code 100 = .ok (.iinc 3 1, 3) := by decide +kernel
theorem dc12_run_103 : decode prog_14_method_78_code 103 = .ok (.goto (-53), 3) := by decide +kernel
theorem dc12_run_106 : decode prog_14_method_78_code 106 = .ok (.iload_n 2, 1) := by decide +kernel
theorem dc12_run_107 : decode prog_14_method_78_code 107 = .ok (.iconst 1, 1) := by decide +kernel
theorem dc12_run_108 : decode prog_14_method_78_code 108 = .ok (.if_icmp .ne 6, 3) := by decide +kernel
theorem dc12_run_111 : decode prog_14_method_78_code 111 = .ok (.iload 4, 2) := by decide +kernel
theorem dc12_run_113 : decode prog_14_method_78_code 113 = .ok (.ireturn, 1) := by decide +kernel
theorem dc12_run_114 : decode prog_14_method_78_code 114 = .ok (.iload_n 3, 1) := by decide +kernel
theorem dc12_run_115 : decode prog_14_method_78_code 115 = .ok (.aload_n 0, 1) := by decide +kernel
theorem dc12_run_116 : decode prog_14_method_78_code 116 = .ok (.getfield 52, 3) := by decide +kernel
theorem dc12_run_119 : decode prog_14_method_78_code 119 = .ok (.iload_n 1, 1) := by decide +kernel
theorem dc12_run_120 : decode prog_14_method_78_code 120 = .ok (.iaload, 1) := by decide +kernel
theorem dc12_run_121 : decode prog_14_method_78_code 121 = .ok (.if_icmp .ne 7, 3) := by decide +kernel
theorem dc12_run_124 : decode prog_14_method_78_code 124 = .ok (.iconst (-1), 1) := by decide +kernel
theorem dc12_run_125 : decode prog_14_method_78_code 125 = .ok (.goto 4, 3) := by decide +kernel
theorem dc12_run_128 : decode prog_14_method_78_code 128 = .ok (.iload_n 3, 1) := by decide +kernel
theorem dc12_run_129 : decode prog_14_method_78_code 129 = .ok (.ireturn, 1) := by decide +kernel
theorem dc12_copy_0 : decode prog_14_method_41_code 0 = .ok (.iconst 0, 1) := by decide +kernel
theorem dc12_copy_1 : decode prog_14_method_41_code 1 = .ok (.istore_n 2, 1) := by decide +kernel
theorem dc12_copy_2 : decode prog_14_method_41_code 2 = .ok (.iload_n 2, 1) := by decide +kernel
theorem dc12_copy_3 : decode prog_14_method_41_code 3 = .ok (.bipush 26, 2) := by decide +kernel
theorem dc12_copy_5 : decode prog_14_method_41_code 5 = .ok (.if_icmp .ge 15, 3) := by decide +kernel
theorem dc12_copy_8 : decode prog_14_method_41_code 8 = .ok (.aload_n 1, 1) := by decide +kernel
theorem dc12_copy_9 : decode prog_14_method_41_code 9 = .ok (.iload_n 2, 1) := by decide +kernel
theorem dc12_copy_10 : decode prog_14_method_41_code 10 = .ok (.aload_n 0, 1) := by decide +kernel
theorem dc12_copy_11 : decode prog_14_method_41_code 11 = .ok (.iload_n 2, 1) := by decide +kernel
theorem dc12_copy_12 : decode prog_14_method_41_code 12 = .ok (.iaload, 1) := by decide +kernel
theorem dc12_copy_13 : decode prog_14_method_41_code 13 = .ok (.iastore, 1) := by decide +kernel
theorem dc12_copy_14 : decode prog_14_method_41_code 14 = .ok (.iinc 2 1, 3) := by decide +kernel
theorem dc12_copy_17 : decode prog_14_method_41_code 17 = .ok (.goto (-15), 3) := by decide +kernel
theorem dc12_copy_20 : decode prog_14_method_41_code 20 = .ok (.aload_n 1, 1) := by decide +kernel
theorem dc12_copy_21 : decode prog_14_method_41_code 21 = .ok (.bipush 26, 2) := by decide +kernel
theorem dc12_copy_23 : decode prog_14_method_41_code 23 = .ok (.iconst 0, 1) := by decide +kernel
theorem dc12_copy_24 : decode prog_14_method_41_code 24 = .ok (.iastore, 1) := by decide +kernel
theorem dc12_copy_25 : decode prog_14_method_41_code 25 = .ok (.return_, 1) := by decide +kernel
theorem dc12_canStep_0 : decode prog_14_method_76_code 0 = .ok (.aload_n 0, 1) := by decide +kernel
theorem dc12_canStep_1 : decode prog_14_method_76_code 1 = .ok (.getfield 49, 3) := by decide +kernel
theorem dc12_canStep_4 : decode prog_14_method_76_code 4 = .ok (.iload_n 2, 1) := by decide +kernel
theorem dc12_canStep_5 : decode prog_14_method_76_code 5 = .ok (.iconst 1, 1) := by decide +kernel
theorem dc12_canStep_6 : decode prog_14_method_76_code 6 = .ok (.iadd, 1) := by decide +kernel
theorem dc12_canStep_7 : decode prog_14_method_76_code 7 = .ok (.iaload, 1) := by decide +kernel
theorem dc12_canStep_8 : decode prog_14_method_76_code 8 = .ok (.istore_n 3, 1) := by decide +kernel
theorem dc12_canStep_9 : decode prog_14_method_76_code 9 = .ok (.aload_n 0, 1) := by decide +kernel
theorem dc12_canStep_10 : decode prog_14_method_76_code 10 = .ok (.getfield 49, 3) := by decide +kernel
theorem dc12_canStep_13 : decode prog_14_method_76_code 13 = .ok (.iload_n 2, 1) := by decide +kernel
theorem dc12_canStep_14 : decode prog_14_method_76_code 14 = .ok (.iaload, 1) := by decide +kernel
theorem dc12_canStep_15 : decode prog_14_method_76_code 15 = .ok (.tableswitch 63 0 2 #[25, 41, 56], 25) := by decide +kernel
theorem dc12_canStep_40 : decode prog_14_method_76_code 40 = .ok (.aload_n 1, 1) := by decide +kernel
theorem dc12_canStep_41 : decode prog_14_method_76_code 41 = .ok (.bipush 25, 2) := by decide +kernel
theorem dc12_canStep_43 : decode prog_14_method_76_code 43 = .ok (.iaload, 1) := by decide +kernel
theorem dc12_canStep_44 : decode prog_14_method_76_code 44 = .ok (.sipush 999, 3) := by decide +kernel
theorem dc12_canStep_47 : decode prog_14_method_76_code 47 = .ok (.if_icmp .ge 7, 3) := by decide +kernel
theorem dc12_canStep_50 : decode prog_14_method_76_code 50 = .ok (.iconst 1, 1) := by decide +kernel
theorem dc12_canStep_51 : decode prog_14_method_76_code 51 = .ok (.goto 4, 3) := by decide +kernel
theorem dc12_canStep_54 : decode prog_14_method_76_code 54 = .ok (.iconst 0, 1) := by decide +kernel
theorem dc12_canStep_55 : decode prog_14_method_76_code 55 = .ok (.ireturn, 1) := by decide +kernel
theorem dc12_canStep_56 : decode prog_14_method_76_code 56 = .ok (.aload_n 0, 1) := by decide +kernel
theorem dc12_canStep_57 : decode prog_14_method_76_code 57 = .ok (.aload_n 1, 1) := by decide +kernel
theorem dc12_canStep_58 : decode prog_14_method_76_code 58 = .ok (.iload_n 3, 1) := by decide +kernel
theorem dc12_canStep_59 : decode prog_14_method_76_code 59 = .ok (.aload_n 0, 1) := by decide +kernel
theorem dc12_canStep_60 : decode prog_14_method_76_code 60 = .ok (.getfield 49, 3) := by decide +kernel
theorem dc12_canStep_63 : decode prog_14_method_76_code 63 = .ok (.iload_n 2, 1) := by decide +kernel
theorem dc12_canStep_64 : decode prog_14_method_76_code 64 = .ok (.iconst 2, 1) := by decide +kernel
theorem dc12_canStep_65 : decode prog_14_method_76_code 65 = .ok (.iadd, 1) := by decide +kernel
theorem dc12_canStep_66 : decode prog_14_method_76_code 66 = .ok (.iaload, 1) := by decide +kernel
theorem dc12_canStep_67 : decode prog_14_method_76_code 67 = .ok (.invokevirtual 379, 3) := by decide +kernel
theorem dc12_canStep_70 : decode prog_14_method_76_code 70 = .ok (.ireturn, 1) := by decide +kernel
theorem dc12_canStep_71 : decode prog_14_method_76_code 71 = .ok (.aload_n 0, 1) := by decide +kernel
theorem dc12_canStep_72 : decode prog_14_method_76_code 72 = .ok (.aload_n 1, 1) := by decide +kernel
theorem dc12_canStep_73 : decode prog_14_method_76_code 73 = .ok (.iload_n 3, 1) := by decide +kernel
theorem dc12_canStep_74 : decode prog_14_method_76_code 74 = .ok (.invokevirtual 387, 3) := by decide +kernel
theorem dc12_canStep_77 : decode prog_14_method_76_code 77 = .ok (.ireturn, 1) := by decide +kernel
theorem dc12_canStep_78 : decode prog_14_method_76_code 78 = .ok (.aload_n 0, 1) := by decide +kernel
theorem dc12_canStep_79 : decode prog_14_method_76_code 79 = .ok (.aload_n 1, 1) := by decide +kernel
theorem dc12_canStep_80 : decode prog_14_method_76_code 80 = .ok (.iload_n 3, 1) := by decide +kernel
theorem dc12_canStep_81 : decode prog_14_method_76_code 81 = .ok (.invokevirtual 394, 3) := by decide +kernel
theorem dc12_canStep_84 : decode prog_14_method_76_code 84 = .ok (.ireturn, 1) := by decide +kernel
theorem dc12_goStep_0 : decode prog_14_method_77_code 0 = .ok (.aload_n 0, 1) := by decide +kernel
theorem dc12_goStep_1 : decode prog_14_method_77_code 1 = .ok (.getfield 49, 3) := by decide +kernel
theorem dc12_goStep_4 : decode prog_14_method_77_code 4 = .ok (.iload_n 2, 1) := by decide +kernel
theorem dc12_goStep_5 : decode prog_14_method_77_code 5 = .ok (.iconst 1, 1) := by decide +kernel
theorem dc12_goStep_6 : decode prog_14_method_77_code 6 = .ok (.iadd, 1) := by decide +kernel
theorem dc12_goStep_7 : decode prog_14_method_77_code 7 = .ok (.iaload, 1) := by decide +kernel
theorem dc12_goStep_8 : decode prog_14_method_77_code 8 = .ok (.istore_n 3, 1) := by decide +kernel
theorem dc12_goStep_9 : decode prog_14_method_77_code 9 = .ok (.aload_n 0, 1) := by decide +kernel
theorem dc12_goStep_10 : decode prog_14_method_77_code 10 = .ok (.getfield 49, 3) := by decide +kernel
theorem dc12_goStep_13 : decode prog_14_method_77_code 13 = .ok (.iload_n 2, 1) := by decide +kernel
theorem dc12_goStep_14 : decode prog_14_method_77_code 14 = .ok (.iaload, 1) := by decide +kernel
theorem dc12_goStep_15 : decode prog_14_method_77_code 15 = .ok (.tableswitch 59 0 2 #[25, 36, 52], 25) := by decide +kernel
theorem dc12_goStep_40 : decode prog_14_method_77_code 40 = .ok (.aload_n 0, 1) := by decide +kernel
theorem dc12_goStep_41 : decode prog_14_method_77_code 41 = .ok (.aload_n 1, 1) := by decide +kernel
theorem dc12_goStep_42 : decode prog_14_method_77_code 42 = .ok (.iload_n 3, 1) := by decide +kernel
theorem dc12_goStep_43 : decode prog_14_method_77_code 43 = .ok (.invokevirtual 349, 3) := by decide +kernel
theorem dc12_goStep_46 : decode prog_14_method_77_code 46 = .ok (.aload_n 0, 1) := by decide +kernel
theorem dc12_goStep_47 : decode prog_14_method_77_code 47 = .ok (.getfield 342, 3) := by decide +kernel
theorem dc12_goStep_50 : decode prog_14_method_77_code 50 = .ok (.ireturn, 1) := by decide +kernel
theorem dc12_goStep_51 : decode prog_14_method_77_code 51 = .ok (.aload_n 0, 1) := by decide +kernel
theorem dc12_goStep_52 : decode prog_14_method_77_code 52 = .ok (.aload_n 1, 1) := by decide +kernel
theorem dc12_goStep_53 : decode prog_14_method_77_code 53 = .ok (.iload_n 3, 1) := by decide +kernel
theorem dc12_goStep_54 : decode prog_14_method_77_code 54 = .ok (.aload_n 0, 1) := by decide +kernel
theorem dc12_goStep_55 : decode prog_14_method_77_code 55 = .ok (.getfield 49, 3) := by decide +kernel
theorem dc12_goStep_58 : decode prog_14_method_77_code 58 = .ok (.iload_n 2, 1) := by decide +kernel
theorem dc12_goStep_59 : decode prog_14_method_77_code 59 = .ok (.iconst 2, 1) := by decide +kernel
theorem dc12_goStep_60 : decode prog_14_method_77_code 60 = .ok (.iadd, 1) := by decide +kernel
theorem dc12_goStep_61 : decode prog_14_method_77_code 61 = .ok (.iaload, 1) := by decide +kernel
theorem dc12_goStep_62 : decode prog_14_method_77_code 62 = .ok (.invokevirtual 383, 3) := by decide +kernel
theorem dc12_goStep_65 : decode prog_14_method_77_code 65 = .ok (.iconst 0, 1) := by decide +kernel
theorem dc12_goStep_66 : decode prog_14_method_77_code 66 = .ok (.ireturn, 1) := by decide +kernel
theorem dc12_goStep_67 : decode prog_14_method_77_code 67 = .ok (.aload_n 1, 1) := by decide +kernel
theorem dc12_goStep_68 : decode prog_14_method_77_code 68 = .ok (.iload_n 3, 1) := by decide +kernel
theorem dc12_goStep_69 : decode prog_14_method_77_code 69 = .ok (.invokestatic 391, 3) := by decide +kernel
theorem dc12_goStep_72 : decode prog_14_method_77_code 72 = .ok (.iconst 0, 1) := by decide +kernel
theorem dc12_goStep_73 : decode prog_14_method_77_code 73 = .ok (.ireturn, 1) := by decide +kernel
theorem dc12_goStep_74 : decode prog_14_method_77_code 74 = .ok (.aload_n 1, 1) := by decide +kernel
theorem dc12_goStep_75 : decode prog_14_method_77_code 75 = .ok (.iload_n 3, 1) := by decide +kernel
theorem dc12_goStep_76 : decode prog_14_method_77_code 76 = .ok (.invokestatic 397, 3) := by decide +kernel
theorem dc12_goStep_79 : decode prog_14_method_77_code 79 = .ok (.iconst 0, 1) := by decide +kernel
theorem dc12_goStep_80 : decode prog_14_method_77_code 80 = .ok (.ireturn, 1) := by decide +kernel
theorem dc12_perform_0 : decode prog_14_method_79_code 0 = .ok (.aload_n 0, 1) := by decide +kernel
theorem dc12_perform_1 : decode prog_14_method_79_code 1 = .ok (.iconst 0, 1) := by decide +kernel
theorem dc12_perform_2 : decode prog_14_method_79_code 2 = .ok (.putfield 100, 3) := by decide +kernel
theorem dc12_perform_5 : decode prog_14_method_79_code 5 = .ok (.aload_n 0, 1) := by decide +kernel
theorem dc12_perform_6 : decode prog_14_method_79_code 6 = .ok (.iload_n 1, 1) := by decide +kernel
theorem dc12_perform_7 : decode prog_14_method_79_code 7 = .ok (.invokevirtual 415, 3) := by decide +kernel
theorem dc12_perform_10 : decode prog_14_method_79_code 10 = .ok (.ifCond .eq 10, 3) := by decide +kernel
theorem dc12_perform_13 : decode prog_14_method_79_code 13 = .ok (.aload_n 0, 1) := by decide +kernel
theorem dc12_perform_14 : decode prog_14_method_79_code 14 = .ok (.getfield 290, 3) := by decide +kernel
theorem dc12_perform_17 : decode prog_14_method_79_code 17 = .ok (.ifCond .ne 5, 3) := by decide +kernel
theorem dc12_perform_20 : decode prog_14_method_79_code 20 = .ok (.iconst (-1), 1) := by decide +kernel
theorem dc12_perform_21 : decode prog_14_method_79_code 21 = .ok (.ireturn, 1) := by decide +kernel
theorem dc12_perform_22 : decode prog_14_method_79_code 22 = .ok (.iconst 0, 1) := by decide +kernel
theorem dc12_perform_23 : decode prog_14_method_79_code 23 = .ok (.istore_n 2, 1) := by decide +kernel
theorem dc12_perform_24 : decode prog_14_method_79_code 24 = .ok (.iload_n 2, 1) := by decide +kernel
theorem dc12_perform_25 : decode prog_14_method_79_code 25 = .ok (.aload_n 0, 1) := by decide +kernel
theorem dc12_perform_26 : decode prog_14_method_79_code 26 = .ok (.getfield 52, 3) := by decide +kernel
theorem dc12_perform_29 : decode prog_14_method_79_code 29 = .ok (.iload_n 1, 1) := by decide +kernel
theorem dc12_perform_30 : decode prog_14_method_79_code 30 = .ok (.iaload, 1) := by decide +kernel
theorem dc12_perform_31 : decode prog_14_method_79_code 31 = .ok (.if_icmp .ge 49, 3) := by decide +kernel
theorem dc12_perform_34 : decode prog_14_method_79_code 34 = .ok (.aload_n 0, 1) := by decide +kernel
theorem dc12_perform_35 : decode prog_14_method_79_code 35 = .ok (.aload_n 0, 1) := by decide +kernel
theorem dc12_perform_36 : decode prog_14_method_79_code 36 = .ok (.getfield 55, 3) := by decide +kernel
theorem dc12_perform_39 : decode prog_14_method_79_code 39 = .ok (.iconst 3, 1) := by decide +kernel
theorem dc12_perform_40 : decode prog_14_method_79_code 40 = .ok (.bipush 16, 2) := by decide +kernel
theorem dc12_perform_42 : decode prog_14_method_79_code 42 = .ok (.iload_n 1, 1) := by decide +kernel
theorem dc12_perform_43 : decode prog_14_method_79_code 43 = .ok (.imul, 1) := by decide +kernel
theorem dc12_perform_44 : decode prog_14_method_79_code 44 = .ok (.iload_n 2, 1) := by decide +kernel
theorem dc12_perform_45 : decode prog_14_method_79_code 45 = .ok (.iadd, 1) := by decide +kernel
theorem dc12_perform_46 : decode prog_14_method_79_code 46 = .ok (.imul, 1) := by decide +kernel
theorem dc12_perform_47 : decode prog_14_method_79_code 47 = .ok (.invokevirtual 419, 3) := by decide +kernel
theorem dc12_perform_50 : decode prog_14_method_79_code 50 = .ok (.ifCond .eq 30, 3) := by decide +kernel
theorem dc12_perform_53 : decode prog_14_method_79_code 53 = .ok (.aload_n 0, 1) := by decide +kernel
theorem dc12_perform_54 : decode prog_14_method_79_code 54 = .ok (.invokevirtual 366, 3) := by decide +kernel
theorem dc12_perform_57 : decode prog_14_method_79_code 57 = .ok (.aload_n 0, 1) := by decide +kernel
theorem dc12_perform_58 : decode prog_14_method_79_code 58 = .ok (.aload_n 0, 1) := by decide +kernel
theorem dc12_perform_59 : decode prog_14_method_79_code 59 = .ok (.getfield 55, 3) := by decide +kernel
theorem dc12_perform_62 : decode prog_14_method_79_code 62 = .ok (.iconst 3, 1) := by decide +kernel
theorem dc12_perform_63 : decode prog_14_method_79_code 63 = .ok (.bipush 16, 2) := by decide +kernel
theorem dc12_perform_65 : decode prog_14_method_79_code 65 = .ok (.iload_n 1, 1) := by decide +kernel
theorem dc12_perform_66 : decode prog_14_method_79_code 66 = .ok (.imul, 1) := by decide +kernel
theorem dc12_perform_67 : decode prog_14_method_79_code 67 = .ok (.iload_n 2, 1) := by decide +kernel
theorem dc12_perform_68 : decode prog_14_method_79_code 68 = .ok (.iadd, 1) := by decide +kernel
theorem dc12_perform_69 : decode prog_14_method_79_code 69 = .ok (.imul, 1) := by decide +kernel
theorem dc12_perform_70 : decode prog_14_method_79_code 70 = .ok (.invokevirtual 422, 3) := by decide +kernel
theorem dc12_perform_73 : decode prog_14_method_79_code 73 = .ok (.istore_n 3, 1) := by decide +kernel
theorem dc12_perform_74 : decode prog_14_method_79_code 74 = .ok (.iinc 2 1, 3) := by decide +kernel
theorem dc12_perform_77 : decode prog_14_method_79_code 77 = .ok (.goto (-53), 3) := by decide +kernel
theorem dc12_perform_80 : decode prog_14_method_79_code 80 = .ok (.iload_n 2, 1) := by decide +kernel
theorem dc12_perform_81 : decode prog_14_method_79_code 81 = .ok (.ireturn, 1) := by decide +kernel
theorem dc12_falls_0 : decode prog_14_method_80_code 0 = .ok (.aload_n 0, 1) := by decide +kernel
theorem dc12_falls_1 : decode prog_14_method_80_code 1 = .ok (.iconst 0, 1) := by decide +kernel
theorem dc12_falls_2 : decode prog_14_method_80_code 2 = .ok (.putfield 100, 3) := by decide +kernel
theorem dc12_falls_5 : decode prog_14_method_80_code 5 = .ok (.aload_n 0, 1) := by decide +kernel
theorem dc12_falls_6 : decode prog_14_method_80_code 6 = .ok (.iload_n 1, 1) := by decide +kernel
theorem dc12_falls_7 : decode prog_14_method_80_code 7 = .ok (.invokevirtual 353, 3) := by decide +kernel
theorem dc12_falls_10 : decode prog_14_method_80_code 10 = .ok (.ifCond .eq 10, 3) := by decide +kernel
theorem dc12_falls_13 : decode prog_14_method_80_code 13 = .ok (.iload_n 2, 1) := by decide +kernel
theorem dc12_falls_14 : decode prog_14_method_80_code 14 = .ok (.invokestatic 363, 3) := by decide +kernel
theorem dc12_falls_17 : decode prog_14_method_80_code 17 = .ok (.ifCond .ne 5, 3) := by decide +kernel
theorem dc12_falls_20 : decode prog_14_method_80_code 20 = .ok (.iconst (-1), 1) := by decide +kernel
theorem dc12_falls_21 : decode prog_14_method_80_code 21 = .ok (.ireturn, 1) := by decide +kernel
theorem dc12_falls_22 : decode prog_14_method_80_code 22 = .ok (.aload_n 0, 1) := by decide +kernel
theorem dc12_falls_23 : decode prog_14_method_80_code 23 = .ok (.iload_n 2, 1) := by decide +kernel
theorem dc12_falls_24 : decode prog_14_method_80_code 24 = .ok (.invokevirtual 425, 3) := by decide +kernel
theorem dc12_falls_27 : decode prog_14_method_80_code 27 = .ok (.aload_n 0, 1) := by decide +kernel
theorem dc12_falls_28 : decode prog_14_method_80_code 28 = .ok (.getfield 72, 3) := by decide +kernel
theorem dc12_falls_31 : decode prog_14_method_80_code 31 = .ok (.iload_n 1, 1) := by decide +kernel
theorem dc12_falls_32 : decode prog_14_method_80_code 32 = .ok (.iaload, 1) := by decide +kernel
theorem dc12_falls_33 : decode prog_14_method_80_code 33 = .ok (.ireturn, 1) := by decide +kernel
theorem dc12_tries_0 : decode prog_14_method_50_code 0 = .ok (.aload_n 0, 1) := by decide +kernel
theorem dc12_tries_1 : decode prog_14_method_50_code 1 = .ok (.getfield 55, 3) := by decide +kernel
theorem dc12_tries_4 : decode prog_14_method_50_code 4 = .ok (.aload_n 0, 1) := by decide +kernel
theorem dc12_tries_5 : decode prog_14_method_50_code 5 = .ok (.getfield 58, 3) := by decide +kernel
theorem dc12_tries_8 : decode prog_14_method_50_code 8 = .ok (.invokestatic 345, 3) := by decide +kernel
theorem dc12_tries_11 : decode prog_14_method_50_code 11 = .ok (.aload_n 0, 1) := by decide +kernel
theorem dc12_tries_12 : decode prog_14_method_50_code 12 = .ok (.aload_n 0, 1) := by decide +kernel
theorem dc12_tries_13 : decode prog_14_method_50_code 13 = .ok (.getfield 58, 3) := by decide +kernel
theorem dc12_tries_16 : decode prog_14_method_50_code 16 = .ok (.iload_n 1, 1) := by decide +kernel
theorem dc12_tries_17 : decode prog_14_method_50_code 17 = .ok (.invokevirtual 349, 3) := by decide +kernel
theorem dc12_tries_20 : decode prog_14_method_50_code 20 = .ok (.return_, 1) := by decide +kernel
theorem dc12_drowns_0 : decode prog_14_method_81_code 0 = .ok (.aload_n 0, 1) := by decide +kernel
theorem dc12_drowns_1 : decode prog_14_method_81_code 1 = .ok (.iconst 0, 1) := by decide +kernel
theorem dc12_drowns_2 : decode prog_14_method_81_code 2 = .ok (.putfield 100, 3) := by decide +kernel
theorem dc12_drowns_5 : decode prog_14_method_81_code 5 = .ok (.aload_n 0, 1) := by decide +kernel
theorem dc12_drowns_6 : decode prog_14_method_81_code 6 = .ok (.getfield 290, 3) := by decide +kernel
theorem dc12_drowns_9 : decode prog_14_method_81_code 9 = .ok (.ifCond .eq 10, 3) := by decide +kernel
theorem dc12_drowns_12 : decode prog_14_method_81_code 12 = .ok (.iload_n 1, 1) := by decide +kernel
theorem dc12_drowns_13 : decode prog_14_method_81_code 13 = .ok (.invokestatic 363, 3) := by decide +kernel
theorem dc12_drowns_16 : decode prog_14_method_81_code 16 = .ok (.ifCond .ne 5, 3) := by decide +kernel
theorem dc12_drowns_19 : decode prog_14_method_81_code 19 = .ok (.iconst (-1), 1) := by decide +kernel
theorem dc12_drowns_20 : decode prog_14_method_81_code 20 = .ok (.ireturn, 1) := by decide +kernel
theorem dc12_drowns_21 : decode prog_14_method_81_code 21 = .ok (.aload_n 0, 1) := by decide +kernel
theorem dc12_drowns_22 : decode prog_14_method_81_code 22 = .ok (.iload_n 1, 1) := by decide +kernel
theorem dc12_drowns_23 : decode prog_14_method_81_code 23 = .ok (.invokevirtual 425, 3) := by decide +kernel
theorem dc12_drowns_26 : decode prog_14_method_81_code 26 = .ok (.aload_n 0, 1) := by decide +kernel
theorem dc12_drowns_27 : decode prog_14_method_81_code 27 = .ok (.getfield 339, 3) := by decide +kernel
theorem dc12_drowns_30 : decode prog_14_method_81_code 30 = .ok (.ireturn, 1) := by decide +kernel
theorem dc12_harvest_0 : decode prog_14_method_82_code 0 = .ok (.aload_n 0, 1) := by decide +kernel
theorem dc12_harvest_1 : decode prog_14_method_82_code 1 = .ok (.iconst 0, 1) := by decide +kernel
theorem dc12_harvest_2 : decode prog_14_method_82_code 2 = .ok (.putfield 100, 3) := by decide +kernel
theorem dc12_harvest_5 : decode prog_14_method_82_code 5 = .ok (.aload_n 0, 1) := by decide +kernel
theorem dc12_harvest_6 : decode prog_14_method_82_code 6 = .ok (.getfield 290, 3) := by decide +kernel
theorem dc12_harvest_9 : decode prog_14_method_82_code 9 = .ok (.ifCond .eq 10, 3) := by decide +kernel
theorem dc12_harvest_12 : decode prog_14_method_82_code 12 = .ok (.iload_n 1, 1) := by decide +kernel
theorem dc12_harvest_13 : decode prog_14_method_82_code 13 = .ok (.invokestatic 363, 3) := by decide +kernel
theorem dc12_harvest_16 : decode prog_14_method_82_code 16 = .ok (.ifCond .ne 5, 3) := by decide +kernel
theorem dc12_harvest_19 : decode prog_14_method_82_code 19 = .ok (.iconst (-1), 1) := by decide +kernel
theorem dc12_harvest_20 : decode prog_14_method_82_code 20 = .ok (.ireturn, 1) := by decide +kernel
theorem dc12_harvest_21 : decode prog_14_method_82_code 21 = .ok (.aload_n 0, 1) := by decide +kernel
theorem dc12_harvest_22 : decode prog_14_method_82_code 22 = .ok (.iload_n 1, 1) := by decide +kernel
theorem dc12_harvest_23 : decode prog_14_method_82_code 23 = .ok (.invokevirtual 425, 3) := by decide +kernel
theorem dc12_harvest_26 : decode prog_14_method_82_code 26 = .ok (.aload_n 0, 1) := by decide +kernel
theorem dc12_harvest_27 : decode prog_14_method_82_code 27 = .ok (.getfield 342, 3) := by decide +kernel
theorem dc12_harvest_30 : decode prog_14_method_82_code 30 = .ok (.ireturn, 1) := by decide +kernel
theorem dc12_safe_0 : decode prog_14_method_83_code 0 = .ok (.aload_n 0, 1) := by decide +kernel
theorem dc12_safe_1 : decode prog_14_method_83_code 1 = .ok (.iconst 0, 1) := by decide +kernel
theorem dc12_safe_2 : decode prog_14_method_83_code 2 = .ok (.putfield 100, 3) := by decide +kernel
theorem dc12_safe_5 : decode prog_14_method_83_code 5 = .ok (.aload_n 0, 1) := by decide +kernel
theorem dc12_safe_6 : decode prog_14_method_83_code 6 = .ok (.getfield 290, 3) := by decide +kernel
theorem dc12_safe_9 : decode prog_14_method_83_code 9 = .ok (.ifCond .ne 5, 3) := by decide +kernel
theorem dc12_safe_12 : decode prog_14_method_83_code 12 = .ok (.iconst (-1), 1) := by decide +kernel
theorem dc12_safe_13 : decode prog_14_method_83_code 13 = .ok (.ireturn, 1) := by decide +kernel
theorem dc12_safe_14 : decode prog_14_method_83_code 14 = .ok (.bipush 99, 2) := by decide +kernel
theorem dc12_safe_16 : decode prog_14_method_83_code 16 = .ok (.istore_n 1, 1) := by decide +kernel
theorem dc12_safe_17 : decode prog_14_method_83_code 17 = .ok (.iload_n 1, 1) := by decide +kernel
theorem dc12_safe_18 : decode prog_14_method_83_code 18 = .ok (.ifCond .lt 23, 3) := by decide +kernel
theorem dc12_safe_21 : decode prog_14_method_83_code 21 = .ok (.aload_n 0, 1) := by decide +kernel
theorem dc12_safe_22 : decode prog_14_method_83_code 22 = .ok (.iload_n 1, 1) := by decide +kernel
theorem dc12_safe_23 : decode prog_14_method_83_code 23 = .ok (.invokevirtual 425, 3) := by decide +kernel
theorem dc12_safe_26 : decode prog_14_method_83_code 26 = .ok (.aload_n 0, 1) := by decide +kernel
theorem dc12_safe_27 : decode prog_14_method_83_code 27 = .ok (.getfield 339, 3) := by decide +kernel
theorem dc12_safe_30 : decode prog_14_method_83_code 30 = .ok (.ifCond .ne 5, 3) := by decide +kernel
theorem dc12_safe_33 : decode prog_14_method_83_code 33 = .ok (.iload_n 1, 1) := by decide +kernel
theorem dc12_safe_34 : decode prog_14_method_83_code 34 = .ok (.ireturn, 1) := by decide +kernel
theorem dc12_safe_35 : decode prog_14_method_83_code 35 = .ok (.iinc 1 (-1), 3) := by decide +kernel
theorem dc12_safe_38 : decode prog_14_method_83_code 38 = .ok (.goto (-21), 3) := by decide +kernel
theorem dc12_safe_41 : decode prog_14_method_83_code 41 = .ok (.iconst (-1), 1) := by decide +kernel
theorem dc12_safe_42 : decode prog_14_method_83_code 42 = .ok (.ireturn, 1) := by decide +kernel
theorem dc12_least_0 : decode prog_14_method_84_code 0 = .ok (.aload_n 0, 1) := by decide +kernel
theorem dc12_least_1 : decode prog_14_method_84_code 1 = .ok (.iconst 0, 1) := by decide +kernel
theorem dc12_least_2 : decode prog_14_method_84_code 2 = .ok (.putfield 100, 3) := by decide +kernel
theorem dc12_least_5 : decode prog_14_method_84_code 5 = .ok (.aload_n 0, 1) := by decide +kernel
theorem dc12_least_6 : decode prog_14_method_84_code 6 = .ok (.getfield 290, 3) := by decide +kernel
theorem dc12_least_9 : decode prog_14_method_84_code 9 = .ok (.ifCond .eq 20, 3) := by decide +kernel
theorem dc12_least_12 : decode prog_14_method_84_code 12 = .ok (.iload_n 1, 1) := by decide +kernel
theorem dc12_least_13 : decode prog_14_method_84_code 13 = .ok (.invokestatic 363, 3) := by decide +kernel
theorem dc12_least_16 : decode prog_14_method_84_code 16 = .ok (.ifCond .eq 13, 3) := by decide +kernel
theorem dc12_least_19 : decode prog_14_method_84_code 19 = .ok (.iload_n 2, 1) := by decide +kernel
theorem dc12_least_20 : decode prog_14_method_84_code 20 = .ok (.i2l, 1) := by decide +kernel
theorem dc12_least_21 : decode prog_14_method_84_code 21 = .ok (.lconst 0, 1) := by decide +kernel
theorem dc12_least_22 : decode prog_14_method_84_code 22 = .ok (.lconst 1, 1) := by decide +kernel
theorem dc12_least_23 : decode prog_14_method_84_code 23 = .ok (.invokestatic 221, 3) := by decide +kernel
theorem dc12_least_26 : decode prog_14_method_84_code 26 = .ok (.ifCond .ne 5, 3) := by decide +kernel
theorem dc12_least_29 : decode prog_14_method_84_code 29 = .ok (.iconst (-1), 1) := by decide +kernel
theorem dc12_least_30 : decode prog_14_method_84_code 30 = .ok (.ireturn, 1) := by decide +kernel
theorem dc12_least_31 : decode prog_14_method_84_code 31 = .ok (.iconst 0, 1) := by decide +kernel
theorem dc12_least_32 : decode prog_14_method_84_code 32 = .ok (.istore_n 3, 1) := by decide +kernel
theorem dc12_least_33 : decode prog_14_method_84_code 33 = .ok (.iload_n 3, 1) := by decide +kernel
theorem dc12_least_34 : decode prog_14_method_84_code 34 = .ok (.sipush 999, 3) := by decide +kernel
theorem dc12_least_37 : decode prog_14_method_84_code 37 = .ok (.if_icmp .gt 98, 3) := by decide +kernel
theorem dc12_least_40 : decode prog_14_method_84_code 40 = .ok (.iconst 0, 1) := by decide +kernel
theorem dc12_least_41 : decode prog_14_method_84_code 41 = .ok (.istore 4, 2) := by decide +kernel
theorem dc12_least_43 : decode prog_14_method_84_code 43 = .ok (.iload 4, 2) := by decide +kernel
theorem dc12_least_45 : decode prog_14_method_84_code 45 = .ok (.aload_n 0, 1) := by decide +kernel
theorem dc12_least_46 : decode prog_14_method_84_code 46 = .ok (.getfield 290, 3) := by decide +kernel
theorem dc12_least_49 : decode prog_14_method_84_code 49 = .ok (.if_icmp .ge 80, 3) := by decide +kernel
theorem dc12_least_52 : decode prog_14_method_84_code 52 = .ok (.aload_n 0, 1) := by decide +kernel
theorem dc12_least_53 : decode prog_14_method_84_code 53 = .ok (.getfield 55, 3) := by decide +kernel
theorem dc12_least_56 : decode prog_14_method_84_code 56 = .ok (.iconst 4, 1) := by decide +kernel
theorem dc12_least_57 : decode prog_14_method_84_code 57 = .ok (.iload 4, 2) := by decide +kernel
theorem dc12_least_59 : decode prog_14_method_84_code 59 = .ok (.imul, 1) := by decide +kernel
theorem dc12_least_60 : decode prog_14_method_84_code 60 = .ok (.iconst 0, 1) := by decide +kernel
theorem dc12_least_61 : decode prog_14_method_84_code 61 = .ok (.iadd, 1) := by decide +kernel
theorem dc12_least_62 : decode prog_14_method_84_code 62 = .ok (.iaload, 1) := by decide +kernel
theorem dc12_least_63 : decode prog_14_method_84_code 63 = .ok (.iload_n 3, 1) := by decide +kernel
theorem dc12_least_64 : decode prog_14_method_84_code 64 = .ok (.if_icmp .ge 6, 3) := by decide +kernel
theorem dc12_least_67 : decode prog_14_method_84_code 67 = .ok (.goto 56, 3) := by decide +kernel
theorem dc12_least_70 : decode prog_14_method_84_code 70 = .ok (.aload_n 0, 1) := by decide +kernel
theorem dc12_least_71 : decode prog_14_method_84_code 71 = .ok (.getfield 55, 3) := by decide +kernel
theorem dc12_least_74 : decode prog_14_method_84_code 74 = .ok (.aload_n 0, 1) := by decide +kernel
theorem dc12_least_75 : decode prog_14_method_84_code 75 = .ok (.getfield 58, 3) := by decide +kernel
theorem dc12_least_78 : decode prog_14_method_84_code 78 = .ok (.invokestatic 345, 3) := by decide +kernel
theorem dc12_least_81 : decode prog_14_method_84_code 81 = .ok (.aload_n 0, 1) := by decide +kernel
theorem dc12_least_82 : decode prog_14_method_84_code 82 = .ok (.getfield 58, 3) := by decide +kernel
theorem dc12_least_85 : decode prog_14_method_84_code 85 = .ok (.iconst 4, 1) := by decide +kernel
theorem dc12_least_86 : decode prog_14_method_84_code 86 = .ok (.iload 4, 2) := by decide +kernel
theorem dc12_least_88 : decode prog_14_method_84_code 88 = .ok (.imul, 1) := by decide +kernel
theorem dc12_least_89 : decode prog_14_method_84_code 89 = .ok (.iconst 0, 1) := by decide +kernel
theorem dc12_least_90 : decode prog_14_method_84_code 90 = .ok (.iadd, 1) := by decide +kernel
theorem dc12_least_91 : decode prog_14_method_84_code 91 = .ok (.dup2, 1) := by decide +kernel
theorem dc12_least_92 : decode prog_14_method_84_code 92 = .ok (.iaload, 1) := by decide +kernel
theorem dc12_least_93 : decode prog_14_method_84_code 93 = .ok (.iload_n 3, 1) := by decide +kernel
theorem dc12_least_94 : decode prog_14_method_84_code 94 = .ok (.isub, 1) := by decide +kernel
theorem dc12_least_95 : decode prog_14_method_84_code 95 = .ok (.iastore, 1) := by decide +kernel
theorem dc12_least_96 : decode prog_14_method_84_code 96 = .ok (.aload_n 0, 1) := by decide +kernel
theorem dc12_least_97 : decode prog_14_method_84_code 97 = .ok (.aload_n 0, 1) := by decide +kernel
theorem dc12_least_98 : decode prog_14_method_84_code 98 = .ok (.getfield 58, 3) := by decide +kernel
theorem dc12_least_101 : decode prog_14_method_84_code 101 = .ok (.iload_n 1, 1) := by decide +kernel
theorem dc12_least_102 : decode prog_14_method_84_code 102 = .ok (.invokevirtual 349, 3) := by decide +kernel
theorem dc12_least_105 : decode prog_14_method_84_code 105 = .ok (.aload_n 0, 1) := by decide +kernel
theorem dc12_least_106 : decode prog_14_method_84_code 106 = .ok (.getfield 339, 3) := by decide +kernel
theorem dc12_least_109 : decode prog_14_method_84_code 109 = .ok (.ifCond .ne 14, 3) := by decide +kernel
theorem dc12_least_112 : decode prog_14_method_84_code 112 = .ok (.iload_n 2, 1) := by decide +kernel
theorem dc12_least_113 : decode prog_14_method_84_code 113 = .ok (.ifCond .ne 8, 3) := by decide +kernel
theorem dc12_least_116 : decode prog_14_method_84_code 116 = .ok (.iload 4, 2) := by decide +kernel
theorem dc12_least_118 : decode prog_14_method_84_code 118 = .ok (.goto 4, 3) := by decide +kernel
theorem dc12_least_121 : decode prog_14_method_84_code 121 = .ok (.iload_n 3, 1) := by decide +kernel
