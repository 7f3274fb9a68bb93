theorem dc11_init_0 : decode prog_1_method_1_code 0 = .ok (.aload_n 0, 1) := by decide +kernel
theorem dc11_init_1 : decode prog_1_method_1_code 1 = .ok (.invokespecial 1, 3) := by decide +kernel
theorem dc11_init_4 : decode prog_1_method_1_code 4 = .ok (.aload_n 0, 1) := by decide +kernel
theorem dc11_init_5 : decode prog_1_method_1_code 5 = .ok (.new 7, 3) := by decide +kernel
theorem dc11_init_8 : decode prog_1_method_1_code 8 = .ok (.dup, 1) := by decide +kernel
theorem dc11_init_9 : decode prog_1_method_1_code 9 = .ok (.invokespecial 9, 3) := by decide +kernel
theorem dc11_init_12 : decode prog_1_method_1_code 12 = .ok (.putfield 10, 3) := by decide +kernel
theorem dc11_init_15 : decode prog_1_method_1_code 15 = .ok (.aload_n 0, 1) := by decide +kernel
theorem dc11_init_16 : decode prog_1_method_1_code 16 = .ok (.new 16, 3) := by decide +kernel
theorem dc11_init_19 : decode prog_1_method_1_code 19 = .ok (.dup, 1) := by decide +kernel
theorem dc11_init_20 : decode prog_1_method_1_code 20 = .ok (.aload_n 0, 1) := by decide +kernel
theorem dc11_init_21 : decode prog_1_method_1_code 21 = .ok (.getfield 10, 3) := by decide +kernel
theorem dc11_init_24 : decode prog_1_method_1_code 24 = .ok (.invokespecial 18, 3) := by decide +kernel
theorem dc11_init_27 : decode prog_1_method_1_code 27 = .ok (.putfield 21, 3) := by decide +kernel
theorem dc11_init_30 : decode prog_1_method_1_code 30 = .ok (.aload_n 0, 1) := by decide +kernel
theorem dc11_init_31 : decode prog_1_method_1_code 31 = .ok (.new 25, 3) := by decide +kernel
theorem dc11_init_34 : decode prog_1_method_1_code 34 = .ok (.dup, 1) := by decide +kernel
theorem dc11_init_35 : decode prog_1_method_1_code 35 = .ok (.aload_n 0, 1) := by decide +kernel
theorem dc11_init_36 : decode prog_1_method_1_code 36 = .ok (.getfield 10, 3) := by decide +kernel
theorem dc11_init_39 : decode prog_1_method_1_code 39 = .ok (.invokespecial 27, 3) := by decide +kernel
theorem dc11_init_42 : decode prog_1_method_1_code 42 = .ok (.putfield 28, 3) := by decide +kernel
theorem dc11_init_45 : decode prog_1_method_1_code 45 = .ok (.aload_n 0, 1) := by decide +kernel
theorem dc11_init_46 : decode prog_1_method_1_code 46 = .ok (.new 32, 3) := by decide +kernel
theorem dc11_init_49 : decode prog_1_method_1_code 49 = .ok (.dup, 1) := by decide +kernel
theorem dc11_init_50 : decode prog_1_method_1_code 50 = .ok (.aload_n 0, 1) := by decide +kernel
theorem dc11_init_51 : decode prog_1_method_1_code 51 = .ok (.getfield 10, 3) := by decide +kernel
theorem dc11_init_54 : decode prog_1_method_1_code 54 = .ok (.invokespecial 34, 3) := by decide +kernel
theorem dc11_init_57 : decode prog_1_method_1_code 57 = .ok (.putfield 35, 3) := by decide +kernel
theorem dc11_init_60 : decode prog_1_method_1_code 60 = .ok (.aload_n 0, 1) := by decide +kernel
theorem dc11_init_61 : decode prog_1_method_1_code 61 = .ok (.iconst 4, 1) := by decide +kernel
theorem dc11_init_62 : decode prog_1_method_1_code 62 = .ok (.anewarray 39, 3) := by decide +kernel
theorem dc11_init_65 : decode prog_1_method_1_code 65 = .ok (.putfield 41, 3) := by decide +kernel
theorem dc11_init_68 : decode prog_1_method_1_code 68 = .ok (.aload_n 0, 1) := by decide +kernel
theorem dc11_init_69 : decode prog_1_method_1_code 69 = .ok (.iconst 4, 1) := by decide +kernel
theorem dc11_init_70 : decode prog_1_method_1_code 70 = .ok (.anewarray 45, 3) := by decide +kernel
theorem dc11_init_73 : decode prog_1_method_1_code 73 = .ok (.putfield 47, 3) := by decide +kernel
theorem dc11_init_76 : decode prog_1_method_1_code 76 = .ok (.aload_n 0, 1) := by decide +kernel
theorem dc11_init_77 : decode prog_1_method_1_code 77 = .ok (.iconst (-1), 1) := by decide +kernel
theorem dc11_init_78 : decode prog_1_method_1_code 78 = .ok (.putfield 51, 3) := by decide +kernel
theorem dc11_init_81 : decode prog_1_method_1_code 81 = .ok (.aload_n 0, 1) := by decide +kernel
theorem dc11_init_82 : decode prog_1_method_1_code 82 = .ok (.new 55, 3) := by decide +kernel
theorem dc11_init_85 : decode prog_1_method_1_code 85 = .ok (.dup, 1) := by decide +kernel
theorem dc11_init_86 : decode prog_1_method_1_code 86 = .ok (.invokespecial 57, 3) := by decide +kernel
theorem dc11_init_89 : decode prog_1_method_1_code 89 = .ok (.putfield 58, 3) := by decide +kernel
theorem dc11_init_92 : decode prog_1_method_1_code 92 = .ok (.aload_n 0, 1) := by decide +kernel
theorem dc11_init_93 : decode prog_1_method_1_code 93 = .ok (.new 55, 3) := by decide +kernel
theorem dc11_init_96 : decode prog_1_method_1_code 96 = .ok (.dup, 1) := by decide +kernel
theorem dc11_init_97 : decode prog_1_method_1_code 97 = .ok (.invokespecial 57, 3) := by decide +kernel
theorem dc11_init_100 : decode prog_1_method_1_code 100 = .ok (.putfield 62, 3) := by decide +kernel
theorem dc11_init_103 : decode prog_1_method_1_code 103 = .ok (.aload_n 0, 1) := by decide +kernel
theorem dc11_init_104 : decode prog_1_method_1_code 104 = .ok (.new 65, 3) := by decide +kernel
theorem dc11_init_107 : decode prog_1_method_1_code 107 = .ok (.dup, 1) := by decide +kernel
theorem dc11_init_108 : decode prog_1_method_1_code 108 = .ok (.invokespecial 67, 3) := by decide +kernel
theorem dc11_init_111 : decode prog_1_method_1_code 111 = .ok (.putfield 68, 3) := by decide +kernel
theorem dc11_init_114 : decode prog_1_method_1_code 114 = .ok (.aload_n 0, 1) := by decide +kernel
theorem dc11_init_115 : decode prog_1_method_1_code 115 = .ok (.new 72, 3) := by decide +kernel
theorem dc11_init_118 : decode prog_1_method_1_code 118 = .ok (.dup, 1) := by decide +kernel
theorem dc11_init_119 : decode prog_1_method_1_code 119 = .ok (.invokespecial 74, 3) := by decide +kernel
theorem dc11_init_122 : decode prog_1_method_1_code 122 = .ok (.putfield 75, 3) := by decide +kernel
theorem dc11_init_125 : decode prog_1_method_1_code 125 = .ok (.aload_n 0, 1) := by decide +kernel
theorem dc11_init_126 : decode prog_1_method_1_code 126 = .ok (.new 79, 3) := by decide +kernel
theorem dc11_init_129 : decode prog_1_method_1_code 129 = .ok (.dup, 1) := by decide +kernel
theorem dc11_init_130 : decode prog_1_method_1_code 130 = .ok (.invokespecial 81, 3) := by decide +kernel
theorem dc11_init_133 : decode prog_1_method_1_code 133 = .ok (.putfield 82, 3) := by decide +kernel
theorem dc11_init_136 : decode prog_1_method_1_code 136 = .ok (.aload_n 0, 1) := by decide +kernel
theorem dc11_init_137 : decode prog_1_method_1_code 137 = .ok (.new 86, 3) := by decide +kernel
theorem dc11_init_140 : decode prog_1_method_1_code 140 = .ok (.dup, 1) := by decide +kernel
theorem dc11_init_141 : decode prog_1_method_1_code 141 = .ok (.invokespecial 88, 3) := by decide +kernel
theorem dc11_init_144 : decode prog_1_method_1_code 144 = .ok (.putfield 89, 3) := by decide +kernel
theorem dc11_init_147 : decode prog_1_method_1_code 147 = .ok (.aload_n 0, 1) := by decide +kernel
theorem dc11_init_148 : decode prog_1_method_1_code 148 = .ok (.bipush 36, 2) := by decide +kernel
theorem dc11_init_150 : decode prog_1_method_1_code 150 = .ok (.newarray .int, 2) := by decide +kernel
theorem dc11_init_152 : decode prog_1_method_1_code 152 = .ok (.putfield 93, 3) := by decide +kernel
theorem dc11_init_155 : decode prog_1_method_1_code 155 = .ok (.aload_n 0, 1) := by decide +kernel
theorem dc11_init_156 : decode prog_1_method_1_code 156 = .ok (.bipush 36, 2) := by decide +kernel
theorem dc11_init_158 : decode prog_1_method_1_code 158 = .ok (.newarray .int, 2) := by decide +kernel
theorem dc11_init_160 : decode prog_1_method_1_code 160 = .ok (.putfield 97, 3) := by decide +kernel
theorem dc11_init_163 : decode prog_1_method_1_code 163 = .ok (.aload_n 0, 1) := by decide +kernel
theorem dc11_init_164 : decode prog_1_method_1_code 164 = .ok (.bipush 6, 2) := by decide +kernel
theorem dc11_init_166 : decode prog_1_method_1_code 166 = .ok (.newarray .int, 2) := by decide +kernel
theorem dc11_init_168 : decode prog_1_method_1_code 168 = .ok (.putfield 100, 3) := by decide +kernel
theorem dc11_init_171 : decode prog_1_method_1_code 171 = .ok (.return_, 1) := by decide +kernel
theorem dc11_feed_0 : decode prog_1_method_2_code 0 = .ok (.iload_n 1, 1) := by decide +kernel
theorem dc11_feed_1 : decode prog_1_method_2_code 1 = .ok (.invokestatic 103, 3) := by decide +kernel
theorem dc11_feed_4 : decode prog_1_method_2_code 4 = .ok (.iload_n 2, 1) := by decide +kernel
theorem dc11_feed_5 : decode prog_1_method_2_code 5 = .ok (.invokestatic 103, 3) := by decide +kernel
theorem dc11_feed_8 : decode prog_1_method_2_code 8 = .ok (.iadd, 1) := by decide +kernel
theorem dc11_feed_9 : decode prog_1_method_2_code 9 = .ok (.iload_n 3, 1) := by decide +kernel
theorem dc11_feed_10 : decode prog_1_method_2_code 10 = .ok (.invokestatic 103, 3) := by decide +kernel
theorem dc11_feed_13 : decode prog_1_method_2_code 13 = .ok (.iadd, 1) := by decide +kernel
theorem dc11_feed_14 : decode prog_1_method_2_code 14 = .ok (.iload 4, 2) := by decide +kernel
theorem dc11_feed_16 : decode prog_1_method_2_code 16 = .ok (.invokestatic 103, 3) := by decide +kernel
theorem dc11_feed_19 : decode prog_1_method_2_code 19 = .ok (.iadd, 1) := by decide +kernel
theorem dc11_feed_20 : decode prog_1_method_2_code 20 = .ok (.iload 5, 2) := by decide +kernel
theorem dc11_feed_22 : decode prog_1_method_2_code 22 = .ok (.invokestatic 103, 3) := by decide +kernel
theorem dc11_feed_25 : decode prog_1_method_2_code 25 = .ok (.iadd, 1) := by decide +kernel
theorem dc11_feed_26 : decode prog_1_method_2_code 26 = .ok (.istore 6, 2) := by decide +kernel
theorem dc11_feed_28 : decode prog_1_method_2_code 28 = .ok (.aload_n 0, 1) := by decide +kernel
theorem dc11_feed_29 : decode prog_1_method_2_code 29 = .ok (.getfield 10, 3) := by decide +kernel
theorem dc11_feed_32 : decode prog_1_method_2_code 32 = .ok (.getfield 107, 3) := by decide +kernel
theorem dc11_feed_35 : decode prog_1_method_2_code 35 = .ok (.iload 6, 2) := by decide +kernel
theorem dc11_feed_37 : decode prog_1_method_2_code 37 = .ok (.iadd, 1) := by decide +kernel
theorem dc11_feed_38 : decode prog_1_method_2_code 38 = .ok (.sipush 240, 3) := by decide +kernel
theorem dc11_feed_41 : decode prog_1_method_2_code 41 = .ok (.if_icmp .le 5, 3) := by decide +kernel
theorem dc11_feed_44 : decode prog_1_method_2_code 44 = .ok (.iconst (-1), 1) := by decide +kernel
theorem dc11_feed_45 : decode prog_1_method_2_code 45 = .ok (.ireturn, 1) := by decide +kernel
theorem dc11_feed_46 : decode prog_1_method_2_code 46 = .ok (.aload_n 0, 1) := by decide +kernel
theorem dc11_feed_47 : decode prog_1_method_2_code 47 = .ok (.getfield 10, 3) := by decide +kernel
theorem dc11_feed_50 : decode prog_1_method_2_code 50 = .ok (.iload_n 1, 1) := by decide +kernel
theorem dc11_feed_51 : decode prog_1_method_2_code 51 = .ok (.invokevirtual 110, 3) := by decide +kernel
theorem dc11_feed_54 : decode prog_1_method_2_code 54 = .ok (.aload_n 0, 1) := by decide +kernel
theorem dc11_feed_55 : decode prog_1_method_2_code 55 = .ok (.getfield 10, 3) := by decide +kernel
theorem dc11_feed_58 : decode prog_1_method_2_code 58 = .ok (.iload_n 2, 1) := by decide +kernel
theorem dc11_feed_59 : decode prog_1_method_2_code 59 = .ok (.invokevirtual 110, 3) := by decide +kernel
theorem dc11_feed_62 : decode prog_1_method_2_code 62 = .ok (.aload_n 0, 1) := by decide +kernel
theorem dc11_feed_63 : decode prog_1_method_2_code 63 = .ok (.getfield 10, 3) := by decide +kernel
theorem dc11_feed_66 : decode prog_1_method_2_code 66 = .ok (.iload_n 3, 1) := by decide +kernel
theorem dc11_feed_67 : decode prog_1_method_2_code 67 = .ok (.invokevirtual 110, 3) := by decide +kernel
theorem dc11_feed_70 : decode prog_1_method_2_code 70 = .ok (.aload_n 0, 1) := by decide +kernel
theorem dc11_feed_71 : decode prog_1_method_2_code 71 = .ok (.getfield 10, 3) := by decide +kernel
theorem dc11_feed_74 : decode prog_1_method_2_code 74 = .ok (.iload 4, 2) := by decide +kernel
theorem dc11_feed_76 : decode prog_1_method_2_code 76 = .ok (.invokevirtual 110, 3) := by decide +kernel
theorem dc11_feed_79 : decode prog_1_method_2_code 79 = .ok (.aload_n 0, 1) := by decide +kernel
theorem dc11_feed_80 : decode prog_1_method_2_code 80 = .ok (.getfield 10, 3) := by decide +kernel
theorem dc11_feed_83 : decode prog_1_method_2_code 83 = .ok (.iload 5, 2) := by decide +kernel
theorem dc11_feed_85 : decode prog_1_method_2_code 85 = .ok (.invokevirtual 110, 3) := by decide +kernel
theorem dc11_feed_88 : decode prog_1_method_2_code 88 = .ok (.aload_n 0, 1) := by decide +kernel
theorem dc11_feed_89 : decode prog_1_method_2_code 89 = .ok (.getfield 10, 3) := by decide +kernel
theorem dc11_feed_92 : decode prog_1_method_2_code 92 = .ok (.getfield 107, 3) := by decide +kernel
theorem dc11_feed_95 : decode prog_1_method_2_code 95 = .ok (.ireturn, 1) := by decide +kernel
theorem dc11_end_0 : decode prog_1_method_3_code 0 = .ok (.iload_n 1, 1) := by decide +kernel
theorem dc11_end_1 : decode prog_1_method_3_code 1 = .ok (.ifCond .lt 14, 3) := by decide +kernel
theorem dc11_end_4 : decode prog_1_method_3_code 4 = .ok (.iload_n 1, 1) := by decide +kernel
theorem dc11_end_5 : decode prog_1_method_3_code 5 = .ok (.aload_n 0, 1) := by decide +kernel
theorem dc11_end_6 : decode prog_1_method_3_code 6 = .ok (.getfield 10, 3) := by decide +kernel
theorem dc11_end_9 : decode prog_1_method_3_code 9 = .ok (.getfield 107, 3) := by decide +kernel
theorem dc11_end_12 : decode prog_1_method_3_code 12 = .ok (.if_icmp .le 5, 3) := by decide +kernel
theorem dc11_end_15 : decode prog_1_method_3_code 15 = .ok (.iconst 0, 1) := by decide +kernel
theorem dc11_end_16 : decode prog_1_method_3_code 16 = .ok (.ireturn, 1) := by decide +kernel
theorem dc11_end_17 : decode prog_1_method_3_code 17 = .ok (.aload_n 0, 1) := by decide +kernel
theorem dc11_end_18 : decode prog_1_method_3_code 18 = .ok (.getfield 10, 3) := by decide +kernel
theorem dc11_end_21 : decode prog_1_method_3_code 21 = .ok (.iload_n 1, 1) := by decide +kernel
theorem dc11_end_22 : decode prog_1_method_3_code 22 = .ok (.putfield 107, 3) := by decide +kernel
theorem dc11_end_25 : decode prog_1_method_3_code 25 = .ok (.iconst 1, 1) := by decide +kernel
theorem dc11_end_26 : decode prog_1_method_3_code 26 = .ok (.ireturn, 1) := by decide +kernel
theorem dc11_fault_0 : decode prog_1_method_4_code 0 = .ok (.iload_n 1, 1) := by decide +kernel
theorem dc11_fault_1 : decode prog_1_method_4_code 1 = .ok (.ifCond .lt 8, 3) := by decide +kernel
theorem dc11_fault_4 : decode prog_1_method_4_code 4 = .ok (.iload_n 1, 1) := by decide +kernel
theorem dc11_fault_5 : decode prog_1_method_4_code 5 = .ok (.iconst 2, 1) := by decide +kernel
theorem dc11_fault_6 : decode prog_1_method_4_code 6 = .ok (.if_icmp .le 6, 3) := by decide +kernel
theorem dc11_fault_9 : decode prog_1_method_4_code 9 = .ok (.bipush (-2), 2) := by decide +kernel
theorem dc11_fault_11 : decode prog_1_method_4_code 11 = .ok (.ireturn, 1) := by decide +kernel
theorem dc11_fault_12 : decode prog_1_method_4_code 12 = .ok (.aload_n 0, 1) := by decide +kernel
theorem dc11_fault_13 : decode prog_1_method_4_code 13 = .ok (.iload_n 1, 1) := by decide +kernel
theorem dc11_fault_14 : decode prog_1_method_4_code 14 = .ok (.invokevirtual 114, 3) := by decide +kernel
theorem dc11_fault_17 : decode prog_1_method_4_code 17 = .ok (.ifCond .eq 7, 3) := by decide +kernel
theorem dc11_fault_20 : decode prog_1_method_4_code 20 = .ok (.iconst (-1), 1) := by decide +kernel
theorem dc11_fault_21 : decode prog_1_method_4_code 21 = .ok (.goto 10, 3) := by decide +kernel
theorem dc11_fault_24 : decode prog_1_method_4_code 24 = .ok (.aload_n 0, 1) := by decide +kernel
theorem dc11_fault_25 : decode prog_1_method_4_code 25 = .ok (.getfield 10, 3) := by decide +kernel
theorem dc11_fault_28 : decode prog_1_method_4_code 28 = .ok (.getfield 118, 3) := by decide +kernel
theorem dc11_fault_31 : decode prog_1_method_4_code 31 = .ok (.ireturn, 1) := by decide +kernel
theorem dc11_reads_0 : decode prog_1_method_6_code 0 = .ok (.iload_n 1, 1) := by decide +kernel
theorem dc11_reads_1 : decode prog_1_method_6_code 1 = .ok (.ifCond .ne 13, 3) := by decide +kernel
theorem dc11_reads_4 : decode prog_1_method_6_code 4 = .ok (.aload_n 0, 1) := by decide +kernel
theorem dc11_reads_5 : decode prog_1_method_6_code 5 = .ok (.getfield 21, 3) := by decide +kernel
theorem dc11_reads_8 : decode prog_1_method_6_code 8 = .ok (.invokevirtual 131, 3) := by decide +kernel
theorem dc11_reads_11 : decode prog_1_method_6_code 11 = .ok (.goto 25, 3) := by decide +kernel
theorem dc11_reads_14 : decode prog_1_method_6_code 14 = .ok (.iload_n 1, 1) := by decide +kernel
theorem dc11_reads_15 : decode prog_1_method_6_code 15 = .ok (.iconst 1, 1) := by decide +kernel
theorem dc11_reads_16 : decode prog_1_method_6_code 16 = .ok (.if_icmp .ne 13, 3) := by decide +kernel
theorem dc11_reads_19 : decode prog_1_method_6_code 19 = .ok (.aload_n 0, 1) := by decide +kernel
theorem dc11_reads_20 : decode prog_1_method_6_code 20 = .ok (.getfield 28, 3) := by decide +kernel
theorem dc11_reads_23 : decode prog_1_method_6_code 23 = .ok (.invokevirtual 135, 3) := by decide +kernel
theorem dc11_reads_26 : decode prog_1_method_6_code 26 = .ok (.goto 10, 3) := by decide +kernel
theorem dc11_reads_29 : decode prog_1_method_6_code 29 = .ok (.aload_n 0, 1) := by decide +kernel
theorem dc11_reads_30 : decode prog_1_method_6_code 30 = .ok (.getfield 35, 3) := by decide +kernel
theorem dc11_reads_33 : decode prog_1_method_6_code 33 = .ok (.invokevirtual 136, 3) := by decide +kernel
theorem dc11_reads_36 : decode prog_1_method_6_code 36 = .ok (.ireturn, 1) := by decide +kernel
theorem dc11_text_0 : decode prog_1_method_5_code 0 = .ok (.iload_n 1, 1) := by decide +kernel
theorem dc11_text_1 : decode prog_1_method_5_code 1 = .ok (.ifCond .lt 16, 3) := by decide +kernel
theorem dc11_text_4 : decode prog_1_method_5_code 4 = .ok (.iload_n 1, 1) := by decide +kernel
theorem dc11_text_5 : decode prog_1_method_5_code 5 = .ok (.iconst 2, 1) := by decide +kernel
theorem dc11_text_6 : decode prog_1_method_5_code 6 = .ok (.if_icmp .gt 11, 3) := by decide +kernel
theorem dc11_text_9 : decode prog_1_method_5_code 9 = .ok (.aload_n 0, 1) := by decide +kernel
theorem dc11_text_10 : decode prog_1_method_5_code 10 = .ok (.iload_n 1, 1) := by decide +kernel
theorem dc11_text_11 : decode prog_1_method_5_code 11 = .ok (.invokevirtual 114, 3) := by decide +kernel
theorem dc11_text_14 : decode prog_1_method_5_code 14 = .ok (.ifCond .ne 5, 3) := by decide +kernel
theorem dc11_text_17 : decode prog_1_method_5_code 17 = .ok (.iconst (-1), 1) := by decide +kernel
theorem dc11_text_18 : decode prog_1_method_5_code 18 = .ok (.ireturn, 1) := by decide +kernel
theorem dc11_text_19 : decode prog_1_method_5_code 19 = .ok (.iload_n 1, 1) := by decide +kernel
theorem dc11_text_20 : decode prog_1_method_5_code 20 = .ok (.ifCond .ne 10, 3) := by decide +kernel
theorem dc11_text_23 : decode prog_1_method_5_code 23 = .ok (.aload_n 0, 1) := by decide +kernel
theorem dc11_text_24 : decode prog_1_method_5_code 24 = .ok (.invokevirtual 121, 3) := by decide +kernel
theorem dc11_text_27 : decode prog_1_method_5_code 27 = .ok (.goto 19, 3) := by decide +kernel
theorem dc11_text_30 : decode prog_1_method_5_code 30 = .ok (.iload_n 1, 1) := by decide +kernel
theorem dc11_text_31 : decode prog_1_method_5_code 31 = .ok (.iconst 1, 1) := by decide +kernel
theorem dc11_text_32 : decode prog_1_method_5_code 32 = .ok (.if_icmp .ne 10, 3) := by decide +kernel
theorem dc11_text_35 : decode prog_1_method_5_code 35 = .ok (.aload_n 0, 1) := by decide +kernel
theorem dc11_text_36 : decode prog_1_method_5_code 36 = .ok (.invokevirtual 125, 3) := by decide +kernel
theorem dc11_text_39 : decode prog_1_method_5_code 39 = .ok (.goto 7, 3) := by decide +kernel
theorem dc11_text_42 : decode prog_1_method_5_code 42 = .ok (.aload_n 0, 1) := by decide +kernel
theorem dc11_text_43 : decode prog_1_method_5_code 43 = .ok (.invokevirtual 128, 3) := by decide +kernel
theorem dc11_text_46 : decode prog_1_method_5_code 46 = .ok (.istore_n 2, 1) := by decide +kernel
theorem dc11_text_47 : decode prog_1_method_5_code 47 = .ok (.iload_n 2, 1) := by decide +kernel
theorem dc11_text_48 : decode prog_1_method_5_code 48 = .ok (.iconst (-1), 1) := by decide +kernel
theorem dc11_text_49 : decode prog_1_method_5_code 49 = .ok (.if_icmp .eq 11, 3) := by decide +kernel
theorem dc11_text_52 : decode prog_1_method_5_code 52 = .ok (.aload_n 0, 1) := by decide +kernel
theorem dc11_text_53 : decode prog_1_method_5_code 53 = .ok (.getfield 10, 3) := by decide +kernel
theorem dc11_text_56 : decode prog_1_method_5_code 56 = .ok (.iconst 0, 1) := by decide +kernel
theorem dc11_text_57 : decode prog_1_method_5_code 57 = .ok (.putfield 107, 3) := by decide +kernel
theorem dc11_text_60 : decode prog_1_method_5_code 60 = .ok (.iload_n 2, 1) := by decide +kernel
theorem dc11_text_61 : decode prog_1_method_5_code 61 = .ok (.ireturn, 1) := by decide +kernel
theorem dc11_settleThere_0 : decode prog_1_method_7_code 0 = .ok (.aload_n 0, 1) := by decide +kernel
theorem dc11_settleThere_1 : decode prog_1_method_7_code 1 = .ok (.getfield 58, 3) := by decide +kernel
theorem dc11_settleThere_4 : decode prog_1_method_7_code 4 = .ok (.aload_n 0, 1) := by decide +kernel
theorem dc11_settleThere_5 : decode prog_1_method_7_code 5 = .ok (.getfield 21, 3) := by decide +kernel
theorem dc11_settleThere_8 : decode prog_1_method_7_code 8 = .ok (.getfield 137, 3) := by decide +kernel
theorem dc11_settleThere_11 : decode prog_1_method_7_code 11 = .ok (.invokevirtual 140, 3) := by decide +kernel
theorem dc11_settleThere_14 : decode prog_1_method_7_code 14 = .ok (.aload_n 0, 1) := by decide +kernel
theorem dc11_settleThere_15 : decode prog_1_method_7_code 15 = .ok (.getfield 82, 3) := by decide +kernel
theorem dc11_settleThere_18 : decode prog_1_method_7_code 18 = .ok (.iconst 0, 1) := by decide +kernel
theorem dc11_settleThere_19 : decode prog_1_method_7_code 19 = .ok (.putfield 144, 3) := by decide +kernel
theorem dc11_settleThere_22 : decode prog_1_method_7_code 22 = .ok (.aload_n 0, 1) := by decide +kernel
theorem dc11_settleThere_23 : decode prog_1_method_7_code 23 = .ok (.getfield 82, 3) := by decide +kernel
theorem dc11_settleThere_26 : decode prog_1_method_7_code 26 = .ok (.iconst 0, 1) := by decide +kernel
theorem dc11_settleThere_27 : decode prog_1_method_7_code 27 = .ok (.putfield 147, 3) := by decide +kernel
theorem dc11_settleThere_30 : decode prog_1_method_7_code 30 = .ok (.aload_n 0, 1) := by decide +kernel
theorem dc11_settleThere_31 : decode prog_1_method_7_code 31 = .ok (.getfield 89, 3) := by decide +kernel
theorem dc11_settleThere_34 : decode prog_1_method_7_code 34 = .ok (.iconst 0, 1) := by decide +kernel
theorem dc11_settleThere_35 : decode prog_1_method_7_code 35 = .ok (.putfield 151, 3) := by decide +kernel
theorem dc11_settleThere_38 : decode prog_1_method_7_code 38 = .ok (.aload_n 0, 1) := by decide +kernel
theorem dc11_settleThere_39 : decode prog_1_method_7_code 39 = .ok (.getfield 58, 3) := by decide +kernel
theorem dc11_settleThere_42 : decode prog_1_method_7_code 42 = .ok (.getfield 154, 3) := by decide +kernel
theorem dc11_settleThere_45 : decode prog_1_method_7_code 45 = .ok (.ireturn, 1) := by decide +kernel
theorem dc11_enact_0 : decode prog_1_method_8_code 0 = .ok (.aload_n 0, 1) := by decide +kernel
theorem dc11_enact_1 : decode prog_1_method_8_code 1 = .ok (.getfield 157, 3) := by decide +kernel
theorem dc11_enact_4 : decode prog_1_method_8_code 4 = .ok (.iconst 4, 1) := by decide +kernel
theorem dc11_enact_5 : decode prog_1_method_8_code 5 = .ok (.if_icmp .lt 5, 3) := by decide +kernel
theorem dc11_enact_8 : decode prog_1_method_8_code 8 = .ok (.iconst (-1), 1) := by decide +kernel
theorem dc11_enact_9 : decode prog_1_method_8_code 9 = .ok (.ireturn, 1) := by decide +kernel
theorem dc11_enact_10 : decode prog_1_method_8_code 10 = .ok (.aload_n 0, 1) := by decide +kernel
theorem dc11_enact_11 : decode prog_1_method_8_code 11 = .ok (.getfield 41, 3) := by decide +kernel
theorem dc11_enact_14 : decode prog_1_method_8_code 14 = .ok (.aload_n 0, 1) := by decide +kernel
theorem dc11_enact_15 : decode prog_1_method_8_code 15 = .ok (.getfield 157, 3) := by decide +kernel
theorem dc11_enact_18 : decode prog_1_method_8_code 18 = .ok (.aload_n 0, 1) := by decide +kernel
theorem dc11_enact_19 : decode prog_1_method_8_code 19 = .ok (.getfield 28, 3) := by decide +kernel
theorem dc11_enact_22 : decode prog_1_method_8_code 22 = .ok (.invokevirtual 160, 3) := by decide +kernel
theorem dc11_enact_25 : decode prog_1_method_8_code 25 = .ok (.aastore, 1) := by decide +kernel
theorem dc11_enact_26 : decode prog_1_method_8_code 26 = .ok (.aload_n 0, 1) := by decide +kernel
theorem dc11_enact_27 : decode prog_1_method_8_code 27 = .ok (.dup, 1) := by decide +kernel
theorem dc11_enact_28 : decode prog_1_method_8_code 28 = .ok (.getfield 157, 3) := by decide +kernel
theorem dc11_enact_31 : decode prog_1_method_8_code 31 = .ok (.dup_x1, 1) := by decide +kernel
theorem dc11_enact_32 : decode prog_1_method_8_code 32 = .ok (.iconst 1, 1) := by decide +kernel
theorem dc11_enact_33 : decode prog_1_method_8_code 33 = .ok (.iadd, 1) := by decide +kernel
theorem dc11_enact_34 : decode prog_1_method_8_code 34 = .ok (.putfield 157, 3) := by decide +kernel
theorem dc11_enact_37 : decode prog_1_method_8_code 37 = .ok (.ireturn, 1) := by decide +kernel
theorem dc11_intend_0 : decode prog_1_method_9_code 0 = .ok (.aload_n 0, 1) := by decide +kernel
theorem dc11_intend_1 : decode prog_1_method_9_code 1 = .ok (.getfield 164, 3) := by decide +kernel
theorem dc11_intend_4 : decode prog_1_method_9_code 4 = .ok (.iconst 4, 1) := by decide +kernel
theorem dc11_intend_5 : decode prog_1_method_9_code 5 = .ok (.if_icmp .lt 5, 3) := by decide +kernel
theorem dc11_intend_8 : decode prog_1_method_9_code 8 = .ok (.iconst (-1), 1) := by decide +kernel
theorem dc11_intend_9 : decode prog_1_method_9_code 9 = .ok (.ireturn, 1) := by decide +kernel
theorem dc11_intend_10 : decode prog_1_method_9_code 10 = .ok (.aload_n 0, 1) := by decide +kernel
theorem dc11_intend_11 : decode prog_1_method_9_code 11 = .ok (.getfield 47, 3) := by decide +kernel
theorem dc11_intend_14 : decode prog_1_method_9_code 14 = .ok (.aload_n 0, 1) := by decide +kernel
theorem dc11_intend_15 : decode prog_1_method_9_code 15 = .ok (.getfield 164, 3) := by decide +kernel
theorem dc11_intend_18 : decode prog_1_method_9_code 18 = .ok (.aload_n 0, 1) := by decide +kernel
theorem dc11_intend_19 : decode prog_1_method_9_code 19 = .ok (.getfield 35, 3) := by decide +kernel
theorem dc11_intend_22 : decode prog_1_method_9_code 22 = .ok (.invokevirtual 167, 3) := by decide +kernel
theorem dc11_intend_25 : decode prog_1_method_9_code 25 = .ok (.aastore, 1) := by decide +kernel
theorem dc11_intend_26 : decode prog_1_method_9_code 26 = .ok (.aload_n 0, 1) := by decide +kernel
theorem dc11_intend_27 : decode prog_1_method_9_code 27 = .ok (.dup, 1) := by decide +kernel
theorem dc11_intend_28 : decode prog_1_method_9_code 28 = .ok (.getfield 164, 3) := by decide +kernel
theorem dc11_intend_31 : decode prog_1_method_9_code 31 = .ok (.dup_x1, 1) := by decide +kernel
theorem dc11_intend_32 : decode prog_1_method_9_code 32 = .ok (.iconst 1, 1) := by decide +kernel
theorem dc11_intend_33 : decode prog_1_method_9_code 33 = .ok (.iadd, 1) := by decide +kernel
theorem dc11_intend_34 : decode prog_1_method_9_code 34 = .ok (.putfield 164, 3) := by decide +kernel
theorem dc11_intend_37 : decode prog_1_method_9_code 37 = .ok (.ireturn, 1) := by decide +kernel
theorem dc11_rule_0 : decode prog_1_method_10_code 0 = .ok (.aload_n 0, 1) := by decide +kernel
theorem dc11_rule_1 : decode prog_1_method_10_code 1 = .ok (.getfield 58, 3) := by decide +kernel
theorem dc11_rule_4 : decode prog_1_method_10_code 4 = .ok (.getfield 154, 3) := by decide +kernel
theorem dc11_rule_7 : decode prog_1_method_10_code 7 = .ok (.ifCond .ne 5, 3) := by decide +kernel
theorem dc11_rule_10 : decode prog_1_method_10_code 10 = .ok (.iconst (-1), 1) := by decide +kernel
theorem dc11_rule_11 : decode prog_1_method_10_code 11 = .ok (.ireturn, 1) := by decide +kernel
theorem dc11_rule_12 : decode prog_1_method_10_code 12 = .ok (.iload_n 1, 1) := by decide +kernel
theorem dc11_rule_13 : decode prog_1_method_10_code 13 = .ok (.tableswitch 51 0 2 #[27, 35, 43], 27) := by decide +kernel
theorem dc11_rule_40 : decode prog_1_method_10_code 40 = .ok (.aload_n 0, 1) := by decide +kernel
theorem dc11_rule_41 : decode prog_1_method_10_code 41 = .ok (.getfield 58, 3) := by decide +kernel
theorem dc11_rule_44 : decode prog_1_method_10_code 44 = .ok (.getfield 171, 3) := by decide +kernel
theorem dc11_rule_47 : decode prog_1_method_10_code 47 = .ok (.ireturn, 1) := by decide +kernel
theorem dc11_rule_48 : decode prog_1_method_10_code 48 = .ok (.aload_n 0, 1) := by decide +kernel
theorem dc11_rule_49 : decode prog_1_method_10_code 49 = .ok (.getfield 58, 3) := by decide +kernel
theorem dc11_rule_52 : decode prog_1_method_10_code 52 = .ok (.getfield 174, 3) := by decide +kernel
theorem dc11_rule_55 : decode prog_1_method_10_code 55 = .ok (.ireturn, 1) := by decide +kernel
theorem dc11_rule_56 : decode prog_1_method_10_code 56 = .ok (.aload_n 0, 1) := by decide +kernel
theorem dc11_rule_57 : decode prog_1_method_10_code 57 = .ok (.getfield 58, 3) := by decide +kernel
theorem dc11_rule_60 : decode prog_1_method_10_code 60 = .ok (.getfield 177, 3) := by decide +kernel
theorem dc11_rule_63 : decode prog_1_method_10_code 63 = .ok (.ireturn, 1) := by decide +kernel
theorem dc11_rule_64 : decode prog_1_method_10_code 64 = .ok (.iconst (-1), 1) := by decide +kernel
theorem dc11_rule_65 : decode prog_1_method_10_code 65 = .ok (.ireturn, 1) := by decide +kernel
theorem dc11_count_0 : decode prog_1_method_12_code 0 = .ok (.iload_n 1, 1) := by decide +kernel
theorem dc11_count_1 : decode prog_1_method_12_code 1 = .ok (.tableswitch 145 0 10 #[59, 67, 72, 77, 85, 90, 98, 113, 118, 126, 137], 59) := by decide +kernel
theorem dc11_count_60 : decode prog_1_method_12_code 60 = .ok (.aload_n 0, 1) := by decide +kernel
theorem dc11_count_61 : decode prog_1_method_12_code 61 = .ok (.getfield 58, 3) := by decide +kernel
theorem dc11_count_64 : decode prog_1_method_12_code 64 = .ok (.getfield 154, 3) := by decide +kernel
theorem dc11_count_67 : decode prog_1_method_12_code 67 = .ok (.ireturn, 1) := by decide +kernel
theorem dc11_count_68 : decode prog_1_method_12_code 68 = .ok (.aload_n 0, 1) := by decide +kernel
theorem dc11_count_69 : decode prog_1_method_12_code 69 = .ok (.getfield 157, 3) := by decide +kernel
theorem dc11_count_72 : decode prog_1_method_12_code 72 = .ok (.ireturn, 1) := by decide +kernel
theorem dc11_count_73 : decode prog_1_method_12_code 73 = .ok (.aload_n 0, 1) := by decide +kernel
theorem dc11_count_74 : decode prog_1_method_12_code 74 = .ok (.getfield 164, 3) := by decide +kernel
theorem dc11_count_77 : decode prog_1_method_12_code 77 = .ok (.ireturn, 1) := by decide +kernel
theorem dc11_count_78 : decode prog_1_method_12_code 78 = .ok (.aload_n 0, 1) := by decide +kernel
theorem dc11_count_79 : decode prog_1_method_12_code 79 = .ok (.getfield 10, 3) := by decide +kernel
theorem dc11_count_82 : decode prog_1_method_12_code 82 = .ok (.getfield 107, 3) := by decide +kernel
theorem dc11_count_85 : decode prog_1_method_12_code 85 = .ok (.ireturn, 1) := by decide +kernel
theorem dc11_count_86 : decode prog_1_method_12_code 86 = .ok (.aload_n 0, 1) := by decide +kernel
theorem dc11_count_87 : decode prog_1_method_12_code 87 = .ok (.getfield 51, 3) := by decide +kernel
theorem dc11_count_90 : decode prog_1_method_12_code 90 = .ok (.ireturn, 1) := by decide +kernel
theorem dc11_count_91 : decode prog_1_method_12_code 91 = .ok (.aload_n 0, 1) := by decide +kernel
theorem dc11_count_92 : decode prog_1_method_12_code 92 = .ok (.getfield 58, 3) := by decide +kernel
theorem dc11_count_95 : decode prog_1_method_12_code 95 = .ok (.getfield 201, 3) := by decide +kernel
theorem dc11_count_98 : decode prog_1_method_12_code 98 = .ok (.ireturn, 1) := by decide +kernel
theorem dc11_count_99 : decode prog_1_method_12_code 99 = .ok (.aload_n 0, 1) := by decide +kernel
theorem dc11_count_100 : decode prog_1_method_12_code 100 = .ok (.getfield 58, 3) := by decide +kernel
theorem dc11_count_103 : decode prog_1_method_12_code 103 = .ok (.aload_n 0, 1) := by decide +kernel
theorem dc11_count_104 : decode prog_1_method_12_code 104 = .ok (.getfield 58, 3) := by decide +kernel
theorem dc11_count_107 : decode prog_1_method_12_code 107 = .ok (.getfield 198, 3) := by decide +kernel
theorem dc11_count_110 : decode prog_1_method_12_code 110 = .ok (.invokevirtual 204, 3) := by decide +kernel
theorem dc11_count_113 : decode prog_1_method_12_code 113 = .ok (.ireturn, 1) := by decide +kernel
theorem dc11_count_114 : decode prog_1_method_12_code 114 = .ok (.aload_n 0, 1) := by decide +kernel
theorem dc11_count_115 : decode prog_1_method_12_code 115 = .ok (.getfield 208, 3) := by decide +kernel
theorem dc11_count_118 : decode prog_1_method_12_code 118 = .ok (.ireturn, 1) := by decide +kernel
theorem dc11_count_119 : decode prog_1_method_12_code 119 = .ok (.aload_n 0, 1) := by decide +kernel
theorem dc11_count_120 : decode prog_1_method_12_code 120 = .ok (.getfield 89, 3) := by decide +kernel
theorem dc11_count_123 : decode prog_1_method_12_code 123 = .ok (.getfield 151, 3) := by decide +kernel
theorem dc11_count_126 : decode prog_1_method_12_code 126 = .ok (.ireturn, 1) := by decide +kernel
theorem dc11_count_127 : decode prog_1_method_12_code 127 = .ok (.aload_n 0, 1) := by decide +kernel
theorem dc11_count_128 : decode prog_1_method_12_code 128 = .ok (.getfield 58, 3) := by decide +kernel
theorem dc11_count_131 : decode prog_1_method_12_code 131 = .ok (.getfield 201, 3) := by decide +kernel
theorem dc11_count_134 : decode prog_1_method_12_code 134 = .ok (.invokestatic 211, 3) := by decide +kernel
theorem dc11_count_137 : decode prog_1_method_12_code 137 = .ok (.ireturn, 1) := by decide +kernel
theorem dc11_count_138 : decode prog_1_method_12_code 138 = .ok (.aload_n 0, 1) := by decide +kernel
theorem dc11_count_139 : decode prog_1_method_12_code 139 = .ok (.getfield 82, 3) := by decide +kernel
theorem dc11_count_142 : decode prog_1_method_12_code 142 = .ok (.getfield 144, 3) := by decide +kernel
theorem dc11_count_145 : decode prog_1_method_12_code 145 = .ok (.ireturn, 1) := by decide +kernel
theorem dc11_count_146 : decode prog_1_method_12_code 146 = .ok (.ldc 214, 2) := by decide +kernel
theorem dc11_count_148 : decode prog_1_method_12_code 148 = .ok (.ireturn, 1) := by decide +kernel
theorem dc11_log_0 : decode prog_1_method_13_code 0 = .ok (.iload_n 1, 1) := by decide +kernel
theorem dc11_log_1 : decode prog_1_method_13_code 1 = .ok (.ifCond .lt 26, 3) := by decide +kernel
theorem dc11_log_4 : decode prog_1_method_13_code 4 = .ok (.iload_n 1, 1) := by decide +kernel
theorem dc11_log_5 : decode prog_1_method_13_code 5 = .ok (.aload_n 0, 1) := by decide +kernel
theorem dc11_log_6 : decode prog_1_method_13_code 6 = .ok (.getfield 58, 3) := by decide +kernel
theorem dc11_log_9 : decode prog_1_method_13_code 9 = .ok (.getfield 201, 3) := by decide +kernel
theorem dc11_log_12 : decode prog_1_method_13_code 12 = .ok (.invokestatic 211, 3) := by decide +kernel
theorem dc11_log_15 : decode prog_1_method_13_code 15 = .ok (.if_icmp .ge 12, 3) := by decide +kernel
theorem dc11_log_18 : decode prog_1_method_13_code 18 = .ok (.iload_n 2, 1) := by decide +kernel
theorem dc11_log_19 : decode prog_1_method_13_code 19 = .ok (.ifCond .lt 8, 3) := by decide +kernel
theorem dc11_log_22 : decode prog_1_method_13_code 22 = .ok (.iload_n 2, 1) := by decide +kernel
theorem dc11_log_23 : decode prog_1_method_13_code 23 = .ok (.iconst 2, 1) := by decide +kernel
theorem dc11_log_24 : decode prog_1_method_13_code 24 = .ok (.if_icmp .le 5, 3) := by decide +kernel
theorem dc11_log_27 : decode prog_1_method_13_code 27 = .ok (.iconst (-1), 1) := by decide +kernel
theorem dc11_log_28 : decode prog_1_method_13_code 28 = .ok (.ireturn, 1) := by decide +kernel
theorem dc11_log_29 : decode prog_1_method_13_code 29 = .ok (.aload_n 0, 1) := by decide +kernel
theorem dc11_log_30 : decode prog_1_method_13_code 30 = .ok (.getfield 75, 3) := by decide +kernel
theorem dc11_log_33 : decode prog_1_method_13_code 33 = .ok (.aload_n 0, 1) := by decide +kernel
theorem dc11_log_34 : decode prog_1_method_13_code 34 = .ok (.getfield 58, 3) := by decide +kernel
theorem dc11_log_37 : decode prog_1_method_13_code 37 = .ok (.getfield 201, 3) := by decide +kernel
theorem dc11_log_40 : decode prog_1_method_13_code 40 = .ok (.iconst 1, 1) := by decide +kernel
theorem dc11_log_41 : decode prog_1_method_13_code 41 = .ok (.isub, 1) := by decide +kernel
theorem dc11_log_42 : decode prog_1_method_13_code 42 = .ok (.iload_n 1, 1) := by decide +kernel
theorem dc11_log_43 : decode prog_1_method_13_code 43 = .ok (.isub, 1) := by decide +kernel
theorem dc11_log_44 : decode prog_1_method_13_code 44 = .ok (.iload_n 2, 1) := by decide +kernel
theorem dc11_log_45 : decode prog_1_method_13_code 45 = .ok (.invokevirtual 215, 3) := by decide +kernel
theorem dc11_log_48 : decode prog_1_method_13_code 48 = .ok (.ireturn, 1) := by decide +kernel
theorem dc11_step_0 : decode prog_1_method_14_code 0 = .ok (.aload_n 0, 1) := by decide +kernel
theorem dc11_step_1 : decode prog_1_method_14_code 1 = .ok (.iload_n 1, 1) := by decide +kernel
theorem dc11_step_2 : decode prog_1_method_14_code 2 = .ok (.invokevirtual 219, 3) := by decide +kernel
theorem dc11_step_5 : decode prog_1_method_14_code 5 = .ok (.astore 4, 2) := by decide +kernel
theorem dc11_step_7 : decode prog_1_method_14_code 7 = .ok (.aload 4, 2) := by decide +kernel
theorem dc11_step_9 : decode prog_1_method_14_code 9 = .ok (.ifnull 25, 3) := by decide +kernel
theorem dc11_step_12 : decode prog_1_method_14_code 12 = .ok (.iload_n 2, 1) := by decide +kernel
theorem dc11_step_13 : decode prog_1_method_14_code 13 = .ok (.ifCond .lt 21, 3) := by decide +kernel
theorem dc11_step_16 : decode prog_1_method_14_code 16 = .ok (.iload_n 2, 1) := by decide +kernel
theorem dc11_step_17 : decode prog_1_method_14_code 17 = .ok (.aload 4, 2) := by decide +kernel
theorem dc11_step_19 : decode prog_1_method_14_code 19 = .ok (.getfield 223, 3) := by decide +kernel
theorem dc11_step_22 : decode prog_1_method_14_code 22 = .ok (.if_icmp .ge 12, 3) := by decide +kernel
theorem dc11_step_25 : decode prog_1_method_14_code 25 = .ok (.iload_n 3, 1) := by decide +kernel
theorem dc11_step_26 : decode prog_1_method_14_code 26 = .ok (.ifCond .lt 8, 3) := by decide +kernel
theorem dc11_step_29 : decode prog_1_method_14_code 29 = .ok (.iload_n 3, 1) := by decide +kernel
theorem dc11_step_30 : decode prog_1_method_14_code 30 = .ok (.iconst 2, 1) := by decide +kernel
theorem dc11_step_31 : decode prog_1_method_14_code 31 = .ok (.if_icmp .le 6, 3) := by decide +kernel
theorem dc11_step_34 : decode prog_1_method_14_code 34 = .ok (.ldc 214, 2) := by decide +kernel
theorem dc11_step_36 : decode prog_1_method_14_code 36 = .ok (.ireturn, 1) := by decide +kernel
theorem dc11_step_37 : decode prog_1_method_14_code 37 = .ok (.iload_n 3, 1) := by decide +kernel
theorem dc11_step_38 : decode prog_1_method_14_code 38 = .ok (.ifCond .ne 13, 3) := by decide +kernel
theorem dc11_step_41 : decode prog_1_method_14_code 41 = .ok (.aload 4, 2) := by decide +kernel
theorem dc11_step_43 : decode prog_1_method_14_code 43 = .ok (.getfield 226, 3) := by decide +kernel
theorem dc11_step_46 : decode prog_1_method_14_code 46 = .ok (.iload_n 2, 1) := by decide +kernel
theorem dc11_step_47 : decode prog_1_method_14_code 47 = .ok (.iaload, 1) := by decide +kernel
theorem dc11_step_48 : decode prog_1_method_14_code 48 = .ok (.goto 25, 3) := by decide +kernel
theorem dc11_step_51 : decode prog_1_method_14_code 51 = .ok (.iload_n 3, 1) := by decide +kernel
theorem dc11_step_52 : decode prog_1_method_14_code 52 = .ok (.iconst 1, 1) := by decide +kernel
theorem dc11_step_53 : decode prog_1_method_14_code 53 = .ok (.if_icmp .ne 13, 3) := by decide +kernel
theorem dc11_step_56 : decode prog_1_method_14_code 56 = .ok (.aload 4, 2) := by decide +kernel
theorem dc11_step_58 : decode prog_1_method_14_code 58 = .ok (.getfield 229, 3) := by decide +kernel
theorem dc11_step_61 : decode prog_1_method_14_code 61 = .ok (.iload_n 2, 1) := by decide +kernel
theorem dc11_step_62 : decode prog_1_method_14_code 62 = .ok (.iaload, 1) := by decide +kernel
theorem dc11_step_63 : decode prog_1_method_14_code 63 = .ok (.goto 10, 3) := by decide +kernel
theorem dc11_step_66 : decode prog_1_method_14_code 66 = .ok (.aload 4, 2) := by decide +kernel
theorem dc11_step_68 : decode prog_1_method_14_code 68 = .ok (.getfield 232, 3) := by decide +kernel
theorem dc11_step_71 : decode prog_1_method_14_code 71 = .ok (.iload_n 2, 1) := by decide +kernel
theorem dc11_step_72 : decode prog_1_method_14_code 72 = .ok (.iaload, 1) := by decide +kernel
theorem dc11_step_73 : decode prog_1_method_14_code 73 = .ok (.ireturn, 1) := by decide +kernel
theorem dc11_planAt_0 : decode prog_1_method_35_code 0 = .ok (.iload_n 1, 1) := by decide +kernel
theorem dc11_planAt_1 : decode prog_1_method_35_code 1 = .ok (.ifCond .lt 11, 3) := by decide +kernel
theorem dc11_planAt_4 : decode prog_1_method_35_code 4 = .ok (.iload_n 1, 1) := by decide +kernel
theorem dc11_planAt_5 : decode prog_1_method_35_code 5 = .ok (.aload_n 0, 1) := by decide +kernel
theorem dc11_planAt_6 : decode prog_1_method_35_code 6 = .ok (.getfield 164, 3) := by decide +kernel
theorem dc11_planAt_9 : decode prog_1_method_35_code 9 = .ok (.if_icmp .lt 7, 3) := by decide +kernel
theorem dc11_planAt_12 : decode prog_1_method_35_code 12 = .ok (.aconst_null, 1) := by decide +kernel
theorem dc11_planAt_13 : decode prog_1_method_35_code 13 = .ok (.goto 9, 3) := by decide +kernel
theorem dc11_planAt_16 : decode prog_1_method_35_code 16 = .ok (.aload_n 0, 1) := by decide +kernel
theorem dc11_planAt_17 : decode prog_1_method_35_code 17 = .ok (.getfield 47, 3) := by decide +kernel
theorem dc11_planAt_20 : decode prog_1_method_35_code 20 = .ok (.iload_n 1, 1) := by decide +kernel
theorem dc11_planAt_21 : decode prog_1_method_35_code 21 = .ok (.aaload, 1) := by decide +kernel
theorem dc11_planAt_22 : decode prog_1_method_35_code 22 = .ok (.areturn, 1) := by decide +kernel
theorem dc11_all_0 : decode prog_1_method_15_code 0 = .ok (.aload_n 0, 1) := by decide +kernel
theorem dc11_all_1 : decode prog_1_method_15_code 1 = .ok (.getfield 58, 3) := by decide +kernel
theorem dc11_all_4 : decode prog_1_method_15_code 4 = .ok (.getfield 154, 3) := by decide +kernel
theorem dc11_all_7 : decode prog_1_method_15_code 7 = .ok (.ifCond .ne 5, 3) := by decide +kernel
theorem dc11_all_10 : decode prog_1_method_15_code 10 = .ok (.iconst (-1), 1) := by decide +kernel
theorem dc11_all_11 : decode prog_1_method_15_code 11 = .ok (.ireturn, 1) := by decide +kernel
theorem dc11_all_12 : decode prog_1_method_15_code 12 = .ok (.iload_n 1, 1) := by decide +kernel
theorem dc11_all_13 : decode prog_1_method_15_code 13 = .ok (.tableswitch 157 0 6 #[43, 58, 73, 88, 103, 118, 149], 43) := by decide +kernel
theorem dc11_all_56 : decode prog_1_method_15_code 56 = .ok (.aload_n 0, 1) := by decide +kernel
theorem dc11_all_57 : decode prog_1_method_15_code 57 = .ok (.getfield 58, 3) := by decide +kernel
theorem dc11_all_60 : decode prog_1_method_15_code 60 = .ok (.aload_n 0, 1) := by decide +kernel
theorem dc11_all_61 : decode prog_1_method_15_code 61 = .ok (.getfield 58, 3) := by decide +kernel
theorem dc11_all_64 : decode prog_1_method_15_code 64 = .ok (.getfield 198, 3) := by decide +kernel
theorem dc11_all_67 : decode prog_1_method_15_code 67 = .ok (.invokevirtual 235, 3) := by decide +kernel
theorem dc11_all_70 : decode prog_1_method_15_code 70 = .ok (.ireturn, 1) := by decide +kernel
theorem dc11_all_71 : decode prog_1_method_15_code 71 = .ok (.aload_n 0, 1) := by decide +kernel
theorem dc11_all_72 : decode prog_1_method_15_code 72 = .ok (.getfield 58, 3) := by decide +kernel
theorem dc11_all_75 : decode prog_1_method_15_code 75 = .ok (.aload_n 0, 1) := by decide +kernel
theorem dc11_all_76 : decode prog_1_method_15_code 76 = .ok (.getfield 58, 3) := by decide +kernel
theorem dc11_all_79 : decode prog_1_method_15_code 79 = .ok (.getfield 192, 3) := by decide +kernel
theorem dc11_all_82 : decode prog_1_method_15_code 82 = .ok (.invokevirtual 235, 3) := by decide +kernel
theorem dc11_all_85 : decode prog_1_method_15_code 85 = .ok (.ireturn, 1) := by decide +kernel
theorem dc11_all_86 : decode prog_1_method_15_code 86 = .ok (.aload_n 0, 1) := by decide +kernel
theorem dc11_all_87 : decode prog_1_method_15_code 87 = .ok (.getfield 58, 3) := by decide +kernel
theorem dc11_all_90 : decode prog_1_method_15_code 90 = .ok (.aload_n 0, 1) := by decide +kernel
theorem dc11_all_91 : decode prog_1_method_15_code 91 = .ok (.getfield 58, 3) := by decide +kernel
theorem dc11_all_94 : decode prog_1_method_15_code 94 = .ok (.getfield 186, 3) := by decide +kernel
theorem dc11_all_97 : decode prog_1_method_15_code 97 = .ok (.invokevirtual 238, 3) := by decide +kernel
theorem dc11_all_100 : decode prog_1_method_15_code 100 = .ok (.ireturn, 1) := by decide +kernel
theorem dc11_all_101 : decode prog_1_method_15_code 101 = .ok (.aload_n 0, 1) := by decide +kernel
theorem dc11_all_102 : decode prog_1_method_15_code 102 = .ok (.getfield 58, 3) := by decide +kernel
theorem dc11_all_105 : decode prog_1_method_15_code 105 = .ok (.aload_n 0, 1) := by decide +kernel
theorem dc11_all_106 : decode prog_1_method_15_code 106 = .ok (.getfield 58, 3) := by decide +kernel
theorem dc11_all_109 : decode prog_1_method_15_code 109 = .ok (.getfield 189, 3) := by decide +kernel
theorem dc11_all_112 : decode prog_1_method_15_code 112 = .ok (.invokevirtual 238, 3) := by decide +kernel
theorem dc11_all_115 : decode prog_1_method_15_code 115 = .ok (.ireturn, 1) := by decide +kernel
theorem dc11_all_116 : decode prog_1_method_15_code 116 = .ok (.aload_n 0, 1) := by decide +kernel
theorem dc11_all_117 : decode prog_1_method_15_code 117 = .ok (.getfield 58, 3) := by decide +kernel
theorem dc11_all_120 : decode prog_1_method_15_code 120 = .ok (.aload_n 0, 1) := by decide +kernel
theorem dc11_all_121 : decode prog_1_method_15_code 121 = .ok (.getfield 58, 3) := by decide +kernel
theorem dc11_all_124 : decode prog_1_method_15_code 124 = .ok (.getfield 186, 3) := by decide +kernel
theorem dc11_all_127 : decode prog_1_method_15_code 127 = .ok (.invokevirtual 204, 3) := by decide +kernel
theorem dc11_all_130 : decode prog_1_method_15_code 130 = .ok (.ireturn, 1) := by decide +kernel
theorem dc11_all_131 : decode prog_1_method_15_code 131 = .ok (.aload_n 0, 1) := by decide +kernel
theorem dc11_all_132 : decode prog_1_method_15_code 132 = .ok (.getfield 58, 3) := by decide +kernel
theorem dc11_all_135 : decode prog_1_method_15_code 135 = .ok (.getfield 189, 3) := by decide +kernel
theorem dc11_all_138 : decode prog_1_method_15_code 138 = .ok (.aload_n 0, 1) := by decide +kernel
theorem dc11_all_139 : decode prog_1_method_15_code 139 = .ok (.getfield 58, 3) := by decide +kernel
theorem dc11_all_142 : decode prog_1_method_15_code 142 = .ok (.aload_n 0, 1) := by decide +kernel
theorem dc11_all_143 : decode prog_1_method_15_code 143 = .ok (.getfield 58, 3) := by decide +kernel
theorem dc11_all_146 : decode prog_1_method_15_code 146 = .ok (.getfield 189, 3) := by decide +kernel
theorem dc11_all_149 : decode prog_1_method_15_code 149 = .ok (.invokevirtual 238, 3) := by decide +kernel
theorem dc11_all_152 : decode prog_1_method_15_code 152 = .ok (.iaload, 1) := by decide +kernel
theorem dc11_all_153 : decode prog_1_method_15_code 153 = .ok (.aload_n 0, 1) := by decide +kernel
theorem dc11_all_154 : decode prog_1_method_15_code 154 = .ok (.getfield 58, 3) := by decide +kernel
theorem dc11_all_157 : decode prog_1_method_15_code 157 = .ok (.getfield 154, 3) := by decide +kernel
theorem dc11_all_160 : decode prog_1_method_15_code 160 = .ok (.imul, 1) := by decide +kernel
theorem dc11_all_161 : decode prog_1_method_15_code 161 = .ok (.ireturn, 1) := by decide +kernel
theorem dc11_all_162 : decode prog_1_method_15_code 162 = .ok (.aload_n 0, 1) := by decide +kernel
theorem dc11_all_163 : decode prog_1_method_15_code 163 = .ok (.getfield 58, 3) := by decide +kernel
theorem dc11_all_166 : decode prog_1_method_15_code 166 = .ok (.invokevirtual 241, 3) := by decide +kernel
theorem dc11_all_169 : decode prog_1_method_15_code 169 = .ok (.ireturn, 1) := by decide +kernel
theorem dc11_all_170 : decode prog_1_method_15_code 170 = .ok (.iconst (-1), 1) := by decide +kernel
theorem dc11_all_171 : decode prog_1_method_15_code 171 = .ok (.ireturn, 1) := by decide +kernel
theorem dc11_shares_0 : decode prog_1_method_16_code 0 = .ok (.aload_n 0, 1) := by decide +kernel
theorem dc11_shares_1 : decode prog_1_method_16_code 1 = .ok (.getfield 58, 3) := by decide +kernel
theorem dc11_shares_4 : decode prog_1_method_16_code 4 = .ok (.iload_n 1, 1) := by decide +kernel
theorem dc11_shares_5 : decode prog_1_method_16_code 5 = .ok (.invokevirtual 180, 3) := by decide +kernel
theorem dc11_shares_8 : decode prog_1_method_16_code 8 = .ok (.ifCond .eq 14, 3) := by decide +kernel
theorem dc11_shares_11 : decode prog_1_method_16_code 11 = .ok (.iload_n 2, 1) := by decide +kernel
theorem dc11_shares_12 : decode prog_1_method_16_code 12 = .ok (.ifCond .lt 10, 3) := by decide +kernel
theorem dc11_shares_15 : decode prog_1_method_16_code 15 = .ok (.iload_n 2, 1) := by decide +kernel
theorem dc11_shares_16 : decode prog_1_method_16_code 16 = .ok (.sipush 999, 3) := by decide +kernel
theorem dc11_shares_19 : decode prog_1_method_16_code 19 = .ok (.if_icmp .le 5, 3) := by decide +kernel
theorem dc11_shares_22 : decode prog_1_method_16_code 22 = .ok (.iconst (-1), 1) := by decide +kernel
theorem dc11_shares_23 : decode prog_1_method_16_code 23 = .ok (.ireturn, 1) := by decide +kernel
theorem dc11_shares_24 : decode prog_1_method_16_code 24 = .ok (.aload_n 0, 1) := by decide +kernel
theorem dc11_shares_25 : decode prog_1_method_16_code 25 = .ok (.getfield 58, 3) := by decide +kernel
theorem dc11_shares_28 : decode prog_1_method_16_code 28 = .ok (.aload_n 0, 1) := by decide +kernel
theorem dc11_shares_29 : decode prog_1_method_16_code 29 = .ok (.getfield 58, 3) := by decide +kernel
theorem dc11_shares_32 : decode prog_1_method_16_code 32 = .ok (.getfield 186, 3) := by decide +kernel
theorem dc11_shares_35 : decode prog_1_method_16_code 35 = .ok (.invokevirtual 204, 3) := by decide +kernel
theorem dc11_shares_38 : decode prog_1_method_16_code 38 = .ok (.istore_n 3, 1) := by decide +kernel
theorem dc11_shares_39 : decode prog_1_method_16_code 39 = .ok (.iload_n 3, 1) := by decide +kernel
theorem dc11_shares_40 : decode prog_1_method_16_code 40 = .ok (.ifCond .ne 7, 3) := by decide +kernel
theorem dc11_shares_43 : decode prog_1_method_16_code 43 = .ok (.iconst 0, 1) := by decide +kernel
theorem dc11_shares_44 : decode prog_1_method_16_code 44 = .ok (.goto 16, 3) := by decide +kernel
theorem dc11_shares_47 : decode prog_1_method_16_code 47 = .ok (.iload_n 2, 1) := by decide +kernel
theorem dc11_shares_48 : decode prog_1_method_16_code 48 = .ok (.aload_n 0, 1) := by decide +kernel
theorem dc11_shares_49 : decode prog_1_method_16_code 49 = .ok (.getfield 58, 3) := by decide +kernel
theorem dc11_shares_52 : decode prog_1_method_16_code 52 = .ok (.getfield 186, 3) := by decide +kernel
theorem dc11_shares_55 : decode prog_1_method_16_code 55 = .ok (.iload_n 1, 1) := by decide +kernel
theorem dc11_shares_56 : decode prog_1_method_16_code 56 = .ok (.iaload, 1) := by decide +kernel
theorem dc11_shares_57 : decode prog_1_method_16_code 57 = .ok (.imul, 1) := by decide +kernel
theorem dc11_shares_58 : decode prog_1_method_16_code 58 = .ok (.iload_n 3, 1) := by decide +kernel
theorem dc11_shares_59 : decode prog_1_method_16_code 59 = .ok (.idiv, 1) := by decide +kernel
theorem dc11_shares_60 : decode prog_1_method_16_code 60 = .ok (.ireturn, 1) := by decide +kernel
theorem dc11_buyers_0 : decode prog_1_method_17_code 0 = .ok (.aload_n 0, 1) := by decide +kernel
theorem dc11_buyers_1 : decode prog_1_method_17_code 1 = .ok (.getfield 58, 3) := by decide +kernel
theorem dc11_buyers_4 : decode prog_1_method_17_code 4 = .ok (.getfield 154, 3) := by decide +kernel
theorem dc11_buyers_7 : decode prog_1_method_17_code 7 = .ok (.ifCond .eq 10, 3) := by decide +kernel
theorem dc11_buyers_10 : decode prog_1_method_17_code 10 = .ok (.iload_n 1, 1) := by decide +kernel
theorem dc11_buyers_11 : decode prog_1_method_17_code 11 = .ok (.invokestatic 244, 3) := by decide +kernel
theorem dc11_buyers_14 : decode prog_1_method_17_code 14 = .ok (.ifCond .ne 5, 3) := by decide +kernel
theorem dc11_buyers_17 : decode prog_1_method_17_code 17 = .ok (.iconst (-1), 1) := by decide +kernel
theorem dc11_buyers_18 : decode prog_1_method_17_code 18 = .ok (.ireturn, 1) := by decide +kernel
theorem dc11_buyers_19 : decode prog_1_method_17_code 19 = .ok (.iconst 0, 1) := by decide +kernel
theorem dc11_buyers_20 : decode prog_1_method_17_code 20 = .ok (.istore_n 2, 1) := by decide +kernel
theorem dc11_buyers_21 : decode prog_1_method_17_code 21 = .ok (.iconst 0, 1) := by decide +kernel
theorem dc11_buyers_22 : decode prog_1_method_17_code 22 = .ok (.istore_n 3, 1) := by decide +kernel
theorem dc11_buyers_23 : decode prog_1_method_17_code 23 = .ok (.iload_n 3, 1) := by decide +kernel
theorem dc11_buyers_24 : decode prog_1_method_17_code 24 = .ok (.aload_n 0, 1) := by decide +kernel
theorem dc11_buyers_25 : decode prog_1_method_17_code 25 = .ok (.getfield 58, 3) := by decide +kernel
theorem dc11_buyers_28 : decode prog_1_method_17_code 28 = .ok (.getfield 154, 3) := by decide +kernel
theorem dc11_buyers_31 : decode prog_1_method_17_code 31 = .ok (.if_icmp .ge 36, 3) := by decide +kernel
theorem dc11_buyers_34 : decode prog_1_method_17_code 34 = .ok (.aload_n 0, 1) := by decide +kernel
theorem dc11_buyers_35 : decode prog_1_method_17_code 35 = .ok (.getfield 58, 3) := by decide +kernel
theorem dc11_buyers_38 : decode prog_1_method_17_code 38 = .ok (.getfield 198, 3) := by decide +kernel
theorem dc11_buyers_41 : decode prog_1_method_17_code 41 = .ok (.iload_n 3, 1) := by decide +kernel
theorem dc11_buyers_42 : decode prog_1_method_17_code 42 = .ok (.iaload, 1) := by decide +kernel
theorem dc11_buyers_43 : decode prog_1_method_17_code 43 = .ok (.iload_n 1, 1) := by decide +kernel
theorem dc11_buyers_44 : decode prog_1_method_17_code 44 = .ok (.aload_n 0, 1) := by decide +kernel
theorem dc11_buyers_45 : decode prog_1_method_17_code 45 = .ok (.getfield 58, 3) := by decide +kernel
theorem dc11_buyers_48 : decode prog_1_method_17_code 48 = .ok (.getfield 177, 3) := by decide +kernel
theorem dc11_buyers_51 : decode prog_1_method_17_code 51 = .ok (.imul, 1) := by decide +kernel
theorem dc11_buyers_52 : decode prog_1_method_17_code 52 = .ok (.if_icmp .lt 9, 3) := by decide +kernel
theorem dc11_buyers_55 : decode prog_1_method_17_code 55 = .ok (.iload_n 2, 1) := by decide +kernel
theorem dc11_buyers_56 : decode prog_1_method_17_code 56 = .ok (.iconst 1, 1) := by decide +kernel
theorem dc11_buyers_57 : decode prog_1_method_17_code 57 = .ok (.iload_n 3, 1) := by decide +kernel
theorem dc11_buyers_58 : decode prog_1_method_17_code 58 = .ok (.ishl, 1) := by decide +kernel
theorem dc11_buyers_59 : decode prog_1_method_17_code 59 = .ok (.ior, 1) := by decide +kernel
theorem dc11_buyers_60 : decode prog_1_method_17_code 60 = .ok (.istore_n 2, 1) := by decide +kernel
theorem dc11_buyers_61 : decode prog_1_method_17_code 61 = .ok (.iinc 3 1, 3) := by decide +kernel
theorem dc11_buyers_64 : decode prog_1_method_17_code 64 = .ok (.goto (-41), 3) := by decide +kernel
theorem dc11_buyers_67 : decode prog_1_method_17_code 67 = .ok (.iload_n 2, 1) := by decide +kernel
theorem dc11_buyers_68 : decode prog_1_method_17_code 68 = .ok (.ireturn, 1) := by decide +kernel
theorem dc11_isSomeAtOnce_0 : decode prog_1_method_65_code 0 = .ok (.iload_n 0, 1) := by decide +kernel
theorem dc11_isSomeAtOnce_1 : decode prog_1_method_65_code 1 = .ok (.iconst 1, 1) := by decide +kernel
theorem dc11_isSomeAtOnce_2 : decode prog_1_method_65_code 2 = .ok (.if_icmp .lt 13, 3) := by decide +kernel
theorem dc11_isSomeAtOnce_5 : decode prog_1_method_65_code 5 = .ok (.iload_n 0, 1) := by decide +kernel
theorem dc11_isSomeAtOnce_6 : decode prog_1_method_65_code 6 = .ok (.bipush 20, 2) := by decide +kernel
theorem dc11_isSomeAtOnce_8 : decode prog_1_method_65_code 8 = .ok (.if_icmp .gt 7, 3) := by decide +kernel
theorem dc11_isSomeAtOnce_11 : decode prog_1_method_65_code 11 = .ok (.iconst 1, 1) := by decide +kernel
theorem dc11_isSomeAtOnce_12 : decode prog_1_method_65_code 12 = .ok (.goto 4, 3) := by decide +kernel
theorem dc11_isSomeAtOnce_15 : decode prog_1_method_65_code 15 = .ok (.iconst 0, 1) := by decide +kernel
theorem dc11_isSomeAtOnce_16 : decode prog_1_method_65_code 16 = .ok (.ireturn, 1) := by decide +kernel
theorem dc11_law_0 : decode prog_1_method_18_code 0 = .ok (.iload_n 1, 1) := by decide +kernel
theorem dc11_law_1 : decode prog_1_method_18_code 1 = .ok (.iconst (-1), 1) := by decide +kernel
theorem dc11_law_2 : decode prog_1_method_18_code 2 = .ok (.if_icmp .lt 11, 3) := by decide +kernel
theorem dc11_law_5 : decode prog_1_method_18_code 5 = .ok (.iload_n 1, 1) := by decide +kernel
theorem dc11_law_6 : decode prog_1_method_18_code 6 = .ok (.aload_n 0, 1) := by decide +kernel
theorem dc11_law_7 : decode prog_1_method_18_code 7 = .ok (.getfield 157, 3) := by decide +kernel
theorem dc11_law_10 : decode prog_1_method_18_code 10 = .ok (.if_icmp .lt 5, 3) := by decide +kernel
theorem dc11_law_13 : decode prog_1_method_18_code 13 = .ok (.iconst 0, 1) := by decide +kernel
theorem dc11_law_14 : decode prog_1_method_18_code 14 = .ok (.ireturn, 1) := by decide +kernel
theorem dc11_law_15 : decode prog_1_method_18_code 15 = .ok (.aload_n 0, 1) := by decide +kernel
theorem dc11_law_16 : decode prog_1_method_18_code 16 = .ok (.iload_n 1, 1) := by decide +kernel
theorem dc11_law_17 : decode prog_1_method_18_code 17 = .ok (.putfield 51, 3) := by decide +kernel
theorem dc11_law_20 : decode prog_1_method_18_code 20 = .ok (.aload_n 0, 1) := by decide +kernel
theorem dc11_law_21 : decode prog_1_method_18_code 21 = .ok (.getfield 68, 3) := by decide +kernel
theorem dc11_law_24 : decode prog_1_method_18_code 24 = .ok (.iload_n 1, 1) := by decide +kernel
theorem dc11_law_25 : decode prog_1_method_18_code 25 = .ok (.iconst (-1), 1) := by decide +kernel
theorem dc11_law_26 : decode prog_1_method_18_code 26 = .ok (.if_icmp .ne 7, 3) := by decide +kernel
theorem dc11_law_29 : decode prog_1_method_18_code 29 = .ok (.aconst_null, 1) := by decide +kernel
theorem dc11_law_30 : decode prog_1_method_18_code 30 = .ok (.goto 9, 3) := by decide +kernel
theorem dc11_law_33 : decode prog_1_method_18_code 33 = .ok (.aload_n 0, 1) := by decide +kernel
theorem dc11_law_34 : decode prog_1_method_18_code 34 = .ok (.getfield 41, 3) := by decide +kernel
theorem dc11_law_37 : decode prog_1_method_18_code 37 = .ok (.iload_n 1, 1) := by decide +kernel
theorem dc11_law_38 : decode prog_1_method_18_code 38 = .ok (.aaload, 1) := by decide +kernel
theorem dc11_law_39 : decode prog_1_method_18_code 39 = .ok (.putfield 247, 3) := by decide +kernel
theorem dc11_law_42 : decode prog_1_method_18_code 42 = .ok (.iconst 1, 1) := by decide +kernel
theorem dc11_law_43 : decode prog_1_method_18_code 43 = .ok (.ireturn, 1) := by decide +kernel
theorem dc11_heresy_0 : decode prog_1_method_19_code 0 = .ok (.iload_n 1, 1) := by decide +kernel
theorem dc11_heresy_1 : decode prog_1_method_19_code 1 = .ok (.ifCond .lt 17, 3) := by decide +kernel
theorem dc11_heresy_4 : decode prog_1_method_19_code 4 = .ok (.iload_n 1, 1) := by decide +kernel
theorem dc11_heresy_5 : decode prog_1_method_19_code 5 = .ok (.bipush 9, 2) := by decide +kernel
theorem dc11_heresy_7 : decode prog_1_method_19_code 7 = .ok (.if_icmp .gt 11, 3) := by decide +kernel
theorem dc11_heresy_10 : decode prog_1_method_19_code 10 = .ok (.iload_n 1, 1) := by decide +kernel
theorem dc11_heresy_11 : decode prog_1_method_19_code 11 = .ok (.aload_n 0, 1) := by decide +kernel
theorem dc11_heresy_12 : decode prog_1_method_19_code 12 = .ok (.getfield 208, 3) := by decide +kernel
theorem dc11_heresy_15 : decode prog_1_method_19_code 15 = .ok (.if_icmp .ne 5, 3) := by decide +kernel
theorem dc11_heresy_18 : decode prog_1_method_19_code 18 = .ok (.iconst 0, 1) := by decide +kernel
theorem dc11_heresy_19 : decode prog_1_method_19_code 19 = .ok (.ireturn, 1) := by decide +kernel
theorem dc11_heresy_20 : decode prog_1_method_19_code 20 = .ok (.aload_n 0, 1) := by decide +kernel
theorem dc11_heresy_21 : decode prog_1_method_19_code 21 = .ok (.iload_n 1, 1) := by decide +kernel
theorem dc11_heresy_22 : decode prog_1_method_19_code 22 = .ok (.putfield 208, 3) := by decide +kernel
theorem dc11_heresy_25 : decode prog_1_method_19_code 25 = .ok (.iconst 1, 1) := by decide +kernel
theorem dc11_heresy_26 : decode prog_1_method_19_code 26 = .ok (.ireturn, 1) := by decide +kernel
theorem dc11_year_0 : decode prog_1_method_20_code 0 = .ok (.aload_n 0, 1) := by decide +kernel
theorem dc11_year_1 : decode prog_1_method_20_code 1 = .ok (.iload_n 1, 1) := by decide +kernel
theorem dc11_year_2 : decode prog_1_method_20_code 2 = .ok (.invokevirtual 251, 3) := by decide +kernel
theorem dc11_year_5 : decode prog_1_method_20_code 5 = .ok (.ifCond .eq 16, 3) := by decide +kernel
theorem dc11_year_8 : decode prog_1_method_20_code 8 = .ok (.aload_n 0, 1) := by decide +kernel
theorem dc11_year_9 : decode prog_1_method_20_code 9 = .ok (.getfield 58, 3) := by decide +kernel
theorem dc11_year_12 : decode prog_1_method_20_code 12 = .ok (.getfield 201, 3) := by decide +kernel
theorem dc11_year_15 : decode prog_1_method_20_code 15 = .ok (.sipush 999, 3) := by decide +kernel
theorem dc11_year_18 : decode prog_1_method_20_code 18 = .ok (.if_icmp .lt 5, 3) := by decide +kernel
theorem dc11_year_21 : decode prog_1_method_20_code 21 = .ok (.iconst (-1), 1) := by decide +kernel
theorem dc11_year_22 : decode prog_1_method_20_code 22 = .ok (.ireturn, 1) := by decide +kernel
theorem dc11_year_23 : decode prog_1_method_20_code 23 = .ok (.aload_n 0, 1) := by decide +kernel
theorem dc11_year_24 : decode prog_1_method_20_code 24 = .ok (.getfield 82, 3) := by decide +kernel
theorem dc11_year_27 : decode prog_1_method_20_code 27 = .ok (.aload_n 0, 1) := by decide +kernel
theorem dc11_year_28 : decode prog_1_method_20_code 28 = .ok (.getfield 58, 3) := by decide +kernel
theorem dc11_year_31 : decode prog_1_method_20_code 31 = .ok (.invokevirtual 254, 3) := by decide +kernel
theorem dc11_year_34 : decode prog_1_method_20_code 34 = .ok (.aload_n 0, 1) := by decide +kernel
theorem dc11_year_35 : decode prog_1_method_20_code 35 = .ok (.iload_n 1, 1) := by decide +kernel
theorem dc11_year_36 : decode prog_1_method_20_code 36 = .ok (.invokevirtual 257, 3) := by decide +kernel
theorem dc11_year_39 : decode prog_1_method_20_code 39 = .ok (.ireturn, 1) := by decide +kernel
theorem dc11_isSky_0 : decode prog_1_method_67_code 0 = .ok (.aload_n 0, 1) := by decide +kernel
theorem dc11_isSky_1 : decode prog_1_method_67_code 1 = .ok (.getfield 58, 3) := by decide +kernel
theorem dc11_isSky_4 : decode prog_1_method_67_code 4 = .ok (.getfield 154, 3) := by decide +kernel
theorem dc11_isSky_7 : decode prog_1_method_67_code 7 = .ok (.ifCond .le 14, 3) := by decide +kernel
theorem dc11_isSky_10 : decode prog_1_method_67_code 10 = .ok (.iload_n 1, 1) := by decide +kernel
theorem dc11_isSky_11 : decode prog_1_method_67_code 11 = .ok (.invokestatic 340, 3) := by decide +kernel
theorem dc11_isSky_14 : decode prog_1_method_67_code 14 = .ok (.ifCond .eq 7, 3) := by decide +kernel
theorem dc11_isSky_17 : decode prog_1_method_67_code 17 = .ok (.iconst 1, 1) := by decide +kernel
theorem dc11_isSky_18 : decode prog_1_method_67_code 18 = .ok (.goto 4, 3) := by decide +kernel
theorem dc11_isSky_21 : decode prog_1_method_67_code 21 = .ok (.iconst 0, 1) := by decide +kernel
theorem dc11_isSky_22 : decode prog_1_method_67_code 22 = .ok (.ireturn, 1) := by decide +kernel
theorem dc11_isRain_0 : decode prog_1_method_64_code 0 = .ok (.iload_n 0, 1) := by decide +kernel
theorem dc11_isRain_1 : decode prog_1_method_64_code 1 = .ok (.ifCond .lt 13, 3) := by decide +kernel
theorem dc11_isRain_4 : decode prog_1_method_64_code 4 = .ok (.iload_n 0, 1) := by decide +kernel
theorem dc11_isRain_5 : decode prog_1_method_64_code 5 = .ok (.bipush 99, 2) := by decide +kernel
theorem dc11_isRain_7 : decode prog_1_method_64_code 7 = .ok (.if_icmp .gt 7, 3) := by decide +kernel
theorem dc11_isRain_10 : decode prog_1_method_64_code 10 = .ok (.iconst 1, 1) := by decide +kernel
theorem dc11_isRain_11 : decode prog_1_method_64_code 11 = .ok (.goto 4, 3) := by decide +kernel
theorem dc11_isRain_14 : decode prog_1_method_64_code 14 = .ok (.iconst 0, 1) := by decide +kernel
theorem dc11_isRain_15 : decode prog_1_method_64_code 15 = .ok (.ireturn, 1) := by decide +kernel
theorem dc11_goBy_0 : decode prog_1_method_32_code 0 = .ok (.aload_n 0, 1) := by decide +kernel
theorem dc11_goBy_1 : decode prog_1_method_32_code 1 = .ok (.getfield 68, 3) := by decide +kernel
theorem dc11_goBy_4 : decode prog_1_method_32_code 4 = .ok (.aload_n 0, 1) := by decide +kernel
theorem dc11_goBy_5 : decode prog_1_method_32_code 5 = .ok (.getfield 58, 3) := by decide +kernel
theorem dc11_goBy_8 : decode prog_1_method_32_code 8 = .ok (.iload_n 1, 1) := by decide +kernel
theorem dc11_goBy_9 : decode prog_1_method_32_code 9 = .ok (.invokevirtual 315, 3) := by decide +kernel
theorem dc11_goBy_12 : decode prog_1_method_32_code 12 = .ok (.aload_n 0, 1) := by decide +kernel
theorem dc11_goBy_13 : decode prog_1_method_32_code 13 = .ok (.getfield 75, 3) := by decide +kernel
theorem dc11_goBy_16 : decode prog_1_method_32_code 16 = .ok (.aload_n 0, 1) := by decide +kernel
theorem dc11_goBy_17 : decode prog_1_method_32_code 17 = .ok (.getfield 58, 3) := by decide +kernel
theorem dc11_goBy_20 : decode prog_1_method_32_code 20 = .ok (.getfield 201, 3) := by decide +kernel
theorem dc11_goBy_23 : decode prog_1_method_32_code 23 = .ok (.iload_n 1, 1) := by decide +kernel
theorem dc11_goBy_24 : decode prog_1_method_32_code 24 = .ok (.aload_n 0, 1) := by decide +kernel
theorem dc11_goBy_25 : decode prog_1_method_32_code 25 = .ok (.getfield 68, 3) := by decide +kernel
theorem dc11_goBy_28 : decode prog_1_method_32_code 28 = .ok (.getfield 319, 3) := by decide +kernel
theorem dc11_goBy_31 : decode prog_1_method_32_code 31 = .ok (.aload_n 0, 1) := by decide +kernel
theorem dc11_goBy_32 : decode prog_1_method_32_code 32 = .ok (.getfield 68, 3) := by decide +kernel
theorem dc11_goBy_35 : decode prog_1_method_32_code 35 = .ok (.getfield 322, 3) := by decide +kernel
theorem dc11_goBy_38 : decode prog_1_method_32_code 38 = .ok (.invokevirtual 325, 3) := by decide +kernel
theorem dc11_goBy_41 : decode prog_1_method_32_code 41 = .ok (.aload_n 0, 1) := by decide +kernel
theorem dc11_goBy_42 : decode prog_1_method_32_code 42 = .ok (.getfield 68, 3) := by decide +kernel
theorem dc11_goBy_45 : decode prog_1_method_32_code 45 = .ok (.aload_n 0, 1) := by decide +kernel
theorem dc11_goBy_46 : decode prog_1_method_32_code 46 = .ok (.getfield 58, 3) := by decide +kernel
theorem dc11_goBy_49 : decode prog_1_method_32_code 49 = .ok (.invokevirtual 329, 3) := by decide +kernel
theorem dc11_goBy_52 : decode prog_1_method_32_code 52 = .ok (.aload_n 0, 1) := by decide +kernel
theorem dc11_goBy_53 : decode prog_1_method_32_code 53 = .ok (.getfield 68, 3) := by decide +kernel
theorem dc11_goBy_56 : decode prog_1_method_32_code 56 = .ok (.getfield 322, 3) := by decide +kernel
theorem dc11_goBy_59 : decode prog_1_method_32_code 59 = .ok (.ireturn, 1) := by decide +kernel
theorem dc11_held_0 : decode prog_1_method_69_code 0 = .ok (.iload_n 1, 1) := by decide +kernel
theorem dc11_held_1 : decode prog_1_method_69_code 1 = .ok (.iload_n 0, 1) := by decide +kernel
theorem dc11_held_2 : decode prog_1_method_69_code 2 = .ok (.if_icmp .ge 7, 3) := by decide +kernel
theorem dc11_held_5 : decode prog_1_method_69_code 5 = .ok (.iload_n 0, 1) := by decide +kernel
theorem dc11_held_6 : decode prog_1_method_69_code 6 = .ok (.goto 13, 3) := by decide +kernel
theorem dc11_held_9 : decode prog_1_method_69_code 9 = .ok (.iload_n 1, 1) := by decide +kernel
theorem dc11_held_10 : decode prog_1_method_69_code 10 = .ok (.iload_n 2, 1) := by decide +kernel
theorem dc11_held_11 : decode prog_1_method_69_code 11 = .ok (.if_icmp .le 7, 3) := by decide +kernel
theorem dc11_held_14 : decode prog_1_method_69_code 14 = .ok (.iload_n 2, 1) := by decide +kernel
theorem dc11_held_15 : decode prog_1_method_69_code 15 = .ok (.goto 4, 3) := by decide +kernel
theorem dc11_held_18 : decode prog_1_method_69_code 18 = .ok (.iload_n 1, 1) := by decide +kernel
theorem dc11_held_19 : decode prog_1_method_69_code 19 = .ok (.ireturn, 1) := by decide +kernel
theorem dc11_sell_0 : decode prog_1_method_21_code 0 = .ok (.aload_n 0, 1) := by decide +kernel
theorem dc11_sell_1 : decode prog_1_method_21_code 1 = .ok (.iload_n 1, 1) := by decide +kernel
theorem dc11_sell_2 : decode prog_1_method_21_code 2 = .ok (.iload_n 2, 1) := by decide +kernel
theorem dc11_sell_3 : decode prog_1_method_21_code 3 = .ok (.invokevirtual 260, 3) := by decide +kernel
theorem dc11_sell_6 : decode prog_1_method_21_code 6 = .ok (.ifCond .eq 23, 3) := by decide +kernel
theorem dc11_sell_9 : decode prog_1_method_21_code 9 = .ok (.iload_n 3, 1) := by decide +kernel
theorem dc11_sell_10 : decode prog_1_method_21_code 10 = .ok (.invokestatic 244, 3) := by decide +kernel
theorem dc11_sell_13 : decode prog_1_method_21_code 13 = .ok (.ifCond .eq 16, 3) := by decide +kernel
theorem dc11_sell_16 : decode prog_1_method_21_code 16 = .ok (.aload_n 0, 1) := by decide +kernel
theorem dc11_sell_17 : decode prog_1_method_21_code 17 = .ok (.getfield 58, 3) := by decide +kernel
theorem dc11_sell_20 : decode prog_1_method_21_code 20 = .ok (.iload_n 1, 1) := by decide +kernel
theorem dc11_sell_21 : decode prog_1_method_21_code 21 = .ok (.iload_n 2, 1) := by decide +kernel
theorem dc11_sell_22 : decode prog_1_method_21_code 22 = .ok (.iload_n 3, 1) := by decide +kernel
theorem dc11_sell_23 : decode prog_1_method_21_code 23 = .ok (.invokevirtual 264, 3) := by decide +kernel
theorem dc11_sell_26 : decode prog_1_method_21_code 26 = .ok (.ifCond .ne 5, 3) := by decide +kernel
theorem dc11_sell_29 : decode prog_1_method_21_code 29 = .ok (.iconst (-1), 1) := by decide +kernel
theorem dc11_sell_30 : decode prog_1_method_21_code 30 = .ok (.ireturn, 1) := by decide +kernel
theorem dc11_sell_31 : decode prog_1_method_21_code 31 = .ok (.aload_n 0, 1) := by decide +kernel
theorem dc11_sell_32 : decode prog_1_method_21_code 32 = .ok (.getfield 82, 3) := by decide +kernel
theorem dc11_sell_35 : decode prog_1_method_21_code 35 = .ok (.aload_n 0, 1) := by decide +kernel
theorem dc11_sell_36 : decode prog_1_method_21_code 36 = .ok (.getfield 58, 3) := by decide +kernel
theorem dc11_sell_39 : decode prog_1_method_21_code 39 = .ok (.invokevirtual 254, 3) := by decide +kernel
theorem dc11_sell_42 : decode prog_1_method_21_code 42 = .ok (.aload_n 0, 1) := by decide +kernel
theorem dc11_sell_43 : decode prog_1_method_21_code 43 = .ok (.getfield 58, 3) := by decide +kernel
theorem dc11_sell_46 : decode prog_1_method_21_code 46 = .ok (.iload_n 1, 1) := by decide +kernel
theorem dc11_sell_47 : decode prog_1_method_21_code 47 = .ok (.iload_n 2, 1) := by decide +kernel
theorem dc11_sell_48 : decode prog_1_method_21_code 48 = .ok (.iload_n 3, 1) := by decide +kernel
theorem dc11_sell_49 : decode prog_1_method_21_code 49 = .ok (.invokevirtual 268, 3) := by decide +kernel
theorem dc11_sell_52 : decode prog_1_method_21_code 52 = .ok (.aload_n 0, 1) := by decide +kernel
theorem dc11_sell_53 : decode prog_1_method_21_code 53 = .ok (.getfield 58, 3) := by decide +kernel
theorem dc11_sell_56 : decode prog_1_method_21_code 56 = .ok (.getfield 198, 3) := by decide +kernel
theorem dc11_sell_59 : decode prog_1_method_21_code 59 = .ok (.iload_n 1, 1) := by decide +kernel
theorem dc11_sell_60 : decode prog_1_method_21_code 60 = .ok (.iaload, 1) := by decide +kernel
theorem dc11_sell_61 : decode prog_1_method_21_code 61 = .ok (.ireturn, 1) := by decide +kernel
theorem dc11_isPair_0 : decode prog_1_method_68_code 0 = .ok (.aload_n 0, 1) := by decide +kernel
theorem dc11_isPair_1 : decode prog_1_method_68_code 1 = .ok (.getfield 58, 3) := by decide +kernel
theorem dc11_isPair_4 : decode prog_1_method_68_code 4 = .ok (.iload_n 1, 1) := by decide +kernel
theorem dc11_isPair_5 : decode prog_1_method_68_code 5 = .ok (.invokevirtual 180, 3) := by decide +kernel
theorem dc11_isPair_8 : decode prog_1_method_68_code 8 = .ok (.ifCond .eq 23, 3) := by decide +kernel
theorem dc11_isPair_11 : decode prog_1_method_68_code 11 = .ok (.aload_n 0, 1) := by decide +kernel
theorem dc11_isPair_12 : decode prog_1_method_68_code 12 = .ok (.getfield 58, 3) := by decide +kernel
theorem dc11_isPair_15 : decode prog_1_method_68_code 15 = .ok (.iload_n 2, 1) := by decide +kernel
theorem dc11_isPair_16 : decode prog_1_method_68_code 16 = .ok (.invokevirtual 180, 3) := by decide +kernel
theorem dc11_isPair_19 : decode prog_1_method_68_code 19 = .ok (.ifCond .eq 12, 3) := by decide +kernel
theorem dc11_isPair_22 : decode prog_1_method_68_code 22 = .ok (.iload_n 1, 1) := by decide +kernel
theorem dc11_isPair_23 : decode prog_1_method_68_code 23 = .ok (.iload_n 2, 1) := by decide +kernel
theorem dc11_isPair_24 : decode prog_1_method_68_code 24 = .ok (.if_icmp .eq 7, 3) := by decide +kernel
theorem dc11_isPair_27 : decode prog_1_method_68_code 27 = .ok (.iconst 1, 1) := by decide +kernel
theorem dc11_isPair_28 : decode prog_1_method_68_code 28 = .ok (.goto 4, 3) := by decide +kernel
theorem dc11_isPair_31 : decode prog_1_method_68_code 31 = .ok (.iconst 0, 1) := by decide +kernel
theorem dc11_isPair_32 : decode prog_1_method_68_code 32 = .ok (.ireturn, 1) := by decide +kernel
theorem dc11_forgive_0 : decode prog_1_method_22_code 0 = .ok (.aload_n 0, 1) := by decide +kernel
theorem dc11_forgive_1 : decode prog_1_method_22_code 1 = .ok (.getfield 58, 3) := by decide +kernel
theorem dc11_forgive_4 : decode prog_1_method_22_code 4 = .ok (.iload_n 1, 1) := by decide +kernel
theorem dc11_forgive_5 : decode prog_1_method_22_code 5 = .ok (.iload_n 2, 1) := by decide +kernel
theorem dc11_forgive_6 : decode prog_1_method_22_code 6 = .ok (.invokevirtual 272, 3) := by decide +kernel
theorem dc11_forgive_9 : decode prog_1_method_22_code 9 = .ok (.ifCond .ne 5, 3) := by decide +kernel
theorem dc11_forgive_12 : decode prog_1_method_22_code 12 = .ok (.iconst (-1), 1) := by decide +kernel
theorem dc11_forgive_13 : decode prog_1_method_22_code 13 = .ok (.ireturn, 1) := by decide +kernel
theorem dc11_forgive_14 : decode prog_1_method_22_code 14 = .ok (.aload_n 0, 1) := by decide +kernel
theorem dc11_forgive_15 : decode prog_1_method_22_code 15 = .ok (.getfield 82, 3) := by decide +kernel
theorem dc11_forgive_18 : decode prog_1_method_22_code 18 = .ok (.aload_n 0, 1) := by decide +kernel
theorem dc11_forgive_19 : decode prog_1_method_22_code 19 = .ok (.getfield 58, 3) := by decide +kernel
theorem dc11_forgive_22 : decode prog_1_method_22_code 22 = .ok (.invokevirtual 254, 3) := by decide +kernel
theorem dc11_forgive_25 : decode prog_1_method_22_code 25 = .ok (.aload_n 0, 1) := by decide +kernel
theorem dc11_forgive_26 : decode prog_1_method_22_code 26 = .ok (.getfield 58, 3) := by decide +kernel
theorem dc11_forgive_29 : decode prog_1_method_22_code 29 = .ok (.iload_n 1, 1) := by decide +kernel
theorem dc11_forgive_30 : decode prog_1_method_22_code 30 = .ok (.iload_n 2, 1) := by decide +kernel
theorem dc11_forgive_31 : decode prog_1_method_22_code 31 = .ok (.invokevirtual 275, 3) := by decide +kernel
theorem dc11_forgive_34 : decode prog_1_method_22_code 34 = .ok (.aload_n 0, 1) := by decide +kernel
theorem dc11_forgive_35 : decode prog_1_method_22_code 35 = .ok (.getfield 58, 3) := by decide +kernel
theorem dc11_forgive_38 : decode prog_1_method_22_code 38 = .ok (.getfield 186, 3) := by decide +kernel
theorem dc11_forgive_41 : decode prog_1_method_22_code 41 = .ok (.iload_n 1, 1) := by decide +kernel
theorem dc11_forgive_42 : decode prog_1_method_22_code 42 = .ok (.iaload, 1) := by decide +kernel
theorem dc11_forgive_43 : decode prog_1_method_22_code 43 = .ok (.ireturn, 1) := by decide +kernel
theorem dc11_hedge_0 : decode prog_1_method_23_code 0 = .ok (.aload_n 0, 1) := by decide +kernel
theorem dc11_hedge_1 : decode prog_1_method_23_code 1 = .ok (.getfield 58, 3) := by decide +kernel
theorem dc11_hedge_4 : decode prog_1_method_23_code 4 = .ok (.iload_n 1, 1) := by decide +kernel
theorem dc11_hedge_5 : decode prog_1_method_23_code 5 = .ok (.invokevirtual 279, 3) := by decide +kernel
theorem dc11_hedge_8 : decode prog_1_method_23_code 8 = .ok (.ifCond .ne 5, 3) := by decide +kernel
theorem dc11_hedge_11 : decode prog_1_method_23_code 11 = .ok (.iconst (-1), 1) := by decide +kernel
theorem dc11_hedge_12 : decode prog_1_method_23_code 12 = .ok (.ireturn, 1) := by decide +kernel
theorem dc11_hedge_13 : decode prog_1_method_23_code 13 = .ok (.aload_n 0, 1) := by decide +kernel
theorem dc11_hedge_14 : decode prog_1_method_23_code 14 = .ok (.getfield 82, 3) := by decide +kernel
theorem dc11_hedge_17 : decode prog_1_method_23_code 17 = .ok (.aload_n 0, 1) := by decide +kernel
theorem dc11_hedge_18 : decode prog_1_method_23_code 18 = .ok (.getfield 58, 3) := by decide +kernel
theorem dc11_hedge_21 : decode prog_1_method_23_code 21 = .ok (.invokevirtual 254, 3) := by decide +kernel
theorem dc11_hedge_24 : decode prog_1_method_23_code 24 = .ok (.aload_n 0, 1) := by decide +kernel
theorem dc11_hedge_25 : decode prog_1_method_23_code 25 = .ok (.getfield 58, 3) := by decide +kernel
theorem dc11_hedge_28 : decode prog_1_method_23_code 28 = .ok (.iload_n 1, 1) := by decide +kernel
theorem dc11_hedge_29 : decode prog_1_method_23_code 29 = .ok (.invokevirtual 282, 3) := by decide +kernel
theorem dc11_hedge_32 : decode prog_1_method_23_code 32 = .ok (.aload_n 0, 1) := by decide +kernel
theorem dc11_hedge_33 : decode prog_1_method_23_code 33 = .ok (.getfield 58, 3) := by decide +kernel
theorem dc11_hedge_36 : decode prog_1_method_23_code 36 = .ok (.getfield 186, 3) := by decide +kernel
theorem dc11_hedge_39 : decode prog_1_method_23_code 39 = .ok (.iload_n 1, 1) := by decide +kernel
theorem dc11_hedge_40 : decode prog_1_method_23_code 40 = .ok (.iaload, 1) := by decide +kernel
theorem dc11_hedge_41 : decode prog_1_method_23_code 41 = .ok (.ireturn, 1) := by decide +kernel
theorem dc11_can_0 : decode prog_1_method_24_code 0 = .ok (.aload_n 0, 1) := by decide +kernel
theorem dc11_can_1 : decode prog_1_method_24_code 1 = .ok (.getfield 58, 3) := by decide +kernel
theorem dc11_can_4 : decode prog_1_method_24_code 4 = .ok (.iload_n 1, 1) := by decide +kernel
theorem dc11_can_5 : decode prog_1_method_24_code 5 = .ok (.invokevirtual 285, 3) := by decide +kernel
theorem dc11_can_8 : decode prog_1_method_24_code 8 = .ok (.ifCond .ne 5, 3) := by decide +kernel
theorem dc11_can_11 : decode prog_1_method_24_code 11 = .ok (.iconst (-1), 1) := by decide +kernel
theorem dc11_can_12 : decode prog_1_method_24_code 12 = .ok (.ireturn, 1) := by decide +kernel
theorem dc11_can_13 : decode prog_1_method_24_code 13 = .ok (.aload_n 0, 1) := by decide +kernel
theorem dc11_can_14 : decode prog_1_method_24_code 14 = .ok (.getfield 82, 3) := by decide +kernel
theorem dc11_can_17 : decode prog_1_method_24_code 17 = .ok (.aload_n 0, 1) := by decide +kernel
theorem dc11_can_18 : decode prog_1_method_24_code 18 = .ok (.getfield 58, 3) := by decide +kernel
theorem dc11_can_21 : decode prog_1_method_24_code 21 = .ok (.invokevirtual 254, 3) := by decide +kernel
theorem dc11_can_24 : decode prog_1_method_24_code 24 = .ok (.aload_n 0, 1) := by decide +kernel
theorem dc11_can_25 : decode prog_1_method_24_code 25 = .ok (.getfield 58, 3) := by decide +kernel
theorem dc11_can_28 : decode prog_1_method_24_code 28 = .ok (.iload_n 1, 1) := by decide +kernel
theorem dc11_can_29 : decode prog_1_method_24_code 29 = .ok (.invokevirtual 288, 3) := by decide +kernel
theorem dc11_can_32 : decode prog_1_method_24_code 32 = .ok (.aload_n 0, 1) := by decide +kernel
theorem dc11_can_33 : decode prog_1_method_24_code 33 = .ok (.getfield 58, 3) := by decide +kernel
theorem dc11_can_36 : decode prog_1_method_24_code 36 = .ok (.getfield 192, 3) := by decide +kernel
theorem dc11_can_39 : decode prog_1_method_24_code 39 = .ok (.iload_n 1, 1) := by decide +kernel
theorem dc11_can_40 : decode prog_1_method_24_code 40 = .ok (.iaload, 1) := by decide +kernel
theorem dc11_can_41 : decode prog_1_method_24_code 41 = .ok (.ireturn, 1) := by decide +kernel
theorem dc11_price_0 : decode prog_1_method_25_code 0 = .ok (.aload_n 0, 1) := by decide +kernel
theorem dc11_price_1 : decode prog_1_method_25_code 1 = .ok (.getfield 58, 3) := by decide +kernel
theorem dc11_price_4 : decode prog_1_method_25_code 4 = .ok (.getfield 154, 3) := by decide +kernel
theorem dc11_price_7 : decode prog_1_method_25_code 7 = .ok (.ifCond .eq 24, 3) := by decide +kernel
theorem dc11_price_10 : decode prog_1_method_25_code 10 = .ok (.iload_n 1, 1) := by decide +kernel
theorem dc11_price_11 : decode prog_1_method_25_code 11 = .ok (.ifCond .lt 20, 3) := by decide +kernel
theorem dc11_price_14 : decode prog_1_method_25_code 14 = .ok (.iload_n 1, 1) := by decide +kernel
theorem dc11_price_15 : decode prog_1_method_25_code 15 = .ok (.bipush 30, 2) := by decide +kernel
theorem dc11_price_17 : decode prog_1_method_25_code 17 = .ok (.if_icmp .gt 14, 3) := by decide +kernel
theorem dc11_price_20 : decode prog_1_method_25_code 20 = .ok (.iload_n 1, 1) := by decide +kernel
theorem dc11_price_21 : decode prog_1_method_25_code 21 = .ok (.aload_n 0, 1) := by decide +kernel
theorem dc11_price_22 : decode prog_1_method_25_code 22 = .ok (.getfield 58, 3) := by decide +kernel
theorem dc11_price_25 : decode prog_1_method_25_code 25 = .ok (.getfield 177, 3) := by decide +kernel
theorem dc11_price_28 : decode prog_1_method_25_code 28 = .ok (.if_icmp .ne 5, 3) := by decide +kernel
theorem dc11_price_31 : decode prog_1_method_25_code 31 = .ok (.iconst (-1), 1) := by decide +kernel
theorem dc11_price_32 : decode prog_1_method_25_code 32 = .ok (.ireturn, 1) := by decide +kernel
theorem dc11_price_33 : decode prog_1_method_25_code 33 = .ok (.aload_n 0, 1) := by decide +kernel
theorem dc11_price_34 : decode prog_1_method_25_code 34 = .ok (.getfield 82, 3) := by decide +kernel
theorem dc11_price_37 : decode prog_1_method_25_code 37 = .ok (.aload_n 0, 1) := by decide +kernel
theorem dc11_price_38 : decode prog_1_method_25_code 38 = .ok (.getfield 58, 3) := by decide +kernel
theorem dc11_price_41 : decode prog_1_method_25_code 41 = .ok (.invokevirtual 254, 3) := by decide +kernel
theorem dc11_price_44 : decode prog_1_method_25_code 44 = .ok (.aload_n 0, 1) := by decide +kernel
theorem dc11_price_45 : decode prog_1_method_25_code 45 = .ok (.getfield 58, 3) := by decide +kernel
theorem dc11_price_48 : decode prog_1_method_25_code 48 = .ok (.getfield 177, 3) := by decide +kernel
theorem dc11_price_51 : decode prog_1_method_25_code 51 = .ok (.istore_n 2, 1) := by decide +kernel
theorem dc11_price_52 : decode prog_1_method_25_code 52 = .ok (.aload_n 0, 1) := by decide +kernel
theorem dc11_price_53 : decode prog_1_method_25_code 53 = .ok (.getfield 58, 3) := by decide +kernel
theorem dc11_price_56 : decode prog_1_method_25_code 56 = .ok (.iload_n 1, 1) := by decide +kernel
theorem dc11_price_57 : decode prog_1_method_25_code 57 = .ok (.putfield 177, 3) := by decide +kernel
theorem dc11_price_60 : decode prog_1_method_25_code 60 = .ok (.iload_n 2, 1) := by decide +kernel
theorem dc11_price_61 : decode prog_1_method_25_code 61 = .ok (.ireturn, 1) := by decide +kernel
theorem dc11_years_0 : decode prog_1_method_26_code 0 = .ok (.aload_n 0, 1) := by decide +kernel
theorem dc11_years_1 : decode prog_1_method_26_code 1 = .ok (.getfield 58, 3) := by decide +kernel
theorem dc11_years_4 : decode prog_1_method_26_code 4 = .ok (.getfield 154, 3) := by decide +kernel
theorem dc11_years_7 : decode prog_1_method_26_code 7 = .ok (.ifCond .eq 29, 3) := by decide +kernel
theorem dc11_years_10 : decode prog_1_method_26_code 10 = .ok (.iload_n 1, 1) := by decide +kernel
theorem dc11_years_11 : decode prog_1_method_26_code 11 = .ok (.iconst 1, 1) := by decide +kernel
theorem dc11_years_12 : decode prog_1_method_26_code 12 = .ok (.if_icmp .lt 24, 3) := by decide +kernel
theorem dc11_years_15 : decode prog_1_method_26_code 15 = .ok (.iload_n 1, 1) := by decide +kernel
theorem dc11_years_16 : decode prog_1_method_26_code 16 = .ok (.bipush 60, 2) := by decide +kernel
theorem dc11_years_18 : decode prog_1_method_26_code 18 = .ok (.if_icmp .gt 18, 3) := by decide +kernel
theorem dc11_years_21 : decode prog_1_method_26_code 21 = .ok (.aload_n 0, 1) := by decide +kernel
theorem dc11_years_22 : decode prog_1_method_26_code 22 = .ok (.getfield 58, 3) := by decide +kernel
theorem dc11_years_25 : decode prog_1_method_26_code 25 = .ok (.getfield 201, 3) := by decide +kernel
theorem dc11_years_28 : decode prog_1_method_26_code 28 = .ok (.iload_n 1, 1) := by decide +kernel
theorem dc11_years_29 : decode prog_1_method_26_code 29 = .ok (.iadd, 1) := by decide +kernel
theorem dc11_years_30 : decode prog_1_method_26_code 30 = .ok (.sipush 999, 3) := by decide +kernel
theorem dc11_years_33 : decode prog_1_method_26_code 33 = .ok (.if_icmp .le 5, 3) := by decide +kernel
theorem dc11_years_36 : decode prog_1_method_26_code 36 = .ok (.iconst (-1), 1) := by decide +kernel
theorem dc11_years_37 : decode prog_1_method_26_code 37 = .ok (.ireturn, 1) := by decide +kernel
theorem dc11_years_38 : decode prog_1_method_26_code 38 = .ok (.lload_n 2, 1) := by decide +kernel
theorem dc11_years_39 : decode prog_1_method_26_code 39 = .ok (.lstore 4, 2) := by decide +kernel
theorem dc11_years_41 : decode prog_1_method_26_code 41 = .ok (.iconst 0, 1) := by decide +kernel
theorem dc11_years_42 : decode prog_1_method_26_code 42 = .ok (.istore 6, 2) := by decide +kernel
theorem dc11_years_44 : decode prog_1_method_26_code 44 = .ok (.iload 6, 2) := by decide +kernel
theorem dc11_years_46 : decode prog_1_method_26_code 46 = .ok (.iload_n 1, 1) := by decide +kernel
theorem dc11_years_47 : decode prog_1_method_26_code 47 = .ok (.if_icmp .ge 106, 3) := by decide +kernel
theorem dc11_years_50 : decode prog_1_method_26_code 50 = .ok (.aload_n 0, 1) := by decide +kernel
theorem dc11_years_51 : decode prog_1_method_26_code 51 = .ok (.getfield 82, 3) := by decide +kernel
theorem dc11_years_54 : decode prog_1_method_26_code 54 = .ok (.aload_n 0, 1) := by decide +kernel
theorem dc11_years_55 : decode prog_1_method_26_code 55 = .ok (.getfield 58, 3) := by decide +kernel
theorem dc11_years_58 : decode prog_1_method_26_code 58 = .ok (.invokevirtual 254, 3) := by decide +kernel
theorem dc11_years_61 : decode prog_1_method_26_code 61 = .ok (.lload 4, 2) := by decide +kernel
theorem dc11_years_63 : decode prog_1_method_26_code 63 = .ok (.invokestatic 291, 3) := by decide +kernel
theorem dc11_years_66 : decode prog_1_method_26_code 66 = .ok (.lstore 4, 2) := by decide +kernel
theorem dc11_years_68 : decode prog_1_method_26_code 68 = .ok (.lload 4, 2) := by decide +kernel
theorem dc11_years_70 : decode prog_1_method_26_code 70 = .ok (.bipush 10, 2) := by decide +kernel
theorem dc11_years_72 : decode prog_1_method_26_code 72 = .ok (.invokestatic 295, 3) := by decide +kernel
theorem dc11_years_75 : decode prog_1_method_26_code 75 = .ok (.aload_n 0, 1) := by decide +kernel
theorem dc11_years_76 : decode prog_1_method_26_code 76 = .ok (.getfield 208, 3) := by decide +kernel
theorem dc11_years_79 : decode prog_1_method_26_code 79 = .ok (.if_icmp .ge 49, 3) := by decide +kernel
theorem dc11_years_82 : decode prog_1_method_26_code 82 = .ok (.lload 4, 2) := by decide +kernel
theorem dc11_years_84 : decode prog_1_method_26_code 84 = .ok (.invokestatic 291, 3) := by decide +kernel
theorem dc11_years_87 : decode prog_1_method_26_code 87 = .ok (.lstore 4, 2) := by decide +kernel
theorem dc11_years_89 : decode prog_1_method_26_code 89 = .ok (.lload 4, 2) := by decide +kernel
theorem dc11_years_91 : decode prog_1_method_26_code 91 = .ok (.aload_n 0, 1) := by decide +kernel
theorem dc11_years_92 : decode prog_1_method_26_code 92 = .ok (.getfield 58, 3) := by decide +kernel
theorem dc11_years_95 : decode prog_1_method_26_code 95 = .ok (.getfield 154, 3) := by decide +kernel
theorem dc11_years_98 : decode prog_1_method_26_code 98 = .ok (.invokestatic 295, 3) := by decide +kernel
theorem dc11_years_101 : decode prog_1_method_26_code 101 = .ok (.istore 7, 2) := by decide +kernel
theorem dc11_years_103 : decode prog_1_method_26_code 103 = .ok (.aload_n 0, 1) := by decide +kernel
theorem dc11_years_104 : decode prog_1_method_26_code 104 = .ok (.getfield 58, 3) := by decide +kernel
theorem dc11_years_107 : decode prog_1_method_26_code 107 = .ok (.getfield 186, 3) := by decide +kernel
theorem dc11_years_110 : decode prog_1_method_26_code 110 = .ok (.iload 7, 2) := by decide +kernel
theorem dc11_years_112 : decode prog_1_method_26_code 112 = .ok (.dup2, 1) := by decide +kernel
theorem dc11_years_113 : decode prog_1_method_26_code 113 = .ok (.iaload, 1) := by decide +kernel
theorem dc11_years_114 : decode prog_1_method_26_code 114 = .ok (.aload_n 0, 1) := by decide +kernel
theorem dc11_years_115 : decode prog_1_method_26_code 115 = .ok (.getfield 58, 3) := by decide +kernel
theorem dc11_years_118 : decode prog_1_method_26_code 118 = .ok (.getfield 186, 3) := by decide +kernel
theorem dc11_years_121 : decode prog_1_method_26_code 121 = .ok (.iload 7, 2) := by decide +kernel
theorem dc11_years_123 : decode prog_1_method_26_code 123 = .ok (.iaload, 1) := by decide +kernel
theorem dc11_years_124 : decode prog_1_method_26_code 124 = .ok (.iconst 2, 1) := by decide +kernel
theorem dc11_years_125 : decode prog_1_method_26_code 125 = .ok (.idiv, 1) := by decide +kernel
theorem dc11_years_126 : decode prog_1_method_26_code 126 = .ok (.isub, 1) := by decide +kernel
theorem dc11_years_127 : decode prog_1_method_26_code 127 = .ok (.iastore, 1) := by decide +kernel
theorem dc11_years_128 : decode prog_1_method_26_code 128 = .ok (.lload 4, 2) := by decide +kernel
theorem dc11_years_130 : decode prog_1_method_26_code 130 = .ok (.invokestatic 291, 3) := by decide +kernel
theorem dc11_years_133 : decode prog_1_method_26_code 133 = .ok (.lstore 4, 2) := by decide +kernel
theorem dc11_years_135 : decode prog_1_method_26_code 135 = .ok (.aload_n 0, 1) := by decide +kernel
theorem dc11_years_136 : decode prog_1_method_26_code 136 = .ok (.lload 4, 2) := by decide +kernel
theorem dc11_years_138 : decode prog_1_method_26_code 138 = .ok (.bipush 100, 2) := by decide +kernel
theorem dc11_years_140 : decode prog_1_method_26_code 140 = .ok (.invokestatic 295, 3) := by decide +kernel
theorem dc11_years_143 : decode prog_1_method_26_code 143 = .ok (.invokevirtual 257, 3) := by decide +kernel
theorem dc11_years_146 : decode prog_1_method_26_code 146 = .ok (.pop, 1) := by decide +kernel
theorem dc11_years_147 : decode prog_1_method_26_code 147 = .ok (.iinc 6 1, 3) := by decide +kernel
theorem dc11_years_150 : decode prog_1_method_26_code 150 = .ok (.goto (-106), 3) := by decide +kernel
theorem dc11_years_153 : decode prog_1_method_26_code 153 = .ok (.aload_n 0, 1) := by decide +kernel
theorem dc11_years_154 : decode prog_1_method_26_code 154 = .ok (.getfield 58, 3) := by decide +kernel
theorem dc11_years_157 : decode prog_1_method_26_code 157 = .ok (.getfield 201, 3) := by decide +kernel
theorem dc11_years_160 : decode prog_1_method_26_code 160 = .ok (.ireturn, 1) := by decide +kernel
theorem dc11_stirred_0 : decode prog_1_method_27_code 0 = .ok (.lload_n 0, 1) := by decide +kernel
theorem dc11_stirred_1 : decode prog_1_method_27_code 1 = .ok (.ldc2_w 299, 3) := by decide +kernel
theorem dc11_stirred_4 : decode prog_1_method_27_code 4 = .ok (.lmul, 1) := by decide +kernel
theorem dc11_stirred_5 : decode prog_1_method_27_code 5 = .ok (.ldc2_w 301, 3) := by decide +kernel
theorem dc11_stirred_8 : decode prog_1_method_27_code 8 = .ok (.ladd, 1) := by decide +kernel
theorem dc11_stirred_9 : decode prog_1_method_27_code 9 = .ok (.lreturn, 1) := by decide +kernel
theorem dc11_drawn_0 : decode prog_1_method_28_code 0 = .ok (.iload_n 2, 1) := by decide +kernel
theorem dc11_drawn_1 : decode prog_1_method_28_code 1 = .ok (.ifCond .gt 7, 3) := by decide +kernel
theorem dc11_drawn_4 : decode prog_1_method_28_code 4 = .ok (.iconst 0, 1) := by decide +kernel
theorem dc11_drawn_5 : decode prog_1_method_28_code 5 = .ok (.goto 11, 3) := by decide +kernel
theorem dc11_drawn_8 : decode prog_1_method_28_code 8 = .ok (.lload_n 0, 1) := by decide +kernel
theorem dc11_drawn_9 : decode prog_1_method_28_code 9 = .ok (.bipush 33, 2) := by decide +kernel
theorem dc11_drawn_11 : decode prog_1_method_28_code 11 = .ok (.lushr, 1) := by decide +kernel
theorem dc11_drawn_12 : decode prog_1_method_28_code 12 = .ok (.iload_n 2, 1) := by decide +kernel
theorem dc11_drawn_13 : decode prog_1_method_28_code 13 = .ok (.i2l, 1) := by decide +kernel
theorem dc11_drawn_14 : decode prog_1_method_28_code 14 = .ok (.lrem, 1) := by decide +kernel
theorem dc11_drawn_15 : decode prog_1_method_28_code 15 = .ok (.l2i, 1) := by decide +kernel
theorem dc11_drawn_16 : decode prog_1_method_28_code 16 = .ok (.ireturn, 1) := by decide +kernel
theorem dc11_undo_0 : decode prog_1_method_29_code 0 = .ok (.aload_n 0, 1) := by decide +kernel
theorem dc11_undo_1 : decode prog_1_method_29_code 1 = .ok (.getfield 82, 3) := by decide +kernel
theorem dc11_undo_4 : decode prog_1_method_29_code 4 = .ok (.aload_n 0, 1) := by decide +kernel
theorem dc11_undo_5 : decode prog_1_method_29_code 5 = .ok (.getfield 58, 3) := by decide +kernel
theorem dc11_undo_8 : decode prog_1_method_29_code 8 = .ok (.invokevirtual 303, 3) := by decide +kernel
theorem dc11_undo_11 : decode prog_1_method_29_code 11 = .ok (.ifCond .eq 13, 3) := by decide +kernel
theorem dc11_undo_14 : decode prog_1_method_29_code 14 = .ok (.aload_n 0, 1) := by decide +kernel
theorem dc11_undo_15 : decode prog_1_method_29_code 15 = .ok (.getfield 82, 3) := by decide +kernel
theorem dc11_undo_18 : decode prog_1_method_29_code 18 = .ok (.getfield 144, 3) := by decide +kernel
theorem dc11_undo_21 : decode prog_1_method_29_code 21 = .ok (.goto 4, 3) := by decide +kernel
theorem dc11_undo_24 : decode prog_1_method_29_code 24 = .ok (.iconst (-1), 1) := by decide +kernel
theorem dc11_undo_25 : decode prog_1_method_29_code 25 = .ok (.ireturn, 1) := by decide +kernel
theorem dc11_image_0 : decode prog_1_method_30_code 0 = .ok (.aload_n 0, 1) := by decide +kernel
theorem dc11_image_1 : decode prog_1_method_30_code 1 = .ok (.getfield 58, 3) := by decide +kernel
theorem dc11_image_4 : decode prog_1_method_30_code 4 = .ok (.getfield 154, 3) := by decide +kernel
theorem dc11_image_7 : decode prog_1_method_30_code 7 = .ok (.ifCond .ne 5, 3) := by decide +kernel
theorem dc11_image_10 : decode prog_1_method_30_code 10 = .ok (.iconst (-1), 1) := by decide +kernel
theorem dc11_image_11 : decode prog_1_method_30_code 11 = .ok (.ireturn, 1) := by decide +kernel
theorem dc11_image_12 : decode prog_1_method_30_code 12 = .ok (.aload_n 0, 1) := by decide +kernel
theorem dc11_image_13 : decode prog_1_method_30_code 13 = .ok (.getfield 82, 3) := by decide +kernel
theorem dc11_image_16 : decode prog_1_method_30_code 16 = .ok (.aload_n 0, 1) := by decide +kernel
theorem dc11_image_17 : decode prog_1_method_30_code 17 = .ok (.getfield 58, 3) := by decide +kernel
theorem dc11_image_20 : decode prog_1_method_30_code 20 = .ok (.aload_n 0, 1) := by decide +kernel
theorem dc11_image_21 : decode prog_1_method_30_code 21 = .ok (.getfield 75, 3) := by decide +kernel
theorem dc11_image_24 : decode prog_1_method_30_code 24 = .ok (.invokevirtual 307, 3) := by decide +kernel
theorem dc11_image_27 : decode prog_1_method_30_code 27 = .ok (.aload_n 0, 1) := by decide +kernel
theorem dc11_image_28 : decode prog_1_method_30_code 28 = .ok (.getfield 58, 3) := by decide +kernel
theorem dc11_image_31 : decode prog_1_method_30_code 31 = .ok (.getfield 201, 3) := by decide +kernel
theorem dc11_image_34 : decode prog_1_method_30_code 34 = .ok (.ireturn, 1) := by decide +kernel
theorem dc11_back_0 : decode prog_1_method_31_code 0 = .ok (.aload_n 0, 1) := by decide +kernel
theorem dc11_back_1 : decode prog_1_method_31_code 1 = .ok (.getfield 82, 3) := by decide +kernel
theorem dc11_back_4 : decode prog_1_method_31_code 4 = .ok (.aload_n 0, 1) := by decide +kernel
theorem dc11_back_5 : decode prog_1_method_31_code 5 = .ok (.getfield 58, 3) := by decide +kernel
theorem dc11_back_8 : decode prog_1_method_31_code 8 = .ok (.aload_n 0, 1) := by decide +kernel
theorem dc11_back_9 : decode prog_1_method_31_code 9 = .ok (.getfield 75, 3) := by decide +kernel
theorem dc11_back_12 : decode prog_1_method_31_code 12 = .ok (.invokevirtual 311, 3) := by decide +kernel
theorem dc11_back_15 : decode prog_1_method_31_code 15 = .ok (.ifCond .eq 13, 3) := by decide +kernel
theorem dc11_back_18 : decode prog_1_method_31_code 18 = .ok (.aload_n 0, 1) := by decide +kernel
theorem dc11_back_19 : decode prog_1_method_31_code 19 = .ok (.getfield 58, 3) := by decide +kernel
theorem dc11_back_22 : decode prog_1_method_31_code 22 = .ok (.getfield 201, 3) := by decide +kernel
theorem dc11_back_25 : decode prog_1_method_31_code 25 = .ok (.goto 4, 3) := by decide +kernel
theorem dc11_back_28 : decode prog_1_method_31_code 28 = .ok (.iconst (-1), 1) := by decide +kernel
theorem dc11_back_29 : decode prog_1_method_31_code 29 = .ok (.ireturn, 1) := by decide +kernel
theorem dc11_run_0 : decode prog_1_method_33_code 0 = .ok (.aload_n 0, 1) := by decide +kernel
theorem dc11_run_1 : decode prog_1_method_33_code 1 = .ok (.iload_n 1, 1) := by decide +kernel
theorem dc11_run_2 : decode prog_1_method_33_code 2 = .ok (.invokevirtual 219, 3) := by decide +kernel
theorem dc11_run_5 : decode prog_1_method_33_code 5 = .ok (.astore_n 3, 1) := by decide +kernel
theorem dc11_run_6 : decode prog_1_method_33_code 6 = .ok (.aload_n 3, 1) := by decide +kernel
theorem dc11_run_7 : decode prog_1_method_33_code 7 = .ok (.ifnull 22, 3) := by decide +kernel
theorem dc11_run_10 : decode prog_1_method_33_code 10 = .ok (.aload_n 0, 1) := by decide +kernel
theorem dc11_run_11 : decode prog_1_method_33_code 11 = .ok (.getfield 58, 3) := by decide +kernel
theorem dc11_run_14 : decode prog_1_method_33_code 14 = .ok (.getfield 154, 3) := by decide +kernel
theorem dc11_run_17 : decode prog_1_method_33_code 17 = .ok (.ifCond .eq 12, 3) := by decide +kernel
theorem dc11_run_20 : decode prog_1_method_33_code 20 = .ok (.iload_n 2, 1) := by decide +kernel
theorem dc11_run_21 : decode prog_1_method_33_code 21 = .ok (.ifCond .lt 8, 3) := by decide +kernel
theorem dc11_run_24 : decode prog_1_method_33_code 24 = .ok (.iload_n 2, 1) := by decide +kernel
theorem dc11_run_25 : decode prog_1_method_33_code 25 = .ok (.iconst 1, 1) := by decide +kernel
theorem dc11_run_26 : decode prog_1_method_33_code 26 = .ok (.if_icmp .le 6, 3) := by decide +kernel
theorem dc11_run_29 : decode prog_1_method_33_code 29 = .ok (.ldc 214, 2) := by decide +kernel
theorem dc11_run_31 : decode prog_1_method_33_code 31 = .ok (.ireturn, 1) := by decide +kernel
theorem dc11_run_32 : decode prog_1_method_33_code 32 = .ok (.aload_n 0, 1) := by decide +kernel
theorem dc11_run_33 : decode prog_1_method_33_code 33 = .ok (.getfield 62, 3) := by decide +kernel
theorem dc11_run_36 : decode prog_1_method_33_code 36 = .ok (.aload_n 0, 1) := by decide +kernel
theorem dc11_run_37 : decode prog_1_method_33_code 37 = .ok (.getfield 58, 3) := by decide +kernel
theorem dc11_run_40 : decode prog_1_method_33_code 40 = .ok (.invokevirtual 140, 3) := by decide +kernel
theorem dc11_run_43 : decode prog_1_method_33_code 43 = .ok (.iconst 0, 1) := by decide +kernel
theorem dc11_run_44 : decode prog_1_method_33_code 44 = .ok (.istore 4, 2) := by decide +kernel
theorem dc11_run_46 : decode prog_1_method_33_code 46 = .ok (.iconst 0, 1) := by decide +kernel
theorem dc11_run_47 : decode prog_1_method_33_code 47 = .ok (.istore 5, 2) := by decide +kernel
theorem dc11_run_49 : decode prog_1_method_33_code 49 = .ok (.iload 5, 2) := by decide +kernel
theorem dc11_run_51 : decode prog_1_method_33_code 51 = .ok (.aload_n 3, 1) := by decide +kernel
theorem dc11_run_52 : decode prog_1_method_33_code 52 = .ok (.getfield 223, 3) := by decide +kernel
theorem dc11_run_55 : decode prog_1_method_33_code 55 = .ok (.if_icmp .ge 98, 3) := by decide +kernel
theorem dc11_run_58 : decode prog_1_method_33_code 58 = .ok (.aload_n 0, 1) := by decide +kernel
theorem dc11_run_59 : decode prog_1_method_33_code 59 = .ok (.getfield 62, 3) := by decide +kernel
theorem dc11_run_62 : decode prog_1_method_33_code 62 = .ok (.aload_n 3, 1) := by decide +kernel
theorem dc11_run_63 : decode prog_1_method_33_code 63 = .ok (.iload 5, 2) := by decide +kernel
theorem dc11_run_65 : decode prog_1_method_33_code 65 = .ok (.invokestatic 332, 3) := by decide +kernel
theorem dc11_run_68 : decode prog_1_method_33_code 68 = .ok (.ifCond .ne 15, 3) := by decide +kernel
theorem dc11_run_71 : decode prog_1_method_33_code 71 = .ok (.iload_n 2, 1) := by decide +kernel
theorem dc11_run_72 : decode prog_1_method_33_code 72 = .ok (.ifCond .ne 8, 3) := by decide +kernel
theorem dc11_run_75 : decode prog_1_method_33_code 75 = .ok (.iload 5, 2) := by decide +kernel
theorem dc11_run_77 : decode prog_1_method_33_code 77 = .ok (.goto 5, 3) := by decide +kernel
theorem dc11_run_80 : decode prog_1_method_33_code 80 = .ok (.iload 4, 2) := by decide +kernel
theorem dc11_run_82 : decode prog_1_method_33_code 82 = .ok (.ireturn, 1) := by decide +kernel
theorem dc11_run_83 : decode prog_1_method_33_code 83 = .ok (.aload_n 3, 1) := by decide +kernel
theorem dc11_run_84 : decode prog_1_method_33_code 84 = .ok (.getfield 226, 3) := by decide +kernel
theorem dc11_run_87 : decode prog_1_method_33_code 87 = .ok (.iload 5, 2) := by decide +kernel
theorem dc11_run_89 : decode prog_1_method_33_code 89 = .ok (.iaload, 1) := by decide +kernel
theorem dc11_run_90 : decode prog_1_method_33_code 90 = .ok (.ifCond .ne 47, 3) := by decide +kernel
theorem dc11_run_93 : decode prog_1_method_33_code 93 = .ok (.aload_n 0, 1) := by decide +kernel
theorem dc11_run_94 : decode prog_1_method_33_code 94 = .ok (.getfield 68, 3) := by decide +kernel
theorem dc11_run_97 : decode prog_1_method_33_code 97 = .ok (.aload_n 0, 1) := by decide +kernel
theorem dc11_run_98 : decode prog_1_method_33_code 98 = .ok (.getfield 62, 3) := by decide +kernel
theorem dc11_run_101 : decode prog_1_method_33_code 101 = .ok (.aload_n 3, 1) := by decide +kernel
theorem dc11_run_102 : decode prog_1_method_33_code 102 = .ok (.getfield 229, 3) := by decide +kernel
theorem dc11_run_105 : decode prog_1_method_33_code 105 = .ok (.iload 5, 2) := by decide +kernel
theorem dc11_run_107 : decode prog_1_method_33_code 107 = .ok (.iaload, 1) := by decide +kernel
theorem dc11_run_108 : decode prog_1_method_33_code 108 = .ok (.invokevirtual 315, 3) := by decide +kernel
theorem dc11_run_111 : decode prog_1_method_33_code 111 = .ok (.aload_n 0, 1) := by decide +kernel
theorem dc11_run_112 : decode prog_1_method_33_code 112 = .ok (.getfield 68, 3) := by decide +kernel
theorem dc11_run_115 : decode prog_1_method_33_code 115 = .ok (.aload_n 0, 1) := by decide +kernel
theorem dc11_run_116 : decode prog_1_method_33_code 116 = .ok (.getfield 62, 3) := by decide +kernel
theorem dc11_run_119 : decode prog_1_method_33_code 119 = .ok (.invokevirtual 329, 3) := by decide +kernel
theorem dc11_run_122 : decode prog_1_method_33_code 122 = .ok (.iload 4, 2) := by decide +kernel
theorem dc11_run_124 : decode prog_1_method_33_code 124 = .ok (.aload_n 0, 1) := by decide +kernel
theorem dc11_run_125 : decode prog_1_method_33_code 125 = .ok (.getfield 68, 3) := by decide +kernel
theorem dc11_run_128 : decode prog_1_method_33_code 128 = .ok (.getfield 322, 3) := by decide +kernel
theorem dc11_run_131 : decode prog_1_method_33_code 131 = .ok (.iadd, 1) := by decide +kernel
theorem dc11_run_132 : decode prog_1_method_33_code 132 = .ok (.istore 4, 2) := by decide +kernel
theorem dc11_run_134 : decode prog_1_method_33_code 134 = .ok (.goto 13, 3) := by decide +kernel
theorem dc11_run_137 : decode prog_1_method_33_code 137 = .ok (.aload_n 0, 1) := by decide +kernel
theorem dc11_run_138 : decode prog_1_method_33_code 138 = .ok (.getfield 62, 3) := by decide +kernel
theorem dc11_run_141 : decode prog_1_method_33_code 141 = .ok (.aload_n 3, 1) := by decide +kernel
theorem dc11_run_142 : decode prog_1_method_33_code 142 = .ok (.iload 5, 2) := by decide +kernel
theorem dc11_run_144 : decode prog_1_method_33_code 144 = .ok (.invokestatic 336, 3) := by decide +kernel
theorem dc11_run_147 : decode prog_1_method_33_code 147 = .ok (.iinc 5 1, 3) := by decide +kernel
theorem dc11_run_150 : decode prog_1_method_33_code 150 = .ok (.goto (-101), 3) := by decide +kernel
theorem dc11_run_153 : decode prog_1_method_33_code 153 = .ok (.iload_n 2, 1) := by decide +kernel
theorem dc11_run_154 : decode prog_1_method_33_code 154 = .ok (.ifCond .ne 7, 3) := by decide +kernel
theorem dc11_run_157 : decode prog_1_method_33_code 157 = .ok (.iconst (-1), 1) := by decide +kernel
theorem dc11_run_158 : decode prog_1_method_33_code 158 = .ok (.goto 5, 3) := by decide +kernel
theorem dc11_run_161 : decode prog_1_method_33_code 161 = .ok (.iload 4, 2) := by decide +kernel
theorem dc11_run_163 : decode prog_1_method_33_code 163 = .ok (.ireturn, 1) := by decide +kernel
theorem dc11_isStep_0 : decode prog_1_method_36_code 0 = .ok (.aload_n 1, 1) := by decide +kernel
theorem dc11_isStep_1 : decode prog_1_method_36_code 1 = .ok (.getfield 226, 3) := by decide +kernel
theorem dc11_isStep_4 : decode prog_1_method_36_code 4 = .ok (.iload_n 2, 1) := by decide +kernel
theorem dc11_isStep_5 : decode prog_1_method_36_code 5 = .ok (.iaload, 1) := by decide +kernel
theorem dc11_isStep_6 : decode prog_1_method_36_code 6 = .ok (.tableswitch 70 0 2 #[26, 42, 59], 26) := by decide +kernel
theorem dc11_isStep_32 : decode prog_1_method_36_code 32 = .ok (.aload_n 0, 1) := by decide +kernel
theorem dc11_isStep_33 : decode prog_1_method_36_code 33 = .ok (.getfield 201, 3) := by decide +kernel
theorem dc11_isStep_36 : decode prog_1_method_36_code 36 = .ok (.sipush 999, 3) := by decide +kernel
theorem dc11_isStep_39 : decode prog_1_method_36_code 39 = .ok (.if_icmp .ge 7, 3) := by decide +kernel
theorem dc11_isStep_42 : decode prog_1_method_36_code 42 = .ok (.iconst 1, 1) := by decide +kernel
theorem dc11_isStep_43 : decode prog_1_method_36_code 43 = .ok (.goto 4, 3) := by decide +kernel
theorem dc11_isStep_46 : decode prog_1_method_36_code 46 = .ok (.iconst 0, 1) := by decide +kernel
theorem dc11_isStep_47 : decode prog_1_method_36_code 47 = .ok (.ireturn, 1) := by decide +kernel
theorem dc11_isStep_48 : decode prog_1_method_36_code 48 = .ok (.aload_n 0, 1) := by decide +kernel
theorem dc11_isStep_49 : decode prog_1_method_36_code 49 = .ok (.aload_n 1, 1) := by decide +kernel
theorem dc11_isStep_50 : decode prog_1_method_36_code 50 = .ok (.getfield 229, 3) := by decide +kernel
theorem dc11_isStep_53 : decode prog_1_method_36_code 53 = .ok (.iload_n 2, 1) := by decide +kernel
theorem dc11_isStep_54 : decode prog_1_method_36_code 54 = .ok (.iaload, 1) := by decide +kernel
theorem dc11_isStep_55 : decode prog_1_method_36_code 55 = .ok (.aload_n 1, 1) := by decide +kernel
theorem dc11_isStep_56 : decode prog_1_method_36_code 56 = .ok (.getfield 232, 3) := by decide +kernel
theorem dc11_isStep_59 : decode prog_1_method_36_code 59 = .ok (.iload_n 2, 1) := by decide +kernel
theorem dc11_isStep_60 : decode prog_1_method_36_code 60 = .ok (.iaload, 1) := by decide +kernel
theorem dc11_isStep_61 : decode prog_1_method_36_code 61 = .ok (.invokevirtual 272, 3) := by decide +kernel
theorem dc11_isStep_64 : decode prog_1_method_36_code 64 = .ok (.ireturn, 1) := by decide +kernel
theorem dc11_isStep_65 : decode prog_1_method_36_code 65 = .ok (.aload_n 0, 1) := by decide +kernel
theorem dc11_isStep_66 : decode prog_1_method_36_code 66 = .ok (.aload_n 1, 1) := by decide +kernel
theorem dc11_isStep_67 : decode prog_1_method_36_code 67 = .ok (.getfield 229, 3) := by decide +kernel
theorem dc11_isStep_70 : decode prog_1_method_36_code 70 = .ok (.iload_n 2, 1) := by decide +kernel
theorem dc11_isStep_71 : decode prog_1_method_36_code 71 = .ok (.iaload, 1) := by decide +kernel
theorem dc11_isStep_72 : decode prog_1_method_36_code 72 = .ok (.invokevirtual 279, 3) := by decide +kernel
theorem dc11_isStep_75 : decode prog_1_method_36_code 75 = .ok (.ireturn, 1) := by decide +kernel
theorem dc11_isStep_76 : decode prog_1_method_36_code 76 = .ok (.aload_n 0, 1) := by decide +kernel
theorem dc11_isStep_77 : decode prog_1_method_36_code 77 = .ok (.aload_n 1, 1) := by decide +kernel
theorem dc11_isStep_78 : decode prog_1_method_36_code 78 = .ok (.getfield 229, 3) := by decide +kernel
theorem dc11_isStep_81 : decode prog_1_method_36_code 81 = .ok (.iload_n 2, 1) := by decide +kernel
theorem dc11_isStep_82 : decode prog_1_method_36_code 82 = .ok (.iaload, 1) := by decide +kernel
theorem dc11_isStep_83 : decode prog_1_method_36_code 83 = .ok (.invokevirtual 285, 3) := by decide +kernel
theorem dc11_isStep_86 : decode prog_1_method_36_code 86 = .ok (.ireturn, 1) := by decide +kernel
theorem dc11_take_0 : decode prog_1_method_37_code 0 = .ok (.aload_n 1, 1) := by decide +kernel
theorem dc11_take_1 : decode prog_1_method_37_code 1 = .ok (.getfield 226, 3) := by decide +kernel
theorem dc11_take_4 : decode prog_1_method_37_code 4 = .ok (.iload_n 2, 1) := by decide +kernel
theorem dc11_take_5 : decode prog_1_method_37_code 5 = .ok (.iaload, 1) := by decide +kernel
theorem dc11_take_6 : decode prog_1_method_37_code 6 = .ok (.lookupswitch 58 #[(1, 26), (2, 45)], 26) := by decide +kernel
theorem dc11_take_32 : decode prog_1_method_37_code 32 = .ok (.aload_n 0, 1) := by decide +kernel
theorem dc11_take_33 : decode prog_1_method_37_code 33 = .ok (.aload_n 1, 1) := by decide +kernel
theorem dc11_take_34 : decode prog_1_method_37_code 34 = .ok (.getfield 229, 3) := by decide +kernel
theorem dc11_take_37 : decode prog_1_method_37_code 37 = .ok (.iload_n 2, 1) := by decide +kernel
theorem dc11_take_38 : decode prog_1_method_37_code 38 = .ok (.iaload, 1) := by decide +kernel
theorem dc11_take_39 : decode prog_1_method_37_code 39 = .ok (.aload_n 1, 1) := by decide +kernel
theorem dc11_take_40 : decode prog_1_method_37_code 40 = .ok (.getfield 232, 3) := by decide +kernel
theorem dc11_take_43 : decode prog_1_method_37_code 43 = .ok (.iload_n 2, 1) := by decide +kernel
theorem dc11_take_44 : decode prog_1_method_37_code 44 = .ok (.iaload, 1) := by decide +kernel
theorem dc11_take_45 : decode prog_1_method_37_code 45 = .ok (.invokevirtual 275, 3) := by decide +kernel
theorem dc11_take_48 : decode prog_1_method_37_code 48 = .ok (.goto 26, 3) := by decide +kernel
theorem dc11_take_51 : decode prog_1_method_37_code 51 = .ok (.aload_n 0, 1) := by decide +kernel
theorem dc11_take_52 : decode prog_1_method_37_code 52 = .ok (.aload_n 1, 1) := by decide +kernel
theorem dc11_take_53 : decode prog_1_method_37_code 53 = .ok (.getfield 229, 3) := by decide +kernel
theorem dc11_take_56 : decode prog_1_method_37_code 56 = .ok (.iload_n 2, 1) := by decide +kernel
theorem dc11_take_57 : decode prog_1_method_37_code 57 = .ok (.iaload, 1) := by decide +kernel
theorem dc11_take_58 : decode prog_1_method_37_code 58 = .ok (.invokevirtual 282, 3) := by decide +kernel
theorem dc11_take_61 : decode prog_1_method_37_code 61 = .ok (.goto 13, 3) := by decide +kernel
theorem dc11_take_64 : decode prog_1_method_37_code 64 = .ok (.aload_n 0, 1) := by decide +kernel
theorem dc11_take_65 : decode prog_1_method_37_code 65 = .ok (.aload_n 1, 1) := by decide +kernel
theorem dc11_take_66 : decode prog_1_method_37_code 66 = .ok (.getfield 229, 3) := by decide +kernel
theorem dc11_take_69 : decode prog_1_method_37_code 69 = .ok (.iload_n 2, 1) := by decide +kernel
theorem dc11_take_70 : decode prog_1_method_37_code 70 = .ok (.iaload, 1) := by decide +kernel
theorem dc11_take_71 : decode prog_1_method_37_code 71 = .ok (.invokevirtual 288, 3) := by decide +kernel
theorem dc11_take_74 : decode prog_1_method_37_code 74 = .ok (.return_, 1) := by decide +kernel
theorem dc11_perform_0 : decode prog_1_method_34_code 0 = .ok (.aload_n 0, 1) := by decide +kernel
theorem dc11_perform_1 : decode prog_1_method_34_code 1 = .ok (.iload_n 1, 1) := by decide +kernel
theorem dc11_perform_2 : decode prog_1_method_34_code 2 = .ok (.invokevirtual 219, 3) := by decide +kernel
theorem dc11_perform_5 : decode prog_1_method_34_code 5 = .ok (.astore_n 2, 1) := by decide +kernel
theorem dc11_perform_6 : decode prog_1_method_34_code 6 = .ok (.aload_n 2, 1) := by decide +kernel
theorem dc11_perform_7 : decode prog_1_method_34_code 7 = .ok (.ifnull 13, 3) := by decide +kernel
theorem dc11_perform_10 : decode prog_1_method_34_code 10 = .ok (.aload_n 0, 1) := by decide +kernel
theorem dc11_perform_11 : decode prog_1_method_34_code 11 = .ok (.getfield 58, 3) := by decide +kernel
theorem dc11_perform_14 : decode prog_1_method_34_code 14 = .ok (.getfield 154, 3) := by decide +kernel
theorem dc11_perform_17 : decode prog_1_method_34_code 17 = .ok (.ifCond .ne 5, 3) := by decide +kernel
theorem dc11_perform_20 : decode prog_1_method_34_code 20 = .ok (.iconst (-1), 1) := by decide +kernel
theorem dc11_perform_21 : decode prog_1_method_34_code 21 = .ok (.ireturn, 1) := by decide +kernel
theorem dc11_perform_22 : decode prog_1_method_34_code 22 = .ok (.iconst 0, 1) := by decide +kernel
theorem dc11_perform_23 : decode prog_1_method_34_code 23 = .ok (.istore_n 3, 1) := by decide +kernel
theorem dc11_perform_24 : decode prog_1_method_34_code 24 = .ok (.iload_n 3, 1) := by decide +kernel
theorem dc11_perform_25 : decode prog_1_method_34_code 25 = .ok (.aload_n 2, 1) := by decide +kernel
theorem dc11_perform_26 : decode prog_1_method_34_code 26 = .ok (.getfield 223, 3) := by decide +kernel
theorem dc11_perform_29 : decode prog_1_method_34_code 29 = .ok (.if_icmp .ge 66, 3) := by decide +kernel
theorem dc11_perform_32 : decode prog_1_method_34_code 32 = .ok (.aload_n 0, 1) := by decide +kernel
theorem dc11_perform_33 : decode prog_1_method_34_code 33 = .ok (.getfield 58, 3) := by decide +kernel
theorem dc11_perform_36 : decode prog_1_method_34_code 36 = .ok (.aload_n 2, 1) := by decide +kernel
theorem dc11_perform_37 : decode prog_1_method_34_code 37 = .ok (.iload_n 3, 1) := by decide +kernel
theorem dc11_perform_38 : decode prog_1_method_34_code 38 = .ok (.invokestatic 332, 3) := by decide +kernel
theorem dc11_perform_41 : decode prog_1_method_34_code 41 = .ok (.ifCond .ne 5, 3) := by decide +kernel
theorem dc11_perform_44 : decode prog_1_method_34_code 44 = .ok (.iload_n 3, 1) := by decide +kernel
theorem dc11_perform_45 : decode prog_1_method_34_code 45 = .ok (.ireturn, 1) := by decide +kernel
theorem dc11_perform_46 : decode prog_1_method_34_code 46 = .ok (.aload_n 0, 1) := by decide +kernel
theorem dc11_perform_47 : decode prog_1_method_34_code 47 = .ok (.getfield 82, 3) := by decide +kernel
theorem dc11_perform_50 : decode prog_1_method_34_code 50 = .ok (.aload_n 0, 1) := by decide +kernel
theorem dc11_perform_51 : decode prog_1_method_34_code 51 = .ok (.getfield 58, 3) := by decide +kernel
theorem dc11_perform_54 : decode prog_1_method_34_code 54 = .ok (.invokevirtual 254, 3) := by decide +kernel
theorem dc11_perform_57 : decode prog_1_method_34_code 57 = .ok (.aload_n 2, 1) := by decide +kernel
theorem dc11_perform_58 : decode prog_1_method_34_code 58 = .ok (.getfield 226, 3) := by decide +kernel
theorem dc11_perform_61 : decode prog_1_method_34_code 61 = .ok (.iload_n 3, 1) := by decide +kernel
theorem dc11_perform_62 : decode prog_1_method_34_code 62 = .ok (.iaload, 1) := by decide +kernel
theorem dc11_perform_63 : decode prog_1_method_34_code 63 = .ok (.ifCond .ne 17, 3) := by decide +kernel
theorem dc11_perform_66 : decode prog_1_method_34_code 66 = .ok (.aload_n 0, 1) := by decide +kernel
theorem dc11_perform_67 : decode prog_1_method_34_code 67 = .ok (.aload_n 2, 1) := by decide +kernel
theorem dc11_perform_68 : decode prog_1_method_34_code 68 = .ok (.getfield 229, 3) := by decide +kernel
theorem dc11_perform_71 : decode prog_1_method_34_code 71 = .ok (.iload_n 3, 1) := by decide +kernel
theorem dc11_perform_72 : decode prog_1_method_34_code 72 = .ok (.iaload, 1) := by decide +kernel
theorem dc11_perform_73 : decode prog_1_method_34_code 73 = .ok (.invokevirtual 257, 3) := by decide +kernel
theorem dc11_perform_76 : decode prog_1_method_34_code 76 = .ok (.pop, 1) := by decide +kernel
theorem dc11_perform_77 : decode prog_1_method_34_code 77 = .ok (.goto 12, 3) := by decide +kernel
theorem dc11_perform_80 : decode prog_1_method_34_code 80 = .ok (.aload_n 0, 1) := by decide +kernel
theorem dc11_perform_81 : decode prog_1_method_34_code 81 = .ok (.getfield 58, 3) := by decide +kernel
theorem dc11_perform_84 : decode prog_1_method_34_code 84 = .ok (.aload_n 2, 1) := by decide +kernel
theorem dc11_perform_85 : decode prog_1_method_34_code 85 = .ok (.iload_n 3, 1) := by decide +kernel
theorem dc11_perform_86 : decode prog_1_method_34_code 86 = .ok (.invokestatic 336, 3) := by decide +kernel
theorem dc11_perform_89 : decode prog_1_method_34_code 89 = .ok (.iinc 3 1, 3) := by decide +kernel
theorem dc11_perform_92 : decode prog_1_method_34_code 92 = .ok (.goto (-68), 3) := by decide +kernel
theorem dc11_perform_95 : decode prog_1_method_34_code 95 = .ok (.aload_n 2, 1) := by decide +kernel
theorem dc11_perform_96 : decode prog_1_method_34_code 96 = .ok (.getfield 223, 3) := by decide +kernel
theorem dc11_perform_99 : decode prog_1_method_34_code 99 = .ok (.ireturn, 1) := by decide +kernel
theorem dc11_falls_0 : decode prog_1_method_38_code 0 = .ok (.aload_n 0, 1) := by decide +kernel
theorem dc11_falls_1 : decode prog_1_method_38_code 1 = .ok (.getfield 58, 3) := by decide +kernel
theorem dc11_falls_4 : decode prog_1_method_38_code 4 = .ok (.iload_n 1, 1) := by decide +kernel
theorem dc11_falls_5 : decode prog_1_method_38_code 5 = .ok (.invokevirtual 180, 3) := by decide +kernel
theorem dc11_falls_8 : decode prog_1_method_38_code 8 = .ok (.ifCond .eq 10, 3) := by decide +kernel
theorem dc11_falls_11 : decode prog_1_method_38_code 11 = .ok (.iload_n 2, 1) := by decide +kernel
theorem dc11_falls_12 : decode prog_1_method_38_code 12 = .ok (.invokestatic 340, 3) := by decide +kernel
theorem dc11_falls_15 : decode prog_1_method_38_code 15 = .ok (.ifCond .ne 5, 3) := by decide +kernel
theorem dc11_falls_18 : decode prog_1_method_38_code 18 = .ok (.iconst (-1), 1) := by decide +kernel
theorem dc11_falls_19 : decode prog_1_method_38_code 19 = .ok (.ireturn, 1) := by decide +kernel
theorem dc11_falls_20 : decode prog_1_method_38_code 20 = .ok (.aload_n 0, 1) := by decide +kernel
