theorem dc12_init_0 : decode prog_14_method_1_code 0 = .ok (.aload_n 0, 1) := by decide +kernel
theorem dc12_init_1 : decode prog_14_method_1_code 1 = .ok (.invokespecial 3, 3) := by decide +kernel
theorem dc12_init_4 : decode prog_14_method_1_code 4 = .ok (.aload_n 0, 1) := by decide +kernel
theorem dc12_init_5 : decode prog_14_method_1_code 5 = .ok (.sipush 240, 3) := by decide +kernel
theorem dc12_init_8 : decode prog_14_method_1_code 8 = .ok (.newarray .byte, 2) := by decide +kernel
theorem dc12_init_10 : decode prog_14_method_1_code 10 = .ok (.putfield 9, 3) := by decide +kernel
theorem dc12_init_13 : decode prog_14_method_1_code 13 = .ok (.aload_n 0, 1) := by decide +kernel
theorem dc12_init_14 : decode prog_14_method_1_code 14 = .ok (.sipush 960, 3) := by decide +kernel
theorem dc12_init_17 : decode prog_14_method_1_code 17 = .ok (.newarray .byte, 2) := by decide +kernel
theorem dc12_init_19 : decode prog_14_method_1_code 19 = .ok (.putfield 13, 3) := by decide +kernel
theorem dc12_init_22 : decode prog_14_method_1_code 22 = .ok (.aload_n 0, 1) := by decide +kernel
theorem dc12_init_23 : decode prog_14_method_1_code 23 = .ok (.iconst 4, 1) := by decide +kernel
theorem dc12_init_24 : decode prog_14_method_1_code 24 = .ok (.newarray .int, 2) := by decide +kernel
theorem dc12_init_26 : decode prog_14_method_1_code 26 = .ok (.putfield 16, 3) := by decide +kernel
theorem dc12_init_29 : decode prog_14_method_1_code 29 = .ok (.aload_n 0, 1) := by decide +kernel
theorem dc12_init_30 : decode prog_14_method_1_code 30 = .ok (.sipush 128, 3) := by decide +kernel
theorem dc12_init_33 : decode prog_14_method_1_code 33 = .ok (.newarray .int, 2) := by decide +kernel
theorem dc12_init_35 : decode prog_14_method_1_code 35 = .ok (.putfield 20, 3) := by decide +kernel
theorem dc12_init_38 : decode prog_14_method_1_code 38 = .ok (.aload_n 0, 1) := by decide +kernel
theorem dc12_init_39 : decode prog_14_method_1_code 39 = .ok (.aload_n 0, 1) := by decide +kernel
theorem dc12_init_40 : decode prog_14_method_1_code 40 = .ok (.getfield 9, 3) := by decide +kernel
theorem dc12_init_43 : decode prog_14_method_1_code 43 = .ok (.putfield 23, 3) := by decide +kernel
theorem dc12_init_46 : decode prog_14_method_1_code 46 = .ok (.aload_n 0, 1) := by decide +kernel
theorem dc12_init_47 : decode prog_14_method_1_code 47 = .ok (.ldc 26, 2) := by decide +kernel
theorem dc12_init_49 : decode prog_14_method_1_code 49 = .ok (.putfield 28, 3) := by decide +kernel
theorem dc12_init_52 : decode prog_14_method_1_code 52 = .ok (.aload_n 0, 1) := by decide +kernel
theorem dc12_init_53 : decode prog_14_method_1_code 53 = .ok (.ldc 32, 2) := by decide +kernel
theorem dc12_init_55 : decode prog_14_method_1_code 55 = .ok (.putfield 34, 3) := by decide +kernel
theorem dc12_init_58 : decode prog_14_method_1_code 58 = .ok (.aload_n 0, 1) := by decide +kernel
theorem dc12_init_59 : decode prog_14_method_1_code 59 = .ok (.iconst 3, 1) := by decide +kernel
theorem dc12_init_60 : decode prog_14_method_1_code 60 = .ok (.newarray .int, 2) := by decide +kernel
theorem dc12_init_62 : decode prog_14_method_1_code 62 = .ok (.putfield 37, 3) := by decide +kernel
theorem dc12_init_65 : decode prog_14_method_1_code 65 = .ok (.aload_n 0, 1) := by decide +kernel
theorem dc12_init_66 : decode prog_14_method_1_code 66 = .ok (.iconst 3, 1) := by decide +kernel
theorem dc12_init_67 : decode prog_14_method_1_code 67 = .ok (.newarray .int, 2) := by decide +kernel
theorem dc12_init_69 : decode prog_14_method_1_code 69 = .ok (.putfield 40, 3) := by decide +kernel
theorem dc12_init_72 : decode prog_14_method_1_code 72 = .ok (.aload_n 0, 1) := by decide +kernel
theorem dc12_init_73 : decode prog_14_method_1_code 73 = .ok (.bipush 30, 2) := by decide +kernel
theorem dc12_init_75 : decode prog_14_method_1_code 75 = .ok (.newarray .int, 2) := by decide +kernel
theorem dc12_init_77 : decode prog_14_method_1_code 77 = .ok (.putfield 43, 3) := by decide +kernel
theorem dc12_init_80 : decode prog_14_method_1_code 80 = .ok (.aload_n 0, 1) := by decide +kernel
theorem dc12_init_81 : decode prog_14_method_1_code 81 = .ok (.bipush 30, 2) := by decide +kernel
theorem dc12_init_83 : decode prog_14_method_1_code 83 = .ok (.newarray .int, 2) := by decide +kernel
theorem dc12_init_85 : decode prog_14_method_1_code 85 = .ok (.putfield 46, 3) := by decide +kernel
theorem dc12_init_88 : decode prog_14_method_1_code 88 = .ok (.aload_n 0, 1) := by decide +kernel
theorem dc12_init_89 : decode prog_14_method_1_code 89 = .ok (.sipush 240, 3) := by decide +kernel
theorem dc12_init_92 : decode prog_14_method_1_code 92 = .ok (.newarray .int, 2) := by decide +kernel
theorem dc12_init_94 : decode prog_14_method_1_code 94 = .ok (.putfield 49, 3) := by decide +kernel
theorem dc12_init_97 : decode prog_14_method_1_code 97 = .ok (.aload_n 0, 1) := by decide +kernel
theorem dc12_init_98 : decode prog_14_method_1_code 98 = .ok (.iconst 5, 1) := by decide +kernel
theorem dc12_init_99 : decode prog_14_method_1_code 99 = .ok (.newarray .int, 2) := by decide +kernel
theorem dc12_init_101 : decode prog_14_method_1_code 101 = .ok (.putfield 52, 3) := by decide +kernel
theorem dc12_init_104 : decode prog_14_method_1_code 104 = .ok (.aload_n 0, 1) := by decide +kernel
theorem dc12_init_105 : decode prog_14_method_1_code 105 = .ok (.sipush 207, 3) := by decide +kernel
theorem dc12_init_108 : decode prog_14_method_1_code 108 = .ok (.newarray .int, 2) := by decide +kernel
theorem dc12_init_110 : decode prog_14_method_1_code 110 = .ok (.putfield 55, 3) := by decide +kernel
theorem dc12_init_113 : decode prog_14_method_1_code 113 = .ok (.aload_n 0, 1) := by decide +kernel
theorem dc12_init_114 : decode prog_14_method_1_code 114 = .ok (.sipush 207, 3) := by decide +kernel
theorem dc12_init_117 : decode prog_14_method_1_code 117 = .ok (.newarray .int, 2) := by decide +kernel
theorem dc12_init_119 : decode prog_14_method_1_code 119 = .ok (.putfield 58, 3) := by decide +kernel
theorem dc12_init_122 : decode prog_14_method_1_code 122 = .ok (.aload_n 0, 1) := by decide +kernel
theorem dc12_init_123 : decode prog_14_method_1_code 123 = .ok (.iconst (-1), 1) := by decide +kernel
theorem dc12_init_124 : decode prog_14_method_1_code 124 = .ok (.putfield 61, 3) := by decide +kernel
theorem dc12_init_127 : decode prog_14_method_1_code 127 = .ok (.aload_n 0, 1) := by decide +kernel
theorem dc12_init_128 : decode prog_14_method_1_code 128 = .ok (.sipush 8191, 3) := by decide +kernel
theorem dc12_init_131 : decode prog_14_method_1_code 131 = .ok (.newarray .long, 2) := by decide +kernel
theorem dc12_init_133 : decode prog_14_method_1_code 133 = .ok (.putfield 65, 3) := by decide +kernel
theorem dc12_init_136 : decode prog_14_method_1_code 136 = .ok (.aload_n 0, 1) := by decide +kernel
theorem dc12_init_137 : decode prog_14_method_1_code 137 = .ok (.sipush 8191, 3) := by decide +kernel
theorem dc12_init_140 : decode prog_14_method_1_code 140 = .ok (.newarray .int, 2) := by decide +kernel
theorem dc12_init_142 : decode prog_14_method_1_code 142 = .ok (.putfield 69, 3) := by decide +kernel
theorem dc12_init_145 : decode prog_14_method_1_code 145 = .ok (.aload_n 0, 1) := by decide +kernel
theorem dc12_init_146 : decode prog_14_method_1_code 146 = .ok (.bipush 6, 2) := by decide +kernel
theorem dc12_init_148 : decode prog_14_method_1_code 148 = .ok (.newarray .int, 2) := by decide +kernel
theorem dc12_init_150 : decode prog_14_method_1_code 150 = .ok (.putfield 72, 3) := by decide +kernel
theorem dc12_init_153 : decode prog_14_method_1_code 153 = .ok (.aload_n 0, 1) := by decide +kernel
theorem dc12_init_154 : decode prog_14_method_1_code 154 = .ok (.bipush 6, 2) := by decide +kernel
theorem dc12_init_156 : decode prog_14_method_1_code 156 = .ok (.newarray .int, 2) := by decide +kernel
theorem dc12_init_158 : decode prog_14_method_1_code 158 = .ok (.putfield 75, 3) := by decide +kernel
theorem dc12_init_161 : decode prog_14_method_1_code 161 = .ok (.aload_n 0, 1) := by decide +kernel
theorem dc12_init_162 : decode prog_14_method_1_code 162 = .ok (.sipush 8280, 3) := by decide +kernel
theorem dc12_init_165 : decode prog_14_method_1_code 165 = .ok (.newarray .int, 2) := by decide +kernel
theorem dc12_init_167 : decode prog_14_method_1_code 167 = .ok (.putfield 78, 3) := by decide +kernel
theorem dc12_init_170 : decode prog_14_method_1_code 170 = .ok (.aload_n 0, 1) := by decide +kernel
theorem dc12_init_171 : decode prog_14_method_1_code 171 = .ok (.bipush 6, 2) := by decide +kernel
theorem dc12_init_173 : decode prog_14_method_1_code 173 = .ok (.newarray .int, 2) := by decide +kernel
theorem dc12_init_175 : decode prog_14_method_1_code 175 = .ok (.putfield 81, 3) := by decide +kernel
theorem dc12_init_178 : decode prog_14_method_1_code 178 = .ok (.aload_n 0, 1) := by decide +kernel
theorem dc12_init_179 : decode prog_14_method_1_code 179 = .ok (.bipush 40, 2) := by decide +kernel
theorem dc12_init_181 : decode prog_14_method_1_code 181 = .ok (.newarray .int, 2) := by decide +kernel
theorem dc12_init_183 : decode prog_14_method_1_code 183 = .ok (.putfield 84, 3) := by decide +kernel
theorem dc12_init_186 : decode prog_14_method_1_code 186 = .ok (.aload_n 0, 1) := by decide +kernel
theorem dc12_init_187 : decode prog_14_method_1_code 187 = .ok (.bipush 100, 2) := by decide +kernel
theorem dc12_init_189 : decode prog_14_method_1_code 189 = .ok (.newarray .int, 2) := by decide +kernel
theorem dc12_init_191 : decode prog_14_method_1_code 191 = .ok (.putfield 87, 3) := by decide +kernel
theorem dc12_init_194 : decode prog_14_method_1_code 194 = .ok (.aload_n 0, 1) := by decide +kernel
theorem dc12_init_195 : decode prog_14_method_1_code 195 = .ok (.bipush 100, 2) := by decide +kernel
theorem dc12_init_197 : decode prog_14_method_1_code 197 = .ok (.newarray .boolean, 2) := by decide +kernel
theorem dc12_init_199 : decode prog_14_method_1_code 199 = .ok (.putfield 90, 3) := by decide +kernel
theorem dc12_init_202 : decode prog_14_method_1_code 202 = .ok (.aload_n 0, 1) := by decide +kernel
theorem dc12_init_203 : decode prog_14_method_1_code 203 = .ok (.bipush 72, 2) := by decide +kernel
theorem dc12_init_205 : decode prog_14_method_1_code 205 = .ok (.newarray .int, 2) := by decide +kernel
theorem dc12_init_207 : decode prog_14_method_1_code 207 = .ok (.putfield 94, 3) := by decide +kernel
theorem dc12_init_210 : decode prog_14_method_1_code 210 = .ok (.aload_n 0, 1) := by decide +kernel
theorem dc12_init_211 : decode prog_14_method_1_code 211 = .ok (.sipush 207, 3) := by decide +kernel
theorem dc12_init_214 : decode prog_14_method_1_code 214 = .ok (.newarray .int, 2) := by decide +kernel
theorem dc12_init_216 : decode prog_14_method_1_code 216 = .ok (.putfield 97, 3) := by decide +kernel
theorem dc12_init_219 : decode prog_14_method_1_code 219 = .ok (.return_, 1) := by decide +kernel
theorem dc12_thrown_0 : decode prog_14_method_2_code 0 = .ok (.aload_n 0, 1) := by decide +kernel
theorem dc12_thrown_1 : decode prog_14_method_2_code 1 = .ok (.getfield 100, 3) := by decide +kernel
theorem dc12_thrown_4 : decode prog_14_method_2_code 4 = .ok (.ireturn, 1) := by decide +kernel
theorem dc12_feed_0 : decode prog_14_method_8_code 0 = .ok (.aload_n 0, 1) := by decide +kernel
theorem dc12_feed_1 : decode prog_14_method_8_code 1 = .ok (.iconst 0, 1) := by decide +kernel
theorem dc12_feed_2 : decode prog_14_method_8_code 2 = .ok (.putfield 100, 3) := by decide +kernel
theorem dc12_feed_5 : decode prog_14_method_8_code 5 = .ok (.aload_n 0, 1) := by decide +kernel
theorem dc12_feed_6 : decode prog_14_method_8_code 6 = .ok (.getfield 113, 3) := by decide +kernel
theorem dc12_feed_9 : decode prog_14_method_8_code 9 = .ok (.iload_n 1, 1) := by decide +kernel
theorem dc12_feed_10 : decode prog_14_method_8_code 10 = .ok (.invokestatic 115, 3) := by decide +kernel
theorem dc12_feed_13 : decode prog_14_method_8_code 13 = .ok (.iadd, 1) := by decide +kernel
theorem dc12_feed_14 : decode prog_14_method_8_code 14 = .ok (.iload_n 2, 1) := by decide +kernel
theorem dc12_feed_15 : decode prog_14_method_8_code 15 = .ok (.invokestatic 115, 3) := by decide +kernel
theorem dc12_feed_18 : decode prog_14_method_8_code 18 = .ok (.iadd, 1) := by decide +kernel
theorem dc12_feed_19 : decode prog_14_method_8_code 19 = .ok (.iload_n 3, 1) := by decide +kernel
theorem dc12_feed_20 : decode prog_14_method_8_code 20 = .ok (.invokestatic 115, 3) := by decide +kernel
theorem dc12_feed_23 : decode prog_14_method_8_code 23 = .ok (.iadd, 1) := by decide +kernel
theorem dc12_feed_24 : decode prog_14_method_8_code 24 = .ok (.iload 4, 2) := by decide +kernel
theorem dc12_feed_26 : decode prog_14_method_8_code 26 = .ok (.invokestatic 115, 3) := by decide +kernel
theorem dc12_feed_29 : decode prog_14_method_8_code 29 = .ok (.iadd, 1) := by decide +kernel
theorem dc12_feed_30 : decode prog_14_method_8_code 30 = .ok (.iload 5, 2) := by decide +kernel
theorem dc12_feed_32 : decode prog_14_method_8_code 32 = .ok (.invokestatic 115, 3) := by decide +kernel
theorem dc12_feed_35 : decode prog_14_method_8_code 35 = .ok (.iadd, 1) := by decide +kernel
theorem dc12_feed_36 : decode prog_14_method_8_code 36 = .ok (.sipush 240, 3) := by decide +kernel
theorem dc12_feed_39 : decode prog_14_method_8_code 39 = .ok (.if_icmp .le 5, 3) := by decide +kernel
theorem dc12_feed_42 : decode prog_14_method_8_code 42 = .ok (.iconst (-1), 1) := by decide +kernel
theorem dc12_feed_43 : decode prog_14_method_8_code 43 = .ok (.ireturn, 1) := by decide +kernel
theorem dc12_feed_44 : decode prog_14_method_8_code 44 = .ok (.aload_n 0, 1) := by decide +kernel
theorem dc12_feed_45 : decode prog_14_method_8_code 45 = .ok (.iload_n 1, 1) := by decide +kernel
theorem dc12_feed_46 : decode prog_14_method_8_code 46 = .ok (.invokevirtual 119, 3) := by decide +kernel
theorem dc12_feed_49 : decode prog_14_method_8_code 49 = .ok (.aload_n 0, 1) := by decide +kernel
theorem dc12_feed_50 : decode prog_14_method_8_code 50 = .ok (.iload_n 2, 1) := by decide +kernel
theorem dc12_feed_51 : decode prog_14_method_8_code 51 = .ok (.invokevirtual 119, 3) := by decide +kernel
theorem dc12_feed_54 : decode prog_14_method_8_code 54 = .ok (.aload_n 0, 1) := by decide +kernel
theorem dc12_feed_55 : decode prog_14_method_8_code 55 = .ok (.iload_n 3, 1) := by decide +kernel
theorem dc12_feed_56 : decode prog_14_method_8_code 56 = .ok (.invokevirtual 119, 3) := by decide +kernel
theorem dc12_feed_59 : decode prog_14_method_8_code 59 = .ok (.aload_n 0, 1) := by decide +kernel
theorem dc12_feed_60 : decode prog_14_method_8_code 60 = .ok (.iload 4, 2) := by decide +kernel
theorem dc12_feed_62 : decode prog_14_method_8_code 62 = .ok (.invokevirtual 119, 3) := by decide +kernel
theorem dc12_feed_65 : decode prog_14_method_8_code 65 = .ok (.aload_n 0, 1) := by decide +kernel
theorem dc12_feed_66 : decode prog_14_method_8_code 66 = .ok (.iload 5, 2) := by decide +kernel
theorem dc12_feed_68 : decode prog_14_method_8_code 68 = .ok (.invokevirtual 119, 3) := by decide +kernel
theorem dc12_feed_71 : decode prog_14_method_8_code 71 = .ok (.aload_n 0, 1) := by decide +kernel
theorem dc12_feed_72 : decode prog_14_method_8_code 72 = .ok (.getfield 113, 3) := by decide +kernel
theorem dc12_feed_75 : decode prog_14_method_8_code 75 = .ok (.ireturn, 1) := by decide +kernel
theorem dc12_bytesIn_0 : decode prog_14_method_6_code 0 = .ok (.iconst 0, 1) := by decide +kernel
theorem dc12_bytesIn_1 : decode prog_14_method_6_code 1 = .ok (.istore_n 1, 1) := by decide +kernel
theorem dc12_bytesIn_2 : decode prog_14_method_6_code 2 = .ok (.bipush 24, 2) := by decide +kernel
theorem dc12_bytesIn_4 : decode prog_14_method_6_code 4 = .ok (.istore_n 2, 1) := by decide +kernel
theorem dc12_bytesIn_5 : decode prog_14_method_6_code 5 = .ok (.iload_n 2, 1) := by decide +kernel
theorem dc12_bytesIn_6 : decode prog_14_method_6_code 6 = .ok (.ifCond .lt 27, 3) := by decide +kernel
theorem dc12_bytesIn_9 : decode prog_14_method_6_code 9 = .ok (.iload_n 1, 1) := by decide +kernel
theorem dc12_bytesIn_10 : decode prog_14_method_6_code 10 = .ok (.iload_n 0, 1) := by decide +kernel
theorem dc12_bytesIn_11 : decode prog_14_method_6_code 11 = .ok (.iload_n 2, 1) := by decide +kernel
theorem dc12_bytesIn_12 : decode prog_14_method_6_code 12 = .ok (.ishr, 1) := by decide +kernel
theorem dc12_bytesIn_13 : decode prog_14_method_6_code 13 = .ok (.sipush 255, 3) := by decide +kernel
theorem dc12_bytesIn_16 : decode prog_14_method_6_code 16 = .ok (.iand, 1) := by decide +kernel
theorem dc12_bytesIn_17 : decode prog_14_method_6_code 17 = .ok (.ifCond .eq 7, 3) := by decide +kernel
theorem dc12_bytesIn_20 : decode prog_14_method_6_code 20 = .ok (.iconst 1, 1) := by decide +kernel
theorem dc12_bytesIn_21 : decode prog_14_method_6_code 21 = .ok (.goto 4, 3) := by decide +kernel
theorem dc12_bytesIn_24 : decode prog_14_method_6_code 24 = .ok (.iconst 0, 1) := by decide +kernel
theorem dc12_bytesIn_25 : decode prog_14_method_6_code 25 = .ok (.iadd, 1) := by decide +kernel
theorem dc12_bytesIn_26 : decode prog_14_method_6_code 26 = .ok (.istore_n 1, 1) := by decide +kernel
theorem dc12_bytesIn_27 : decode prog_14_method_6_code 27 = .ok (.iinc 2 (-8), 3) := by decide +kernel
theorem dc12_bytesIn_30 : decode prog_14_method_6_code 30 = .ok (.goto (-25), 3) := by decide +kernel
theorem dc12_bytesIn_33 : decode prog_14_method_6_code 33 = .ok (.iload_n 1, 1) := by decide +kernel
theorem dc12_bytesIn_34 : decode prog_14_method_6_code 34 = .ok (.ireturn, 1) := by decide +kernel
theorem dc12_put_0 : decode prog_14_method_7_code 0 = .ok (.bipush 24, 2) := by decide +kernel
theorem dc12_put_2 : decode prog_14_method_7_code 2 = .ok (.istore_n 2, 1) := by decide +kernel
theorem dc12_put_3 : decode prog_14_method_7_code 3 = .ok (.iload_n 2, 1) := by decide +kernel
theorem dc12_put_4 : decode prog_14_method_7_code 4 = .ok (.ifCond .lt 45, 3) := by decide +kernel
theorem dc12_put_7 : decode prog_14_method_7_code 7 = .ok (.iload_n 1, 1) := by decide +kernel
theorem dc12_put_8 : decode prog_14_method_7_code 8 = .ok (.iload_n 2, 1) := by decide +kernel
theorem dc12_put_9 : decode prog_14_method_7_code 9 = .ok (.ishr, 1) := by decide +kernel
theorem dc12_put_10 : decode prog_14_method_7_code 10 = .ok (.sipush 255, 3) := by decide +kernel
theorem dc12_put_13 : decode prog_14_method_7_code 13 = .ok (.iand, 1) := by decide +kernel
theorem dc12_put_14 : decode prog_14_method_7_code 14 = .ok (.ifCond .ne 6, 3) := by decide +kernel
theorem dc12_put_17 : decode prog_14_method_7_code 17 = .ok (.goto 26, 3) := by decide +kernel
theorem dc12_put_20 : decode prog_14_method_7_code 20 = .ok (.aload_n 0, 1) := by decide +kernel
theorem dc12_put_21 : decode prog_14_method_7_code 21 = .ok (.getfield 9, 3) := by decide +kernel
theorem dc12_put_24 : decode prog_14_method_7_code 24 = .ok (.aload_n 0, 1) := by decide +kernel
theorem dc12_put_25 : decode prog_14_method_7_code 25 = .ok (.getfield 113, 3) := by decide +kernel
theorem dc12_put_28 : decode prog_14_method_7_code 28 = .ok (.iload_n 1, 1) := by decide +kernel
theorem dc12_put_29 : decode prog_14_method_7_code 29 = .ok (.iload_n 2, 1) := by decide +kernel
theorem dc12_put_30 : decode prog_14_method_7_code 30 = .ok (.ishr, 1) := by decide +kernel
theorem dc12_put_31 : decode prog_14_method_7_code 31 = .ok (.i2b, 1) := by decide +kernel
theorem dc12_put_32 : decode prog_14_method_7_code 32 = .ok (.bastore, 1) := by decide +kernel
theorem dc12_put_33 : decode prog_14_method_7_code 33 = .ok (.aload_n 0, 1) := by decide +kernel
theorem dc12_put_34 : decode prog_14_method_7_code 34 = .ok (.dup, 1) := by decide +kernel
theorem dc12_put_35 : decode prog_14_method_7_code 35 = .ok (.getfield 113, 3) := by decide +kernel
theorem dc12_put_38 : decode prog_14_method_7_code 38 = .ok (.iconst 1, 1) := by decide +kernel
theorem dc12_put_39 : decode prog_14_method_7_code 39 = .ok (.iadd, 1) := by decide +kernel
theorem dc12_put_40 : decode prog_14_method_7_code 40 = .ok (.putfield 113, 3) := by decide +kernel
theorem dc12_put_43 : decode prog_14_method_7_code 43 = .ok (.iinc 2 (-8), 3) := by decide +kernel
theorem dc12_put_46 : decode prog_14_method_7_code 46 = .ok (.goto (-43), 3) := by decide +kernel
theorem dc12_put_49 : decode prog_14_method_7_code 49 = .ok (.return_, 1) := by decide +kernel
theorem dc12_end_0 : decode prog_14_method_9_code 0 = .ok (.aload_n 0, 1) := by decide +kernel
theorem dc12_end_1 : decode prog_14_method_9_code 1 = .ok (.iconst 0, 1) := by decide +kernel
theorem dc12_end_2 : decode prog_14_method_9_code 2 = .ok (.putfield 100, 3) := by decide +kernel
theorem dc12_end_5 : decode prog_14_method_9_code 5 = .ok (.iload_n 1, 1) := by decide +kernel
theorem dc12_end_6 : decode prog_14_method_9_code 6 = .ok (.ifCond .lt 11, 3) := by decide +kernel
theorem dc12_end_9 : decode prog_14_method_9_code 9 = .ok (.iload_n 1, 1) := by decide +kernel
theorem dc12_end_10 : decode prog_14_method_9_code 10 = .ok (.aload_n 0, 1) := by decide +kernel
theorem dc12_end_11 : decode prog_14_method_9_code 11 = .ok (.getfield 113, 3) := by decide +kernel
theorem dc12_end_14 : decode prog_14_method_9_code 14 = .ok (.if_icmp .le 5, 3) := by decide +kernel
theorem dc12_end_17 : decode prog_14_method_9_code 17 = .ok (.iconst 0, 1) := by decide +kernel
theorem dc12_end_18 : decode prog_14_method_9_code 18 = .ok (.ireturn, 1) := by decide +kernel
theorem dc12_end_19 : decode prog_14_method_9_code 19 = .ok (.aload_n 0, 1) := by decide +kernel
theorem dc12_end_20 : decode prog_14_method_9_code 20 = .ok (.iload_n 1, 1) := by decide +kernel
theorem dc12_end_21 : decode prog_14_method_9_code 21 = .ok (.putfield 113, 3) := by decide +kernel
theorem dc12_end_24 : decode prog_14_method_9_code 24 = .ok (.iconst 1, 1) := by decide +kernel
theorem dc12_end_25 : decode prog_14_method_9_code 25 = .ok (.ireturn, 1) := by decide +kernel
theorem dc12_fault_0 : decode prog_14_method_39_code 0 = .ok (.aload_n 0, 1) := by decide +kernel
theorem dc12_fault_1 : decode prog_14_method_39_code 1 = .ok (.iconst 0, 1) := by decide +kernel
theorem dc12_fault_2 : decode prog_14_method_39_code 2 = .ok (.putfield 100, 3) := by decide +kernel
theorem dc12_fault_5 : decode prog_14_method_39_code 5 = .ok (.iload_n 1, 1) := by decide +kernel
theorem dc12_fault_6 : decode prog_14_method_39_code 6 = .ok (.i2l, 1) := by decide +kernel
theorem dc12_fault_7 : decode prog_14_method_39_code 7 = .ok (.lconst 0, 1) := by decide +kernel
theorem dc12_fault_8 : decode prog_14_method_39_code 8 = .ok (.ldc2_w 271, 3) := by decide +kernel
theorem dc12_fault_11 : decode prog_14_method_39_code 11 = .ok (.invokestatic 221, 3) := by decide +kernel
theorem dc12_fault_14 : decode prog_14_method_39_code 14 = .ok (.ifCond .ne 6, 3) := by decide +kernel
theorem dc12_fault_17 : decode prog_14_method_39_code 17 = .ok (.bipush (-2), 2) := by decide +kernel
theorem dc12_fault_19 : decode prog_14_method_39_code 19 = .ok (.ireturn, 1) := by decide +kernel
theorem dc12_fault_20 : decode prog_14_method_39_code 20 = .ok (.iload_n 1, 1) := by decide +kernel
theorem dc12_fault_21 : decode prog_14_method_39_code 21 = .ok (.ifCond .ne 7, 3) := by decide +kernel
theorem dc12_fault_24 : decode prog_14_method_39_code 24 = .ok (.aload_n 0, 1) := by decide +kernel
theorem dc12_fault_25 : decode prog_14_method_39_code 25 = .ok (.invokevirtual 273, 3) := by decide +kernel
theorem dc12_fault_28 : decode prog_14_method_39_code 28 = .ok (.iload_n 1, 1) := by decide +kernel
theorem dc12_fault_29 : decode prog_14_method_39_code 29 = .ok (.iconst 1, 1) := by decide +kernel
theorem dc12_fault_30 : decode prog_14_method_39_code 30 = .ok (.if_icmp .ne 16, 3) := by decide +kernel
theorem dc12_fault_33 : decode prog_14_method_39_code 33 = .ok (.aload_n 0, 1) := by decide +kernel
theorem dc12_fault_34 : decode prog_14_method_39_code 34 = .ok (.aload_n 0, 1) := by decide +kernel
theorem dc12_fault_35 : decode prog_14_method_39_code 35 = .ok (.getfield 9, 3) := by decide +kernel
theorem dc12_fault_38 : decode prog_14_method_39_code 38 = .ok (.iconst 0, 1) := by decide +kernel
theorem dc12_fault_39 : decode prog_14_method_39_code 39 = .ok (.aload_n 0, 1) := by decide +kernel
theorem dc12_fault_40 : decode prog_14_method_39_code 40 = .ok (.getfield 113, 3) := by decide +kernel
theorem dc12_fault_43 : decode prog_14_method_39_code 43 = .ok (.invokevirtual 276, 3) := by decide +kernel
theorem dc12_fault_46 : decode prog_14_method_39_code 46 = .ok (.iload_n 1, 1) := by decide +kernel
theorem dc12_fault_47 : decode prog_14_method_39_code 47 = .ok (.iconst 2, 1) := by decide +kernel
theorem dc12_fault_48 : decode prog_14_method_39_code 48 = .ok (.if_icmp .ne 7, 3) := by decide +kernel
theorem dc12_fault_51 : decode prog_14_method_39_code 51 = .ok (.aload_n 0, 1) := by decide +kernel
theorem dc12_fault_52 : decode prog_14_method_39_code 52 = .ok (.invokevirtual 279, 3) := by decide +kernel
theorem dc12_fault_55 : decode prog_14_method_39_code 55 = .ok (.aload_n 0, 1) := by decide +kernel
theorem dc12_fault_56 : decode prog_14_method_39_code 56 = .ok (.getfield 132, 3) := by decide +kernel
theorem dc12_fault_59 : decode prog_14_method_39_code 59 = .ok (.ireturn, 1) := by decide +kernel
theorem dc12_isIn_0 : decode prog_14_method_3_code 0 = .ok (.lload_n 0, 1) := by decide +kernel
theorem dc12_isIn_1 : decode prog_14_method_3_code 1 = .ok (.lload_n 2, 1) := by decide +kernel
theorem dc12_isIn_2 : decode prog_14_method_3_code 2 = .ok (.lcmp, 1) := by decide +kernel
theorem dc12_isIn_3 : decode prog_14_method_3_code 3 = .ok (.ifCond .lt 14, 3) := by decide +kernel
theorem dc12_isIn_6 : decode prog_14_method_3_code 6 = .ok (.lload_n 0, 1) := by decide +kernel
theorem dc12_isIn_7 : decode prog_14_method_3_code 7 = .ok (.lload 4, 2) := by decide +kernel
theorem dc12_isIn_9 : decode prog_14_method_3_code 9 = .ok (.lcmp, 1) := by decide +kernel
theorem dc12_isIn_10 : decode prog_14_method_3_code 10 = .ok (.ifCond .gt 7, 3) := by decide +kernel
theorem dc12_isIn_13 : decode prog_14_method_3_code 13 = .ok (.iconst 1, 1) := by decide +kernel
theorem dc12_isIn_14 : decode prog_14_method_3_code 14 = .ok (.goto 4, 3) := by decide +kernel
theorem dc12_isIn_17 : decode prog_14_method_3_code 17 = .ok (.iconst 0, 1) := by decide +kernel
theorem dc12_isIn_18 : decode prog_14_method_3_code 18 = .ok (.ireturn, 1) := by decide +kernel
theorem dc12_readPlain_0 : decode prog_14_method_35_code 0 = .ok (.aload_n 0, 1) := by decide +kernel
theorem dc12_readPlain_1 : decode prog_14_method_35_code 1 = .ok (.aload_n 0, 1) := by decide +kernel
theorem dc12_readPlain_2 : decode prog_14_method_35_code 2 = .ok (.getfield 9, 3) := by decide +kernel
theorem dc12_readPlain_5 : decode prog_14_method_35_code 5 = .ok (.iconst 0, 1) := by decide +kernel
theorem dc12_readPlain_6 : decode prog_14_method_35_code 6 = .ok (.aload_n 0, 1) := by decide +kernel
theorem dc12_readPlain_7 : decode prog_14_method_35_code 7 = .ok (.getfield 113, 3) := by decide +kernel
theorem dc12_readPlain_10 : decode prog_14_method_35_code 10 = .ok (.invokevirtual 211, 3) := by decide +kernel
theorem dc12_readPlain_13 : decode prog_14_method_35_code 13 = .ok (.aload_n 0, 1) := by decide +kernel
theorem dc12_readPlain_14 : decode prog_14_method_35_code 14 = .ok (.iconst 0, 1) := by decide +kernel
theorem dc12_readPlain_15 : decode prog_14_method_35_code 15 = .ok (.putfield 249, 3) := by decide +kernel
theorem dc12_readPlain_18 : decode prog_14_method_35_code 18 = .ok (.aload_n 0, 1) := by decide +kernel
theorem dc12_readPlain_19 : decode prog_14_method_35_code 19 = .ok (.iconst 0, 1) := by decide +kernel
theorem dc12_readPlain_20 : decode prog_14_method_35_code 20 = .ok (.putfield 246, 3) := by decide +kernel
theorem dc12_readPlain_23 : decode prog_14_method_35_code 23 = .ok (.iconst 0, 1) := by decide +kernel
theorem dc12_readPlain_24 : decode prog_14_method_35_code 24 = .ok (.istore_n 1, 1) := by decide +kernel
theorem dc12_readPlain_25 : decode prog_14_method_35_code 25 = .ok (.iload_n 1, 1) := by decide +kernel
theorem dc12_readPlain_26 : decode prog_14_method_35_code 26 = .ok (.iconst 3, 1) := by decide +kernel
theorem dc12_readPlain_27 : decode prog_14_method_35_code 27 = .ok (.if_icmp .ge 21, 3) := by decide +kernel
theorem dc12_readPlain_30 : decode prog_14_method_35_code 30 = .ok (.aload_n 0, 1) := by decide +kernel
theorem dc12_readPlain_31 : decode prog_14_method_35_code 31 = .ok (.getfield 40, 3) := by decide +kernel
theorem dc12_readPlain_34 : decode prog_14_method_35_code 34 = .ok (.iload_n 1, 1) := by decide +kernel
theorem dc12_readPlain_35 : decode prog_14_method_35_code 35 = .ok (.bipush 115, 2) := by decide +kernel
theorem dc12_readPlain_37 : decode prog_14_method_35_code 37 = .ok (.iload_n 1, 1) := by decide +kernel
theorem dc12_readPlain_38 : decode prog_14_method_35_code 38 = .ok (.invokestatic 225, 3) := by decide +kernel
theorem dc12_readPlain_41 : decode prog_14_method_35_code 41 = .ok (.iastore, 1) := by decide +kernel
theorem dc12_readPlain_42 : decode prog_14_method_35_code 42 = .ok (.iinc 1 1, 3) := by decide +kernel
theorem dc12_readPlain_45 : decode prog_14_method_35_code 45 = .ok (.goto (-20), 3) := by decide +kernel
theorem dc12_readPlain_48 : decode prog_14_method_35_code 48 = .ok (.iconst 1, 1) := by decide +kernel
theorem dc12_readPlain_49 : decode prog_14_method_35_code 49 = .ok (.istore_n 1, 1) := by decide +kernel
theorem dc12_readPlain_50 : decode prog_14_method_35_code 50 = .ok (.iload_n 1, 1) := by decide +kernel
theorem dc12_readPlain_51 : decode prog_14_method_35_code 51 = .ok (.ifCond .eq 55, 3) := by decide +kernel
theorem dc12_readPlain_54 : decode prog_14_method_35_code 54 = .ok (.aload_n 0, 1) := by decide +kernel
theorem dc12_readPlain_55 : decode prog_14_method_35_code 55 = .ok (.getfield 132, 3) := by decide +kernel
theorem dc12_readPlain_58 : decode prog_14_method_35_code 58 = .ok (.iconst (-1), 1) := by decide +kernel
theorem dc12_readPlain_59 : decode prog_14_method_35_code 59 = .ok (.if_icmp .ne 47, 3) := by decide +kernel
theorem dc12_readPlain_62 : decode prog_14_method_35_code 62 = .ok (.aload_n 0, 1) := by decide +kernel
theorem dc12_readPlain_63 : decode prog_14_method_35_code 63 = .ok (.invokevirtual 260, 3) := by decide +kernel
theorem dc12_readPlain_66 : decode prog_14_method_35_code 66 = .ok (.aload_n 0, 1) := by decide +kernel
theorem dc12_readPlain_67 : decode prog_14_method_35_code 67 = .ok (.getfield 132, 3) := by decide +kernel
theorem dc12_readPlain_70 : decode prog_14_method_35_code 70 = .ok (.iconst (-1), 1) := by decide +kernel
theorem dc12_readPlain_71 : decode prog_14_method_35_code 71 = .ok (.if_icmp .ne 16, 3) := by decide +kernel
theorem dc12_readPlain_74 : decode prog_14_method_35_code 74 = .ok (.aload_n 0, 1) := by decide +kernel
theorem dc12_readPlain_75 : decode prog_14_method_35_code 75 = .ok (.invokevirtual 142, 3) := by decide +kernel
theorem dc12_readPlain_78 : decode prog_14_method_35_code 78 = .ok (.bipush 59, 2) := by decide +kernel
theorem dc12_readPlain_80 : decode prog_14_method_35_code 80 = .ok (.if_icmp .ne 7, 3) := by decide +kernel
theorem dc12_readPlain_83 : decode prog_14_method_35_code 83 = .ok (.iconst 1, 1) := by decide +kernel
theorem dc12_readPlain_84 : decode prog_14_method_35_code 84 = .ok (.goto 4, 3) := by decide +kernel
theorem dc12_readPlain_87 : decode prog_14_method_35_code 87 = .ok (.iconst 0, 1) := by decide +kernel
theorem dc12_readPlain_88 : decode prog_14_method_35_code 88 = .ok (.istore_n 1, 1) := by decide +kernel
theorem dc12_readPlain_89 : decode prog_14_method_35_code 89 = .ok (.iload_n 1, 1) := by decide +kernel
theorem dc12_readPlain_90 : decode prog_14_method_35_code 90 = .ok (.ifCond .eq (-40), 3) := by decide +kernel
theorem dc12_readPlain_93 : decode prog_14_method_35_code 93 = .ok (.aload_n 0, 1) := by decide +kernel
theorem dc12_readPlain_94 : decode prog_14_method_35_code 94 = .ok (.dup, 1) := by decide +kernel
theorem dc12_readPlain_95 : decode prog_14_method_35_code 95 = .ok (.getfield 123, 3) := by decide +kernel
theorem dc12_readPlain_98 : decode prog_14_method_35_code 98 = .ok (.iconst 1, 1) := by decide +kernel
theorem dc12_readPlain_99 : decode prog_14_method_35_code 99 = .ok (.iadd, 1) := by decide +kernel
theorem dc12_readPlain_100 : decode prog_14_method_35_code 100 = .ok (.putfield 123, 3) := by decide +kernel
theorem dc12_readPlain_103 : decode prog_14_method_35_code 103 = .ok (.goto (-53), 3) := by decide +kernel
theorem dc12_readPlain_106 : decode prog_14_method_35_code 106 = .ok (.aload_n 0, 1) := by decide +kernel
theorem dc12_readPlain_107 : decode prog_14_method_35_code 107 = .ok (.getfield 132, 3) := by decide +kernel
theorem dc12_readPlain_110 : decode prog_14_method_35_code 110 = .ok (.iconst (-1), 1) := by decide +kernel
theorem dc12_readPlain_111 : decode prog_14_method_35_code 111 = .ok (.if_icmp .ne 24, 3) := by decide +kernel
theorem dc12_readPlain_114 : decode prog_14_method_35_code 114 = .ok (.aload_n 0, 1) := by decide +kernel
theorem dc12_readPlain_115 : decode prog_14_method_35_code 115 = .ok (.invokevirtual 142, 3) := by decide +kernel
theorem dc12_readPlain_118 : decode prog_14_method_35_code 118 = .ok (.iconst (-1), 1) := by decide +kernel
theorem dc12_readPlain_119 : decode prog_14_method_35_code 119 = .ok (.if_icmp .ne 11, 3) := by decide +kernel
theorem dc12_readPlain_122 : decode prog_14_method_35_code 122 = .ok (.aload_n 0, 1) := by decide +kernel
theorem dc12_readPlain_123 : decode prog_14_method_35_code 123 = .ok (.getfield 249, 3) := by decide +kernel
theorem dc12_readPlain_126 : decode prog_14_method_35_code 126 = .ok (.iconst 2, 1) := by decide +kernel
theorem dc12_readPlain_127 : decode prog_14_method_35_code 127 = .ok (.if_icmp .ge 8, 3) := by decide +kernel
theorem dc12_readPlain_130 : decode prog_14_method_35_code 130 = .ok (.aload_n 0, 1) := by decide +kernel
theorem dc12_readPlain_131 : decode prog_14_method_35_code 131 = .ok (.invokevirtual 138, 3) := by decide +kernel
theorem dc12_readPlain_134 : decode prog_14_method_35_code 134 = .ok (.pop, 1) := by decide +kernel
theorem dc12_readPlain_135 : decode prog_14_method_35_code 135 = .ok (.return_, 1) := by decide +kernel
theorem dc12_starts_0 : decode prog_14_method_25_code 0 = .ok (.aload_n 0, 1) := by decide +kernel
theorem dc12_starts_1 : decode prog_14_method_25_code 1 = .ok (.aload_n 1, 1) := by decide +kernel
theorem dc12_starts_2 : decode prog_14_method_25_code 2 = .ok (.putfield 23, 3) := by decide +kernel
theorem dc12_starts_5 : decode prog_14_method_25_code 5 = .ok (.aload_n 0, 1) := by decide +kernel
theorem dc12_starts_6 : decode prog_14_method_25_code 6 = .ok (.iload_n 2, 1) := by decide +kernel
theorem dc12_starts_7 : decode prog_14_method_25_code 7 = .ok (.putfield 129, 3) := by decide +kernel
theorem dc12_starts_10 : decode prog_14_method_25_code 10 = .ok (.aload_n 0, 1) := by decide +kernel
theorem dc12_starts_11 : decode prog_14_method_25_code 11 = .ok (.iload_n 3, 1) := by decide +kernel
theorem dc12_starts_12 : decode prog_14_method_25_code 12 = .ok (.putfield 126, 3) := by decide +kernel
theorem dc12_starts_15 : decode prog_14_method_25_code 15 = .ok (.aload_n 0, 1) := by decide +kernel
theorem dc12_starts_16 : decode prog_14_method_25_code 16 = .ok (.iconst 0, 1) := by decide +kernel
theorem dc12_starts_17 : decode prog_14_method_25_code 17 = .ok (.putfield 123, 3) := by decide +kernel
theorem dc12_starts_20 : decode prog_14_method_25_code 20 = .ok (.aload_n 0, 1) := by decide +kernel
theorem dc12_starts_21 : decode prog_14_method_25_code 21 = .ok (.iconst (-1), 1) := by decide +kernel
theorem dc12_starts_22 : decode prog_14_method_25_code 22 = .ok (.putfield 132, 3) := by decide +kernel
theorem dc12_starts_25 : decode prog_14_method_25_code 25 = .ok (.return_, 1) := by decide +kernel
theorem dc12_usual_0 : decode prog_14_method_32_code 0 = .ok (.iload_n 0, 1) := by decide +kernel
theorem dc12_usual_1 : decode prog_14_method_32_code 1 = .ok (.bipush 115, 2) := by decide +kernel
theorem dc12_usual_3 : decode prog_14_method_32_code 3 = .ok (.if_icmp .ne 23, 3) := by decide +kernel
theorem dc12_usual_6 : decode prog_14_method_32_code 6 = .ok (.iload_n 1, 1) := by decide +kernel
theorem dc12_usual_7 : decode prog_14_method_32_code 7 = .ok (.ifCond .ne 7, 3) := by decide +kernel
theorem dc12_usual_10 : decode prog_14_method_32_code 10 = .ok (.iconst 1, 1) := by decide +kernel
theorem dc12_usual_11 : decode prog_14_method_32_code 11 = .ok (.goto 14, 3) := by decide +kernel
theorem dc12_usual_14 : decode prog_14_method_32_code 14 = .ok (.iload_n 1, 1) := by decide +kernel
theorem dc12_usual_15 : decode prog_14_method_32_code 15 = .ok (.iconst 1, 1) := by decide +kernel
theorem dc12_usual_16 : decode prog_14_method_32_code 16 = .ok (.if_icmp .ne 8, 3) := by decide +kernel
theorem dc12_usual_19 : decode prog_14_method_32_code 19 = .ok (.bipush 30, 2) := by decide +kernel
theorem dc12_usual_21 : decode prog_14_method_32_code 21 = .ok (.goto 4, 3) := by decide +kernel
theorem dc12_usual_24 : decode prog_14_method_32_code 24 = .ok (.iconst 2, 1) := by decide +kernel
theorem dc12_usual_25 : decode prog_14_method_32_code 25 = .ok (.ireturn, 1) := by decide +kernel
theorem dc12_usual_26 : decode prog_14_method_32_code 26 = .ok (.iload_n 1, 1) := by decide +kernel
theorem dc12_usual_27 : decode prog_14_method_32_code 27 = .ok (.ifCond .ne 7, 3) := by decide +kernel
theorem dc12_usual_30 : decode prog_14_method_32_code 30 = .ok (.iconst 0, 1) := by decide +kernel
theorem dc12_usual_31 : decode prog_14_method_32_code 31 = .ok (.goto 33, 3) := by decide +kernel
theorem dc12_usual_34 : decode prog_14_method_32_code 34 = .ok (.iload_n 1, 1) := by decide +kernel
theorem dc12_usual_35 : decode prog_14_method_32_code 35 = .ok (.iconst 1, 1) := by decide +kernel
theorem dc12_usual_36 : decode prog_14_method_32_code 36 = .ok (.if_icmp .ne 8, 3) := by decide +kernel
theorem dc12_usual_39 : decode prog_14_method_32_code 39 = .ok (.bipush 6, 2) := by decide +kernel
theorem dc12_usual_41 : decode prog_14_method_32_code 41 = .ok (.goto 23, 3) := by decide +kernel
theorem dc12_usual_44 : decode prog_14_method_32_code 44 = .ok (.iload_n 1, 1) := by decide +kernel
theorem dc12_usual_45 : decode prog_14_method_32_code 45 = .ok (.iconst 2, 1) := by decide +kernel
theorem dc12_usual_46 : decode prog_14_method_32_code 46 = .ok (.if_icmp .ne 7, 3) := by decide +kernel
theorem dc12_usual_49 : decode prog_14_method_32_code 49 = .ok (.iconst 5, 1) := by decide +kernel
theorem dc12_usual_50 : decode prog_14_method_32_code 50 = .ok (.goto 14, 3) := by decide +kernel
theorem dc12_usual_53 : decode prog_14_method_32_code 53 = .ok (.iload_n 1, 1) := by decide +kernel
theorem dc12_usual_54 : decode prog_14_method_32_code 54 = .ok (.iconst 3, 1) := by decide +kernel
theorem dc12_usual_55 : decode prog_14_method_32_code 55 = .ok (.if_icmp .ne 7, 3) := by decide +kernel
theorem dc12_usual_58 : decode prog_14_method_32_code 58 = .ok (.iconst 3, 1) := by decide +kernel
theorem dc12_usual_59 : decode prog_14_method_32_code 59 = .ok (.goto 5, 3) := by decide +kernel
theorem dc12_usual_62 : decode prog_14_method_32_code 62 = .ok (.bipush 20, 2) := by decide +kernel
theorem dc12_usual_64 : decode prog_14_method_32_code 64 = .ok (.ireturn, 1) := by decide +kernel
theorem dc12_readClause_0 : decode prog_14_method_34_code 0 = .ok (.aload_n 0, 1) := by decide +kernel
theorem dc12_readClause_1 : decode prog_14_method_34_code 1 = .ok (.invokevirtual 142, 3) := by decide +kernel
theorem dc12_readClause_4 : decode prog_14_method_34_code 4 = .ok (.istore_n 1, 1) := by decide +kernel
theorem dc12_readClause_5 : decode prog_14_method_34_code 5 = .ok (.iload_n 1, 1) := by decide +kernel
theorem dc12_readClause_6 : decode prog_14_method_34_code 6 = .ok (.bipush 115, 2) := by decide +kernel
theorem dc12_readClause_8 : decode prog_14_method_34_code 8 = .ok (.if_icmp .ne 10, 3) := by decide +kernel
theorem dc12_readClause_11 : decode prog_14_method_34_code 11 = .ok (.aload_n 0, 1) := by decide +kernel
theorem dc12_readClause_12 : decode prog_14_method_34_code 12 = .ok (.getfield 246, 3) := by decide +kernel
theorem dc12_readClause_15 : decode prog_14_method_34_code 15 = .ok (.ifCond .eq 18, 3) := by decide +kernel
theorem dc12_readClause_18 : decode prog_14_method_34_code 18 = .ok (.iload_n 1, 1) := by decide +kernel
theorem dc12_readClause_19 : decode prog_14_method_34_code 19 = .ok (.bipush 102, 2) := by decide +kernel
theorem dc12_readClause_21 : decode prog_14_method_34_code 21 = .ok (.if_icmp .ne 16, 3) := by decide +kernel
theorem dc12_readClause_24 : decode prog_14_method_34_code 24 = .ok (.aload_n 0, 1) := by decide +kernel
theorem dc12_readClause_25 : decode prog_14_method_34_code 25 = .ok (.getfield 249, 3) := by decide +kernel
theorem dc12_readClause_28 : decode prog_14_method_34_code 28 = .ok (.bipush 6, 2) := by decide +kernel
theorem dc12_readClause_30 : decode prog_14_method_34_code 30 = .ok (.if_icmp .ge 7, 3) := by decide +kernel
theorem dc12_readClause_33 : decode prog_14_method_34_code 33 = .ok (.iconst 1, 1) := by decide +kernel
theorem dc12_readClause_34 : decode prog_14_method_34_code 34 = .ok (.goto 4, 3) := by decide +kernel
theorem dc12_readClause_37 : decode prog_14_method_34_code 37 = .ok (.iconst 0, 1) := by decide +kernel
theorem dc12_readClause_38 : decode prog_14_method_34_code 38 = .ok (.istore_n 2, 1) := by decide +kernel
theorem dc12_readClause_39 : decode prog_14_method_34_code 39 = .ok (.iload_n 2, 1) := by decide +kernel
theorem dc12_readClause_40 : decode prog_14_method_34_code 40 = .ok (.ifCond .ne 9, 3) := by decide +kernel
theorem dc12_readClause_43 : decode prog_14_method_34_code 43 = .ok (.aload_n 0, 1) := by decide +kernel
theorem dc12_readClause_44 : decode prog_14_method_34_code 44 = .ok (.invokevirtual 138, 3) := by decide +kernel
theorem dc12_readClause_47 : decode prog_14_method_34_code 47 = .ok (.pop, 1) := by decide +kernel
theorem dc12_readClause_48 : decode prog_14_method_34_code 48 = .ok (.return_, 1) := by decide +kernel
theorem dc12_readClause_49 : decode prog_14_method_34_code 49 = .ok (.aload_n 0, 1) := by decide +kernel
theorem dc12_readClause_50 : decode prog_14_method_34_code 50 = .ok (.dup, 1) := by decide +kernel
theorem dc12_readClause_51 : decode prog_14_method_34_code 51 = .ok (.getfield 123, 3) := by decide +kernel
theorem dc12_readClause_54 : decode prog_14_method_34_code 54 = .ok (.iconst 1, 1) := by decide +kernel
theorem dc12_readClause_55 : decode prog_14_method_34_code 55 = .ok (.iadd, 1) := by decide +kernel
theorem dc12_readClause_56 : decode prog_14_method_34_code 56 = .ok (.putfield 123, 3) := by decide +kernel
theorem dc12_readClause_59 : decode prog_14_method_34_code 59 = .ok (.iload_n 1, 1) := by decide +kernel
theorem dc12_readClause_60 : decode prog_14_method_34_code 60 = .ok (.bipush 115, 2) := by decide +kernel
theorem dc12_readClause_62 : decode prog_14_method_34_code 62 = .ok (.if_icmp .ne 23, 3) := by decide +kernel
theorem dc12_readClause_65 : decode prog_14_method_34_code 65 = .ok (.aload_n 0, 1) := by decide +kernel
theorem dc12_readClause_66 : decode prog_14_method_34_code 66 = .ok (.iconst 1, 1) := by decide +kernel
theorem dc12_readClause_67 : decode prog_14_method_34_code 67 = .ok (.putfield 246, 3) := by decide +kernel
theorem dc12_readClause_70 : decode prog_14_method_34_code 70 = .ok (.aload_n 0, 1) := by decide +kernel
theorem dc12_readClause_71 : decode prog_14_method_34_code 71 = .ok (.iload_n 1, 1) := by decide +kernel
theorem dc12_readClause_72 : decode prog_14_method_34_code 72 = .ok (.aload_n 0, 1) := by decide +kernel
theorem dc12_readClause_73 : decode prog_14_method_34_code 73 = .ok (.getfield 40, 3) := by decide +kernel
theorem dc12_readClause_76 : decode prog_14_method_34_code 76 = .ok (.iconst 0, 1) := by decide +kernel
theorem dc12_readClause_77 : decode prog_14_method_34_code 77 = .ok (.ldc 252, 2) := by decide +kernel
theorem dc12_readClause_79 : decode prog_14_method_34_code 79 = .ok (.invokevirtual 254, 3) := by decide +kernel
theorem dc12_readClause_82 : decode prog_14_method_34_code 82 = .ok (.goto 33, 3) := by decide +kernel
theorem dc12_readClause_85 : decode prog_14_method_34_code 85 = .ok (.aload_n 0, 1) := by decide +kernel
theorem dc12_readClause_86 : decode prog_14_method_34_code 86 = .ok (.dup, 1) := by decide +kernel
theorem dc12_readClause_87 : decode prog_14_method_34_code 87 = .ok (.getfield 249, 3) := by decide +kernel
theorem dc12_readClause_90 : decode prog_14_method_34_code 90 = .ok (.iconst 1, 1) := by decide +kernel
theorem dc12_readClause_91 : decode prog_14_method_34_code 91 = .ok (.iadd, 1) := by decide +kernel
theorem dc12_readClause_92 : decode prog_14_method_34_code 92 = .ok (.putfield 249, 3) := by decide +kernel
theorem dc12_readClause_95 : decode prog_14_method_34_code 95 = .ok (.aload_n 0, 1) := by decide +kernel
theorem dc12_readClause_96 : decode prog_14_method_34_code 96 = .ok (.iload_n 1, 1) := by decide +kernel
theorem dc12_readClause_97 : decode prog_14_method_34_code 97 = .ok (.aload_n 0, 1) := by decide +kernel
theorem dc12_readClause_98 : decode prog_14_method_34_code 98 = .ok (.getfield 46, 3) := by decide +kernel
theorem dc12_readClause_101 : decode prog_14_method_34_code 101 = .ok (.iconst 5, 1) := by decide +kernel
theorem dc12_readClause_102 : decode prog_14_method_34_code 102 = .ok (.aload_n 0, 1) := by decide +kernel
theorem dc12_readClause_103 : decode prog_14_method_34_code 103 = .ok (.getfield 249, 3) := by decide +kernel
theorem dc12_readClause_106 : decode prog_14_method_34_code 106 = .ok (.iconst 1, 1) := by decide +kernel
theorem dc12_readClause_107 : decode prog_14_method_34_code 107 = .ok (.isub, 1) := by decide +kernel
theorem dc12_readClause_108 : decode prog_14_method_34_code 108 = .ok (.imul, 1) := by decide +kernel
theorem dc12_readClause_109 : decode prog_14_method_34_code 109 = .ok (.ldc_w 258, 3) := by decide +kernel
theorem dc12_readClause_112 : decode prog_14_method_34_code 112 = .ok (.invokevirtual 254, 3) := by decide +kernel
theorem dc12_readClause_115 : decode prog_14_method_34_code 115 = .ok (.return_, 1) := by decide +kernel
theorem dc12_look_0 : decode prog_14_method_10_code 0 = .ok (.aload_n 0, 1) := by decide +kernel
theorem dc12_look_1 : decode prog_14_method_10_code 1 = .ok (.getfield 123, 3) := by decide +kernel
theorem dc12_look_4 : decode prog_14_method_10_code 4 = .ok (.aload_n 0, 1) := by decide +kernel
theorem dc12_look_5 : decode prog_14_method_10_code 5 = .ok (.getfield 126, 3) := by decide +kernel
theorem dc12_look_8 : decode prog_14_method_10_code 8 = .ok (.if_icmp .ge 35, 3) := by decide +kernel
theorem dc12_look_11 : decode prog_14_method_10_code 11 = .ok (.aload_n 0, 1) := by decide +kernel
theorem dc12_look_12 : decode prog_14_method_10_code 12 = .ok (.getfield 23, 3) := by decide +kernel
theorem dc12_look_15 : decode prog_14_method_10_code 15 = .ok (.aload_n 0, 1) := by decide +kernel
theorem dc12_look_16 : decode prog_14_method_10_code 16 = .ok (.getfield 129, 3) := by decide +kernel
theorem dc12_look_19 : decode prog_14_method_10_code 19 = .ok (.aload_n 0, 1) := by decide +kernel
theorem dc12_look_20 : decode prog_14_method_10_code 20 = .ok (.getfield 123, 3) := by decide +kernel
theorem dc12_look_23 : decode prog_14_method_10_code 23 = .ok (.iadd, 1) := by decide +kernel
theorem dc12_look_24 : decode prog_14_method_10_code 24 = .ok (.baload, 1) := by decide +kernel
theorem dc12_look_25 : decode prog_14_method_10_code 25 = .ok (.bipush 32, 2) := by decide +kernel
theorem dc12_look_27 : decode prog_14_method_10_code 27 = .ok (.if_icmp .ne 16, 3) := by decide +kernel
theorem dc12_look_30 : decode prog_14_method_10_code 30 = .ok (.aload_n 0, 1) := by decide +kernel
theorem dc12_look_31 : decode prog_14_method_10_code 31 = .ok (.dup, 1) := by decide +kernel
theorem dc12_look_32 : decode prog_14_method_10_code 32 = .ok (.getfield 123, 3) := by decide +kernel
theorem dc12_look_35 : decode prog_14_method_10_code 35 = .ok (.iconst 1, 1) := by decide +kernel
theorem dc12_look_36 : decode prog_14_method_10_code 36 = .ok (.iadd, 1) := by decide +kernel
theorem dc12_look_37 : decode prog_14_method_10_code 37 = .ok (.putfield 123, 3) := by decide +kernel
theorem dc12_look_40 : decode prog_14_method_10_code 40 = .ok (.goto (-40), 3) := by decide +kernel
theorem dc12_look_43 : decode prog_14_method_10_code 43 = .ok (.aload_n 0, 1) := by decide +kernel
theorem dc12_look_44 : decode prog_14_method_10_code 44 = .ok (.getfield 123, 3) := by decide +kernel
theorem dc12_look_47 : decode prog_14_method_10_code 47 = .ok (.aload_n 0, 1) := by decide +kernel
theorem dc12_look_48 : decode prog_14_method_10_code 48 = .ok (.getfield 126, 3) := by decide +kernel
theorem dc12_look_51 : decode prog_14_method_10_code 51 = .ok (.if_icmp .ge 24, 3) := by decide +kernel
theorem dc12_look_54 : decode prog_14_method_10_code 54 = .ok (.aload_n 0, 1) := by decide +kernel
theorem dc12_look_55 : decode prog_14_method_10_code 55 = .ok (.getfield 23, 3) := by decide +kernel
theorem dc12_look_58 : decode prog_14_method_10_code 58 = .ok (.aload_n 0, 1) := by decide +kernel
theorem dc12_look_59 : decode prog_14_method_10_code 59 = .ok (.getfield 129, 3) := by decide +kernel
theorem dc12_look_62 : decode prog_14_method_10_code 62 = .ok (.aload_n 0, 1) := by decide +kernel
theorem dc12_look_63 : decode prog_14_method_10_code 63 = .ok (.getfield 123, 3) := by decide +kernel
theorem dc12_look_66 : decode prog_14_method_10_code 66 = .ok (.iadd, 1) := by decide +kernel
theorem dc12_look_67 : decode prog_14_method_10_code 67 = .ok (.baload, 1) := by decide +kernel
theorem dc12_look_68 : decode prog_14_method_10_code 68 = .ok (.sipush 255, 3) := by decide +kernel
theorem dc12_look_71 : decode prog_14_method_10_code 71 = .ok (.iand, 1) := by decide +kernel
theorem dc12_look_72 : decode prog_14_method_10_code 72 = .ok (.goto 4, 3) := by decide +kernel
theorem dc12_look_75 : decode prog_14_method_10_code 75 = .ok (.iconst (-1), 1) := by decide +kernel
theorem dc12_look_76 : decode prog_14_method_10_code 76 = .ok (.ireturn, 1) := by decide +kernel
theorem dc12_fails_0 : decode prog_14_method_11_code 0 = .ok (.aload_n 0, 1) := by decide +kernel
theorem dc12_fails_1 : decode prog_14_method_11_code 1 = .ok (.getfield 132, 3) := by decide +kernel
theorem dc12_fails_4 : decode prog_14_method_11_code 4 = .ok (.iconst (-1), 1) := by decide +kernel
theorem dc12_fails_5 : decode prog_14_method_11_code 5 = .ok (.if_icmp .ne 11, 3) := by decide +kernel
theorem dc12_fails_8 : decode prog_14_method_11_code 8 = .ok (.aload_n 0, 1) := by decide +kernel
theorem dc12_fails_9 : decode prog_14_method_11_code 9 = .ok (.aload_n 0, 1) := by decide +kernel
theorem dc12_fails_10 : decode prog_14_method_11_code 10 = .ok (.getfield 123, 3) := by decide +kernel
theorem dc12_fails_13 : decode prog_14_method_11_code 13 = .ok (.putfield 132, 3) := by decide +kernel
theorem dc12_fails_16 : decode prog_14_method_11_code 16 = .ok (.iconst 0, 1) := by decide +kernel
theorem dc12_fails_17 : decode prog_14_method_11_code 17 = .ok (.ireturn, 1) := by decide +kernel
theorem dc12_readItems_0 : decode prog_14_method_33_code 0 = .ok (.iconst 0, 1) := by decide +kernel
theorem dc12_readItems_1 : decode prog_14_method_33_code 1 = .ok (.istore 5, 2) := by decide +kernel
theorem dc12_readItems_3 : decode prog_14_method_33_code 3 = .ok (.iload 5, 2) := by decide +kernel
theorem dc12_readItems_5 : decode prog_14_method_33_code 5 = .ok (.aload 4, 2) := by decide +kernel
theorem dc12_readItems_7 : decode prog_14_method_33_code 7 = .ok (.invokevirtual 103, 3) := by decide +kernel
theorem dc12_readItems_10 : decode prog_14_method_33_code 10 = .ok (.if_icmp .ge 21, 3) := by decide +kernel
theorem dc12_readItems_13 : decode prog_14_method_33_code 13 = .ok (.aload_n 2, 1) := by decide +kernel
theorem dc12_readItems_14 : decode prog_14_method_33_code 14 = .ok (.iload_n 3, 1) := by decide +kernel
theorem dc12_readItems_15 : decode prog_14_method_33_code 15 = .ok (.iload 5, 2) := by decide +kernel
theorem dc12_readItems_17 : decode prog_14_method_33_code 17 = .ok (.iadd, 1) := by decide +kernel
theorem dc12_readItems_18 : decode prog_14_method_33_code 18 = .ok (.iload_n 1, 1) := by decide +kernel
theorem dc12_readItems_19 : decode prog_14_method_33_code 19 = .ok (.iload 5, 2) := by decide +kernel
theorem dc12_readItems_21 : decode prog_14_method_33_code 21 = .ok (.invokestatic 225, 3) := by decide +kernel
theorem dc12_readItems_24 : decode prog_14_method_33_code 24 = .ok (.iastore, 1) := by decide +kernel
theorem dc12_readItems_25 : decode prog_14_method_33_code 25 = .ok (.iinc 5 1, 3) := by decide +kernel
theorem dc12_readItems_28 : decode prog_14_method_33_code 28 = .ok (.goto (-25), 3) := by decide +kernel
theorem dc12_readItems_31 : decode prog_14_method_33_code 31 = .ok (.iconst 0, 1) := by decide +kernel
theorem dc12_readItems_32 : decode prog_14_method_33_code 32 = .ok (.istore 5, 2) := by decide +kernel
theorem dc12_readItems_34 : decode prog_14_method_33_code 34 = .ok (.aload 4, 2) := by decide +kernel
theorem dc12_readItems_36 : decode prog_14_method_33_code 36 = .ok (.aload_n 0, 1) := by decide +kernel
theorem dc12_readItems_37 : decode prog_14_method_33_code 37 = .ok (.invokevirtual 142, 3) := by decide +kernel
theorem dc12_readItems_40 : decode prog_14_method_33_code 40 = .ok (.invokestatic 229, 3) := by decide +kernel
theorem dc12_readItems_43 : decode prog_14_method_33_code 43 = .ok (.istore 6, 2) := by decide +kernel
theorem dc12_readItems_45 : decode prog_14_method_33_code 45 = .ok (.iload 6, 2) := by decide +kernel
theorem dc12_readItems_47 : decode prog_14_method_33_code 47 = .ok (.iconst (-1), 1) := by decide +kernel
theorem dc12_readItems_48 : decode prog_14_method_33_code 48 = .ok (.if_icmp .eq 90, 3) := by decide +kernel
theorem dc12_readItems_51 : decode prog_14_method_33_code 51 = .ok (.aload_n 0, 1) := by decide +kernel
theorem dc12_readItems_52 : decode prog_14_method_33_code 52 = .ok (.getfield 132, 3) := by decide +kernel
theorem dc12_readItems_55 : decode prog_14_method_33_code 55 = .ok (.iconst (-1), 1) := by decide +kernel
theorem dc12_readItems_56 : decode prog_14_method_33_code 56 = .ok (.if_icmp .ne 82, 3) := by decide +kernel
theorem dc12_readItems_59 : decode prog_14_method_33_code 59 = .ok (.iload 5, 2) := by decide +kernel
theorem dc12_readItems_61 : decode prog_14_method_33_code 61 = .ok (.iload 6, 2) := by decide +kernel
theorem dc12_readItems_63 : decode prog_14_method_33_code 63 = .ok (.invokestatic 233, 3) := by decide +kernel
theorem dc12_readItems_66 : decode prog_14_method_33_code 66 = .ok (.ifCond .eq 9, 3) := by decide +kernel
theorem dc12_readItems_69 : decode prog_14_method_33_code 69 = .ok (.aload_n 0, 1) := by decide +kernel
theorem dc12_readItems_70 : decode prog_14_method_33_code 70 = .ok (.invokevirtual 138, 3) := by decide +kernel
theorem dc12_readItems_73 : decode prog_14_method_33_code 73 = .ok (.pop, 1) := by decide +kernel
theorem dc12_readItems_74 : decode prog_14_method_33_code 74 = .ok (.return_, 1) := by decide +kernel
theorem dc12_readItems_75 : decode prog_14_method_33_code 75 = .ok (.iload 5, 2) := by decide +kernel
theorem dc12_readItems_77 : decode prog_14_method_33_code 77 = .ok (.iconst 1, 1) := by decide +kernel
theorem dc12_readItems_78 : decode prog_14_method_33_code 78 = .ok (.iload 6, 2) := by decide +kernel
theorem dc12_readItems_80 : decode prog_14_method_33_code 80 = .ok (.ishl, 1) := by decide +kernel
theorem dc12_readItems_81 : decode prog_14_method_33_code 81 = .ok (.ior, 1) := by decide +kernel
theorem dc12_readItems_82 : decode prog_14_method_33_code 82 = .ok (.istore 5, 2) := by decide +kernel
theorem dc12_readItems_84 : decode prog_14_method_33_code 84 = .ok (.aload_n 0, 1) := by decide +kernel
theorem dc12_readItems_85 : decode prog_14_method_33_code 85 = .ok (.dup, 1) := by decide +kernel
theorem dc12_readItems_86 : decode prog_14_method_33_code 86 = .ok (.getfield 123, 3) := by decide +kernel
theorem dc12_readItems_89 : decode prog_14_method_33_code 89 = .ok (.iconst 1, 1) := by decide +kernel
theorem dc12_readItems_90 : decode prog_14_method_33_code 90 = .ok (.iadd, 1) := by decide +kernel
theorem dc12_readItems_91 : decode prog_14_method_33_code 91 = .ok (.putfield 123, 3) := by decide +kernel
theorem dc12_readItems_94 : decode prog_14_method_33_code 94 = .ok (.aload_n 2, 1) := by decide +kernel
theorem dc12_readItems_95 : decode prog_14_method_33_code 95 = .ok (.iload_n 3, 1) := by decide +kernel
theorem dc12_readItems_96 : decode prog_14_method_33_code 96 = .ok (.iload 6, 2) := by decide +kernel
theorem dc12_readItems_98 : decode prog_14_method_33_code 98 = .ok (.iadd, 1) := by decide +kernel
theorem dc12_readItems_99 : decode prog_14_method_33_code 99 = .ok (.aload_n 0, 1) := by decide +kernel
theorem dc12_readItems_100 : decode prog_14_method_33_code 100 = .ok (.iload_n 1, 1) := by decide +kernel
theorem dc12_readItems_101 : decode prog_14_method_33_code 101 = .ok (.iload 6, 2) := by decide +kernel
theorem dc12_readItems_103 : decode prog_14_method_33_code 103 = .ok (.invokestatic 237, 3) := by decide +kernel
theorem dc12_readItems_106 : decode prog_14_method_33_code 106 = .ok (.iload_n 1, 1) := by decide +kernel
theorem dc12_readItems_107 : decode prog_14_method_33_code 107 = .ok (.iload 6, 2) := by decide +kernel
theorem dc12_readItems_109 : decode prog_14_method_33_code 109 = .ok (.invokestatic 240, 3) := by decide +kernel
theorem dc12_readItems_112 : decode prog_14_method_33_code 112 = .ok (.invokevirtual 243, 3) := by decide +kernel
theorem dc12_readItems_115 : decode prog_14_method_33_code 115 = .ok (.iastore, 1) := by decide +kernel
theorem dc12_readItems_116 : decode prog_14_method_33_code 116 = .ok (.aload_n 0, 1) := by decide +kernel
theorem dc12_readItems_117 : decode prog_14_method_33_code 117 = .ok (.getfield 132, 3) := by decide +kernel
theorem dc12_readItems_120 : decode prog_14_method_33_code 120 = .ok (.iconst (-1), 1) := by decide +kernel
theorem dc12_readItems_121 : decode prog_14_method_33_code 121 = .ok (.if_icmp .ne (-76), 3) := by decide +kernel
theorem dc12_readItems_124 : decode prog_14_method_33_code 124 = .ok (.aload 4, 2) := by decide +kernel
theorem dc12_readItems_126 : decode prog_14_method_33_code 126 = .ok (.aload_n 0, 1) := by decide +kernel
theorem dc12_readItems_127 : decode prog_14_method_33_code 127 = .ok (.invokevirtual 142, 3) := by decide +kernel
theorem dc12_readItems_130 : decode prog_14_method_33_code 130 = .ok (.invokestatic 229, 3) := by decide +kernel
theorem dc12_readItems_133 : decode prog_14_method_33_code 133 = .ok (.istore 6, 2) := by decide +kernel
theorem dc12_readItems_135 : decode prog_14_method_33_code 135 = .ok (.goto (-90), 3) := by decide +kernel
theorem dc12_readItems_138 : decode prog_14_method_33_code 138 = .ok (.return_, 1) := by decide +kernel
theorem dc12_spotOf_0 : decode prog_14_method_28_code 0 = .ok (.iconst 0, 1) := by decide +kernel
theorem dc12_spotOf_1 : decode prog_14_method_28_code 1 = .ok (.istore_n 2, 1) := by decide +kernel
theorem dc12_spotOf_2 : decode prog_14_method_28_code 2 = .ok (.iload_n 2, 1) := by decide +kernel
theorem dc12_spotOf_3 : decode prog_14_method_28_code 3 = .ok (.aload_n 0, 1) := by decide +kernel
theorem dc12_spotOf_4 : decode prog_14_method_28_code 4 = .ok (.invokevirtual 103, 3) := by decide +kernel
theorem dc12_spotOf_7 : decode prog_14_method_28_code 7 = .ok (.if_icmp .ge 20, 3) := by decide +kernel
theorem dc12_spotOf_10 : decode prog_14_method_28_code 10 = .ok (.aload_n 0, 1) := by decide +kernel
theorem dc12_spotOf_11 : decode prog_14_method_28_code 11 = .ok (.iload_n 2, 1) := by decide +kernel
theorem dc12_spotOf_12 : decode prog_14_method_28_code 12 = .ok (.invokevirtual 109, 3) := by decide +kernel
theorem dc12_spotOf_15 : decode prog_14_method_28_code 15 = .ok (.iload_n 1, 1) := by decide +kernel
theorem dc12_spotOf_16 : decode prog_14_method_28_code 16 = .ok (.if_icmp .ne 5, 3) := by decide +kernel
theorem dc12_spotOf_19 : decode prog_14_method_28_code 19 = .ok (.iload_n 2, 1) := by decide +kernel
theorem dc12_spotOf_20 : decode prog_14_method_28_code 20 = .ok (.ireturn, 1) := by decide +kernel
theorem dc12_spotOf_21 : decode prog_14_method_28_code 21 = .ok (.iinc 2 1, 3) := by decide +kernel
theorem dc12_spotOf_24 : decode prog_14_method_28_code 24 = .ok (.goto (-22), 3) := by decide +kernel
theorem dc12_spotOf_27 : decode prog_14_method_28_code 27 = .ok (.iconst (-1), 1) := by decide +kernel
theorem dc12_spotOf_28 : decode prog_14_method_28_code 28 = .ok (.ireturn, 1) := by decide +kernel
theorem dc12_has_0 : decode prog_14_method_4_code 0 = .ok (.iload_n 0, 1) := by decide +kernel
theorem dc12_has_1 : decode prog_14_method_4_code 1 = .ok (.iload_n 1, 1) := by decide +kernel
theorem dc12_has_2 : decode prog_14_method_4_code 2 = .ok (.ishr, 1) := by decide +kernel
theorem dc12_has_3 : decode prog_14_method_4_code 3 = .ok (.iconst 1, 1) := by decide +kernel
theorem dc12_has_4 : decode prog_14_method_4_code 4 = .ok (.iand, 1) := by decide +kernel
theorem dc12_has_5 : decode prog_14_method_4_code 5 = .ok (.iconst 1, 1) := by decide +kernel
theorem dc12_has_6 : decode prog_14_method_4_code 6 = .ok (.if_icmp .ne 7, 3) := by decide +kernel
theorem dc12_has_9 : decode prog_14_method_4_code 9 = .ok (.iconst 1, 1) := by decide +kernel
theorem dc12_has_10 : decode prog_14_method_4_code 10 = .ok (.goto 4, 3) := by decide +kernel
theorem dc12_has_13 : decode prog_14_method_4_code 13 = .ok (.iconst 0, 1) := by decide +kernel
theorem dc12_has_14 : decode prog_14_method_4_code 14 = .ok (.ireturn, 1) := by decide +kernel
theorem dc12_leastOf_0 : decode prog_14_method_31_code 0 = .ok (.iload_n 0, 1) := by decide +kernel
theorem dc12_leastOf_1 : decode prog_14_method_31_code 1 = .ok (.bipush 115, 2) := by decide +kernel
theorem dc12_leastOf_3 : decode prog_14_method_31_code 3 = .ok (.if_icmp .ne 12, 3) := by decide +kernel
theorem dc12_leastOf_6 : decode prog_14_method_31_code 6 = .ok (.iload_n 1, 1) := by decide +kernel
theorem dc12_leastOf_7 : decode prog_14_method_31_code 7 = .ok (.iconst 1, 1) := by decide +kernel
theorem dc12_leastOf_8 : decode prog_14_method_31_code 8 = .ok (.if_icmp .ne 7, 3) := by decide +kernel
theorem dc12_leastOf_11 : decode prog_14_method_31_code 11 = .ok (.iconst 1, 1) := by decide +kernel
theorem dc12_leastOf_12 : decode prog_14_method_31_code 12 = .ok (.goto 4, 3) := by decide +kernel
theorem dc12_leastOf_15 : decode prog_14_method_31_code 15 = .ok (.iconst 0, 1) := by decide +kernel
theorem dc12_leastOf_16 : decode prog_14_method_31_code 16 = .ok (.ireturn, 1) := by decide +kernel
theorem dc12_mostOf_0 : decode prog_14_method_30_code 0 = .ok (.iload_n 0, 1) := by decide +kernel
theorem dc12_mostOf_1 : decode prog_14_method_30_code 1 = .ok (.bipush 115, 2) := by decide +kernel
theorem dc12_mostOf_3 : decode prog_14_method_30_code 3 = .ok (.if_icmp .ne 25, 3) := by decide +kernel
theorem dc12_mostOf_6 : decode prog_14_method_30_code 6 = .ok (.iload_n 1, 1) := by decide +kernel
theorem dc12_mostOf_7 : decode prog_14_method_30_code 7 = .ok (.ifCond .ne 8, 3) := by decide +kernel
theorem dc12_mostOf_10 : decode prog_14_method_30_code 10 = .ok (.bipush 9, 2) := by decide +kernel
theorem dc12_mostOf_12 : decode prog_14_method_30_code 12 = .ok (.goto 15, 3) := by decide +kernel
theorem dc12_mostOf_15 : decode prog_14_method_30_code 15 = .ok (.iload_n 1, 1) := by decide +kernel
theorem dc12_mostOf_16 : decode prog_14_method_30_code 16 = .ok (.iconst 1, 1) := by decide +kernel
theorem dc12_mostOf_17 : decode prog_14_method_30_code 17 = .ok (.if_icmp .ne 8, 3) := by decide +kernel
theorem dc12_mostOf_20 : decode prog_14_method_30_code 20 = .ok (.bipush 99, 2) := by decide +kernel
theorem dc12_mostOf_22 : decode prog_14_method_30_code 22 = .ok (.goto 5, 3) := by decide +kernel
theorem dc12_mostOf_25 : decode prog_14_method_30_code 25 = .ok (.bipush 30, 2) := by decide +kernel
theorem dc12_mostOf_27 : decode prog_14_method_30_code 27 = .ok (.ireturn, 1) := by decide +kernel
theorem dc12_mostOf_28 : decode prog_14_method_30_code 28 = .ok (.iload_n 1, 1) := by decide +kernel
theorem dc12_mostOf_29 : decode prog_14_method_30_code 29 = .ok (.iconst 1, 1) := by decide +kernel
theorem dc12_mostOf_30 : decode prog_14_method_30_code 30 = .ok (.if_icmp .ne 8, 3) := by decide +kernel
theorem dc12_mostOf_33 : decode prog_14_method_30_code 33 = .ok (.bipush 20, 2) := by decide +kernel
theorem dc12_mostOf_35 : decode prog_14_method_30_code 35 = .ok (.goto 25, 3) := by decide +kernel
theorem dc12_mostOf_38 : decode prog_14_method_30_code 38 = .ok (.iload_n 1, 1) := by decide +kernel
theorem dc12_mostOf_39 : decode prog_14_method_30_code 39 = .ok (.iconst 2, 1) := by decide +kernel
theorem dc12_mostOf_40 : decode prog_14_method_30_code 40 = .ok (.if_icmp .ne 8, 3) := by decide +kernel
theorem dc12_mostOf_43 : decode prog_14_method_30_code 43 = .ok (.bipush 30, 2) := by decide +kernel
theorem dc12_mostOf_45 : decode prog_14_method_30_code 45 = .ok (.goto 15, 3) := by decide +kernel
theorem dc12_mostOf_48 : decode prog_14_method_30_code 48 = .ok (.iload_n 1, 1) := by decide +kernel
theorem dc12_mostOf_49 : decode prog_14_method_30_code 49 = .ok (.iconst 3, 1) := by decide +kernel
theorem dc12_mostOf_50 : decode prog_14_method_30_code 50 = .ok (.if_icmp .ne 8, 3) := by decide +kernel
theorem dc12_mostOf_53 : decode prog_14_method_30_code 53 = .ok (.bipush 9, 2) := by decide +kernel
theorem dc12_mostOf_55 : decode prog_14_method_30_code 55 = .ok (.goto 5, 3) := by decide +kernel
theorem dc12_mostOf_58 : decode prog_14_method_30_code 58 = .ok (.bipush 99, 2) := by decide +kernel
theorem dc12_mostOf_60 : decode prog_14_method_30_code 60 = .ok (.ireturn, 1) := by decide +kernel
theorem dc12_number_0 : decode prog_14_method_29_code 0 = .ok (.aload_n 0, 1) := by decide +kernel
theorem dc12_number_1 : decode prog_14_method_29_code 1 = .ok (.invokevirtual 142, 3) := by decide +kernel
theorem dc12_number_4 : decode prog_14_method_29_code 4 = .ok (.istore_n 3, 1) := by decide +kernel
theorem dc12_number_5 : decode prog_14_method_29_code 5 = .ok (.aload_n 0, 1) := by decide +kernel
theorem dc12_number_6 : decode prog_14_method_29_code 6 = .ok (.invokevirtual 172, 3) := by decide +kernel
theorem dc12_number_9 : decode prog_14_method_29_code 9 = .ok (.ifCond .ne 10, 3) := by decide +kernel
theorem dc12_number_12 : decode prog_14_method_29_code 12 = .ok (.aload_n 0, 1) := by decide +kernel
theorem dc12_number_13 : decode prog_14_method_29_code 13 = .ok (.invokevirtual 138, 3) := by decide +kernel
theorem dc12_number_16 : decode prog_14_method_29_code 16 = .ok (.pop, 1) := by decide +kernel
theorem dc12_number_17 : decode prog_14_method_29_code 17 = .ok (.iconst 0, 1) := by decide +kernel
theorem dc12_number_18 : decode prog_14_method_29_code 18 = .ok (.ireturn, 1) := by decide +kernel
theorem dc12_number_19 : decode prog_14_method_29_code 19 = .ok (.iload_n 3, 1) := by decide +kernel
theorem dc12_number_20 : decode prog_14_method_29_code 20 = .ok (.bipush 48, 2) := by decide +kernel
theorem dc12_number_22 : decode prog_14_method_29_code 22 = .ok (.isub, 1) := by decide +kernel
theorem dc12_number_23 : decode prog_14_method_29_code 23 = .ok (.istore 4, 2) := by decide +kernel
theorem dc12_number_25 : decode prog_14_method_29_code 25 = .ok (.aload_n 0, 1) := by decide +kernel
theorem dc12_number_26 : decode prog_14_method_29_code 26 = .ok (.dup, 1) := by decide +kernel
theorem dc12_number_27 : decode prog_14_method_29_code 27 = .ok (.getfield 123, 3) := by decide +kernel
theorem dc12_number_30 : decode prog_14_method_29_code 30 = .ok (.iconst 1, 1) := by decide +kernel
theorem dc12_number_31 : decode prog_14_method_29_code 31 = .ok (.iadd, 1) := by decide +kernel
theorem dc12_number_32 : decode prog_14_method_29_code 32 = .ok (.putfield 123, 3) := by decide +kernel
theorem dc12_number_35 : decode prog_14_method_29_code 35 = .ok (.aload_n 0, 1) := by decide +kernel
theorem dc12_number_36 : decode prog_14_method_29_code 36 = .ok (.invokevirtual 172, 3) := by decide +kernel
theorem dc12_number_39 : decode prog_14_method_29_code 39 = .ok (.ifCond .eq 28, 3) := by decide +kernel
theorem dc12_number_42 : decode prog_14_method_29_code 42 = .ok (.bipush 10, 2) := by decide +kernel
theorem dc12_number_44 : decode prog_14_method_29_code 44 = .ok (.iload 4, 2) := by decide +kernel
theorem dc12_number_46 : decode prog_14_method_29_code 46 = .ok (.imul, 1) := by decide +kernel
theorem dc12_number_47 : decode prog_14_method_29_code 47 = .ok (.aload_n 0, 1) := by decide +kernel
theorem dc12_number_48 : decode prog_14_method_29_code 48 = .ok (.invokevirtual 218, 3) := by decide +kernel
theorem dc12_number_51 : decode prog_14_method_29_code 51 = .ok (.iadd, 1) := by decide +kernel
theorem dc12_number_52 : decode prog_14_method_29_code 52 = .ok (.bipush 48, 2) := by decide +kernel
theorem dc12_number_54 : decode prog_14_method_29_code 54 = .ok (.isub, 1) := by decide +kernel
theorem dc12_number_55 : decode prog_14_method_29_code 55 = .ok (.istore 4, 2) := by decide +kernel
theorem dc12_number_57 : decode prog_14_method_29_code 57 = .ok (.aload_n 0, 1) := by decide +kernel
theorem dc12_number_58 : decode prog_14_method_29_code 58 = .ok (.dup, 1) := by decide +kernel
theorem dc12_number_59 : decode prog_14_method_29_code 59 = .ok (.getfield 123, 3) := by decide +kernel
theorem dc12_number_62 : decode prog_14_method_29_code 62 = .ok (.iconst 1, 1) := by decide +kernel
theorem dc12_number_63 : decode prog_14_method_29_code 63 = .ok (.iadd, 1) := by decide +kernel
theorem dc12_number_64 : decode prog_14_method_29_code 64 = .ok (.putfield 123, 3) := by decide +kernel
theorem dc12_number_67 : decode prog_14_method_29_code 67 = .ok (.aload_n 0, 1) := by decide +kernel
theorem dc12_number_68 : decode prog_14_method_29_code 68 = .ok (.invokevirtual 172, 3) := by decide +kernel
theorem dc12_number_71 : decode prog_14_method_29_code 71 = .ok (.ifCond .eq 10, 3) := by decide +kernel
theorem dc12_number_74 : decode prog_14_method_29_code 74 = .ok (.aload_n 0, 1) := by decide +kernel
theorem dc12_number_75 : decode prog_14_method_29_code 75 = .ok (.invokevirtual 138, 3) := by decide +kernel
theorem dc12_number_78 : decode prog_14_method_29_code 78 = .ok (.pop, 1) := by decide +kernel
theorem dc12_number_79 : decode prog_14_method_29_code 79 = .ok (.iconst 0, 1) := by decide +kernel
theorem dc12_number_80 : decode prog_14_method_29_code 80 = .ok (.ireturn, 1) := by decide +kernel
theorem dc12_number_81 : decode prog_14_method_29_code 81 = .ok (.iload 4, 2) := by decide +kernel
theorem dc12_number_83 : decode prog_14_method_29_code 83 = .ok (.i2l, 1) := by decide +kernel
theorem dc12_number_84 : decode prog_14_method_29_code 84 = .ok (.iload_n 1, 1) := by decide +kernel
theorem dc12_number_85 : decode prog_14_method_29_code 85 = .ok (.i2l, 1) := by decide +kernel
theorem dc12_number_86 : decode prog_14_method_29_code 86 = .ok (.iload_n 2, 1) := by decide +kernel
theorem dc12_number_87 : decode prog_14_method_29_code 87 = .ok (.i2l, 1) := by decide +kernel
theorem dc12_number_88 : decode prog_14_method_29_code 88 = .ok (.invokestatic 221, 3) := by decide +kernel
theorem dc12_number_91 : decode prog_14_method_29_code 91 = .ok (.ifCond .ne 18, 3) := by decide +kernel
theorem dc12_number_94 : decode prog_14_method_29_code 94 = .ok (.aload_n 0, 1) := by decide +kernel
theorem dc12_number_95 : decode prog_14_method_29_code 95 = .ok (.dup, 1) := by decide +kernel
theorem dc12_number_96 : decode prog_14_method_29_code 96 = .ok (.getfield 123, 3) := by decide +kernel
theorem dc12_number_99 : decode prog_14_method_29_code 99 = .ok (.iconst 1, 1) := by decide +kernel
theorem dc12_number_100 : decode prog_14_method_29_code 100 = .ok (.isub, 1) := by decide +kernel
theorem dc12_number_101 : decode prog_14_method_29_code 101 = .ok (.putfield 123, 3) := by decide +kernel
theorem dc12_number_104 : decode prog_14_method_29_code 104 = .ok (.aload_n 0, 1) := by decide +kernel
theorem dc12_number_105 : decode prog_14_method_29_code 105 = .ok (.invokevirtual 138, 3) := by decide +kernel
theorem dc12_number_108 : decode prog_14_method_29_code 108 = .ok (.pop, 1) := by decide +kernel
theorem dc12_number_109 : decode prog_14_method_29_code 109 = .ok (.iload 4, 2) := by decide +kernel
theorem dc12_number_111 : decode prog_14_method_29_code 111 = .ok (.ireturn, 1) := by decide +kernel
theorem dc12_isDigit_0 : decode prog_14_method_14_code 0 = .ok (.aload_n 0, 1) := by decide +kernel
theorem dc12_isDigit_1 : decode prog_14_method_14_code 1 = .ok (.getfield 123, 3) := by decide +kernel
theorem dc12_isDigit_4 : decode prog_14_method_14_code 4 = .ok (.aload_n 0, 1) := by decide +kernel
theorem dc12_isDigit_5 : decode prog_14_method_14_code 5 = .ok (.getfield 126, 3) := by decide +kernel
theorem dc12_isDigit_8 : decode prog_14_method_14_code 8 = .ok (.if_icmp .ge 45, 3) := by decide +kernel
theorem dc12_isDigit_11 : decode prog_14_method_14_code 11 = .ok (.aload_n 0, 1) := by decide +kernel
theorem dc12_isDigit_12 : decode prog_14_method_14_code 12 = .ok (.getfield 23, 3) := by decide +kernel
theorem dc12_isDigit_15 : decode prog_14_method_14_code 15 = .ok (.aload_n 0, 1) := by decide +kernel
theorem dc12_isDigit_16 : decode prog_14_method_14_code 16 = .ok (.getfield 129, 3) := by decide +kernel
theorem dc12_isDigit_19 : decode prog_14_method_14_code 19 = .ok (.aload_n 0, 1) := by decide +kernel
theorem dc12_isDigit_20 : decode prog_14_method_14_code 20 = .ok (.getfield 123, 3) := by decide +kernel
theorem dc12_isDigit_23 : decode prog_14_method_14_code 23 = .ok (.iadd, 1) := by decide +kernel
theorem dc12_isDigit_24 : decode prog_14_method_14_code 24 = .ok (.baload, 1) := by decide +kernel
theorem dc12_isDigit_25 : decode prog_14_method_14_code 25 = .ok (.bipush 48, 2) := by decide +kernel
theorem dc12_isDigit_27 : decode prog_14_method_14_code 27 = .ok (.if_icmp .lt 26, 3) := by decide +kernel
theorem dc12_isDigit_30 : decode prog_14_method_14_code 30 = .ok (.aload_n 0, 1) := by decide +kernel
theorem dc12_isDigit_31 : decode prog_14_method_14_code 31 = .ok (.getfield 23, 3) := by decide +kernel
theorem dc12_isDigit_34 : decode prog_14_method_14_code 34 = .ok (.aload_n 0, 1) := by decide +kernel
theorem dc12_isDigit_35 : decode prog_14_method_14_code 35 = .ok (.getfield 129, 3) := by decide +kernel
theorem dc12_isDigit_38 : decode prog_14_method_14_code 38 = .ok (.aload_n 0, 1) := by decide +kernel
theorem dc12_isDigit_39 : decode prog_14_method_14_code 39 = .ok (.getfield 123, 3) := by decide +kernel
theorem dc12_isDigit_42 : decode prog_14_method_14_code 42 = .ok (.iadd, 1) := by decide +kernel
theorem dc12_isDigit_43 : decode prog_14_method_14_code 43 = .ok (.baload, 1) := by decide +kernel
theorem dc12_isDigit_44 : decode prog_14_method_14_code 44 = .ok (.bipush 57, 2) := by decide +kernel
theorem dc12_isDigit_46 : decode prog_14_method_14_code 46 = .ok (.if_icmp .gt 7, 3) := by decide +kernel
theorem dc12_isDigit_49 : decode prog_14_method_14_code 49 = .ok (.iconst 1, 1) := by decide +kernel
theorem dc12_isDigit_50 : decode prog_14_method_14_code 50 = .ok (.goto 4, 3) := by decide +kernel
theorem dc12_isDigit_53 : decode prog_14_method_14_code 53 = .ok (.iconst 0, 1) := by decide +kernel
theorem dc12_isDigit_54 : decode prog_14_method_14_code 54 = .ok (.ireturn, 1) := by decide +kernel
theorem dc12_here_0 : decode prog_14_method_27_code 0 = .ok (.aload_n 0, 1) := by decide +kernel
theorem dc12_here_1 : decode prog_14_method_27_code 1 = .ok (.getfield 123, 3) := by decide +kernel
theorem dc12_here_4 : decode prog_14_method_27_code 4 = .ok (.aload_n 0, 1) := by decide +kernel
theorem dc12_here_5 : decode prog_14_method_27_code 5 = .ok (.getfield 126, 3) := by decide +kernel
theorem dc12_here_8 : decode prog_14_method_27_code 8 = .ok (.if_icmp .ge 24, 3) := by decide +kernel
theorem dc12_here_11 : decode prog_14_method_27_code 11 = .ok (.aload_n 0, 1) := by decide +kernel
theorem dc12_here_12 : decode prog_14_method_27_code 12 = .ok (.getfield 23, 3) := by decide +kernel
theorem dc12_here_15 : decode prog_14_method_27_code 15 = .ok (.aload_n 0, 1) := by decide +kernel
theorem dc12_here_16 : decode prog_14_method_27_code 16 = .ok (.getfield 129, 3) := by decide +kernel
theorem dc12_here_19 : decode prog_14_method_27_code 19 = .ok (.aload_n 0, 1) := by decide +kernel
theorem dc12_here_20 : decode prog_14_method_27_code 20 = .ok (.getfield 123, 3) := by decide +kernel
theorem dc12_here_23 : decode prog_14_method_27_code 23 = .ok (.iadd, 1) := by decide +kernel
theorem dc12_here_24 : decode prog_14_method_27_code 24 = .ok (.baload, 1) := by decide +kernel
theorem dc12_here_25 : decode prog_14_method_27_code 25 = .ok (.sipush 255, 3) := by decide +kernel
theorem dc12_here_28 : decode prog_14_method_27_code 28 = .ok (.iand, 1) := by decide +kernel
theorem dc12_here_29 : decode prog_14_method_27_code 29 = .ok (.goto 4, 3) := by decide +kernel
theorem dc12_here_32 : decode prog_14_method_27_code 32 = .ok (.iconst (-1), 1) := by decide +kernel
theorem dc12_here_33 : decode prog_14_method_27_code 33 = .ok (.ireturn, 1) := by decide +kernel
theorem dc12_goThrough_0 : decode prog_14_method_26_code 0 = .ok (.aload_n 0, 1) := by decide +kernel
theorem dc12_goThrough_1 : decode prog_14_method_26_code 1 = .ok (.aload_n 1, 1) := by decide +kernel
theorem dc12_goThrough_2 : decode prog_14_method_26_code 2 = .ok (.iload_n 2, 1) := by decide +kernel
theorem dc12_goThrough_3 : decode prog_14_method_26_code 3 = .ok (.iload_n 3, 1) := by decide +kernel
theorem dc12_goThrough_4 : decode prog_14_method_26_code 4 = .ok (.invokevirtual 211, 3) := by decide +kernel
theorem dc12_goThrough_7 : decode prog_14_method_26_code 7 = .ok (.aload_n 0, 1) := by decide +kernel
theorem dc12_goThrough_8 : decode prog_14_method_26_code 8 = .ok (.bipush 121, 2) := by decide +kernel
theorem dc12_goThrough_10 : decode prog_14_method_26_code 10 = .ok (.putfield 205, 3) := by decide +kernel
theorem dc12_goThrough_13 : decode prog_14_method_26_code 13 = .ok (.aload_n 0, 1) := by decide +kernel
theorem dc12_goThrough_14 : decode prog_14_method_26_code 14 = .ok (.iconst 0, 1) := by decide +kernel
theorem dc12_goThrough_15 : decode prog_14_method_26_code 15 = .ok (.putfield 135, 3) := by decide +kernel
theorem dc12_goThrough_18 : decode prog_14_method_26_code 18 = .ok (.aload_n 0, 1) := by decide +kernel
theorem dc12_goThrough_19 : decode prog_14_method_26_code 19 = .ok (.iconst 0, 1) := by decide +kernel
theorem dc12_goThrough_20 : decode prog_14_method_26_code 20 = .ok (.putfield 201, 3) := by decide +kernel
theorem dc12_goThrough_23 : decode prog_14_method_26_code 23 = .ok (.aload_n 0, 1) := by decide +kernel
theorem dc12_goThrough_24 : decode prog_14_method_26_code 24 = .ok (.iconst 0, 1) := by decide +kernel
theorem dc12_goThrough_25 : decode prog_14_method_26_code 25 = .ok (.putfield 208, 3) := by decide +kernel
theorem dc12_goThrough_28 : decode prog_14_method_26_code 28 = .ok (.aload_n 0, 1) := by decide +kernel
theorem dc12_goThrough_29 : decode prog_14_method_26_code 29 = .ok (.invokevirtual 215, 3) := by decide +kernel
theorem dc12_goThrough_32 : decode prog_14_method_26_code 32 = .ok (.aload_n 0, 1) := by decide +kernel
theorem dc12_goThrough_33 : decode prog_14_method_26_code 33 = .ok (.getfield 132, 3) := by decide +kernel
theorem dc12_goThrough_36 : decode prog_14_method_26_code 36 = .ok (.iconst (-1), 1) := by decide +kernel
theorem dc12_goThrough_37 : decode prog_14_method_26_code 37 = .ok (.if_icmp .ne 29, 3) := by decide +kernel
theorem dc12_goThrough_40 : decode prog_14_method_26_code 40 = .ok (.aload_n 0, 1) := by decide +kernel
theorem dc12_goThrough_41 : decode prog_14_method_26_code 41 = .ok (.invokevirtual 142, 3) := by decide +kernel
theorem dc12_goThrough_44 : decode prog_14_method_26_code 44 = .ok (.bipush 59, 2) := by decide +kernel
theorem dc12_goThrough_46 : decode prog_14_method_26_code 46 = .ok (.if_icmp .ne 20, 3) := by decide +kernel
theorem dc12_goThrough_49 : decode prog_14_method_26_code 49 = .ok (.aload_n 0, 1) := by decide +kernel
theorem dc12_goThrough_50 : decode prog_14_method_26_code 50 = .ok (.dup, 1) := by decide +kernel
theorem dc12_goThrough_51 : decode prog_14_method_26_code 51 = .ok (.getfield 123, 3) := by decide +kernel
theorem dc12_goThrough_54 : decode prog_14_method_26_code 54 = .ok (.iconst 1, 1) := by decide +kernel
theorem dc12_goThrough_55 : decode prog_14_method_26_code 55 = .ok (.iadd, 1) := by decide +kernel
theorem dc12_goThrough_56 : decode prog_14_method_26_code 56 = .ok (.putfield 123, 3) := by decide +kernel
theorem dc12_goThrough_59 : decode prog_14_method_26_code 59 = .ok (.aload_n 0, 1) := by decide +kernel
theorem dc12_goThrough_60 : decode prog_14_method_26_code 60 = .ok (.invokevirtual 215, 3) := by decide +kernel
theorem dc12_goThrough_63 : decode prog_14_method_26_code 63 = .ok (.goto (-31), 3) := by decide +kernel
theorem dc12_goThrough_66 : decode prog_14_method_26_code 66 = .ok (.aload_n 0, 1) := by decide +kernel
theorem dc12_goThrough_67 : decode prog_14_method_26_code 67 = .ok (.getfield 132, 3) := by decide +kernel
theorem dc12_goThrough_70 : decode prog_14_method_26_code 70 = .ok (.iconst (-1), 1) := by decide +kernel
theorem dc12_goThrough_71 : decode prog_14_method_26_code 71 = .ok (.if_icmp .ne 16, 3) := by decide +kernel
theorem dc12_goThrough_74 : decode prog_14_method_26_code 74 = .ok (.aload_n 0, 1) := by decide +kernel
theorem dc12_goThrough_75 : decode prog_14_method_26_code 75 = .ok (.invokevirtual 142, 3) := by decide +kernel
theorem dc12_goThrough_78 : decode prog_14_method_26_code 78 = .ok (.iconst (-1), 1) := by decide +kernel
theorem dc12_goThrough_79 : decode prog_14_method_26_code 79 = .ok (.if_icmp .eq 8, 3) := by decide +kernel
theorem dc12_goThrough_82 : decode prog_14_method_26_code 82 = .ok (.aload_n 0, 1) := by decide +kernel
theorem dc12_goThrough_83 : decode prog_14_method_26_code 83 = .ok (.invokevirtual 138, 3) := by decide +kernel
theorem dc12_goThrough_86 : decode prog_14_method_26_code 86 = .ok (.pop, 1) := by decide +kernel
theorem dc12_goThrough_87 : decode prog_14_method_26_code 87 = .ok (.return_, 1) := by decide +kernel
theorem dc12_clause_0 : decode prog_14_method_24_code 0 = .ok (.aload_n 0, 1) := by decide +kernel
theorem dc12_clause_1 : decode prog_14_method_24_code 1 = .ok (.invokevirtual 142, 3) := by decide +kernel
theorem dc12_clause_4 : decode prog_14_method_24_code 4 = .ok (.istore_n 1, 1) := by decide +kernel
theorem dc12_clause_5 : decode prog_14_method_24_code 5 = .ok (.ldc 26, 2) := by decide +kernel
theorem dc12_clause_7 : decode prog_14_method_24_code 7 = .ok (.iload_n 1, 1) := by decide +kernel
theorem dc12_clause_8 : decode prog_14_method_24_code 8 = .ok (.invokestatic 158, 3) := by decide +kernel
theorem dc12_clause_11 : decode prog_14_method_24_code 11 = .ok (.ifCond .ne 9, 3) := by decide +kernel
theorem dc12_clause_14 : decode prog_14_method_24_code 14 = .ok (.aload_n 0, 1) := by decide +kernel
theorem dc12_clause_15 : decode prog_14_method_24_code 15 = .ok (.invokevirtual 138, 3) := by decide +kernel
theorem dc12_clause_18 : decode prog_14_method_24_code 18 = .ok (.pop, 1) := by decide +kernel
theorem dc12_clause_19 : decode prog_14_method_24_code 19 = .ok (.return_, 1) := by decide +kernel
theorem dc12_clause_20 : decode prog_14_method_24_code 20 = .ok (.aload_n 0, 1) := by decide +kernel
theorem dc12_clause_21 : decode prog_14_method_24_code 21 = .ok (.dup, 1) := by decide +kernel
theorem dc12_clause_22 : decode prog_14_method_24_code 22 = .ok (.getfield 123, 3) := by decide +kernel
theorem dc12_clause_25 : decode prog_14_method_24_code 25 = .ok (.iconst 1, 1) := by decide +kernel
theorem dc12_clause_26 : decode prog_14_method_24_code 26 = .ok (.iadd, 1) := by decide +kernel
theorem dc12_clause_27 : decode prog_14_method_24_code 27 = .ok (.putfield 123, 3) := by decide +kernel
theorem dc12_clause_30 : decode prog_14_method_24_code 30 = .ok (.aload_n 0, 1) := by decide +kernel
theorem dc12_clause_31 : decode prog_14_method_24_code 31 = .ok (.bipush 58, 2) := by decide +kernel
theorem dc12_clause_33 : decode prog_14_method_24_code 33 = .ok (.invokevirtual 168, 3) := by decide +kernel
theorem dc12_clause_36 : decode prog_14_method_24_code 36 = .ok (.ifCond .ne 4, 3) := by decide +kernel
theorem dc12_clause_39 : decode prog_14_method_24_code 39 = .ok (.return_, 1) := by decide +kernel
theorem dc12_clause_40 : decode prog_14_method_24_code 40 = .ok (.iconst 1, 1) := by decide +kernel
theorem dc12_clause_41 : decode prog_14_method_24_code 41 = .ok (.istore_n 2, 1) := by decide +kernel
theorem dc12_clause_42 : decode prog_14_method_24_code 42 = .ok (.iconst 0, 1) := by decide +kernel
theorem dc12_clause_43 : decode prog_14_method_24_code 43 = .ok (.istore_n 3, 1) := by decide +kernel
theorem dc12_clause_44 : decode prog_14_method_24_code 44 = .ok (.aload_n 0, 1) := by decide +kernel
theorem dc12_clause_45 : decode prog_14_method_24_code 45 = .ok (.invokevirtual 142, 3) := by decide +kernel
theorem dc12_clause_48 : decode prog_14_method_24_code 48 = .ok (.istore 4, 2) := by decide +kernel
theorem dc12_clause_50 : decode prog_14_method_24_code 50 = .ok (.iload 4, 2) := by decide +kernel
theorem dc12_clause_52 : decode prog_14_method_24_code 52 = .ok (.bipush 33, 2) := by decide +kernel
theorem dc12_clause_54 : decode prog_14_method_24_code 54 = .ok (.if_icmp .eq 10, 3) := by decide +kernel
theorem dc12_clause_57 : decode prog_14_method_24_code 57 = .ok (.iload 4, 2) := by decide +kernel
theorem dc12_clause_59 : decode prog_14_method_24_code 59 = .ok (.bipush 40, 2) := by decide +kernel
theorem dc12_clause_61 : decode prog_14_method_24_code 61 = .ok (.if_icmp .ne 28, 3) := by decide +kernel
theorem dc12_clause_64 : decode prog_14_method_24_code 64 = .ok (.aload_n 0, 1) := by decide +kernel
theorem dc12_clause_65 : decode prog_14_method_24_code 65 = .ok (.iconst 0, 1) := by decide +kernel
theorem dc12_clause_66 : decode prog_14_method_24_code 66 = .ok (.iconst 0, 1) := by decide +kernel
theorem dc12_clause_67 : decode prog_14_method_24_code 67 = .ok (.invokevirtual 191, 3) := by decide +kernel
theorem dc12_clause_70 : decode prog_14_method_24_code 70 = .ok (.istore_n 2, 1) := by decide +kernel
theorem dc12_clause_71 : decode prog_14_method_24_code 71 = .ok (.aload_n 0, 1) := by decide +kernel
theorem dc12_clause_72 : decode prog_14_method_24_code 72 = .ok (.bipush 63, 2) := by decide +kernel
theorem dc12_clause_74 : decode prog_14_method_24_code 74 = .ok (.invokevirtual 168, 3) := by decide +kernel
theorem dc12_clause_77 : decode prog_14_method_24_code 77 = .ok (.ifCond .ne 4, 3) := by decide +kernel
theorem dc12_clause_80 : decode prog_14_method_24_code 80 = .ok (.return_, 1) := by decide +kernel
theorem dc12_clause_81 : decode prog_14_method_24_code 81 = .ok (.aload_n 0, 1) := by decide +kernel
theorem dc12_clause_82 : decode prog_14_method_24_code 82 = .ok (.invokevirtual 165, 3) := by decide +kernel
theorem dc12_clause_85 : decode prog_14_method_24_code 85 = .ok (.istore_n 3, 1) := by decide +kernel
theorem dc12_clause_86 : decode prog_14_method_24_code 86 = .ok (.goto 48, 3) := by decide +kernel
theorem dc12_clause_89 : decode prog_14_method_24_code 89 = .ok (.aload_n 0, 1) := by decide +kernel
theorem dc12_clause_90 : decode prog_14_method_24_code 90 = .ok (.invokevirtual 165, 3) := by decide +kernel
theorem dc12_clause_93 : decode prog_14_method_24_code 93 = .ok (.istore_n 3, 1) := by decide +kernel
theorem dc12_clause_94 : decode prog_14_method_24_code 94 = .ok (.aload_n 0, 1) := by decide +kernel
theorem dc12_clause_95 : decode prog_14_method_24_code 95 = .ok (.getfield 132, 3) := by decide +kernel
theorem dc12_clause_98 : decode prog_14_method_24_code 98 = .ok (.iconst (-1), 1) := by decide +kernel
theorem dc12_clause_99 : decode prog_14_method_24_code 99 = .ok (.if_icmp .ne 35, 3) := by decide +kernel
theorem dc12_clause_102 : decode prog_14_method_24_code 102 = .ok (.aload_n 0, 1) := by decide +kernel
theorem dc12_clause_103 : decode prog_14_method_24_code 103 = .ok (.invokevirtual 142, 3) := by decide +kernel
theorem dc12_clause_106 : decode prog_14_method_24_code 106 = .ok (.invokestatic 185, 3) := by decide +kernel
theorem dc12_clause_109 : decode prog_14_method_24_code 109 = .ok (.ifCond .eq 25, 3) := by decide +kernel
theorem dc12_clause_112 : decode prog_14_method_24_code 112 = .ok (.aload_n 0, 1) := by decide +kernel
theorem dc12_clause_113 : decode prog_14_method_24_code 113 = .ok (.iconst 1, 1) := by decide +kernel
theorem dc12_clause_114 : decode prog_14_method_24_code 114 = .ok (.iload_n 3, 1) := by decide +kernel
theorem dc12_clause_115 : decode prog_14_method_24_code 115 = .ok (.invokevirtual 191, 3) := by decide +kernel
theorem dc12_clause_118 : decode prog_14_method_24_code 118 = .ok (.istore_n 2, 1) := by decide +kernel
theorem dc12_clause_119 : decode prog_14_method_24_code 119 = .ok (.aload_n 0, 1) := by decide +kernel
theorem dc12_clause_120 : decode prog_14_method_24_code 120 = .ok (.bipush 63, 2) := by decide +kernel
theorem dc12_clause_122 : decode prog_14_method_24_code 122 = .ok (.invokevirtual 168, 3) := by decide +kernel
theorem dc12_clause_125 : decode prog_14_method_24_code 125 = .ok (.ifCond .ne 4, 3) := by decide +kernel
theorem dc12_clause_128 : decode prog_14_method_24_code 128 = .ok (.return_, 1) := by decide +kernel
theorem dc12_clause_129 : decode prog_14_method_24_code 129 = .ok (.aload_n 0, 1) := by decide +kernel
theorem dc12_clause_130 : decode prog_14_method_24_code 130 = .ok (.invokevirtual 165, 3) := by decide +kernel
theorem dc12_clause_133 : decode prog_14_method_24_code 133 = .ok (.istore_n 3, 1) := by decide +kernel
theorem dc12_clause_134 : decode prog_14_method_24_code 134 = .ok (.aload_n 0, 1) := by decide +kernel
theorem dc12_clause_135 : decode prog_14_method_24_code 135 = .ok (.getfield 132, 3) := by decide +kernel
theorem dc12_clause_138 : decode prog_14_method_24_code 138 = .ok (.iconst (-1), 1) := by decide +kernel
theorem dc12_clause_139 : decode prog_14_method_24_code 139 = .ok (.if_icmp .ne 22, 3) := by decide +kernel
theorem dc12_clause_142 : decode prog_14_method_24_code 142 = .ok (.aload_n 0, 1) := by decide +kernel
theorem dc12_clause_143 : decode prog_14_method_24_code 143 = .ok (.getfield 201, 3) := by decide +kernel
theorem dc12_clause_146 : decode prog_14_method_24_code 146 = .ok (.ifCond .ne 15, 3) := by decide +kernel
theorem dc12_clause_149 : decode prog_14_method_24_code 149 = .ok (.iload_n 1, 1) := by decide +kernel
theorem dc12_clause_150 : decode prog_14_method_24_code 150 = .ok (.aload_n 0, 1) := by decide +kernel
theorem dc12_clause_151 : decode prog_14_method_24_code 151 = .ok (.getfield 205, 3) := by decide +kernel
theorem dc12_clause_154 : decode prog_14_method_24_code 154 = .ok (.if_icmp .ne 7, 3) := by decide +kernel
theorem dc12_clause_157 : decode prog_14_method_24_code 157 = .ok (.iload_n 2, 1) := by decide +kernel
theorem dc12_clause_158 : decode prog_14_method_24_code 158 = .ok (.ifCond .ne 4, 3) := by decide +kernel
theorem dc12_clause_161 : decode prog_14_method_24_code 161 = .ok (.return_, 1) := by decide +kernel
theorem dc12_clause_162 : decode prog_14_method_24_code 162 = .ok (.aload_n 0, 1) := by decide +kernel
theorem dc12_clause_163 : decode prog_14_method_24_code 163 = .ok (.iconst 1, 1) := by decide +kernel
theorem dc12_clause_164 : decode prog_14_method_24_code 164 = .ok (.putfield 201, 3) := by decide +kernel
theorem dc12_clause_167 : decode prog_14_method_24_code 167 = .ok (.aload_n 0, 1) := by decide +kernel
theorem dc12_clause_168 : decode prog_14_method_24_code 168 = .ok (.iload_n 3, 1) := by decide +kernel
theorem dc12_clause_169 : decode prog_14_method_24_code 169 = .ok (.putfield 208, 3) := by decide +kernel
theorem dc12_clause_172 : decode prog_14_method_24_code 172 = .ok (.return_, 1) := by decide +kernel
theorem dc12_isAmong_0 : decode prog_14_method_5_code 0 = .ok (.iconst 0, 1) := by decide +kernel
theorem dc12_isAmong_1 : decode prog_14_method_5_code 1 = .ok (.istore_n 2, 1) := by decide +kernel
theorem dc12_isAmong_2 : decode prog_14_method_5_code 2 = .ok (.iload_n 2, 1) := by decide +kernel
theorem dc12_isAmong_3 : decode prog_14_method_5_code 3 = .ok (.aload_n 0, 1) := by decide +kernel
theorem dc12_isAmong_4 : decode prog_14_method_5_code 4 = .ok (.invokevirtual 103, 3) := by decide +kernel
theorem dc12_isAmong_7 : decode prog_14_method_5_code 7 = .ok (.if_icmp .ge 20, 3) := by decide +kernel
theorem dc12_isAmong_10 : decode prog_14_method_5_code 10 = .ok (.aload_n 0, 1) := by decide +kernel
theorem dc12_isAmong_11 : decode prog_14_method_5_code 11 = .ok (.iload_n 2, 1) := by decide +kernel
theorem dc12_isAmong_12 : decode prog_14_method_5_code 12 = .ok (.invokevirtual 109, 3) := by decide +kernel
theorem dc12_isAmong_15 : decode prog_14_method_5_code 15 = .ok (.iload_n 1, 1) := by decide +kernel
theorem dc12_isAmong_16 : decode prog_14_method_5_code 16 = .ok (.if_icmp .ne 5, 3) := by decide +kernel
theorem dc12_isAmong_19 : decode prog_14_method_5_code 19 = .ok (.iconst 1, 1) := by decide +kernel
theorem dc12_isAmong_20 : decode prog_14_method_5_code 20 = .ok (.ireturn, 1) := by decide +kernel
theorem dc12_isAmong_21 : decode prog_14_method_5_code 21 = .ok (.iinc 2 1, 3) := by decide +kernel
theorem dc12_isAmong_24 : decode prog_14_method_5_code 24 = .ok (.goto (-22), 3) := by decide +kernel
theorem dc12_isAmong_27 : decode prog_14_method_5_code 27 = .ok (.iconst 0, 1) := by decide +kernel
theorem dc12_isAmong_28 : decode prog_14_method_5_code 28 = .ok (.ireturn, 1) := by decide +kernel
theorem dc12_takes_0 : decode prog_14_method_13_code 0 = .ok (.aload_n 0, 1) := by decide +kernel
theorem dc12_takes_1 : decode prog_14_method_13_code 1 = .ok (.getfield 132, 3) := by decide +kernel
theorem dc12_takes_4 : decode prog_14_method_13_code 4 = .ok (.iconst (-1), 1) := by decide +kernel
theorem dc12_takes_5 : decode prog_14_method_13_code 5 = .ok (.if_icmp .ne 11, 3) := by decide +kernel
theorem dc12_takes_8 : decode prog_14_method_13_code 8 = .ok (.aload_n 0, 1) := by decide +kernel
theorem dc12_takes_9 : decode prog_14_method_13_code 9 = .ok (.invokevirtual 142, 3) := by decide +kernel
theorem dc12_takes_12 : decode prog_14_method_13_code 12 = .ok (.iload_n 1, 1) := by decide +kernel
theorem dc12_takes_13 : decode prog_14_method_13_code 13 = .ok (.if_icmp .eq 8, 3) := by decide +kernel
theorem dc12_takes_16 : decode prog_14_method_13_code 16 = .ok (.aload_n 0, 1) := by decide +kernel
theorem dc12_takes_17 : decode prog_14_method_13_code 17 = .ok (.invokevirtual 138, 3) := by decide +kernel
theorem dc12_takes_20 : decode prog_14_method_13_code 20 = .ok (.ireturn, 1) := by decide +kernel
theorem dc12_takes_21 : decode prog_14_method_13_code 21 = .ok (.aload_n 0, 1) := by decide +kernel
theorem dc12_takes_22 : decode prog_14_method_13_code 22 = .ok (.dup, 1) := by decide +kernel
theorem dc12_takes_23 : decode prog_14_method_13_code 23 = .ok (.getfield 123, 3) := by decide +kernel
theorem dc12_takes_26 : decode prog_14_method_13_code 26 = .ok (.iconst 1, 1) := by decide +kernel
theorem dc12_takes_27 : decode prog_14_method_13_code 27 = .ok (.iadd, 1) := by decide +kernel
theorem dc12_takes_28 : decode prog_14_method_13_code 28 = .ok (.putfield 123, 3) := by decide +kernel
theorem dc12_takes_31 : decode prog_14_method_13_code 31 = .ok (.iconst 1, 1) := by decide +kernel
theorem dc12_takes_32 : decode prog_14_method_13_code 32 = .ok (.ireturn, 1) := by decide +kernel
theorem dc12_condition_0 : decode prog_14_method_23_code 0 = .ok (.aload_n 0, 1) := by decide +kernel
theorem dc12_condition_1 : decode prog_14_method_23_code 1 = .ok (.iload_n 1, 1) := by decide +kernel
theorem dc12_condition_2 : decode prog_14_method_23_code 2 = .ok (.iload_n 2, 1) := by decide +kernel
theorem dc12_condition_3 : decode prog_14_method_23_code 3 = .ok (.invokevirtual 198, 3) := by decide +kernel
theorem dc12_condition_6 : decode prog_14_method_23_code 6 = .ok (.istore_n 3, 1) := by decide +kernel
theorem dc12_condition_7 : decode prog_14_method_23_code 7 = .ok (.aload_n 0, 1) := by decide +kernel
theorem dc12_condition_8 : decode prog_14_method_23_code 8 = .ok (.getfield 132, 3) := by decide +kernel
theorem dc12_condition_11 : decode prog_14_method_23_code 11 = .ok (.iconst (-1), 1) := by decide +kernel
theorem dc12_condition_12 : decode prog_14_method_23_code 12 = .ok (.if_icmp .ne 48, 3) := by decide +kernel
theorem dc12_condition_15 : decode prog_14_method_23_code 15 = .ok (.aload_n 0, 1) := by decide +kernel
theorem dc12_condition_16 : decode prog_14_method_23_code 16 = .ok (.invokevirtual 142, 3) := by decide +kernel
theorem dc12_condition_19 : decode prog_14_method_23_code 19 = .ok (.bipush 124, 2) := by decide +kernel
theorem dc12_condition_21 : decode prog_14_method_23_code 21 = .ok (.if_icmp .ne 39, 3) := by decide +kernel
theorem dc12_condition_24 : decode prog_14_method_23_code 24 = .ok (.aload_n 0, 1) := by decide +kernel
theorem dc12_condition_25 : decode prog_14_method_23_code 25 = .ok (.dup, 1) := by decide +kernel
theorem dc12_condition_26 : decode prog_14_method_23_code 26 = .ok (.getfield 123, 3) := by decide +kernel
theorem dc12_condition_29 : decode prog_14_method_23_code 29 = .ok (.iconst 1, 1) := by decide +kernel
theorem dc12_condition_30 : decode prog_14_method_23_code 30 = .ok (.iadd, 1) := by decide +kernel
theorem dc12_condition_31 : decode prog_14_method_23_code 31 = .ok (.putfield 123, 3) := by decide +kernel
theorem dc12_condition_34 : decode prog_14_method_23_code 34 = .ok (.aload_n 0, 1) := by decide +kernel
theorem dc12_condition_35 : decode prog_14_method_23_code 35 = .ok (.iconst 0, 1) := by decide +kernel
theorem dc12_condition_36 : decode prog_14_method_23_code 36 = .ok (.iconst 0, 1) := by decide +kernel
theorem dc12_condition_37 : decode prog_14_method_23_code 37 = .ok (.invokevirtual 198, 3) := by decide +kernel
theorem dc12_condition_40 : decode prog_14_method_23_code 40 = .ok (.istore 4, 2) := by decide +kernel
theorem dc12_condition_42 : decode prog_14_method_23_code 42 = .ok (.iload_n 3, 1) := by decide +kernel
theorem dc12_condition_43 : decode prog_14_method_23_code 43 = .ok (.ifCond .ne 8, 3) := by decide +kernel
theorem dc12_condition_46 : decode prog_14_method_23_code 46 = .ok (.iload 4, 2) := by decide +kernel
theorem dc12_condition_48 : decode prog_14_method_23_code 48 = .ok (.ifCond .eq 7, 3) := by decide +kernel
theorem dc12_condition_51 : decode prog_14_method_23_code 51 = .ok (.iconst 1, 1) := by decide +kernel
theorem dc12_condition_52 : decode prog_14_method_23_code 52 = .ok (.goto 4, 3) := by decide +kernel
theorem dc12_condition_55 : decode prog_14_method_23_code 55 = .ok (.iconst 0, 1) := by decide +kernel
theorem dc12_condition_56 : decode prog_14_method_23_code 56 = .ok (.istore_n 3, 1) := by decide +kernel
theorem dc12_condition_57 : decode prog_14_method_23_code 57 = .ok (.goto (-50), 3) := by decide +kernel
theorem dc12_condition_60 : decode prog_14_method_23_code 60 = .ok (.iload_n 3, 1) := by decide +kernel
theorem dc12_condition_61 : decode prog_14_method_23_code 61 = .ok (.ireturn, 1) := by decide +kernel
theorem dc12_part_0 : decode prog_14_method_22_code 0 = .ok (.iload_n 1, 1) := by decide +kernel
theorem dc12_part_1 : decode prog_14_method_22_code 1 = .ok (.ifCond .eq 12, 3) := by decide +kernel
theorem dc12_part_4 : decode prog_14_method_22_code 4 = .ok (.aload_n 0, 1) := by decide +kernel
theorem dc12_part_5 : decode prog_14_method_22_code 5 = .ok (.iconst 1, 1) := by decide +kernel
theorem dc12_part_6 : decode prog_14_method_22_code 6 = .ok (.iload_n 2, 1) := by decide +kernel
theorem dc12_part_7 : decode prog_14_method_22_code 7 = .ok (.invokevirtual 195, 3) := by decide +kernel
theorem dc12_part_10 : decode prog_14_method_22_code 10 = .ok (.goto 7, 3) := by decide +kernel
theorem dc12_part_13 : decode prog_14_method_22_code 13 = .ok (.aload_n 0, 1) := by decide +kernel
theorem dc12_part_14 : decode prog_14_method_22_code 14 = .ok (.invokevirtual 188, 3) := by decide +kernel
theorem dc12_part_17 : decode prog_14_method_22_code 17 = .ok (.istore_n 3, 1) := by decide +kernel
theorem dc12_part_18 : decode prog_14_method_22_code 18 = .ok (.aload_n 0, 1) := by decide +kernel
theorem dc12_part_19 : decode prog_14_method_22_code 19 = .ok (.getfield 132, 3) := by decide +kernel
theorem dc12_part_22 : decode prog_14_method_22_code 22 = .ok (.iconst (-1), 1) := by decide +kernel
theorem dc12_part_23 : decode prog_14_method_22_code 23 = .ok (.if_icmp .ne 46, 3) := by decide +kernel
theorem dc12_part_26 : decode prog_14_method_22_code 26 = .ok (.aload_n 0, 1) := by decide +kernel
theorem dc12_part_27 : decode prog_14_method_22_code 27 = .ok (.invokevirtual 142, 3) := by decide +kernel
theorem dc12_part_30 : decode prog_14_method_22_code 30 = .ok (.bipush 38, 2) := by decide +kernel
theorem dc12_part_32 : decode prog_14_method_22_code 32 = .ok (.if_icmp .ne 37, 3) := by decide +kernel
theorem dc12_part_35 : decode prog_14_method_22_code 35 = .ok (.aload_n 0, 1) := by decide +kernel
theorem dc12_part_36 : decode prog_14_method_22_code 36 = .ok (.dup, 1) := by decide +kernel
theorem dc12_part_37 : decode prog_14_method_22_code 37 = .ok (.getfield 123, 3) := by decide +kernel
theorem dc12_part_40 : decode prog_14_method_22_code 40 = .ok (.iconst 1, 1) := by decide +kernel
theorem dc12_part_41 : decode prog_14_method_22_code 41 = .ok (.iadd, 1) := by decide +kernel
theorem dc12_part_42 : decode prog_14_method_22_code 42 = .ok (.putfield 123, 3) := by decide +kernel
theorem dc12_part_45 : decode prog_14_method_22_code 45 = .ok (.aload_n 0, 1) := by decide +kernel
theorem dc12_part_46 : decode prog_14_method_22_code 46 = .ok (.invokevirtual 188, 3) := by decide +kernel
theorem dc12_part_49 : decode prog_14_method_22_code 49 = .ok (.istore 4, 2) := by decide +kernel
theorem dc12_part_51 : decode prog_14_method_22_code 51 = .ok (.iload_n 3, 1) := by decide +kernel
theorem dc12_part_52 : decode prog_14_method_22_code 52 = .ok (.ifCond .eq 12, 3) := by decide +kernel
theorem dc12_part_55 : decode prog_14_method_22_code 55 = .ok (.iload 4, 2) := by decide +kernel
theorem dc12_part_57 : decode prog_14_method_22_code 57 = .ok (.ifCond .eq 7, 3) := by decide +kernel
theorem dc12_part_60 : decode prog_14_method_22_code 60 = .ok (.iconst 1, 1) := by decide +kernel
theorem dc12_part_61 : decode prog_14_method_22_code 61 = .ok (.goto 4, 3) := by decide +kernel
theorem dc12_part_64 : decode prog_14_method_22_code 64 = .ok (.iconst 0, 1) := by decide +kernel
theorem dc12_part_65 : decode prog_14_method_22_code 65 = .ok (.istore_n 3, 1) := by decide +kernel
theorem dc12_part_66 : decode prog_14_method_22_code 66 = .ok (.goto (-48), 3) := by decide +kernel
theorem dc12_part_69 : decode prog_14_method_22_code 69 = .ok (.iload_n 3, 1) := by decide +kernel
theorem dc12_part_70 : decode prog_14_method_22_code 70 = .ok (.ireturn, 1) := by decide +kernel
theorem dc12_compares_0 : decode prog_14_method_20_code 0 = .ok (.iload_n 1, 1) := by decide +kernel
theorem dc12_compares_1 : decode prog_14_method_20_code 1 = .ok (.ifCond .eq 7, 3) := by decide +kernel
theorem dc12_compares_4 : decode prog_14_method_20_code 4 = .ok (.iload_n 2, 1) := by decide +kernel
theorem dc12_compares_5 : decode prog_14_method_20_code 5 = .ok (.goto 7, 3) := by decide +kernel
theorem dc12_compares_8 : decode prog_14_method_20_code 8 = .ok (.aload_n 0, 1) := by decide +kernel
theorem dc12_compares_9 : decode prog_14_method_20_code 9 = .ok (.invokevirtual 165, 3) := by decide +kernel
theorem dc12_compares_12 : decode prog_14_method_20_code 12 = .ok (.istore_n 3, 1) := by decide +kernel
theorem dc12_compares_13 : decode prog_14_method_20_code 13 = .ok (.aload_n 0, 1) := by decide +kernel
theorem dc12_compares_14 : decode prog_14_method_20_code 14 = .ok (.getfield 132, 3) := by decide +kernel
theorem dc12_compares_17 : decode prog_14_method_20_code 17 = .ok (.iconst (-1), 1) := by decide +kernel
theorem dc12_compares_18 : decode prog_14_method_20_code 18 = .ok (.if_icmp .eq 5, 3) := by decide +kernel
theorem dc12_compares_21 : decode prog_14_method_20_code 21 = .ok (.iconst 0, 1) := by decide +kernel
theorem dc12_compares_22 : decode prog_14_method_20_code 22 = .ok (.ireturn, 1) := by decide +kernel
theorem dc12_compares_23 : decode prog_14_method_20_code 23 = .ok (.aload_n 0, 1) := by decide +kernel
theorem dc12_compares_24 : decode prog_14_method_20_code 24 = .ok (.invokevirtual 142, 3) := by decide +kernel
theorem dc12_compares_27 : decode prog_14_method_20_code 27 = .ok (.istore 4, 2) := by decide +kernel
theorem dc12_compares_29 : decode prog_14_method_20_code 29 = .ok (.iload 4, 2) := by decide +kernel
theorem dc12_compares_31 : decode prog_14_method_20_code 31 = .ok (.invokestatic 185, 3) := by decide +kernel
theorem dc12_compares_34 : decode prog_14_method_20_code 34 = .ok (.ifCond .ne 8, 3) := by decide +kernel
theorem dc12_compares_37 : decode prog_14_method_20_code 37 = .ok (.aload_n 0, 1) := by decide +kernel
theorem dc12_compares_38 : decode prog_14_method_20_code 38 = .ok (.invokevirtual 138, 3) := by decide +kernel
theorem dc12_compares_41 : decode prog_14_method_20_code 41 = .ok (.ireturn, 1) := by decide +kernel
theorem dc12_compares_42 : decode prog_14_method_20_code 42 = .ok (.aload_n 0, 1) := by decide +kernel
theorem dc12_compares_43 : decode prog_14_method_20_code 43 = .ok (.dup, 1) := by decide +kernel
theorem dc12_compares_44 : decode prog_14_method_20_code 44 = .ok (.getfield 123, 3) := by decide +kernel
theorem dc12_compares_47 : decode prog_14_method_20_code 47 = .ok (.iconst 1, 1) := by decide +kernel
theorem dc12_compares_48 : decode prog_14_method_20_code 48 = .ok (.iadd, 1) := by decide +kernel
theorem dc12_compares_49 : decode prog_14_method_20_code 49 = .ok (.putfield 123, 3) := by decide +kernel
theorem dc12_compares_52 : decode prog_14_method_20_code 52 = .ok (.aload_n 0, 1) := by decide +kernel
theorem dc12_compares_53 : decode prog_14_method_20_code 53 = .ok (.invokevirtual 165, 3) := by decide +kernel
theorem dc12_compares_56 : decode prog_14_method_20_code 56 = .ok (.istore 5, 2) := by decide +kernel
theorem dc12_compares_58 : decode prog_14_method_20_code 58 = .ok (.iload 4, 2) := by decide +kernel
theorem dc12_compares_60 : decode prog_14_method_20_code 60 = .ok (.bipush 61, 2) := by decide +kernel
theorem dc12_compares_62 : decode prog_14_method_20_code 62 = .ok (.if_icmp .ne 17, 3) := by decide +kernel
theorem dc12_compares_65 : decode prog_14_method_20_code 65 = .ok (.iload_n 3, 1) := by decide +kernel
theorem dc12_compares_66 : decode prog_14_method_20_code 66 = .ok (.iload 5, 2) := by decide +kernel
theorem dc12_compares_68 : decode prog_14_method_20_code 68 = .ok (.if_icmp .ne 7, 3) := by decide +kernel
theorem dc12_compares_71 : decode prog_14_method_20_code 71 = .ok (.iconst 1, 1) := by decide +kernel
theorem dc12_compares_72 : decode prog_14_method_20_code 72 = .ok (.goto 39, 3) := by decide +kernel
theorem dc12_compares_75 : decode prog_14_method_20_code 75 = .ok (.iconst 0, 1) := by decide +kernel
theorem dc12_compares_76 : decode prog_14_method_20_code 76 = .ok (.goto 35, 3) := by decide +kernel
theorem dc12_compares_79 : decode prog_14_method_20_code 79 = .ok (.iload 4, 2) := by decide +kernel
theorem dc12_compares_81 : decode prog_14_method_20_code 81 = .ok (.bipush 60, 2) := by decide +kernel
theorem dc12_compares_83 : decode prog_14_method_20_code 83 = .ok (.if_icmp .ne 17, 3) := by decide +kernel
theorem dc12_compares_86 : decode prog_14_method_20_code 86 = .ok (.iload_n 3, 1) := by decide +kernel
theorem dc12_compares_87 : decode prog_14_method_20_code 87 = .ok (.iload 5, 2) := by decide +kernel
theorem dc12_compares_89 : decode prog_14_method_20_code 89 = .ok (.if_icmp .ge 7, 3) := by decide +kernel
theorem dc12_compares_92 : decode prog_14_method_20_code 92 = .ok (.iconst 1, 1) := by decide +kernel
theorem dc12_compares_93 : decode prog_14_method_20_code 93 = .ok (.goto 18, 3) := by decide +kernel
theorem dc12_compares_96 : decode prog_14_method_20_code 96 = .ok (.iconst 0, 1) := by decide +kernel
theorem dc12_compares_97 : decode prog_14_method_20_code 97 = .ok (.goto 14, 3) := by decide +kernel
theorem dc12_compares_100 : decode prog_14_method_20_code 100 = .ok (.iload_n 3, 1) := by decide +kernel
theorem dc12_compares_101 : decode prog_14_method_20_code 101 = .ok (.iload 5, 2) := by decide +kernel
theorem dc12_compares_103 : decode prog_14_method_20_code 103 = .ok (.if_icmp .le 7, 3) := by decide +kernel
theorem dc12_compares_106 : decode prog_14_method_20_code 106 = .ok (.iconst 1, 1) := by decide +kernel
theorem dc12_compares_107 : decode prog_14_method_20_code 107 = .ok (.goto 4, 3) := by decide +kernel
theorem dc12_compares_110 : decode prog_14_method_20_code 110 = .ok (.iconst 0, 1) := by decide +kernel
theorem dc12_compares_111 : decode prog_14_method_20_code 111 = .ok (.ireturn, 1) := by decide +kernel
theorem dc12_sum_0 : decode prog_14_method_18_code 0 = .ok (.aload_n 0, 1) := by decide +kernel
theorem dc12_sum_1 : decode prog_14_method_18_code 1 = .ok (.invokevirtual 182, 3) := by decide +kernel
theorem dc12_sum_4 : decode prog_14_method_18_code 4 = .ok (.istore_n 1, 1) := by decide +kernel
theorem dc12_sum_5 : decode prog_14_method_18_code 5 = .ok (.aload_n 0, 1) := by decide +kernel
theorem dc12_sum_6 : decode prog_14_method_18_code 6 = .ok (.getfield 132, 3) := by decide +kernel
theorem dc12_sum_9 : decode prog_14_method_18_code 9 = .ok (.iconst (-1), 1) := by decide +kernel
theorem dc12_sum_10 : decode prog_14_method_18_code 10 = .ok (.if_icmp .ne 74, 3) := by decide +kernel
theorem dc12_sum_13 : decode prog_14_method_18_code 13 = .ok (.aload_n 0, 1) := by decide +kernel
theorem dc12_sum_14 : decode prog_14_method_18_code 14 = .ok (.invokevirtual 142, 3) := by decide +kernel
theorem dc12_sum_17 : decode prog_14_method_18_code 17 = .ok (.bipush 43, 2) := by decide +kernel
theorem dc12_sum_19 : decode prog_14_method_18_code 19 = .ok (.if_icmp .eq 12, 3) := by decide +kernel
theorem dc12_sum_22 : decode prog_14_method_18_code 22 = .ok (.aload_n 0, 1) := by decide +kernel
theorem dc12_sum_23 : decode prog_14_method_18_code 23 = .ok (.invokevirtual 142, 3) := by decide +kernel
theorem dc12_sum_26 : decode prog_14_method_18_code 26 = .ok (.bipush 45, 2) := by decide +kernel
theorem dc12_sum_28 : decode prog_14_method_18_code 28 = .ok (.if_icmp .ne 56, 3) := by decide +kernel
theorem dc12_sum_31 : decode prog_14_method_18_code 31 = .ok (.aload_n 0, 1) := by decide +kernel
theorem dc12_sum_32 : decode prog_14_method_18_code 32 = .ok (.invokevirtual 142, 3) := by decide +kernel
theorem dc12_sum_35 : decode prog_14_method_18_code 35 = .ok (.bipush 43, 2) := by decide +kernel
theorem dc12_sum_37 : decode prog_14_method_18_code 37 = .ok (.if_icmp .ne 7, 3) := by decide +kernel
theorem dc12_sum_40 : decode prog_14_method_18_code 40 = .ok (.iconst 1, 1) := by decide +kernel
theorem dc12_sum_41 : decode prog_14_method_18_code 41 = .ok (.goto 4, 3) := by decide +kernel
theorem dc12_sum_44 : decode prog_14_method_18_code 44 = .ok (.iconst 0, 1) := by decide +kernel
theorem dc12_sum_45 : decode prog_14_method_18_code 45 = .ok (.istore_n 2, 1) := by decide +kernel
theorem dc12_sum_46 : decode prog_14_method_18_code 46 = .ok (.aload_n 0, 1) := by decide +kernel
theorem dc12_sum_47 : decode prog_14_method_18_code 47 = .ok (.dup, 1) := by decide +kernel
theorem dc12_sum_48 : decode prog_14_method_18_code 48 = .ok (.getfield 123, 3) := by decide +kernel
theorem dc12_sum_51 : decode prog_14_method_18_code 51 = .ok (.iconst 1, 1) := by decide +kernel
theorem dc12_sum_52 : decode prog_14_method_18_code 52 = .ok (.iadd, 1) := by decide +kernel
theorem dc12_sum_53 : decode prog_14_method_18_code 53 = .ok (.putfield 123, 3) := by decide +kernel
theorem dc12_sum_56 : decode prog_14_method_18_code 56 = .ok (.aload_n 0, 1) := by decide +kernel
theorem dc12_sum_57 : decode prog_14_method_18_code 57 = .ok (.invokevirtual 182, 3) := by decide +kernel
theorem dc12_sum_60 : decode prog_14_method_18_code 60 = .ok (.i2l, 1) := by decide +kernel
theorem dc12_sum_61 : decode prog_14_method_18_code 61 = .ok (.lstore_n 3, 1) := by decide +kernel
theorem dc12_sum_62 : decode prog_14_method_18_code 62 = .ok (.iload_n 2, 1) := by decide +kernel
theorem dc12_sum_63 : decode prog_14_method_18_code 63 = .ok (.ifCond .eq 10, 3) := by decide +kernel
theorem dc12_sum_66 : decode prog_14_method_18_code 66 = .ok (.iload_n 1, 1) := by decide +kernel
theorem dc12_sum_67 : decode prog_14_method_18_code 67 = .ok (.i2l, 1) := by decide +kernel
theorem dc12_sum_68 : decode prog_14_method_18_code 68 = .ok (.lload_n 3, 1) := by decide +kernel
theorem dc12_sum_69 : decode prog_14_method_18_code 69 = .ok (.ladd, 1) := by decide +kernel
theorem dc12_sum_70 : decode prog_14_method_18_code 70 = .ok (.goto 7, 3) := by decide +kernel
theorem dc12_sum_73 : decode prog_14_method_18_code 73 = .ok (.iload_n 1, 1) := by decide +kernel
theorem dc12_sum_74 : decode prog_14_method_18_code 74 = .ok (.i2l, 1) := by decide +kernel
theorem dc12_sum_75 : decode prog_14_method_18_code 75 = .ok (.lload_n 3, 1) := by decide +kernel
theorem dc12_sum_76 : decode prog_14_method_18_code 76 = .ok (.lsub, 1) := by decide +kernel
theorem dc12_sum_77 : decode prog_14_method_18_code 77 = .ok (.invokestatic 178, 3) := by decide +kernel
theorem dc12_sum_80 : decode prog_14_method_18_code 80 = .ok (.istore_n 1, 1) := by decide +kernel
theorem dc12_sum_81 : decode prog_14_method_18_code 81 = .ok (.goto (-76), 3) := by decide +kernel
theorem dc12_sum_84 : decode prog_14_method_18_code 84 = .ok (.iload_n 1, 1) := by decide +kernel
theorem dc12_sum_85 : decode prog_14_method_18_code 85 = .ok (.ireturn, 1) := by decide +kernel
theorem dc12_term_0 : decode prog_14_method_17_code 0 = .ok (.aload_n 0, 1) := by decide +kernel
theorem dc12_term_1 : decode prog_14_method_17_code 1 = .ok (.invokevirtual 175, 3) := by decide +kernel
theorem dc12_term_4 : decode prog_14_method_17_code 4 = .ok (.istore_n 1, 1) := by decide +kernel
theorem dc12_term_5 : decode prog_14_method_17_code 5 = .ok (.aload_n 0, 1) := by decide +kernel
theorem dc12_term_6 : decode prog_14_method_17_code 6 = .ok (.getfield 132, 3) := by decide +kernel
theorem dc12_term_9 : decode prog_14_method_17_code 9 = .ok (.iconst (-1), 1) := by decide +kernel
theorem dc12_term_10 : decode prog_14_method_17_code 10 = .ok (.if_icmp .ne 84, 3) := by decide +kernel
theorem dc12_term_13 : decode prog_14_method_17_code 13 = .ok (.aload_n 0, 1) := by decide +kernel
theorem dc12_term_14 : decode prog_14_method_17_code 14 = .ok (.invokevirtual 142, 3) := by decide +kernel
theorem dc12_term_17 : decode prog_14_method_17_code 17 = .ok (.bipush 42, 2) := by decide +kernel
theorem dc12_term_19 : decode prog_14_method_17_code 19 = .ok (.if_icmp .eq 12, 3) := by decide +kernel
theorem dc12_term_22 : decode prog_14_method_17_code 22 = .ok (.aload_n 0, 1) := by decide +kernel
theorem dc12_term_23 : decode prog_14_method_17_code 23 = .ok (.invokevirtual 142, 3) := by decide +kernel
theorem dc12_term_26 : decode prog_14_method_17_code 26 = .ok (.bipush 47, 2) := by decide +kernel
theorem dc12_term_28 : decode prog_14_method_17_code 28 = .ok (.if_icmp .ne 66, 3) := by decide +kernel
theorem dc12_term_31 : decode prog_14_method_17_code 31 = .ok (.aload_n 0, 1) := by decide +kernel
theorem dc12_term_32 : decode prog_14_method_17_code 32 = .ok (.invokevirtual 142, 3) := by decide +kernel
theorem dc12_term_35 : decode prog_14_method_17_code 35 = .ok (.bipush 42, 2) := by decide +kernel
theorem dc12_term_37 : decode prog_14_method_17_code 37 = .ok (.if_icmp .ne 7, 3) := by decide +kernel
theorem dc12_term_40 : decode prog_14_method_17_code 40 = .ok (.iconst 1, 1) := by decide +kernel
theorem dc12_term_41 : decode prog_14_method_17_code 41 = .ok (.goto 4, 3) := by decide +kernel
theorem dc12_term_44 : decode prog_14_method_17_code 44 = .ok (.iconst 0, 1) := by decide +kernel
theorem dc12_term_45 : decode prog_14_method_17_code 45 = .ok (.istore_n 2, 1) := by decide +kernel
theorem dc12_term_46 : decode prog_14_method_17_code 46 = .ok (.aload_n 0, 1) := by decide +kernel
theorem dc12_term_47 : decode prog_14_method_17_code 47 = .ok (.dup, 1) := by decide +kernel
theorem dc12_term_48 : decode prog_14_method_17_code 48 = .ok (.getfield 123, 3) := by decide +kernel
theorem dc12_term_51 : decode prog_14_method_17_code 51 = .ok (.iconst 1, 1) := by decide +kernel
theorem dc12_term_52 : decode prog_14_method_17_code 52 = .ok (.iadd, 1) := by decide +kernel
theorem dc12_term_53 : decode prog_14_method_17_code 53 = .ok (.putfield 123, 3) := by decide +kernel
theorem dc12_term_56 : decode prog_14_method_17_code 56 = .ok (.aload_n 0, 1) := by decide +kernel
theorem dc12_term_57 : decode prog_14_method_17_code 57 = .ok (.invokevirtual 175, 3) := by decide +kernel
theorem dc12_term_60 : decode prog_14_method_17_code 60 = .ok (.i2l, 1) := by decide +kernel
theorem dc12_term_61 : decode prog_14_method_17_code 61 = .ok (.lstore_n 3, 1) := by decide +kernel
theorem dc12_term_62 : decode prog_14_method_17_code 62 = .ok (.iload_n 2, 1) := by decide +kernel
theorem dc12_term_63 : decode prog_14_method_17_code 63 = .ok (.ifCond .eq 10, 3) := by decide +kernel
theorem dc12_term_66 : decode prog_14_method_17_code 66 = .ok (.iload_n 1, 1) := by decide +kernel
theorem dc12_term_67 : decode prog_14_method_17_code 67 = .ok (.i2l, 1) := by decide +kernel
theorem dc12_term_68 : decode prog_14_method_17_code 68 = .ok (.lload_n 3, 1) := by decide +kernel
theorem dc12_term_69 : decode prog_14_method_17_code 69 = .ok (.lmul, 1) := by decide +kernel
theorem dc12_term_70 : decode prog_14_method_17_code 70 = .ok (.goto 17, 3) := by decide +kernel
theorem dc12_term_73 : decode prog_14_method_17_code 73 = .ok (.lload_n 3, 1) := by decide +kernel
theorem dc12_term_74 : decode prog_14_method_17_code 74 = .ok (.lconst 0, 1) := by decide +kernel
theorem dc12_term_75 : decode prog_14_method_17_code 75 = .ok (.lcmp, 1) := by decide +kernel
theorem dc12_term_76 : decode prog_14_method_17_code 76 = .ok (.ifCond .ne 7, 3) := by decide +kernel
theorem dc12_term_79 : decode prog_14_method_17_code 79 = .ok (.lconst 0, 1) := by decide +kernel
theorem dc12_term_80 : decode prog_14_method_17_code 80 = .ok (.goto 7, 3) := by decide +kernel
theorem dc12_term_83 : decode prog_14_method_17_code 83 = .ok (.iload_n 1, 1) := by decide +kernel
theorem dc12_term_84 : decode prog_14_method_17_code 84 = .ok (.i2l, 1) := by decide +kernel
theorem dc12_term_85 : decode prog_14_method_17_code 85 = .ok (.lload_n 3, 1) := by decide +kernel
theorem dc12_term_86 : decode prog_14_method_17_code 86 = .ok (.ldiv, 1) := by decide +kernel
theorem dc12_term_87 : decode prog_14_method_17_code 87 = .ok (.invokestatic 178, 3) := by decide +kernel
theorem dc12_term_90 : decode prog_14_method_17_code 90 = .ok (.istore_n 1, 1) := by decide +kernel
theorem dc12_term_91 : decode prog_14_method_17_code 91 = .ok (.goto (-86), 3) := by decide +kernel
theorem dc12_term_94 : decode prog_14_method_17_code 94 = .ok (.iload_n 1, 1) := by decide +kernel
theorem dc12_term_95 : decode prog_14_method_17_code 95 = .ok (.ireturn, 1) := by decide +kernel
theorem dc12_atom_0 : decode prog_14_method_16_code 0 = .ok (.aload_n 0, 1) := by decide +kernel
theorem dc12_atom_1 : decode prog_14_method_16_code 1 = .ok (.invokevirtual 142, 3) := by decide +kernel
theorem dc12_atom_4 : decode prog_14_method_16_code 4 = .ok (.istore_n 1, 1) := by decide +kernel
theorem dc12_atom_5 : decode prog_14_method_16_code 5 = .ok (.ldc 32, 2) := by decide +kernel
theorem dc12_atom_7 : decode prog_14_method_16_code 7 = .ok (.iload_n 1, 1) := by decide +kernel
theorem dc12_atom_8 : decode prog_14_method_16_code 8 = .ok (.invokestatic 158, 3) := by decide +kernel
theorem dc12_atom_11 : decode prog_14_method_16_code 11 = .ok (.ifCond .eq 20, 3) := by decide +kernel
theorem dc12_atom_14 : decode prog_14_method_16_code 14 = .ok (.aload_n 0, 1) := by decide +kernel
theorem dc12_atom_15 : decode prog_14_method_16_code 15 = .ok (.dup, 1) := by decide +kernel
theorem dc12_atom_16 : decode prog_14_method_16_code 16 = .ok (.getfield 123, 3) := by decide +kernel
theorem dc12_atom_19 : decode prog_14_method_16_code 19 = .ok (.iconst 1, 1) := by decide +kernel
theorem dc12_atom_20 : decode prog_14_method_16_code 20 = .ok (.iadd, 1) := by decide +kernel
theorem dc12_atom_21 : decode prog_14_method_16_code 21 = .ok (.putfield 123, 3) := by decide +kernel
theorem dc12_atom_24 : decode prog_14_method_16_code 24 = .ok (.aload_n 0, 1) := by decide +kernel
theorem dc12_atom_25 : decode prog_14_method_16_code 25 = .ok (.getfield 20, 3) := by decide +kernel
theorem dc12_atom_28 : decode prog_14_method_16_code 28 = .ok (.iload_n 1, 1) := by decide +kernel
theorem dc12_atom_29 : decode prog_14_method_16_code 29 = .ok (.iaload, 1) := by decide +kernel
theorem dc12_atom_30 : decode prog_14_method_16_code 30 = .ok (.ireturn, 1) := by decide +kernel
theorem dc12_atom_31 : decode prog_14_method_16_code 31 = .ok (.iload_n 1, 1) := by decide +kernel
theorem dc12_atom_32 : decode prog_14_method_16_code 32 = .ok (.bipush 91, 2) := by decide +kernel
theorem dc12_atom_34 : decode prog_14_method_16_code 34 = .ok (.if_icmp .ne 40, 3) := by decide +kernel
theorem dc12_atom_37 : decode prog_14_method_16_code 37 = .ok (.aload_n 0, 1) := by decide +kernel
theorem dc12_atom_38 : decode prog_14_method_16_code 38 = .ok (.invokevirtual 162, 3) := by decide +kernel
theorem dc12_atom_41 : decode prog_14_method_16_code 41 = .ok (.ifCond .ne 5, 3) := by decide +kernel
theorem dc12_atom_44 : decode prog_14_method_16_code 44 = .ok (.iconst 0, 1) := by decide +kernel
theorem dc12_atom_45 : decode prog_14_method_16_code 45 = .ok (.ireturn, 1) := by decide +kernel
