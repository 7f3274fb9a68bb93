theorem dc12_least_122 : decode prog_14_method_84_code 122 = .ok (.ireturn, 1) := by decide +kernel
theorem dc12_least_123 : decode prog_14_method_84_code 123 = .ok (.iinc 4 1, 3) := by decide +kernel
theorem dc12_least_126 : decode prog_14_method_84_code 126 = .ok (.goto (-83), 3) := by decide +kernel
theorem dc12_least_129 : decode prog_14_method_84_code 129 = .ok (.iinc 3 1, 3) := by decide +kernel
theorem dc12_least_132 : decode prog_14_method_84_code 132 = .ok (.goto (-99), 3) := by decide +kernel
theorem dc12_least_135 : decode prog_14_method_84_code 135 = .ok (.iconst (-1), 1) := by decide +kernel
theorem dc12_least_136 : decode prog_14_method_84_code 136 = .ok (.ireturn, 1) := by decide +kernel
theorem dc12_best_0 : decode prog_14_method_85_code 0 = .ok (.aload_n 0, 1) := by decide +kernel
theorem dc12_best_1 : decode prog_14_method_85_code 1 = .ok (.iconst 0, 1) := by decide +kernel
theorem dc12_best_2 : decode prog_14_method_85_code 2 = .ok (.putfield 100, 3) := by decide +kernel
theorem dc12_best_5 : decode prog_14_method_85_code 5 = .ok (.aload_n 0, 1) := by decide +kernel
theorem dc12_best_6 : decode prog_14_method_85_code 6 = .ok (.getfield 290, 3) := by decide +kernel
theorem dc12_best_9 : decode prog_14_method_85_code 9 = .ok (.ifCond .eq 20, 3) := by decide +kernel
theorem dc12_best_12 : decode prog_14_method_85_code 12 = .ok (.iload_n 1, 1) := by decide +kernel
theorem dc12_best_13 : decode prog_14_method_85_code 13 = .ok (.invokestatic 363, 3) := by decide +kernel
theorem dc12_best_16 : decode prog_14_method_85_code 16 = .ok (.ifCond .eq 13, 3) := by decide +kernel
theorem dc12_best_19 : decode prog_14_method_85_code 19 = .ok (.iload_n 2, 1) := by decide +kernel
theorem dc12_best_20 : decode prog_14_method_85_code 20 = .ok (.i2l, 1) := by decide +kernel
theorem dc12_best_21 : decode prog_14_method_85_code 21 = .ok (.lconst 0, 1) := by decide +kernel
theorem dc12_best_22 : decode prog_14_method_85_code 22 = .ok (.lconst 1, 1) := by decide +kernel
theorem dc12_best_23 : decode prog_14_method_85_code 23 = .ok (.invokestatic 221, 3) := by decide +kernel
theorem dc12_best_26 : decode prog_14_method_85_code 26 = .ok (.ifCond .ne 5, 3) := by decide +kernel
theorem dc12_best_29 : decode prog_14_method_85_code 29 = .ok (.iconst (-1), 1) := by decide +kernel
theorem dc12_best_30 : decode prog_14_method_85_code 30 = .ok (.ireturn, 1) := by decide +kernel
theorem dc12_best_31 : decode prog_14_method_85_code 31 = .ok (.iconst (-1), 1) := by decide +kernel
theorem dc12_best_32 : decode prog_14_method_85_code 32 = .ok (.istore_n 3, 1) := by decide +kernel
theorem dc12_best_33 : decode prog_14_method_85_code 33 = .ok (.iconst 0, 1) := by decide +kernel
theorem dc12_best_34 : decode prog_14_method_85_code 34 = .ok (.istore 4, 2) := by decide +kernel
theorem dc12_best_36 : decode prog_14_method_85_code 36 = .ok (.iconst 1, 1) := by decide +kernel
theorem dc12_best_37 : decode prog_14_method_85_code 37 = .ok (.istore 5, 2) := by decide +kernel
theorem dc12_best_39 : decode prog_14_method_85_code 39 = .ok (.iload 5, 2) := by decide +kernel
theorem dc12_best_41 : decode prog_14_method_85_code 41 = .ok (.bipush 100, 2) := by decide +kernel
theorem dc12_best_43 : decode prog_14_method_85_code 43 = .ok (.aload_n 0, 1) := by decide +kernel
theorem dc12_best_44 : decode prog_14_method_85_code 44 = .ok (.getfield 290, 3) := by decide +kernel
theorem dc12_best_47 : decode prog_14_method_85_code 47 = .ok (.imul, 1) := by decide +kernel
theorem dc12_best_48 : decode prog_14_method_85_code 48 = .ok (.if_icmp .ge 117, 3) := by decide +kernel
theorem dc12_best_51 : decode prog_14_method_85_code 51 = .ok (.iload 5, 2) := by decide +kernel
theorem dc12_best_53 : decode prog_14_method_85_code 53 = .ok (.bipush 100, 2) := by decide +kernel
theorem dc12_best_55 : decode prog_14_method_85_code 55 = .ok (.idiv, 1) := by decide +kernel
theorem dc12_best_56 : decode prog_14_method_85_code 56 = .ok (.istore 6, 2) := by decide +kernel
theorem dc12_best_58 : decode prog_14_method_85_code 58 = .ok (.iload 5, 2) := by decide +kernel
theorem dc12_best_60 : decode prog_14_method_85_code 60 = .ok (.bipush 10, 2) := by decide +kernel
theorem dc12_best_62 : decode prog_14_method_85_code 62 = .ok (.idiv, 1) := by decide +kernel
theorem dc12_best_63 : decode prog_14_method_85_code 63 = .ok (.bipush 10, 2) := by decide +kernel
theorem dc12_best_65 : decode prog_14_method_85_code 65 = .ok (.irem, 1) := by decide +kernel
theorem dc12_best_66 : decode prog_14_method_85_code 66 = .ok (.istore 7, 2) := by decide +kernel
theorem dc12_best_68 : decode prog_14_method_85_code 68 = .ok (.iload 5, 2) := by decide +kernel
theorem dc12_best_70 : decode prog_14_method_85_code 70 = .ok (.bipush 10, 2) := by decide +kernel
theorem dc12_best_72 : decode prog_14_method_85_code 72 = .ok (.irem, 1) := by decide +kernel
theorem dc12_best_73 : decode prog_14_method_85_code 73 = .ok (.istore 8, 2) := by decide +kernel
theorem dc12_best_75 : decode prog_14_method_85_code 75 = .ok (.iload 8, 2) := by decide +kernel
theorem dc12_best_77 : decode prog_14_method_85_code 77 = .ok (.ifCond .eq 82, 3) := by decide +kernel
theorem dc12_best_80 : decode prog_14_method_85_code 80 = .ok (.aload_n 0, 1) := by decide +kernel
theorem dc12_best_81 : decode prog_14_method_85_code 81 = .ok (.aload_n 0, 1) := by decide +kernel
theorem dc12_best_82 : decode prog_14_method_85_code 82 = .ok (.getfield 55, 3) := by decide +kernel
theorem dc12_best_85 : decode prog_14_method_85_code 85 = .ok (.iload 6, 2) := by decide +kernel
theorem dc12_best_87 : decode prog_14_method_85_code 87 = .ok (.iload 7, 2) := by decide +kernel
theorem dc12_best_89 : decode prog_14_method_85_code 89 = .ok (.iload 8, 2) := by decide +kernel
theorem dc12_best_91 : decode prog_14_method_85_code 91 = .ok (.invokevirtual 371, 3) := by decide +kernel
theorem dc12_best_94 : decode prog_14_method_85_code 94 = .ok (.ifCond .ne 6, 3) := by decide +kernel
theorem dc12_best_97 : decode prog_14_method_85_code 97 = .ok (.goto 62, 3) := by decide +kernel
theorem dc12_best_100 : decode prog_14_method_85_code 100 = .ok (.aload_n 0, 1) := by decide +kernel
theorem dc12_best_101 : decode prog_14_method_85_code 101 = .ok (.getfield 55, 3) := by decide +kernel
theorem dc12_best_104 : decode prog_14_method_85_code 104 = .ok (.aload_n 0, 1) := by decide +kernel
theorem dc12_best_105 : decode prog_14_method_85_code 105 = .ok (.getfield 58, 3) := by decide +kernel
theorem dc12_best_108 : decode prog_14_method_85_code 108 = .ok (.invokestatic 345, 3) := by decide +kernel
theorem dc12_best_111 : decode prog_14_method_85_code 111 = .ok (.aload_n 0, 1) := by decide +kernel
theorem dc12_best_112 : decode prog_14_method_85_code 112 = .ok (.getfield 58, 3) := by decide +kernel
theorem dc12_best_115 : decode prog_14_method_85_code 115 = .ok (.iload 6, 2) := by decide +kernel
theorem dc12_best_117 : decode prog_14_method_85_code 117 = .ok (.iload 7, 2) := by decide +kernel
theorem dc12_best_119 : decode prog_14_method_85_code 119 = .ok (.iload 8, 2) := by decide +kernel
theorem dc12_best_121 : decode prog_14_method_85_code 121 = .ok (.invokestatic 375, 3) := by decide +kernel
theorem dc12_best_124 : decode prog_14_method_85_code 124 = .ok (.aload_n 0, 1) := by decide +kernel
theorem dc12_best_125 : decode prog_14_method_85_code 125 = .ok (.aload_n 0, 1) := by decide +kernel
theorem dc12_best_126 : decode prog_14_method_85_code 126 = .ok (.getfield 58, 3) := by decide +kernel
theorem dc12_best_129 : decode prog_14_method_85_code 129 = .ok (.iload_n 1, 1) := by decide +kernel
theorem dc12_best_130 : decode prog_14_method_85_code 130 = .ok (.invokevirtual 349, 3) := by decide +kernel
theorem dc12_best_133 : decode prog_14_method_85_code 133 = .ok (.iload_n 3, 1) := by decide +kernel
theorem dc12_best_134 : decode prog_14_method_85_code 134 = .ok (.iconst (-1), 1) := by decide +kernel
theorem dc12_best_135 : decode prog_14_method_85_code 135 = .ok (.if_icmp .eq 15, 3) := by decide +kernel
theorem dc12_best_138 : decode prog_14_method_85_code 138 = .ok (.aload_n 0, 1) := by decide +kernel
theorem dc12_best_139 : decode prog_14_method_85_code 139 = .ok (.getfield 342, 3) := by decide +kernel
theorem dc12_best_142 : decode prog_14_method_85_code 142 = .ok (.iload 4, 2) := by decide +kernel
theorem dc12_best_144 : decode prog_14_method_85_code 144 = .ok (.if_icmp .gt 6, 3) := by decide +kernel
theorem dc12_best_147 : decode prog_14_method_85_code 147 = .ok (.goto 12, 3) := by decide +kernel
theorem dc12_best_150 : decode prog_14_method_85_code 150 = .ok (.iload 5, 2) := by decide +kernel
theorem dc12_best_152 : decode prog_14_method_85_code 152 = .ok (.istore_n 3, 1) := by decide +kernel
theorem dc12_best_153 : decode prog_14_method_85_code 153 = .ok (.aload_n 0, 1) := by decide +kernel
theorem dc12_best_154 : decode prog_14_method_85_code 154 = .ok (.getfield 342, 3) := by decide +kernel
theorem dc12_best_157 : decode prog_14_method_85_code 157 = .ok (.istore 4, 2) := by decide +kernel
theorem dc12_best_159 : decode prog_14_method_85_code 159 = .ok (.iinc 5 1, 3) := by decide +kernel
theorem dc12_best_162 : decode prog_14_method_85_code 162 = .ok (.goto (-123), 3) := by decide +kernel
theorem dc12_best_165 : decode prog_14_method_85_code 165 = .ok (.iload_n 3, 1) := by decide +kernel
theorem dc12_best_166 : decode prog_14_method_85_code 166 = .ok (.iconst (-1), 1) := by decide +kernel
theorem dc12_best_167 : decode prog_14_method_85_code 167 = .ok (.if_icmp .eq 7, 3) := by decide +kernel
theorem dc12_best_170 : decode prog_14_method_85_code 170 = .ok (.iload_n 2, 1) := by decide +kernel
theorem dc12_best_171 : decode prog_14_method_85_code 171 = .ok (.ifCond .ne 7, 3) := by decide +kernel
theorem dc12_best_174 : decode prog_14_method_85_code 174 = .ok (.iload_n 3, 1) := by decide +kernel
theorem dc12_best_175 : decode prog_14_method_85_code 175 = .ok (.goto 5, 3) := by decide +kernel
theorem dc12_best_178 : decode prog_14_method_85_code 178 = .ok (.iload 4, 2) := by decide +kernel
theorem dc12_best_180 : decode prog_14_method_85_code 180 = .ok (.ireturn, 1) := by decide +kernel
theorem dc12_trades_0 : decode prog_14_method_86_code 0 = .ok (.aload_n 0, 1) := by decide +kernel
theorem dc12_trades_1 : decode prog_14_method_86_code 1 = .ok (.iconst 0, 1) := by decide +kernel
theorem dc12_trades_2 : decode prog_14_method_86_code 2 = .ok (.putfield 100, 3) := by decide +kernel
theorem dc12_trades_5 : decode prog_14_method_86_code 5 = .ok (.aload_n 0, 1) := by decide +kernel
theorem dc12_trades_6 : decode prog_14_method_86_code 6 = .ok (.getfield 290, 3) := by decide +kernel
theorem dc12_trades_9 : decode prog_14_method_86_code 9 = .ok (.ifCond .eq 15, 3) := by decide +kernel
theorem dc12_trades_12 : decode prog_14_method_86_code 12 = .ok (.iload_n 1, 1) := by decide +kernel
theorem dc12_trades_13 : decode prog_14_method_86_code 13 = .ok (.invokestatic 363, 3) := by decide +kernel
theorem dc12_trades_16 : decode prog_14_method_86_code 16 = .ok (.ifCond .eq 8, 3) := by decide +kernel
theorem dc12_trades_19 : decode prog_14_method_86_code 19 = .ok (.iload_n 2, 1) := by decide +kernel
theorem dc12_trades_20 : decode prog_14_method_86_code 20 = .ok (.iconst (-1), 1) := by decide +kernel
theorem dc12_trades_21 : decode prog_14_method_86_code 21 = .ok (.if_icmp .ge 5, 3) := by decide +kernel
theorem dc12_trades_24 : decode prog_14_method_86_code 24 = .ok (.iconst (-1), 1) := by decide +kernel
theorem dc12_trades_25 : decode prog_14_method_86_code 25 = .ok (.ireturn, 1) := by decide +kernel
theorem dc12_trades_26 : decode prog_14_method_86_code 26 = .ok (.aload_n 0, 1) := by decide +kernel
theorem dc12_trades_27 : decode prog_14_method_86_code 27 = .ok (.iload_n 1, 1) := by decide +kernel
theorem dc12_trades_28 : decode prog_14_method_86_code 28 = .ok (.invokevirtual 425, 3) := by decide +kernel
theorem dc12_trades_31 : decode prog_14_method_86_code 31 = .ok (.iconst 0, 1) := by decide +kernel
theorem dc12_trades_32 : decode prog_14_method_86_code 32 = .ok (.istore_n 3, 1) := by decide +kernel
theorem dc12_trades_33 : decode prog_14_method_86_code 33 = .ok (.iload_n 3, 1) := by decide +kernel
theorem dc12_trades_34 : decode prog_14_method_86_code 34 = .ok (.aload_n 0, 1) := by decide +kernel
theorem dc12_trades_35 : decode prog_14_method_86_code 35 = .ok (.getfield 290, 3) := by decide +kernel
theorem dc12_trades_38 : decode prog_14_method_86_code 38 = .ok (.if_icmp .ge 25, 3) := by decide +kernel
theorem dc12_trades_41 : decode prog_14_method_86_code 41 = .ok (.aload_n 0, 1) := by decide +kernel
theorem dc12_trades_42 : decode prog_14_method_86_code 42 = .ok (.getfield 81, 3) := by decide +kernel
theorem dc12_trades_45 : decode prog_14_method_86_code 45 = .ok (.iload_n 3, 1) := by decide +kernel
theorem dc12_trades_46 : decode prog_14_method_86_code 46 = .ok (.aload_n 0, 1) := by decide +kernel
theorem dc12_trades_47 : decode prog_14_method_86_code 47 = .ok (.getfield 58, 3) := by decide +kernel
theorem dc12_trades_50 : decode prog_14_method_86_code 50 = .ok (.iconst 4, 1) := by decide +kernel
theorem dc12_trades_51 : decode prog_14_method_86_code 51 = .ok (.iload_n 3, 1) := by decide +kernel
theorem dc12_trades_52 : decode prog_14_method_86_code 52 = .ok (.imul, 1) := by decide +kernel
theorem dc12_trades_53 : decode prog_14_method_86_code 53 = .ok (.iconst 3, 1) := by decide +kernel
theorem dc12_trades_54 : decode prog_14_method_86_code 54 = .ok (.iadd, 1) := by decide +kernel
theorem dc12_trades_55 : decode prog_14_method_86_code 55 = .ok (.iaload, 1) := by decide +kernel
theorem dc12_trades_56 : decode prog_14_method_86_code 56 = .ok (.iastore, 1) := by decide +kernel
theorem dc12_trades_57 : decode prog_14_method_86_code 57 = .ok (.iinc 3 1, 3) := by decide +kernel
theorem dc12_trades_60 : decode prog_14_method_86_code 60 = .ok (.goto (-27), 3) := by decide +kernel
theorem dc12_trades_63 : decode prog_14_method_86_code 63 = .ok (.iconst 0, 1) := by decide +kernel
theorem dc12_trades_64 : decode prog_14_method_86_code 64 = .ok (.istore_n 3, 1) := by decide +kernel
theorem dc12_trades_65 : decode prog_14_method_86_code 65 = .ok (.iconst 0, 1) := by decide +kernel
theorem dc12_trades_66 : decode prog_14_method_86_code 66 = .ok (.istore 4, 2) := by decide +kernel
theorem dc12_trades_68 : decode prog_14_method_86_code 68 = .ok (.iload 4, 2) := by decide +kernel
theorem dc12_trades_70 : decode prog_14_method_86_code 70 = .ok (.bipush 10, 2) := by decide +kernel
theorem dc12_trades_72 : decode prog_14_method_86_code 72 = .ok (.aload_n 0, 1) := by decide +kernel
theorem dc12_trades_73 : decode prog_14_method_86_code 73 = .ok (.getfield 290, 3) := by decide +kernel
theorem dc12_trades_76 : decode prog_14_method_86_code 76 = .ok (.imul, 1) := by decide +kernel
theorem dc12_trades_77 : decode prog_14_method_86_code 77 = .ok (.if_icmp .ge 130, 3) := by decide +kernel
theorem dc12_trades_80 : decode prog_14_method_86_code 80 = .ok (.iload 4, 2) := by decide +kernel
theorem dc12_trades_82 : decode prog_14_method_86_code 82 = .ok (.bipush 10, 2) := by decide +kernel
theorem dc12_trades_84 : decode prog_14_method_86_code 84 = .ok (.idiv, 1) := by decide +kernel
theorem dc12_trades_85 : decode prog_14_method_86_code 85 = .ok (.istore 5, 2) := by decide +kernel
theorem dc12_trades_87 : decode prog_14_method_86_code 87 = .ok (.iload 4, 2) := by decide +kernel
theorem dc12_trades_89 : decode prog_14_method_86_code 89 = .ok (.bipush 10, 2) := by decide +kernel
theorem dc12_trades_91 : decode prog_14_method_86_code 91 = .ok (.irem, 1) := by decide +kernel
theorem dc12_trades_92 : decode prog_14_method_86_code 92 = .ok (.istore 6, 2) := by decide +kernel
theorem dc12_trades_94 : decode prog_14_method_86_code 94 = .ok (.aload_n 0, 1) := by decide +kernel
theorem dc12_trades_95 : decode prog_14_method_86_code 95 = .ok (.aload_n 0, 1) := by decide +kernel
theorem dc12_trades_96 : decode prog_14_method_86_code 96 = .ok (.getfield 55, 3) := by decide +kernel
theorem dc12_trades_99 : decode prog_14_method_86_code 99 = .ok (.iload 5, 2) := by decide +kernel
theorem dc12_trades_101 : decode prog_14_method_86_code 101 = .ok (.iload 6, 2) := by decide +kernel
theorem dc12_trades_103 : decode prog_14_method_86_code 103 = .ok (.iconst 1, 1) := by decide +kernel
theorem dc12_trades_104 : decode prog_14_method_86_code 104 = .ok (.invokevirtual 371, 3) := by decide +kernel
theorem dc12_trades_107 : decode prog_14_method_86_code 107 = .ok (.ifCond .ne 6, 3) := by decide +kernel
theorem dc12_trades_110 : decode prog_14_method_86_code 110 = .ok (.goto 91, 3) := by decide +kernel
theorem dc12_trades_113 : decode prog_14_method_86_code 113 = .ok (.aload_n 0, 1) := by decide +kernel
theorem dc12_trades_114 : decode prog_14_method_86_code 114 = .ok (.getfield 55, 3) := by decide +kernel
theorem dc12_trades_117 : decode prog_14_method_86_code 117 = .ok (.aload_n 0, 1) := by decide +kernel
theorem dc12_trades_118 : decode prog_14_method_86_code 118 = .ok (.getfield 58, 3) := by decide +kernel
theorem dc12_trades_121 : decode prog_14_method_86_code 121 = .ok (.invokestatic 345, 3) := by decide +kernel
theorem dc12_trades_124 : decode prog_14_method_86_code 124 = .ok (.aload_n 0, 1) := by decide +kernel
theorem dc12_trades_125 : decode prog_14_method_86_code 125 = .ok (.getfield 58, 3) := by decide +kernel
theorem dc12_trades_128 : decode prog_14_method_86_code 128 = .ok (.iload 5, 2) := by decide +kernel
theorem dc12_trades_130 : decode prog_14_method_86_code 130 = .ok (.iload 6, 2) := by decide +kernel
theorem dc12_trades_132 : decode prog_14_method_86_code 132 = .ok (.iconst 1, 1) := by decide +kernel
theorem dc12_trades_133 : decode prog_14_method_86_code 133 = .ok (.invokestatic 375, 3) := by decide +kernel
theorem dc12_trades_136 : decode prog_14_method_86_code 136 = .ok (.aload_n 0, 1) := by decide +kernel
theorem dc12_trades_137 : decode prog_14_method_86_code 137 = .ok (.aload_n 0, 1) := by decide +kernel
theorem dc12_trades_138 : decode prog_14_method_86_code 138 = .ok (.getfield 58, 3) := by decide +kernel
theorem dc12_trades_141 : decode prog_14_method_86_code 141 = .ok (.iload_n 1, 1) := by decide +kernel
theorem dc12_trades_142 : decode prog_14_method_86_code 142 = .ok (.invokevirtual 349, 3) := by decide +kernel
theorem dc12_trades_145 : decode prog_14_method_86_code 145 = .ok (.aload_n 0, 1) := by decide +kernel
theorem dc12_trades_146 : decode prog_14_method_86_code 146 = .ok (.getfield 58, 3) := by decide +kernel
theorem dc12_trades_149 : decode prog_14_method_86_code 149 = .ok (.iconst 4, 1) := by decide +kernel
theorem dc12_trades_150 : decode prog_14_method_86_code 150 = .ok (.iload 5, 2) := by decide +kernel
theorem dc12_trades_152 : decode prog_14_method_86_code 152 = .ok (.imul, 1) := by decide +kernel
theorem dc12_trades_153 : decode prog_14_method_86_code 153 = .ok (.iconst 3, 1) := by decide +kernel
theorem dc12_trades_154 : decode prog_14_method_86_code 154 = .ok (.iadd, 1) := by decide +kernel
theorem dc12_trades_155 : decode prog_14_method_86_code 155 = .ok (.iaload, 1) := by decide +kernel
theorem dc12_trades_156 : decode prog_14_method_86_code 156 = .ok (.aload_n 0, 1) := by decide +kernel
theorem dc12_trades_157 : decode prog_14_method_86_code 157 = .ok (.getfield 81, 3) := by decide +kernel
theorem dc12_trades_160 : decode prog_14_method_86_code 160 = .ok (.iload 5, 2) := by decide +kernel
theorem dc12_trades_162 : decode prog_14_method_86_code 162 = .ok (.iaload, 1) := by decide +kernel
theorem dc12_trades_163 : decode prog_14_method_86_code 163 = .ok (.if_icmp .le 38, 3) := by decide +kernel
theorem dc12_trades_166 : decode prog_14_method_86_code 166 = .ok (.aload_n 0, 1) := by decide +kernel
theorem dc12_trades_167 : decode prog_14_method_86_code 167 = .ok (.getfield 58, 3) := by decide +kernel
theorem dc12_trades_170 : decode prog_14_method_86_code 170 = .ok (.iconst 4, 1) := by decide +kernel
theorem dc12_trades_171 : decode prog_14_method_86_code 171 = .ok (.iload 6, 2) := by decide +kernel
theorem dc12_trades_173 : decode prog_14_method_86_code 173 = .ok (.imul, 1) := by decide +kernel
theorem dc12_trades_174 : decode prog_14_method_86_code 174 = .ok (.iconst 3, 1) := by decide +kernel
theorem dc12_trades_175 : decode prog_14_method_86_code 175 = .ok (.iadd, 1) := by decide +kernel
theorem dc12_trades_176 : decode prog_14_method_86_code 176 = .ok (.iaload, 1) := by decide +kernel
theorem dc12_trades_177 : decode prog_14_method_86_code 177 = .ok (.aload_n 0, 1) := by decide +kernel
theorem dc12_trades_178 : decode prog_14_method_86_code 178 = .ok (.getfield 81, 3) := by decide +kernel
theorem dc12_trades_181 : decode prog_14_method_86_code 181 = .ok (.iload 6, 2) := by decide +kernel
theorem dc12_trades_183 : decode prog_14_method_86_code 183 = .ok (.iaload, 1) := by decide +kernel
theorem dc12_trades_184 : decode prog_14_method_86_code 184 = .ok (.if_icmp .gt 6, 3) := by decide +kernel
theorem dc12_trades_187 : decode prog_14_method_86_code 187 = .ok (.goto 14, 3) := by decide +kernel
theorem dc12_trades_190 : decode prog_14_method_86_code 190 = .ok (.iload_n 3, 1) := by decide +kernel
theorem dc12_trades_191 : decode prog_14_method_86_code 191 = .ok (.iload_n 2, 1) := by decide +kernel
theorem dc12_trades_192 : decode prog_14_method_86_code 192 = .ok (.if_icmp .ne 6, 3) := by decide +kernel
theorem dc12_trades_195 : decode prog_14_method_86_code 195 = .ok (.iload 4, 2) := by decide +kernel
theorem dc12_trades_197 : decode prog_14_method_86_code 197 = .ok (.ireturn, 1) := by decide +kernel
theorem dc12_trades_198 : decode prog_14_method_86_code 198 = .ok (.iinc 3 1, 3) := by decide +kernel
theorem dc12_trades_201 : decode prog_14_method_86_code 201 = .ok (.iinc 4 1, 3) := by decide +kernel
theorem dc12_trades_204 : decode prog_14_method_86_code 204 = .ok (.goto (-136), 3) := by decide +kernel
theorem dc12_trades_207 : decode prog_14_method_86_code 207 = .ok (.iload_n 2, 1) := by decide +kernel
theorem dc12_trades_208 : decode prog_14_method_86_code 208 = .ok (.iconst (-1), 1) := by decide +kernel
theorem dc12_trades_209 : decode prog_14_method_86_code 209 = .ok (.if_icmp .ne 7, 3) := by decide +kernel
theorem dc12_trades_212 : decode prog_14_method_86_code 212 = .ok (.iload_n 3, 1) := by decide +kernel
theorem dc12_trades_213 : decode prog_14_method_86_code 213 = .ok (.goto 4, 3) := by decide +kernel
theorem dc12_trades_216 : decode prog_14_method_86_code 216 = .ok (.iconst (-1), 1) := by decide +kernel
theorem dc12_trades_217 : decode prog_14_method_86_code 217 = .ok (.ireturn, 1) := by decide +kernel
theorem dc12_fell_0 : decode prog_14_method_87_code 0 = .ok (.aload_n 0, 1) := by decide +kernel
theorem dc12_fell_1 : decode prog_14_method_87_code 1 = .ok (.iconst 0, 1) := by decide +kernel
theorem dc12_fell_2 : decode prog_14_method_87_code 2 = .ok (.putfield 100, 3) := by decide +kernel
theorem dc12_fell_5 : decode prog_14_method_87_code 5 = .ok (.aload_n 0, 1) := by decide +kernel
theorem dc12_fell_6 : decode prog_14_method_87_code 6 = .ok (.iload_n 1, 1) := by decide +kernel
theorem dc12_fell_7 : decode prog_14_method_87_code 7 = .ok (.invokevirtual 353, 3) := by decide +kernel
theorem dc12_fell_10 : decode prog_14_method_87_code 10 = .ok (.ifCond .eq 31, 3) := by decide +kernel
theorem dc12_fell_13 : decode prog_14_method_87_code 13 = .ok (.iload_n 2, 1) := by decide +kernel
theorem dc12_fell_14 : decode prog_14_method_87_code 14 = .ok (.invokestatic 363, 3) := by decide +kernel
theorem dc12_fell_17 : decode prog_14_method_87_code 17 = .ok (.ifCond .eq 24, 3) := by decide +kernel
theorem dc12_fell_20 : decode prog_14_method_87_code 20 = .ok (.iload_n 3, 1) := by decide +kernel
theorem dc12_fell_21 : decode prog_14_method_87_code 21 = .ok (.i2l, 1) := by decide +kernel
theorem dc12_fell_22 : decode prog_14_method_87_code 22 = .ok (.lconst 0, 1) := by decide +kernel
theorem dc12_fell_23 : decode prog_14_method_87_code 23 = .ok (.ldc2_w 302, 3) := by decide +kernel
theorem dc12_fell_26 : decode prog_14_method_87_code 26 = .ok (.invokestatic 221, 3) := by decide +kernel
theorem dc12_fell_29 : decode prog_14_method_87_code 29 = .ok (.ifCond .eq 12, 3) := by decide +kernel
theorem dc12_fell_32 : decode prog_14_method_87_code 32 = .ok (.aload_n 0, 1) := by decide +kernel
theorem dc12_fell_33 : decode prog_14_method_87_code 33 = .ok (.getfield 293, 3) := by decide +kernel
theorem dc12_fell_36 : decode prog_14_method_87_code 36 = .ok (.bipush 10, 2) := by decide +kernel
theorem dc12_fell_38 : decode prog_14_method_87_code 38 = .ok (.if_icmp .ne 5, 3) := by decide +kernel
theorem dc12_fell_41 : decode prog_14_method_87_code 41 = .ok (.iconst (-1), 1) := by decide +kernel
theorem dc12_fell_42 : decode prog_14_method_87_code 42 = .ok (.ireturn, 1) := by decide +kernel
theorem dc12_fell_43 : decode prog_14_method_87_code 43 = .ok (.aload_n 0, 1) := by decide +kernel
theorem dc12_fell_44 : decode prog_14_method_87_code 44 = .ok (.getfield 84, 3) := by decide +kernel
theorem dc12_fell_47 : decode prog_14_method_87_code 47 = .ok (.iconst 4, 1) := by decide +kernel
theorem dc12_fell_48 : decode prog_14_method_87_code 48 = .ok (.aload_n 0, 1) := by decide +kernel
theorem dc12_fell_49 : decode prog_14_method_87_code 49 = .ok (.getfield 293, 3) := by decide +kernel
theorem dc12_fell_52 : decode prog_14_method_87_code 52 = .ok (.imul, 1) := by decide +kernel
theorem dc12_fell_53 : decode prog_14_method_87_code 53 = .ok (.iload_n 1, 1) := by decide +kernel
theorem dc12_fell_54 : decode prog_14_method_87_code 54 = .ok (.iastore, 1) := by decide +kernel
theorem dc12_fell_55 : decode prog_14_method_87_code 55 = .ok (.aload_n 0, 1) := by decide +kernel
theorem dc12_fell_56 : decode prog_14_method_87_code 56 = .ok (.getfield 84, 3) := by decide +kernel
theorem dc12_fell_59 : decode prog_14_method_87_code 59 = .ok (.iconst 4, 1) := by decide +kernel
theorem dc12_fell_60 : decode prog_14_method_87_code 60 = .ok (.aload_n 0, 1) := by decide +kernel
theorem dc12_fell_61 : decode prog_14_method_87_code 61 = .ok (.getfield 293, 3) := by decide +kernel
theorem dc12_fell_64 : decode prog_14_method_87_code 64 = .ok (.imul, 1) := by decide +kernel
theorem dc12_fell_65 : decode prog_14_method_87_code 65 = .ok (.iconst 1, 1) := by decide +kernel
theorem dc12_fell_66 : decode prog_14_method_87_code 66 = .ok (.iadd, 1) := by decide +kernel
theorem dc12_fell_67 : decode prog_14_method_87_code 67 = .ok (.iload_n 2, 1) := by decide +kernel
theorem dc12_fell_68 : decode prog_14_method_87_code 68 = .ok (.iastore, 1) := by decide +kernel
theorem dc12_fell_69 : decode prog_14_method_87_code 69 = .ok (.aload_n 0, 1) := by decide +kernel
theorem dc12_fell_70 : decode prog_14_method_87_code 70 = .ok (.getfield 84, 3) := by decide +kernel
theorem dc12_fell_73 : decode prog_14_method_87_code 73 = .ok (.iconst 4, 1) := by decide +kernel
theorem dc12_fell_74 : decode prog_14_method_87_code 74 = .ok (.aload_n 0, 1) := by decide +kernel
theorem dc12_fell_75 : decode prog_14_method_87_code 75 = .ok (.getfield 293, 3) := by decide +kernel
theorem dc12_fell_78 : decode prog_14_method_87_code 78 = .ok (.imul, 1) := by decide +kernel
theorem dc12_fell_79 : decode prog_14_method_87_code 79 = .ok (.iconst 2, 1) := by decide +kernel
theorem dc12_fell_80 : decode prog_14_method_87_code 80 = .ok (.iadd, 1) := by decide +kernel
theorem dc12_fell_81 : decode prog_14_method_87_code 81 = .ok (.iload_n 3, 1) := by decide +kernel
theorem dc12_fell_82 : decode prog_14_method_87_code 82 = .ok (.iastore, 1) := by decide +kernel
theorem dc12_fell_83 : decode prog_14_method_87_code 83 = .ok (.aload_n 0, 1) := by decide +kernel
theorem dc12_fell_84 : decode prog_14_method_87_code 84 = .ok (.getfield 84, 3) := by decide +kernel
theorem dc12_fell_87 : decode prog_14_method_87_code 87 = .ok (.iconst 4, 1) := by decide +kernel
theorem dc12_fell_88 : decode prog_14_method_87_code 88 = .ok (.aload_n 0, 1) := by decide +kernel
theorem dc12_fell_89 : decode prog_14_method_87_code 89 = .ok (.getfield 293, 3) := by decide +kernel
theorem dc12_fell_92 : decode prog_14_method_87_code 92 = .ok (.imul, 1) := by decide +kernel
theorem dc12_fell_93 : decode prog_14_method_87_code 93 = .ok (.iconst 3, 1) := by decide +kernel
theorem dc12_fell_94 : decode prog_14_method_87_code 94 = .ok (.iadd, 1) := by decide +kernel
theorem dc12_fell_95 : decode prog_14_method_87_code 95 = .ok (.iload 4, 2) := by decide +kernel
theorem dc12_fell_97 : decode prog_14_method_87_code 97 = .ok (.ifCond .eq 7, 3) := by decide +kernel
theorem dc12_fell_100 : decode prog_14_method_87_code 100 = .ok (.iconst 1, 1) := by decide +kernel
theorem dc12_fell_101 : decode prog_14_method_87_code 101 = .ok (.goto 4, 3) := by decide +kernel
theorem dc12_fell_104 : decode prog_14_method_87_code 104 = .ok (.iconst 0, 1) := by decide +kernel
theorem dc12_fell_105 : decode prog_14_method_87_code 105 = .ok (.iastore, 1) := by decide +kernel
theorem dc12_fell_106 : decode prog_14_method_87_code 106 = .ok (.aload_n 0, 1) := by decide +kernel
theorem dc12_fell_107 : decode prog_14_method_87_code 107 = .ok (.dup, 1) := by decide +kernel
theorem dc12_fell_108 : decode prog_14_method_87_code 108 = .ok (.getfield 293, 3) := by decide +kernel
theorem dc12_fell_111 : decode prog_14_method_87_code 111 = .ok (.iconst 1, 1) := by decide +kernel
theorem dc12_fell_112 : decode prog_14_method_87_code 112 = .ok (.iadd, 1) := by decide +kernel
theorem dc12_fell_113 : decode prog_14_method_87_code 113 = .ok (.putfield 293, 3) := by decide +kernel
theorem dc12_fell_116 : decode prog_14_method_87_code 116 = .ok (.aload_n 0, 1) := by decide +kernel
theorem dc12_fell_117 : decode prog_14_method_87_code 117 = .ok (.getfield 293, 3) := by decide +kernel
theorem dc12_fell_120 : decode prog_14_method_87_code 120 = .ok (.ireturn, 1) := by decide +kernel
theorem dc12_debts_0 : decode prog_14_method_90_code 0 = .ok (.aload_n 0, 1) := by decide +kernel
theorem dc12_debts_1 : decode prog_14_method_90_code 1 = .ok (.iconst 0, 1) := by decide +kernel
theorem dc12_debts_2 : decode prog_14_method_90_code 2 = .ok (.putfield 100, 3) := by decide +kernel
theorem dc12_debts_5 : decode prog_14_method_90_code 5 = .ok (.aload_n 0, 1) := by decide +kernel
theorem dc12_debts_6 : decode prog_14_method_90_code 6 = .ok (.iload_n 1, 1) := by decide +kernel
theorem dc12_debts_7 : decode prog_14_method_90_code 7 = .ok (.invokevirtual 353, 3) := by decide +kernel
theorem dc12_debts_10 : decode prog_14_method_90_code 10 = .ok (.ifCond .eq 8, 3) := by decide +kernel
theorem dc12_debts_13 : decode prog_14_method_90_code 13 = .ok (.iload_n 2, 1) := by decide +kernel
theorem dc12_debts_14 : decode prog_14_method_90_code 14 = .ok (.iconst (-1), 1) := by decide +kernel
theorem dc12_debts_15 : decode prog_14_method_90_code 15 = .ok (.if_icmp .ge 5, 3) := by decide +kernel
theorem dc12_debts_18 : decode prog_14_method_90_code 18 = .ok (.iconst (-1), 1) := by decide +kernel
theorem dc12_debts_19 : decode prog_14_method_90_code 19 = .ok (.ireturn, 1) := by decide +kernel
theorem dc12_debts_20 : decode prog_14_method_90_code 20 = .ok (.iconst 0, 1) := by decide +kernel
theorem dc12_debts_21 : decode prog_14_method_90_code 21 = .ok (.istore_n 3, 1) := by decide +kernel
theorem dc12_debts_22 : decode prog_14_method_90_code 22 = .ok (.iconst 0, 1) := by decide +kernel
theorem dc12_debts_23 : decode prog_14_method_90_code 23 = .ok (.istore 4, 2) := by decide +kernel
theorem dc12_debts_25 : decode prog_14_method_90_code 25 = .ok (.iload 4, 2) := by decide +kernel
theorem dc12_debts_27 : decode prog_14_method_90_code 27 = .ok (.bipush 99, 2) := by decide +kernel
theorem dc12_debts_29 : decode prog_14_method_90_code 29 = .ok (.if_icmp .gt 33, 3) := by decide +kernel
theorem dc12_debts_32 : decode prog_14_method_90_code 32 = .ok (.aload_n 0, 1) := by decide +kernel
theorem dc12_debts_33 : decode prog_14_method_90_code 33 = .ok (.iload_n 1, 1) := by decide +kernel
theorem dc12_debts_34 : decode prog_14_method_90_code 34 = .ok (.iload 4, 2) := by decide +kernel
theorem dc12_debts_36 : decode prog_14_method_90_code 36 = .ok (.invokevirtual 432, 3) := by decide +kernel
theorem dc12_debts_39 : decode prog_14_method_90_code 39 = .ok (.ifCond .ne 6, 3) := by decide +kernel
theorem dc12_debts_42 : decode prog_14_method_90_code 42 = .ok (.goto 14, 3) := by decide +kernel
theorem dc12_debts_45 : decode prog_14_method_90_code 45 = .ok (.iload_n 3, 1) := by decide +kernel
theorem dc12_debts_46 : decode prog_14_method_90_code 46 = .ok (.iload_n 2, 1) := by decide +kernel
theorem dc12_debts_47 : decode prog_14_method_90_code 47 = .ok (.if_icmp .ne 6, 3) := by decide +kernel
theorem dc12_debts_50 : decode prog_14_method_90_code 50 = .ok (.iload 4, 2) := by decide +kernel
theorem dc12_debts_52 : decode prog_14_method_90_code 52 = .ok (.ireturn, 1) := by decide +kernel
theorem dc12_debts_53 : decode prog_14_method_90_code 53 = .ok (.iinc 3 1, 3) := by decide +kernel
theorem dc12_debts_56 : decode prog_14_method_90_code 56 = .ok (.iinc 4 1, 3) := by decide +kernel
theorem dc12_debts_59 : decode prog_14_method_90_code 59 = .ok (.goto (-34), 3) := by decide +kernel
theorem dc12_debts_62 : decode prog_14_method_90_code 62 = .ok (.iload_n 2, 1) := by decide +kernel
theorem dc12_debts_63 : decode prog_14_method_90_code 63 = .ok (.iconst (-1), 1) := by decide +kernel
theorem dc12_debts_64 : decode prog_14_method_90_code 64 = .ok (.if_icmp .ne 7, 3) := by decide +kernel
theorem dc12_debts_67 : decode prog_14_method_90_code 67 = .ok (.iload_n 3, 1) := by decide +kernel
theorem dc12_debts_68 : decode prog_14_method_90_code 68 = .ok (.goto 4, 3) := by decide +kernel
theorem dc12_debts_71 : decode prog_14_method_90_code 71 = .ok (.iconst (-1), 1) := by decide +kernel
theorem dc12_debts_72 : decode prog_14_method_90_code 72 = .ok (.ireturn, 1) := by decide +kernel
theorem dc12_couldBe_0 : decode prog_14_method_89_code 0 = .ok (.iconst 0, 1) := by decide +kernel
theorem dc12_couldBe_1 : decode prog_14_method_89_code 1 = .ok (.istore_n 3, 1) := by decide +kernel
theorem dc12_couldBe_2 : decode prog_14_method_89_code 2 = .ok (.iload_n 3, 1) := by decide +kernel
theorem dc12_couldBe_3 : decode prog_14_method_89_code 3 = .ok (.aload_n 0, 1) := by decide +kernel
theorem dc12_couldBe_4 : decode prog_14_method_89_code 4 = .ok (.getfield 293, 3) := by decide +kernel
theorem dc12_couldBe_7 : decode prog_14_method_89_code 7 = .ok (.if_icmp .ge 79, 3) := by decide +kernel
theorem dc12_couldBe_10 : decode prog_14_method_89_code 10 = .ok (.aload_n 0, 1) := by decide +kernel
theorem dc12_couldBe_11 : decode prog_14_method_89_code 11 = .ok (.getfield 84, 3) := by decide +kernel
theorem dc12_couldBe_14 : decode prog_14_method_89_code 14 = .ok (.iconst 4, 1) := by decide +kernel
theorem dc12_couldBe_15 : decode prog_14_method_89_code 15 = .ok (.iload_n 3, 1) := by decide +kernel
theorem dc12_couldBe_16 : decode prog_14_method_89_code 16 = .ok (.imul, 1) := by decide +kernel
theorem dc12_couldBe_17 : decode prog_14_method_89_code 17 = .ok (.iaload, 1) := by decide +kernel
theorem dc12_couldBe_18 : decode prog_14_method_89_code 18 = .ok (.iload_n 1, 1) := by decide +kernel
theorem dc12_couldBe_19 : decode prog_14_method_89_code 19 = .ok (.if_icmp .ne 61, 3) := by decide +kernel
theorem dc12_couldBe_22 : decode prog_14_method_89_code 22 = .ok (.aload_n 0, 1) := by decide +kernel
theorem dc12_couldBe_23 : decode prog_14_method_89_code 23 = .ok (.iload_n 1, 1) := by decide +kernel
theorem dc12_couldBe_24 : decode prog_14_method_89_code 24 = .ok (.iload_n 2, 1) := by decide +kernel
theorem dc12_couldBe_25 : decode prog_14_method_89_code 25 = .ok (.aload_n 0, 1) := by decide +kernel
theorem dc12_couldBe_26 : decode prog_14_method_89_code 26 = .ok (.getfield 84, 3) := by decide +kernel
theorem dc12_couldBe_29 : decode prog_14_method_89_code 29 = .ok (.iconst 4, 1) := by decide +kernel
theorem dc12_couldBe_30 : decode prog_14_method_89_code 30 = .ok (.iload_n 3, 1) := by decide +kernel
theorem dc12_couldBe_31 : decode prog_14_method_89_code 31 = .ok (.imul, 1) := by decide +kernel
theorem dc12_couldBe_32 : decode prog_14_method_89_code 32 = .ok (.iconst 1, 1) := by decide +kernel
theorem dc12_couldBe_33 : decode prog_14_method_89_code 33 = .ok (.iadd, 1) := by decide +kernel
theorem dc12_couldBe_34 : decode prog_14_method_89_code 34 = .ok (.iaload, 1) := by decide +kernel
theorem dc12_couldBe_35 : decode prog_14_method_89_code 35 = .ok (.invokevirtual 428, 3) := by decide +kernel
theorem dc12_couldBe_38 : decode prog_14_method_89_code 38 = .ok (.aload_n 0, 1) := by decide +kernel
theorem dc12_couldBe_39 : decode prog_14_method_89_code 39 = .ok (.getfield 84, 3) := by decide +kernel
theorem dc12_couldBe_42 : decode prog_14_method_89_code 42 = .ok (.iconst 4, 1) := by decide +kernel
theorem dc12_couldBe_43 : decode prog_14_method_89_code 43 = .ok (.iload_n 3, 1) := by decide +kernel
theorem dc12_couldBe_44 : decode prog_14_method_89_code 44 = .ok (.imul, 1) := by decide +kernel
theorem dc12_couldBe_45 : decode prog_14_method_89_code 45 = .ok (.iconst 2, 1) := by decide +kernel
theorem dc12_couldBe_46 : decode prog_14_method_89_code 46 = .ok (.iadd, 1) := by decide +kernel
theorem dc12_couldBe_47 : decode prog_14_method_89_code 47 = .ok (.iaload, 1) := by decide +kernel
theorem dc12_couldBe_48 : decode prog_14_method_89_code 48 = .ok (.if_icmp .lt 7, 3) := by decide +kernel
theorem dc12_couldBe_51 : decode prog_14_method_89_code 51 = .ok (.iconst 1, 1) := by decide +kernel
theorem dc12_couldBe_52 : decode prog_14_method_89_code 52 = .ok (.goto 4, 3) := by decide +kernel
theorem dc12_couldBe_55 : decode prog_14_method_89_code 55 = .ok (.iconst 0, 1) := by decide +kernel
theorem dc12_couldBe_56 : decode prog_14_method_89_code 56 = .ok (.aload_n 0, 1) := by decide +kernel
theorem dc12_couldBe_57 : decode prog_14_method_89_code 57 = .ok (.getfield 84, 3) := by decide +kernel
theorem dc12_couldBe_60 : decode prog_14_method_89_code 60 = .ok (.iconst 4, 1) := by decide +kernel
theorem dc12_couldBe_61 : decode prog_14_method_89_code 61 = .ok (.iload_n 3, 1) := by decide +kernel
theorem dc12_couldBe_62 : decode prog_14_method_89_code 62 = .ok (.imul, 1) := by decide +kernel
theorem dc12_couldBe_63 : decode prog_14_method_89_code 63 = .ok (.iconst 3, 1) := by decide +kernel
theorem dc12_couldBe_64 : decode prog_14_method_89_code 64 = .ok (.iadd, 1) := by decide +kernel
theorem dc12_couldBe_65 : decode prog_14_method_89_code 65 = .ok (.iaload, 1) := by decide +kernel
theorem dc12_couldBe_66 : decode prog_14_method_89_code 66 = .ok (.iconst 1, 1) := by decide +kernel
theorem dc12_couldBe_67 : decode prog_14_method_89_code 67 = .ok (.if_icmp .ne 7, 3) := by decide +kernel
theorem dc12_couldBe_70 : decode prog_14_method_89_code 70 = .ok (.iconst 1, 1) := by decide +kernel
theorem dc12_couldBe_71 : decode prog_14_method_89_code 71 = .ok (.goto 4, 3) := by decide +kernel
theorem dc12_couldBe_74 : decode prog_14_method_89_code 74 = .ok (.iconst 0, 1) := by decide +kernel
theorem dc12_couldBe_75 : decode prog_14_method_89_code 75 = .ok (.if_icmp .eq 5, 3) := by decide +kernel
theorem dc12_couldBe_78 : decode prog_14_method_89_code 78 = .ok (.iconst 0, 1) := by decide +kernel
theorem dc12_couldBe_79 : decode prog_14_method_89_code 79 = .ok (.ireturn, 1) := by decide +kernel
theorem dc12_couldBe_80 : decode prog_14_method_89_code 80 = .ok (.iinc 3 1, 3) := by decide +kernel
theorem dc12_couldBe_83 : decode prog_14_method_89_code 83 = .ok (.goto (-81), 3) := by decide +kernel
theorem dc12_couldBe_86 : decode prog_14_method_89_code 86 = .ok (.iconst 1, 1) := by decide +kernel
theorem dc12_couldBe_87 : decode prog_14_method_89_code 87 = .ok (.ireturn, 1) := by decide +kernel
theorem dc12_fallsIf_0 : decode prog_14_method_88_code 0 = .ok (.aload_n 0, 1) := by decide +kernel
theorem dc12_fallsIf_1 : decode prog_14_method_88_code 1 = .ok (.getfield 55, 3) := by decide +kernel
theorem dc12_fallsIf_4 : decode prog_14_method_88_code 4 = .ok (.aload_n 0, 1) := by decide +kernel
theorem dc12_fallsIf_5 : decode prog_14_method_88_code 5 = .ok (.getfield 58, 3) := by decide +kernel
theorem dc12_fallsIf_8 : decode prog_14_method_88_code 8 = .ok (.invokestatic 345, 3) := by decide +kernel
theorem dc12_fallsIf_11 : decode prog_14_method_88_code 11 = .ok (.aload_n 0, 1) := by decide +kernel
theorem dc12_fallsIf_12 : decode prog_14_method_88_code 12 = .ok (.getfield 58, 3) := by decide +kernel
theorem dc12_fallsIf_15 : decode prog_14_method_88_code 15 = .ok (.iconst 4, 1) := by decide +kernel
theorem dc12_fallsIf_16 : decode prog_14_method_88_code 16 = .ok (.iload_n 1, 1) := by decide +kernel
theorem dc12_fallsIf_17 : decode prog_14_method_88_code 17 = .ok (.imul, 1) := by decide +kernel
theorem dc12_fallsIf_18 : decode prog_14_method_88_code 18 = .ok (.iconst 0, 1) := by decide +kernel
theorem dc12_fallsIf_19 : decode prog_14_method_88_code 19 = .ok (.iadd, 1) := by decide +kernel
theorem dc12_fallsIf_20 : decode prog_14_method_88_code 20 = .ok (.iload_n 2, 1) := by decide +kernel
theorem dc12_fallsIf_21 : decode prog_14_method_88_code 21 = .ok (.iastore, 1) := by decide +kernel
theorem dc12_fallsIf_22 : decode prog_14_method_88_code 22 = .ok (.aload_n 0, 1) := by decide +kernel
theorem dc12_fallsIf_23 : decode prog_14_method_88_code 23 = .ok (.aload_n 0, 1) := by decide +kernel
theorem dc12_fallsIf_24 : decode prog_14_method_88_code 24 = .ok (.getfield 58, 3) := by decide +kernel
theorem dc12_fallsIf_27 : decode prog_14_method_88_code 27 = .ok (.iload_n 3, 1) := by decide +kernel
theorem dc12_fallsIf_28 : decode prog_14_method_88_code 28 = .ok (.invokevirtual 349, 3) := by decide +kernel
theorem dc12_fallsIf_31 : decode prog_14_method_88_code 31 = .ok (.aload_n 0, 1) := by decide +kernel
theorem dc12_fallsIf_32 : decode prog_14_method_88_code 32 = .ok (.getfield 72, 3) := by decide +kernel
theorem dc12_fallsIf_35 : decode prog_14_method_88_code 35 = .ok (.iload_n 1, 1) := by decide +kernel
theorem dc12_fallsIf_36 : decode prog_14_method_88_code 36 = .ok (.iaload, 1) := by decide +kernel
theorem dc12_fallsIf_37 : decode prog_14_method_88_code 37 = .ok (.ireturn, 1) := by decide +kernel
theorem dc12_ask_0 : decode prog_14_method_91_code 0 = .ok (.aload_n 0, 1) := by decide +kernel
theorem dc12_ask_1 : decode prog_14_method_91_code 1 = .ok (.iconst 0, 1) := by decide +kernel
theorem dc12_ask_2 : decode prog_14_method_91_code 2 = .ok (.putfield 100, 3) := by decide +kernel
theorem dc12_ask_5 : decode prog_14_method_91_code 5 = .ok (.aload_n 0, 1) := by decide +kernel
theorem dc12_ask_6 : decode prog_14_method_91_code 6 = .ok (.iload_n 1, 1) := by decide +kernel
theorem dc12_ask_7 : decode prog_14_method_91_code 7 = .ok (.invokevirtual 353, 3) := by decide +kernel
theorem dc12_ask_10 : decode prog_14_method_91_code 10 = .ok (.ifCond .eq 15, 3) := by decide +kernel
theorem dc12_ask_13 : decode prog_14_method_91_code 13 = .ok (.iload_n 2, 1) := by decide +kernel
theorem dc12_ask_14 : decode prog_14_method_91_code 14 = .ok (.i2l, 1) := by decide +kernel
theorem dc12_ask_15 : decode prog_14_method_91_code 15 = .ok (.lconst 0, 1) := by decide +kernel
theorem dc12_ask_16 : decode prog_14_method_91_code 16 = .ok (.ldc2_w 302, 3) := by decide +kernel
theorem dc12_ask_19 : decode prog_14_method_91_code 19 = .ok (.invokestatic 221, 3) := by decide +kernel
theorem dc12_ask_22 : decode prog_14_method_91_code 22 = .ok (.ifCond .ne 5, 3) := by decide +kernel
theorem dc12_ask_25 : decode prog_14_method_91_code 25 = .ok (.iconst (-1), 1) := by decide +kernel
theorem dc12_ask_26 : decode prog_14_method_91_code 26 = .ok (.ireturn, 1) := by decide +kernel
theorem dc12_ask_27 : decode prog_14_method_91_code 27 = .ok (.iconst 0, 1) := by decide +kernel
theorem dc12_ask_28 : decode prog_14_method_91_code 28 = .ok (.istore_n 3, 1) := by decide +kernel
theorem dc12_ask_29 : decode prog_14_method_91_code 29 = .ok (.iconst 0, 1) := by decide +kernel
theorem dc12_ask_30 : decode prog_14_method_91_code 30 = .ok (.istore 4, 2) := by decide +kernel
theorem dc12_ask_32 : decode prog_14_method_91_code 32 = .ok (.iload 4, 2) := by decide +kernel
theorem dc12_ask_34 : decode prog_14_method_91_code 34 = .ok (.bipush 99, 2) := by decide +kernel
theorem dc12_ask_36 : decode prog_14_method_91_code 36 = .ok (.if_icmp .gt 43, 3) := by decide +kernel
theorem dc12_ask_39 : decode prog_14_method_91_code 39 = .ok (.aload_n 0, 1) := by decide +kernel
theorem dc12_ask_40 : decode prog_14_method_91_code 40 = .ok (.getfield 90, 3) := by decide +kernel
theorem dc12_ask_43 : decode prog_14_method_91_code 43 = .ok (.iload 4, 2) := by decide +kernel
theorem dc12_ask_45 : decode prog_14_method_91_code 45 = .ok (.aload_n 0, 1) := by decide +kernel
theorem dc12_ask_46 : decode prog_14_method_91_code 46 = .ok (.iload_n 1, 1) := by decide +kernel
theorem dc12_ask_47 : decode prog_14_method_91_code 47 = .ok (.iload 4, 2) := by decide +kernel
theorem dc12_ask_49 : decode prog_14_method_91_code 49 = .ok (.invokevirtual 432, 3) := by decide +kernel
theorem dc12_ask_52 : decode prog_14_method_91_code 52 = .ok (.bastore, 1) := by decide +kernel
theorem dc12_ask_53 : decode prog_14_method_91_code 53 = .ok (.iload_n 3, 1) := by decide +kernel
theorem dc12_ask_54 : decode prog_14_method_91_code 54 = .ok (.ifCond .ne 13, 3) := by decide +kernel
theorem dc12_ask_57 : decode prog_14_method_91_code 57 = .ok (.aload_n 0, 1) := by decide +kernel
theorem dc12_ask_58 : decode prog_14_method_91_code 58 = .ok (.getfield 90, 3) := by decide +kernel
theorem dc12_ask_61 : decode prog_14_method_91_code 61 = .ok (.iload 4, 2) := by decide +kernel
theorem dc12_ask_63 : decode prog_14_method_91_code 63 = .ok (.baload, 1) := by decide +kernel
theorem dc12_ask_64 : decode prog_14_method_91_code 64 = .ok (.ifCond .eq 7, 3) := by decide +kernel
theorem dc12_ask_67 : decode prog_14_method_91_code 67 = .ok (.iconst 1, 1) := by decide +kernel
theorem dc12_ask_68 : decode prog_14_method_91_code 68 = .ok (.goto 4, 3) := by decide +kernel
theorem dc12_ask_71 : decode prog_14_method_91_code 71 = .ok (.iconst 0, 1) := by decide +kernel
theorem dc12_ask_72 : decode prog_14_method_91_code 72 = .ok (.istore_n 3, 1) := by decide +kernel
theorem dc12_ask_73 : decode prog_14_method_91_code 73 = .ok (.iinc 4 1, 3) := by decide +kernel
theorem dc12_ask_76 : decode prog_14_method_91_code 76 = .ok (.goto (-44), 3) := by decide +kernel
theorem dc12_ask_79 : decode prog_14_method_91_code 79 = .ok (.iload_n 3, 1) := by decide +kernel
theorem dc12_ask_80 : decode prog_14_method_91_code 80 = .ok (.ifCond .ne 5, 3) := by decide +kernel
theorem dc12_ask_83 : decode prog_14_method_91_code 83 = .ok (.iconst (-1), 1) := by decide +kernel
theorem dc12_ask_84 : decode prog_14_method_91_code 84 = .ok (.ireturn, 1) := by decide +kernel
theorem dc12_ask_85 : decode prog_14_method_91_code 85 = .ok (.iconst (-1), 1) := by decide +kernel
theorem dc12_ask_86 : decode prog_14_method_91_code 86 = .ok (.istore 4, 2) := by decide +kernel
theorem dc12_ask_88 : decode prog_14_method_91_code 88 = .ok (.iconst 0, 1) := by decide +kernel
theorem dc12_ask_89 : decode prog_14_method_91_code 89 = .ok (.istore 5, 2) := by decide +kernel
theorem dc12_ask_91 : decode prog_14_method_91_code 91 = .ok (.iconst 0, 1) := by decide +kernel
theorem dc12_ask_92 : decode prog_14_method_91_code 92 = .ok (.istore 6, 2) := by decide +kernel
theorem dc12_ask_94 : decode prog_14_method_91_code 94 = .ok (.iload 6, 2) := by decide +kernel
theorem dc12_ask_96 : decode prog_14_method_91_code 96 = .ok (.bipush 99, 2) := by decide +kernel
theorem dc12_ask_98 : decode prog_14_method_91_code 98 = .ok (.if_icmp .gt 91, 3) := by decide +kernel
theorem dc12_ask_101 : decode prog_14_method_91_code 101 = .ok (.iconst 0, 1) := by decide +kernel
theorem dc12_ask_102 : decode prog_14_method_91_code 102 = .ok (.istore 7, 2) := by decide +kernel
theorem dc12_ask_104 : decode prog_14_method_91_code 104 = .ok (.iconst 0, 1) := by decide +kernel
theorem dc12_ask_105 : decode prog_14_method_91_code 105 = .ok (.istore 8, 2) := by decide +kernel
theorem dc12_ask_107 : decode prog_14_method_91_code 107 = .ok (.iload 8, 2) := by decide +kernel
theorem dc12_ask_109 : decode prog_14_method_91_code 109 = .ok (.bipush 99, 2) := by decide +kernel
theorem dc12_ask_111 : decode prog_14_method_91_code 111 = .ok (.if_icmp .gt 42, 3) := by decide +kernel
theorem dc12_ask_114 : decode prog_14_method_91_code 114 = .ok (.aload_n 0, 1) := by decide +kernel
theorem dc12_ask_115 : decode prog_14_method_91_code 115 = .ok (.getfield 90, 3) := by decide +kernel
theorem dc12_ask_118 : decode prog_14_method_91_code 118 = .ok (.iload 8, 2) := by decide +kernel
theorem dc12_ask_120 : decode prog_14_method_91_code 120 = .ok (.baload, 1) := by decide +kernel
theorem dc12_ask_121 : decode prog_14_method_91_code 121 = .ok (.ifCond .eq 26, 3) := by decide +kernel
theorem dc12_ask_124 : decode prog_14_method_91_code 124 = .ok (.iload 7, 2) := by decide +kernel
theorem dc12_ask_126 : decode prog_14_method_91_code 126 = .ok (.aload_n 0, 1) := by decide +kernel
theorem dc12_ask_127 : decode prog_14_method_91_code 127 = .ok (.iload_n 1, 1) := by decide +kernel
theorem dc12_ask_128 : decode prog_14_method_91_code 128 = .ok (.iload 8, 2) := by decide +kernel
theorem dc12_ask_130 : decode prog_14_method_91_code 130 = .ok (.iload 6, 2) := by decide +kernel
theorem dc12_ask_132 : decode prog_14_method_91_code 132 = .ok (.invokevirtual 428, 3) := by decide +kernel
theorem dc12_ask_135 : decode prog_14_method_91_code 135 = .ok (.iload_n 2, 1) := by decide +kernel
theorem dc12_ask_136 : decode prog_14_method_91_code 136 = .ok (.if_icmp .lt 7, 3) := by decide +kernel
theorem dc12_ask_139 : decode prog_14_method_91_code 139 = .ok (.iconst 1, 1) := by decide +kernel
theorem dc12_ask_140 : decode prog_14_method_91_code 140 = .ok (.goto 4, 3) := by decide +kernel
theorem dc12_ask_143 : decode prog_14_method_91_code 143 = .ok (.iconst (-1), 1) := by decide +kernel
theorem dc12_ask_144 : decode prog_14_method_91_code 144 = .ok (.iadd, 1) := by decide +kernel
theorem dc12_ask_145 : decode prog_14_method_91_code 145 = .ok (.istore 7, 2) := by decide +kernel
theorem dc12_ask_147 : decode prog_14_method_91_code 147 = .ok (.iinc 8 1, 3) := by decide +kernel
theorem dc12_ask_150 : decode prog_14_method_91_code 150 = .ok (.goto (-43), 3) := by decide +kernel
theorem dc12_ask_153 : decode prog_14_method_91_code 153 = .ok (.iload 4, 2) := by decide +kernel
theorem dc12_ask_155 : decode prog_14_method_91_code 155 = .ok (.iconst (-1), 1) := by decide +kernel
theorem dc12_ask_156 : decode prog_14_method_91_code 156 = .ok (.if_icmp .eq 16, 3) := by decide +kernel
theorem dc12_ask_159 : decode prog_14_method_91_code 159 = .ok (.iload 7, 2) := by decide +kernel
theorem dc12_ask_161 : decode prog_14_method_91_code 161 = .ok (.invokestatic 435, 3) := by decide +kernel
theorem dc12_ask_164 : decode prog_14_method_91_code 164 = .ok (.iload 5, 2) := by decide +kernel
theorem dc12_ask_166 : decode prog_14_method_91_code 166 = .ok (.if_icmp .lt 6, 3) := by decide +kernel
theorem dc12_ask_169 : decode prog_14_method_91_code 169 = .ok (.goto 14, 3) := by decide +kernel
theorem dc12_ask_172 : decode prog_14_method_91_code 172 = .ok (.iload 6, 2) := by decide +kernel
theorem dc12_ask_174 : decode prog_14_method_91_code 174 = .ok (.istore 4, 2) := by decide +kernel
theorem dc12_ask_176 : decode prog_14_method_91_code 176 = .ok (.iload 7, 2) := by decide +kernel
theorem dc12_ask_178 : decode prog_14_method_91_code 178 = .ok (.invokestatic 435, 3) := by decide +kernel
theorem dc12_ask_181 : decode prog_14_method_91_code 181 = .ok (.istore 5, 2) := by decide +kernel
theorem dc12_ask_183 : decode prog_14_method_91_code 183 = .ok (.iinc 6 1, 3) := by decide +kernel
theorem dc12_ask_186 : decode prog_14_method_91_code 186 = .ok (.goto (-92), 3) := by decide +kernel
theorem dc12_ask_189 : decode prog_14_method_91_code 189 = .ok (.iload 4, 2) := by decide +kernel
theorem dc12_ask_191 : decode prog_14_method_91_code 191 = .ok (.ireturn, 1) := by decide +kernel
theorem dc12_game_0 : decode prog_14_method_94_code 0 = .ok (.aload_n 0, 1) := by decide +kernel
theorem dc12_game_1 : decode prog_14_method_94_code 1 = .ok (.iconst 0, 1) := by decide +kernel
theorem dc12_game_2 : decode prog_14_method_94_code 2 = .ok (.putfield 100, 3) := by decide +kernel
theorem dc12_game_5 : decode prog_14_method_94_code 5 = .ok (.aload_n 0, 1) := by decide +kernel
theorem dc12_game_6 : decode prog_14_method_94_code 6 = .ok (.iload_n 1, 1) := by decide +kernel
theorem dc12_game_7 : decode prog_14_method_94_code 7 = .ok (.iload_n 2, 1) := by decide +kernel
theorem dc12_game_8 : decode prog_14_method_94_code 8 = .ok (.iload_n 3, 1) := by decide +kernel
theorem dc12_game_9 : decode prog_14_method_94_code 9 = .ok (.invokevirtual 438, 3) := by decide +kernel
theorem dc12_game_12 : decode prog_14_method_94_code 12 = .ok (.ifCond .eq 56, 3) := by decide +kernel
theorem dc12_game_15 : decode prog_14_method_94_code 15 = .ok (.iload 4, 2) := by decide +kernel
theorem dc12_game_17 : decode prog_14_method_94_code 17 = .ok (.i2l, 1) := by decide +kernel
theorem dc12_game_18 : decode prog_14_method_94_code 18 = .ok (.lconst 0, 1) := by decide +kernel
theorem dc12_game_19 : decode prog_14_method_94_code 19 = .ok (.ldc2_w 442, 3) := by decide +kernel
theorem dc12_game_22 : decode prog_14_method_94_code 22 = .ok (.invokestatic 221, 3) := by decide +kernel
theorem dc12_game_25 : decode prog_14_method_94_code 25 = .ok (.ifCond .eq 43, 3) := by decide +kernel
theorem dc12_game_28 : decode prog_14_method_94_code 28 = .ok (.iload 5, 2) := by decide +kernel
theorem dc12_game_30 : decode prog_14_method_94_code 30 = .ok (.i2l, 1) := by decide +kernel
theorem dc12_game_31 : decode prog_14_method_94_code 31 = .ok (.lconst 0, 1) := by decide +kernel
theorem dc12_game_32 : decode prog_14_method_94_code 32 = .ok (.ldc2_w 442, 3) := by decide +kernel
theorem dc12_game_35 : decode prog_14_method_94_code 35 = .ok (.invokestatic 221, 3) := by decide +kernel
theorem dc12_game_38 : decode prog_14_method_94_code 38 = .ok (.ifCond .eq 30, 3) := by decide +kernel
theorem dc12_game_41 : decode prog_14_method_94_code 41 = .ok (.iload 6, 2) := by decide +kernel
theorem dc12_game_43 : decode prog_14_method_94_code 43 = .ok (.i2l, 1) := by decide +kernel
theorem dc12_game_44 : decode prog_14_method_94_code 44 = .ok (.lconst 0, 1) := by decide +kernel
theorem dc12_game_45 : decode prog_14_method_94_code 45 = .ok (.lconst 1, 1) := by decide +kernel
theorem dc12_game_46 : decode prog_14_method_94_code 46 = .ok (.invokestatic 221, 3) := by decide +kernel
theorem dc12_game_49 : decode prog_14_method_94_code 49 = .ok (.ifCond .eq 19, 3) := by decide +kernel
theorem dc12_game_52 : decode prog_14_method_94_code 52 = .ok (.aload_n 0, 1) := by decide +kernel
theorem dc12_game_53 : decode prog_14_method_94_code 53 = .ok (.iload_n 1, 1) := by decide +kernel
theorem dc12_game_54 : decode prog_14_method_94_code 54 = .ok (.iload_n 2, 1) := by decide +kernel
theorem dc12_game_55 : decode prog_14_method_94_code 55 = .ok (.iload_n 3, 1) := by decide +kernel
theorem dc12_game_56 : decode prog_14_method_94_code 56 = .ok (.iload 4, 2) := by decide +kernel
theorem dc12_game_58 : decode prog_14_method_94_code 58 = .ok (.iload 5, 2) := by decide +kernel
theorem dc12_game_60 : decode prog_14_method_94_code 60 = .ok (.iload 6, 2) := by decide +kernel
theorem dc12_game_62 : decode prog_14_method_94_code 62 = .ok (.invokevirtual 444, 3) := by decide +kernel
theorem dc12_game_65 : decode prog_14_method_94_code 65 = .ok (.goto 6, 3) := by decide +kernel
theorem dc12_game_68 : decode prog_14_method_94_code 68 = .ok (.ldc_w 418, 3) := by decide +kernel
theorem dc12_game_71 : decode prog_14_method_94_code 71 = .ok (.ireturn, 1) := by decide +kernel
theorem dc12_isGame_0 : decode prog_14_method_92_code 0 = .ok (.aload_n 0, 1) := by decide +kernel
theorem dc12_isGame_1 : decode prog_14_method_92_code 1 = .ok (.iload_n 1, 1) := by decide +kernel
theorem dc12_isGame_2 : decode prog_14_method_92_code 2 = .ok (.invokevirtual 353, 3) := by decide +kernel
theorem dc12_isGame_5 : decode prog_14_method_92_code 5 = .ok (.ifCond .eq 27, 3) := by decide +kernel
theorem dc12_isGame_8 : decode prog_14_method_92_code 8 = .ok (.aload_n 0, 1) := by decide +kernel
theorem dc12_isGame_9 : decode prog_14_method_92_code 9 = .ok (.iload_n 2, 1) := by decide +kernel
theorem dc12_isGame_10 : decode prog_14_method_92_code 10 = .ok (.invokevirtual 353, 3) := by decide +kernel
theorem dc12_isGame_13 : decode prog_14_method_92_code 13 = .ok (.ifCond .eq 19, 3) := by decide +kernel
theorem dc12_isGame_16 : decode prog_14_method_92_code 16 = .ok (.iload_n 1, 1) := by decide +kernel
theorem dc12_isGame_17 : decode prog_14_method_92_code 17 = .ok (.iload_n 2, 1) := by decide +kernel
theorem dc12_isGame_18 : decode prog_14_method_92_code 18 = .ok (.if_icmp .eq 14, 3) := by decide +kernel
theorem dc12_isGame_21 : decode prog_14_method_92_code 21 = .ok (.iload_n 3, 1) := by decide +kernel
theorem dc12_isGame_22 : decode prog_14_method_92_code 22 = .ok (.invokestatic 363, 3) := by decide +kernel
theorem dc12_isGame_25 : decode prog_14_method_92_code 25 = .ok (.ifCond .eq 7, 3) := by decide +kernel
theorem dc12_isGame_28 : decode prog_14_method_92_code 28 = .ok (.iconst 1, 1) := by decide +kernel
theorem dc12_isGame_29 : decode prog_14_method_92_code 29 = .ok (.goto 4, 3) := by decide +kernel
theorem dc12_isGame_32 : decode prog_14_method_92_code 32 = .ok (.iconst 0, 1) := by decide +kernel
theorem dc12_isGame_33 : decode prog_14_method_92_code 33 = .ok (.ireturn, 1) := by decide +kernel
theorem dc12_gameOf_0 : decode prog_14_method_93_code 0 = .ok (.aload_n 0, 1) := by decide +kernel
theorem dc12_gameOf_1 : decode prog_14_method_93_code 1 = .ok (.getfield 55, 3) := by decide +kernel
theorem dc12_gameOf_4 : decode prog_14_method_93_code 4 = .ok (.aload_n 0, 1) := by decide +kernel
theorem dc12_gameOf_5 : decode prog_14_method_93_code 5 = .ok (.getfield 58, 3) := by decide +kernel
theorem dc12_gameOf_8 : decode prog_14_method_93_code 8 = .ok (.invokestatic 345, 3) := by decide +kernel
theorem dc12_gameOf_11 : decode prog_14_method_93_code 11 = .ok (.aload_n 0, 1) := by decide +kernel
theorem dc12_gameOf_12 : decode prog_14_method_93_code 12 = .ok (.getfield 58, 3) := by decide +kernel
theorem dc12_gameOf_15 : decode prog_14_method_93_code 15 = .ok (.iconst 4, 1) := by decide +kernel
theorem dc12_gameOf_16 : decode prog_14_method_93_code 16 = .ok (.iload_n 1, 1) := by decide +kernel
theorem dc12_gameOf_17 : decode prog_14_method_93_code 17 = .ok (.imul, 1) := by decide +kernel
theorem dc12_gameOf_18 : decode prog_14_method_93_code 18 = .ok (.iconst 0, 1) := by decide +kernel
theorem dc12_gameOf_19 : decode prog_14_method_93_code 19 = .ok (.iadd, 1) := by decide +kernel
theorem dc12_gameOf_20 : decode prog_14_method_93_code 20 = .ok (.iconst 0, 1) := by decide +kernel
theorem dc12_gameOf_21 : decode prog_14_method_93_code 21 = .ok (.aload_n 0, 1) := by decide +kernel
theorem dc12_gameOf_22 : decode prog_14_method_93_code 22 = .ok (.getfield 58, 3) := by decide +kernel
theorem dc12_gameOf_25 : decode prog_14_method_93_code 25 = .ok (.iconst 4, 1) := by decide +kernel
theorem dc12_gameOf_26 : decode prog_14_method_93_code 26 = .ok (.iload_n 1, 1) := by decide +kernel
theorem dc12_gameOf_27 : decode prog_14_method_93_code 27 = .ok (.imul, 1) := by decide +kernel
theorem dc12_gameOf_28 : decode prog_14_method_93_code 28 = .ok (.iconst 0, 1) := by decide +kernel
theorem dc12_gameOf_29 : decode prog_14_method_93_code 29 = .ok (.iadd, 1) := by decide +kernel
theorem dc12_gameOf_30 : decode prog_14_method_93_code 30 = .ok (.iaload, 1) := by decide +kernel
theorem dc12_gameOf_31 : decode prog_14_method_93_code 31 = .ok (.iload 4, 2) := by decide +kernel
theorem dc12_gameOf_33 : decode prog_14_method_93_code 33 = .ok (.isub, 1) := by decide +kernel
theorem dc12_gameOf_34 : decode prog_14_method_93_code 34 = .ok (.invokestatic 326, 3) := by decide +kernel
theorem dc12_gameOf_37 : decode prog_14_method_93_code 37 = .ok (.iastore, 1) := by decide +kernel
theorem dc12_gameOf_38 : decode prog_14_method_93_code 38 = .ok (.aload_n 0, 1) := by decide +kernel
theorem dc12_gameOf_39 : decode prog_14_method_93_code 39 = .ok (.getfield 58, 3) := by decide +kernel
theorem dc12_gameOf_42 : decode prog_14_method_93_code 42 = .ok (.iconst 4, 1) := by decide +kernel
theorem dc12_gameOf_43 : decode prog_14_method_93_code 43 = .ok (.iload_n 2, 1) := by decide +kernel
theorem dc12_gameOf_44 : decode prog_14_method_93_code 44 = .ok (.imul, 1) := by decide +kernel
theorem dc12_gameOf_45 : decode prog_14_method_93_code 45 = .ok (.iconst 0, 1) := by decide +kernel
theorem dc12_gameOf_46 : decode prog_14_method_93_code 46 = .ok (.iadd, 1) := by decide +kernel
theorem dc12_gameOf_47 : decode prog_14_method_93_code 47 = .ok (.iconst 0, 1) := by decide +kernel
theorem dc12_gameOf_48 : decode prog_14_method_93_code 48 = .ok (.aload_n 0, 1) := by decide +kernel
theorem dc12_gameOf_49 : decode prog_14_method_93_code 49 = .ok (.getfield 58, 3) := by decide +kernel
theorem dc12_gameOf_52 : decode prog_14_method_93_code 52 = .ok (.iconst 4, 1) := by decide +kernel
theorem dc12_gameOf_53 : decode prog_14_method_93_code 53 = .ok (.iload_n 2, 1) := by decide +kernel
theorem dc12_gameOf_54 : decode prog_14_method_93_code 54 = .ok (.imul, 1) := by decide +kernel
theorem dc12_gameOf_55 : decode prog_14_method_93_code 55 = .ok (.iconst 0, 1) := by decide +kernel
theorem dc12_gameOf_56 : decode prog_14_method_93_code 56 = .ok (.iadd, 1) := by decide +kernel
theorem dc12_gameOf_57 : decode prog_14_method_93_code 57 = .ok (.iaload, 1) := by decide +kernel
theorem dc12_gameOf_58 : decode prog_14_method_93_code 58 = .ok (.iload 5, 2) := by decide +kernel
theorem dc12_gameOf_60 : decode prog_14_method_93_code 60 = .ok (.isub, 1) := by decide +kernel
theorem dc12_gameOf_61 : decode prog_14_method_93_code 61 = .ok (.invokestatic 326, 3) := by decide +kernel
theorem dc12_gameOf_64 : decode prog_14_method_93_code 64 = .ok (.iastore, 1) := by decide +kernel
theorem dc12_gameOf_65 : decode prog_14_method_93_code 65 = .ok (.aload_n 0, 1) := by decide +kernel
theorem dc12_gameOf_66 : decode prog_14_method_93_code 66 = .ok (.aload_n 0, 1) := by decide +kernel
theorem dc12_gameOf_67 : decode prog_14_method_93_code 67 = .ok (.getfield 58, 3) := by decide +kernel
theorem dc12_gameOf_70 : decode prog_14_method_93_code 70 = .ok (.iload_n 3, 1) := by decide +kernel
theorem dc12_gameOf_71 : decode prog_14_method_93_code 71 = .ok (.invokevirtual 349, 3) := by decide +kernel
theorem dc12_gameOf_74 : decode prog_14_method_93_code 74 = .ok (.iload 6, 2) := by decide +kernel
theorem dc12_gameOf_76 : decode prog_14_method_93_code 76 = .ok (.ifCond .ne 15, 3) := by decide +kernel
theorem dc12_gameOf_79 : decode prog_14_method_93_code 79 = .ok (.aload_n 0, 1) := by decide +kernel
theorem dc12_gameOf_80 : decode prog_14_method_93_code 80 = .ok (.getfield 75, 3) := by decide +kernel
theorem dc12_gameOf_83 : decode prog_14_method_93_code 83 = .ok (.iload_n 1, 1) := by decide +kernel
theorem dc12_gameOf_84 : decode prog_14_method_93_code 84 = .ok (.iaload, 1) := by decide +kernel
theorem dc12_gameOf_85 : decode prog_14_method_93_code 85 = .ok (.iload 4, 2) := by decide +kernel
theorem dc12_gameOf_87 : decode prog_14_method_93_code 87 = .ok (.isub, 1) := by decide +kernel
theorem dc12_gameOf_88 : decode prog_14_method_93_code 88 = .ok (.goto 12, 3) := by decide +kernel
theorem dc12_gameOf_91 : decode prog_14_method_93_code 91 = .ok (.aload_n 0, 1) := by decide +kernel
theorem dc12_gameOf_92 : decode prog_14_method_93_code 92 = .ok (.getfield 75, 3) := by decide +kernel
theorem dc12_gameOf_95 : decode prog_14_method_93_code 95 = .ok (.iload_n 2, 1) := by decide +kernel
theorem dc12_gameOf_96 : decode prog_14_method_93_code 96 = .ok (.iaload, 1) := by decide +kernel
theorem dc12_gameOf_97 : decode prog_14_method_93_code 97 = .ok (.iload 5, 2) := by decide +kernel
theorem dc12_gameOf_99 : decode prog_14_method_93_code 99 = .ok (.isub, 1) := by decide +kernel
theorem dc12_gameOf_100 : decode prog_14_method_93_code 100 = .ok (.ireturn, 1) := by decide +kernel
theorem dc12_rests_0 : decode prog_14_method_95_code 0 = .ok (.aload_n 0, 1) := by decide +kernel
theorem dc12_rests_1 : decode prog_14_method_95_code 1 = .ok (.iconst 0, 1) := by decide +kernel
theorem dc12_rests_2 : decode prog_14_method_95_code 2 = .ok (.putfield 100, 3) := by decide +kernel
theorem dc12_rests_5 : decode prog_14_method_95_code 5 = .ok (.aload_n 0, 1) := by decide +kernel
theorem dc12_rests_6 : decode prog_14_method_95_code 6 = .ok (.iload_n 1, 1) := by decide +kernel
theorem dc12_rests_7 : decode prog_14_method_95_code 7 = .ok (.iload_n 2, 1) := by decide +kernel
theorem dc12_rests_8 : decode prog_14_method_95_code 8 = .ok (.iload_n 3, 1) := by decide +kernel
theorem dc12_rests_9 : decode prog_14_method_95_code 9 = .ok (.invokevirtual 438, 3) := by decide +kernel
theorem dc12_rests_12 : decode prog_14_method_95_code 12 = .ok (.ifCond .eq 9, 3) := by decide +kernel
theorem dc12_rests_15 : decode prog_14_method_95_code 15 = .ok (.iload 4, 2) := by decide +kernel
theorem dc12_rests_17 : decode prog_14_method_95_code 17 = .ok (.iconst (-1), 1) := by decide +kernel
theorem dc12_rests_18 : decode prog_14_method_95_code 18 = .ok (.if_icmp .ge 5, 3) := by decide +kernel
theorem dc12_rests_21 : decode prog_14_method_95_code 21 = .ok (.iconst (-1), 1) := by decide +kernel
theorem dc12_rests_22 : decode prog_14_method_95_code 22 = .ok (.ireturn, 1) := by decide +kernel
theorem dc12_rests_23 : decode prog_14_method_95_code 23 = .ok (.iconst 0, 1) := by decide +kernel
theorem dc12_rests_24 : decode prog_14_method_95_code 24 = .ok (.istore 5, 2) := by decide +kernel
theorem dc12_rests_26 : decode prog_14_method_95_code 26 = .ok (.iload 5, 2) := by decide +kernel
theorem dc12_rests_28 : decode prog_14_method_95_code 28 = .ok (.bipush 72, 2) := by decide +kernel
theorem dc12_rests_30 : decode prog_14_method_95_code 30 = .ok (.if_icmp .ge 39, 3) := by decide +kernel
theorem dc12_rests_33 : decode prog_14_method_95_code 33 = .ok (.aload_n 0, 1) := by decide +kernel
theorem dc12_rests_34 : decode prog_14_method_95_code 34 = .ok (.getfield 94, 3) := by decide +kernel
theorem dc12_rests_37 : decode prog_14_method_95_code 37 = .ok (.iload 5, 2) := by decide +kernel
theorem dc12_rests_39 : decode prog_14_method_95_code 39 = .ok (.aload_n 0, 1) := by decide +kernel
theorem dc12_rests_40 : decode prog_14_method_95_code 40 = .ok (.iload_n 1, 1) := by decide +kernel
theorem dc12_rests_41 : decode prog_14_method_95_code 41 = .ok (.iload_n 2, 1) := by decide +kernel
theorem dc12_rests_42 : decode prog_14_method_95_code 42 = .ok (.iload_n 3, 1) := by decide +kernel
theorem dc12_rests_43 : decode prog_14_method_95_code 43 = .ok (.iload 5, 2) := by decide +kernel
theorem dc12_rests_45 : decode prog_14_method_95_code 45 = .ok (.bipush 12, 2) := by decide +kernel
theorem dc12_rests_47 : decode prog_14_method_95_code 47 = .ok (.idiv, 1) := by decide +kernel
theorem dc12_rests_48 : decode prog_14_method_95_code 48 = .ok (.iload 5, 2) := by decide +kernel
theorem dc12_rests_50 : decode prog_14_method_95_code 50 = .ok (.iconst 2, 1) := by decide +kernel
theorem dc12_rests_51 : decode prog_14_method_95_code 51 = .ok (.idiv, 1) := by decide +kernel
theorem dc12_rests_52 : decode prog_14_method_95_code 52 = .ok (.bipush 6, 2) := by decide +kernel
theorem dc12_rests_54 : decode prog_14_method_95_code 54 = .ok (.irem, 1) := by decide +kernel
theorem dc12_rests_55 : decode prog_14_method_95_code 55 = .ok (.iload 5, 2) := by decide +kernel
theorem dc12_rests_57 : decode prog_14_method_95_code 57 = .ok (.iconst 2, 1) := by decide +kernel
theorem dc12_rests_58 : decode prog_14_method_95_code 58 = .ok (.irem, 1) := by decide +kernel
theorem dc12_rests_59 : decode prog_14_method_95_code 59 = .ok (.invokevirtual 444, 3) := by decide +kernel
theorem dc12_rests_62 : decode prog_14_method_95_code 62 = .ok (.iastore, 1) := by decide +kernel
theorem dc12_rests_63 : decode prog_14_method_95_code 63 = .ok (.iinc 5 1, 3) := by decide +kernel
theorem dc12_rests_66 : decode prog_14_method_95_code 66 = .ok (.goto (-40), 3) := by decide +kernel
theorem dc12_rests_69 : decode prog_14_method_95_code 69 = .ok (.iconst 0, 1) := by decide +kernel
theorem dc12_rests_70 : decode prog_14_method_95_code 70 = .ok (.istore 5, 2) := by decide +kernel
theorem dc12_rests_72 : decode prog_14_method_95_code 72 = .ok (.iconst 0, 1) := by decide +kernel
theorem dc12_rests_73 : decode prog_14_method_95_code 73 = .ok (.istore 6, 2) := by decide +kernel
theorem dc12_rests_75 : decode prog_14_method_95_code 75 = .ok (.iload 6, 2) := by decide +kernel
theorem dc12_rests_77 : decode prog_14_method_95_code 77 = .ok (.bipush 6, 2) := by decide +kernel
theorem dc12_rests_79 : decode prog_14_method_95_code 79 = .ok (.if_icmp .ge 153, 3) := by decide +kernel
theorem dc12_rests_82 : decode prog_14_method_95_code 82 = .ok (.iconst 0, 1) := by decide +kernel
theorem dc12_rests_83 : decode prog_14_method_95_code 83 = .ok (.istore 7, 2) := by decide +kernel
theorem dc12_rests_85 : decode prog_14_method_95_code 85 = .ok (.iload 7, 2) := by decide +kernel
theorem dc12_rests_87 : decode prog_14_method_95_code 87 = .ok (.bipush 6, 2) := by decide +kernel
theorem dc12_rests_89 : decode prog_14_method_95_code 89 = .ok (.if_icmp .ge 137, 3) := by decide +kernel
theorem dc12_rests_92 : decode prog_14_method_95_code 92 = .ok (.iconst 1, 1) := by decide +kernel
theorem dc12_rests_93 : decode prog_14_method_95_code 93 = .ok (.istore 8, 2) := by decide +kernel
theorem dc12_rests_95 : decode prog_14_method_95_code 95 = .ok (.iconst 0, 1) := by decide +kernel
theorem dc12_rests_96 : decode prog_14_method_95_code 96 = .ok (.istore 9, 2) := by decide +kernel
theorem dc12_rests_98 : decode prog_14_method_95_code 98 = .ok (.iload 9, 2) := by decide +kernel
theorem dc12_rests_100 : decode prog_14_method_95_code 100 = .ok (.bipush 6, 2) := by decide +kernel
theorem dc12_rests_102 : decode prog_14_method_95_code 102 = .ok (.if_icmp .ge 91, 3) := by decide +kernel
theorem dc12_rests_105 : decode prog_14_method_95_code 105 = .ok (.iload 8, 2) := by decide +kernel
theorem dc12_rests_107 : decode prog_14_method_95_code 107 = .ok (.ifCond .eq 77, 3) := by decide +kernel
theorem dc12_rests_110 : decode prog_14_method_95_code 110 = .ok (.aload_n 0, 1) := by decide +kernel
theorem dc12_rests_111 : decode prog_14_method_95_code 111 = .ok (.getfield 94, 3) := by decide +kernel
theorem dc12_rests_114 : decode prog_14_method_95_code 114 = .ok (.bipush 12, 2) := by decide +kernel
theorem dc12_rests_116 : decode prog_14_method_95_code 116 = .ok (.iload 9, 2) := by decide +kernel
theorem dc12_rests_118 : decode prog_14_method_95_code 118 = .ok (.imul, 1) := by decide +kernel
theorem dc12_rests_119 : decode prog_14_method_95_code 119 = .ok (.iconst 2, 1) := by decide +kernel
theorem dc12_rests_120 : decode prog_14_method_95_code 120 = .ok (.iload 7, 2) := by decide +kernel
theorem dc12_rests_122 : decode prog_14_method_95_code 122 = .ok (.imul, 1) := by decide +kernel
theorem dc12_rests_123 : decode prog_14_method_95_code 123 = .ok (.iadd, 1) := by decide +kernel
theorem dc12_rests_124 : decode prog_14_method_95_code 124 = .ok (.iaload, 1) := by decide +kernel
theorem dc12_rests_125 : decode prog_14_method_95_code 125 = .ok (.aload_n 0, 1) := by decide +kernel
theorem dc12_rests_126 : decode prog_14_method_95_code 126 = .ok (.getfield 94, 3) := by decide +kernel
theorem dc12_rests_129 : decode prog_14_method_95_code 129 = .ok (.bipush 12, 2) := by decide +kernel
theorem dc12_rests_131 : decode prog_14_method_95_code 131 = .ok (.iload 6, 2) := by decide +kernel
theorem dc12_rests_133 : decode prog_14_method_95_code 133 = .ok (.imul, 1) := by decide +kernel
theorem dc12_rests_134 : decode prog_14_method_95_code 134 = .ok (.iconst 2, 1) := by decide +kernel
theorem dc12_rests_135 : decode prog_14_method_95_code 135 = .ok (.iload 7, 2) := by decide +kernel
theorem dc12_rests_137 : decode prog_14_method_95_code 137 = .ok (.imul, 1) := by decide +kernel
theorem dc12_rests_138 : decode prog_14_method_95_code 138 = .ok (.iadd, 1) := by decide +kernel
theorem dc12_rests_139 : decode prog_14_method_95_code 139 = .ok (.iaload, 1) := by decide +kernel
theorem dc12_rests_140 : decode prog_14_method_95_code 140 = .ok (.if_icmp .gt 44, 3) := by decide +kernel
theorem dc12_rests_143 : decode prog_14_method_95_code 143 = .ok (.aload_n 0, 1) := by decide +kernel
theorem dc12_rests_144 : decode prog_14_method_95_code 144 = .ok (.getfield 94, 3) := by decide +kernel
theorem dc12_rests_147 : decode prog_14_method_95_code 147 = .ok (.bipush 12, 2) := by decide +kernel
theorem dc12_rests_149 : decode prog_14_method_95_code 149 = .ok (.iload 6, 2) := by decide +kernel
theorem dc12_rests_151 : decode prog_14_method_95_code 151 = .ok (.imul, 1) := by decide +kernel
theorem dc12_rests_152 : decode prog_14_method_95_code 152 = .ok (.iconst 2, 1) := by decide +kernel
theorem dc12_rests_153 : decode prog_14_method_95_code 153 = .ok (.iload 9, 2) := by decide +kernel
theorem dc12_rests_155 : decode prog_14_method_95_code 155 = .ok (.imul, 1) := by decide +kernel
theorem dc12_rests_156 : decode prog_14_method_95_code 156 = .ok (.iadd, 1) := by decide +kernel
theorem dc12_rests_157 : decode prog_14_method_95_code 157 = .ok (.iconst 1, 1) := by decide +kernel
theorem dc12_rests_158 : decode prog_14_method_95_code 158 = .ok (.iadd, 1) := by decide +kernel
theorem dc12_rests_159 : decode prog_14_method_95_code 159 = .ok (.iaload, 1) := by decide +kernel
theorem dc12_rests_160 : decode prog_14_method_95_code 160 = .ok (.aload_n 0, 1) := by decide +kernel
theorem dc12_rests_161 : decode prog_14_method_95_code 161 = .ok (.getfield 94, 3) := by decide +kernel
theorem dc12_rests_164 : decode prog_14_method_95_code 164 = .ok (.bipush 12, 2) := by decide +kernel
theorem dc12_rests_166 : decode prog_14_method_95_code 166 = .ok (.iload 6, 2) := by decide +kernel
theorem dc12_rests_168 : decode prog_14_method_95_code 168 = .ok (.imul, 1) := by decide +kernel
theorem dc12_rests_169 : decode prog_14_method_95_code 169 = .ok (.iconst 2, 1) := by decide +kernel
theorem dc12_rests_170 : decode prog_14_method_95_code 170 = .ok (.iload 7, 2) := by decide +kernel
theorem dc12_rests_172 : decode prog_14_method_95_code 172 = .ok (.imul, 1) := by decide +kernel
theorem dc12_rests_173 : decode prog_14_method_95_code 173 = .ok (.iadd, 1) := by decide +kernel
theorem dc12_rests_174 : decode prog_14_method_95_code 174 = .ok (.iconst 1, 1) := by decide +kernel
theorem dc12_rests_175 : decode prog_14_method_95_code 175 = .ok (.iadd, 1) := by decide +kernel
theorem dc12_rests_176 : decode prog_14_method_95_code 176 = .ok (.iaload, 1) := by decide +kernel
theorem dc12_rests_177 : decode prog_14_method_95_code 177 = .ok (.if_icmp .gt 7, 3) := by decide +kernel
theorem dc12_rests_180 : decode prog_14_method_95_code 180 = .ok (.iconst 1, 1) := by decide +kernel
theorem dc12_rests_181 : decode prog_14_method_95_code 181 = .ok (.goto 4, 3) := by decide +kernel
theorem dc12_rests_184 : decode prog_14_method_95_code 184 = .ok (.iconst 0, 1) := by decide +kernel
theorem dc12_rests_185 : decode prog_14_method_95_code 185 = .ok (.istore 8, 2) := by decide +kernel
theorem dc12_rests_187 : decode prog_14_method_95_code 187 = .ok (.iinc 9 1, 3) := by decide +kernel
theorem dc12_rests_190 : decode prog_14_method_95_code 190 = .ok (.goto (-92), 3) := by decide +kernel
theorem dc12_rests_193 : decode prog_14_method_95_code 193 = .ok (.iload 8, 2) := by decide +kernel
theorem dc12_rests_195 : decode prog_14_method_95_code 195 = .ok (.ifCond .ne 6, 3) := by decide +kernel
theorem dc12_rests_198 : decode prog_14_method_95_code 198 = .ok (.goto 22, 3) := by decide +kernel
theorem dc12_rests_201 : decode prog_14_method_95_code 201 = .ok (.iload 5, 2) := by decide +kernel
theorem dc12_rests_203 : decode prog_14_method_95_code 203 = .ok (.iload 4, 2) := by decide +kernel
theorem dc12_rests_205 : decode prog_14_method_95_code 205 = .ok (.if_icmp .ne 12, 3) := by decide +kernel
theorem dc12_rests_208 : decode prog_14_method_95_code 208 = .ok (.bipush 10, 2) := by decide +kernel
theorem dc12_rests_210 : decode prog_14_method_95_code 210 = .ok (.iload 6, 2) := by decide +kernel
theorem dc12_rests_212 : decode prog_14_method_95_code 212 = .ok (.imul, 1) := by decide +kernel
theorem dc12_rests_213 : decode prog_14_method_95_code 213 = .ok (.iload 7, 2) := by decide +kernel
theorem dc12_rests_215 : decode prog_14_method_95_code 215 = .ok (.iadd, 1) := by decide +kernel
theorem dc12_rests_216 : decode prog_14_method_95_code 216 = .ok (.ireturn, 1) := by decide +kernel
theorem dc12_rests_217 : decode prog_14_method_95_code 217 = .ok (.iinc 5 1, 3) := by decide +kernel
theorem dc12_rests_220 : decode prog_14_method_95_code 220 = .ok (.iinc 7 1, 3) := by decide +kernel
theorem dc12_rests_223 : decode prog_14_method_95_code 223 = .ok (.goto (-138), 3) := by decide +kernel
theorem dc12_rests_226 : decode prog_14_method_95_code 226 = .ok (.iinc 6 1, 3) := by decide +kernel
theorem dc12_rests_229 : decode prog_14_method_95_code 229 = .ok (.goto (-154), 3) := by decide +kernel
theorem dc12_rests_232 : decode prog_14_method_95_code 232 = .ok (.iload 4, 2) := by decide +kernel
theorem dc12_rests_234 : decode prog_14_method_95_code 234 = .ok (.iconst (-1), 1) := by decide +kernel
theorem dc12_rests_235 : decode prog_14_method_95_code 235 = .ok (.if_icmp .ne 8, 3) := by decide +kernel
theorem dc12_rests_238 : decode prog_14_method_95_code 238 = .ok (.iload 5, 2) := by decide +kernel
theorem dc12_rests_240 : decode prog_14_method_95_code 240 = .ok (.goto 4, 3) := by decide +kernel
theorem dc12_rests_243 : decode prog_14_method_95_code 243 = .ok (.iconst (-1), 1) := by decide +kernel
theorem dc12_rests_244 : decode prog_14_method_95_code 244 = .ok (.ireturn, 1) := by decide +kernel
theorem dc12_odds_0 : decode prog_14_method_96_code 0 = .ok (.aload_n 0, 1) := by decide +kernel
theorem dc12_odds_1 : decode prog_14_method_96_code 1 = .ok (.iconst 0, 1) := by decide +kernel
theorem dc12_odds_2 : decode prog_14_method_96_code 2 = .ok (.putfield 100, 3) := by decide +kernel
theorem dc12_odds_5 : decode prog_14_method_96_code 5 = .ok (.aload_n 0, 1) := by decide +kernel
theorem dc12_odds_6 : decode prog_14_method_96_code 6 = .ok (.iload_n 1, 1) := by decide +kernel
theorem dc12_odds_7 : decode prog_14_method_96_code 7 = .ok (.invokevirtual 353, 3) := by decide +kernel
theorem dc12_odds_10 : decode prog_14_method_96_code 10 = .ok (.ifCond .eq 22, 3) := by decide +kernel
theorem dc12_odds_13 : decode prog_14_method_96_code 13 = .ok (.iload_n 2, 1) := by decide +kernel
theorem dc12_odds_14 : decode prog_14_method_96_code 14 = .ok (.invokestatic 363, 3) := by decide +kernel
theorem dc12_odds_17 : decode prog_14_method_96_code 17 = .ok (.ifCond .eq 15, 3) := by decide +kernel
theorem dc12_odds_20 : decode prog_14_method_96_code 20 = .ok (.iload_n 3, 1) := by decide +kernel
theorem dc12_odds_21 : decode prog_14_method_96_code 21 = .ok (.invokestatic 363, 3) := by decide +kernel
theorem dc12_odds_24 : decode prog_14_method_96_code 24 = .ok (.ifCond .eq 8, 3) := by decide +kernel
theorem dc12_odds_27 : decode prog_14_method_96_code 27 = .ok (.iload_n 2, 1) := by decide +kernel
theorem dc12_odds_28 : decode prog_14_method_96_code 28 = .ok (.iload_n 3, 1) := by decide +kernel
theorem dc12_odds_29 : decode prog_14_method_96_code 29 = .ok (.if_icmp .le 5, 3) := by decide +kernel
theorem dc12_odds_32 : decode prog_14_method_96_code 32 = .ok (.iconst (-1), 1) := by decide +kernel
theorem dc12_odds_33 : decode prog_14_method_96_code 33 = .ok (.ireturn, 1) := by decide +kernel
theorem dc12_odds_34 : decode prog_14_method_96_code 34 = .ok (.iconst 0, 1) := by decide +kernel
theorem dc12_odds_35 : decode prog_14_method_96_code 35 = .ok (.istore 4, 2) := by decide +kernel
theorem dc12_odds_37 : decode prog_14_method_96_code 37 = .ok (.iload_n 2, 1) := by decide +kernel
theorem dc12_odds_38 : decode prog_14_method_96_code 38 = .ok (.istore 5, 2) := by decide +kernel
theorem dc12_odds_40 : decode prog_14_method_96_code 40 = .ok (.iload 5, 2) := by decide +kernel
theorem dc12_odds_42 : decode prog_14_method_96_code 42 = .ok (.iload_n 3, 1) := by decide +kernel
theorem dc12_odds_43 : decode prog_14_method_96_code 43 = .ok (.if_icmp .gt 28, 3) := by decide +kernel
theorem dc12_odds_46 : decode prog_14_method_96_code 46 = .ok (.aload_n 0, 1) := by decide +kernel
theorem dc12_odds_47 : decode prog_14_method_96_code 47 = .ok (.iload 5, 2) := by decide +kernel
theorem dc12_odds_49 : decode prog_14_method_96_code 49 = .ok (.invokevirtual 425, 3) := by decide +kernel
theorem dc12_odds_52 : decode prog_14_method_96_code 52 = .ok (.iload 4, 2) := by decide +kernel
theorem dc12_odds_54 : decode prog_14_method_96_code 54 = .ok (.aload_n 0, 1) := by decide +kernel
theorem dc12_odds_55 : decode prog_14_method_96_code 55 = .ok (.getfield 339, 3) := by decide +kernel
theorem dc12_odds_58 : decode prog_14_method_96_code 58 = .ok (.iload_n 1, 1) := by decide +kernel
theorem dc12_odds_59 : decode prog_14_method_96_code 59 = .ok (.ishr, 1) := by decide +kernel
theorem dc12_odds_60 : decode prog_14_method_96_code 60 = .ok (.iconst 1, 1) := by decide +kernel
theorem dc12_odds_61 : decode prog_14_method_96_code 61 = .ok (.iand, 1) := by decide +kernel
theorem dc12_odds_62 : decode prog_14_method_96_code 62 = .ok (.iadd, 1) := by decide +kernel
theorem dc12_odds_63 : decode prog_14_method_96_code 63 = .ok (.istore 4, 2) := by decide +kernel
theorem dc12_odds_65 : decode prog_14_method_96_code 65 = .ok (.iinc 5 1, 3) := by decide +kernel
theorem dc12_odds_68 : decode prog_14_method_96_code 68 = .ok (.goto (-28), 3) := by decide +kernel
theorem dc12_odds_71 : decode prog_14_method_96_code 71 = .ok (.iload 4, 2) := by decide +kernel
theorem dc12_odds_73 : decode prog_14_method_96_code 73 = .ok (.ldc_w 448, 3) := by decide +kernel
theorem dc12_odds_76 : decode prog_14_method_96_code 76 = .ok (.imul, 1) := by decide +kernel
theorem dc12_odds_77 : decode prog_14_method_96_code 77 = .ok (.iload_n 3, 1) := by decide +kernel
theorem dc12_odds_78 : decode prog_14_method_96_code 78 = .ok (.iload_n 2, 1) := by decide +kernel
theorem dc12_odds_79 : decode prog_14_method_96_code 79 = .ok (.isub, 1) := by decide +kernel
theorem dc12_odds_80 : decode prog_14_method_96_code 80 = .ok (.iconst 1, 1) := by decide +kernel
theorem dc12_odds_81 : decode prog_14_method_96_code 81 = .ok (.iadd, 1) := by decide +kernel
theorem dc12_odds_82 : decode prog_14_method_96_code 82 = .ok (.idiv, 1) := by decide +kernel
theorem dc12_odds_83 : decode prog_14_method_96_code 83 = .ok (.ireturn, 1) := by decide +kernel
theorem dc12_turn_0 : decode prog_14_method_98_code 0 = .ok (.aload_n 0, 1) := by decide +kernel
theorem dc12_turn_1 : decode prog_14_method_98_code 1 = .ok (.iconst 0, 1) := by decide +kernel
theorem dc12_turn_2 : decode prog_14_method_98_code 2 = .ok (.putfield 100, 3) := by decide +kernel
theorem dc12_turn_5 : decode prog_14_method_98_code 5 = .ok (.iload_n 1, 1) := by decide +kernel
theorem dc12_turn_6 : decode prog_14_method_98_code 6 = .ok (.ifCond .lt 11, 3) := by decide +kernel
theorem dc12_turn_9 : decode prog_14_method_98_code 9 = .ok (.iload_n 1, 1) := by decide +kernel
theorem dc12_turn_10 : decode prog_14_method_98_code 10 = .ok (.aload_n 0, 1) := by decide +kernel
theorem dc12_turn_11 : decode prog_14_method_98_code 11 = .ok (.getfield 290, 3) := by decide +kernel
theorem dc12_turn_14 : decode prog_14_method_98_code 14 = .ok (.if_icmp .lt 5, 3) := by decide +kernel
theorem dc12_turn_17 : decode prog_14_method_98_code 17 = .ok (.iconst (-1), 1) := by decide +kernel
theorem dc12_turn_18 : decode prog_14_method_98_code 18 = .ok (.ireturn, 1) := by decide +kernel
theorem dc12_turn_19 : decode prog_14_method_98_code 19 = .ok (.aload_n 0, 1) := by decide +kernel
theorem dc12_turn_20 : decode prog_14_method_98_code 20 = .ok (.invokevirtual 449, 3) := by decide +kernel
theorem dc12_turn_23 : decode prog_14_method_98_code 23 = .ok (.iconst 0, 1) := by decide +kernel
theorem dc12_turn_24 : decode prog_14_method_98_code 24 = .ok (.istore_n 2, 1) := by decide +kernel
theorem dc12_turn_25 : decode prog_14_method_98_code 25 = .ok (.iconst 0, 1) := by decide +kernel
theorem dc12_turn_26 : decode prog_14_method_98_code 26 = .ok (.istore_n 3, 1) := by decide +kernel
theorem dc12_turn_27 : decode prog_14_method_98_code 27 = .ok (.iload_n 3, 1) := by decide +kernel
theorem dc12_turn_28 : decode prog_14_method_98_code 28 = .ok (.iload_n 1, 1) := by decide +kernel
theorem dc12_turn_29 : decode prog_14_method_98_code 29 = .ok (.if_icmp .ge 23, 3) := by decide +kernel
theorem dc12_turn_32 : decode prog_14_method_98_code 32 = .ok (.iload_n 2, 1) := by decide +kernel
theorem dc12_turn_33 : decode prog_14_method_98_code 33 = .ok (.iconst 1, 1) := by decide +kernel
theorem dc12_turn_34 : decode prog_14_method_98_code 34 = .ok (.aload_n 0, 1) := by decide +kernel
theorem dc12_turn_35 : decode prog_14_method_98_code 35 = .ok (.aload_n 0, 1) := by decide +kernel
theorem dc12_turn_36 : decode prog_14_method_98_code 36 = .ok (.getfield 58, 3) := by decide +kernel
theorem dc12_turn_39 : decode prog_14_method_98_code 39 = .ok (.iload_n 2, 1) := by decide +kernel
theorem dc12_turn_40 : decode prog_14_method_98_code 40 = .ok (.invokevirtual 331, 3) := by decide +kernel
theorem dc12_turn_43 : decode prog_14_method_98_code 43 = .ok (.ishl, 1) := by decide +kernel
theorem dc12_turn_44 : decode prog_14_method_98_code 44 = .ok (.ior, 1) := by decide +kernel
theorem dc12_turn_45 : decode prog_14_method_98_code 45 = .ok (.istore_n 2, 1) := by decide +kernel
theorem dc12_turn_46 : decode prog_14_method_98_code 46 = .ok (.iinc 3 1, 3) := by decide +kernel
theorem dc12_turn_49 : decode prog_14_method_98_code 49 = .ok (.goto (-22), 3) := by decide +kernel
theorem dc12_turn_52 : decode prog_14_method_98_code 52 = .ok (.aload_n 0, 1) := by decide +kernel
theorem dc12_turn_53 : decode prog_14_method_98_code 53 = .ok (.aload_n 0, 1) := by decide +kernel
theorem dc12_turn_54 : decode prog_14_method_98_code 54 = .ok (.getfield 58, 3) := by decide +kernel
theorem dc12_turn_57 : decode prog_14_method_98_code 57 = .ok (.iload_n 2, 1) := by decide +kernel
theorem dc12_turn_58 : decode prog_14_method_98_code 58 = .ok (.invokevirtual 331, 3) := by decide +kernel
theorem dc12_turn_61 : decode prog_14_method_98_code 61 = .ok (.ireturn, 1) := by decide +kernel
theorem dc12_laysTurn_0 : decode prog_14_method_97_code 0 = .ok (.aload_n 0, 1) := by decide +kernel
theorem dc12_laysTurn_1 : decode prog_14_method_97_code 1 = .ok (.getfield 55, 3) := by decide +kernel
theorem dc12_laysTurn_4 : decode prog_14_method_97_code 4 = .ok (.aload_n 0, 1) := by decide +kernel
theorem dc12_laysTurn_5 : decode prog_14_method_97_code 5 = .ok (.getfield 58, 3) := by decide +kernel
theorem dc12_laysTurn_8 : decode prog_14_method_97_code 8 = .ok (.invokestatic 345, 3) := by decide +kernel
theorem dc12_laysTurn_11 : decode prog_14_method_97_code 11 = .ok (.iconst 0, 1) := by decide +kernel
theorem dc12_laysTurn_12 : decode prog_14_method_97_code 12 = .ok (.istore_n 1, 1) := by decide +kernel
theorem dc12_laysTurn_13 : decode prog_14_method_97_code 13 = .ok (.iload_n 1, 1) := by decide +kernel
theorem dc12_laysTurn_14 : decode prog_14_method_97_code 14 = .ok (.aload_n 0, 1) := by decide +kernel
theorem dc12_laysTurn_15 : decode prog_14_method_97_code 15 = .ok (.getfield 290, 3) := by decide +kernel
theorem dc12_laysTurn_18 : decode prog_14_method_97_code 18 = .ok (.if_icmp .ge 33, 3) := by decide +kernel
theorem dc12_laysTurn_21 : decode prog_14_method_97_code 21 = .ok (.aload_n 0, 1) := by decide +kernel
theorem dc12_laysTurn_22 : decode prog_14_method_97_code 22 = .ok (.getfield 58, 3) := by decide +kernel
theorem dc12_laysTurn_25 : decode prog_14_method_97_code 25 = .ok (.iconst 4, 1) := by decide +kernel
theorem dc12_laysTurn_26 : decode prog_14_method_97_code 26 = .ok (.iload_n 1, 1) := by decide +kernel
theorem dc12_laysTurn_27 : decode prog_14_method_97_code 27 = .ok (.imul, 1) := by decide +kernel
theorem dc12_laysTurn_28 : decode prog_14_method_97_code 28 = .ok (.iconst 0, 1) := by decide +kernel
theorem dc12_laysTurn_29 : decode prog_14_method_97_code 29 = .ok (.iadd, 1) := by decide +kernel
theorem dc12_laysTurn_30 : decode prog_14_method_97_code 30 = .ok (.aload_n 0, 1) := by decide +kernel
theorem dc12_laysTurn_31 : decode prog_14_method_97_code 31 = .ok (.aload_n 0, 1) := by decide +kernel
theorem dc12_laysTurn_32 : decode prog_14_method_97_code 32 = .ok (.getfield 55, 3) := by decide +kernel
theorem dc12_laysTurn_35 : decode prog_14_method_97_code 35 = .ok (.iconst 4, 1) := by decide +kernel
theorem dc12_laysTurn_36 : decode prog_14_method_97_code 36 = .ok (.iload_n 1, 1) := by decide +kernel
theorem dc12_laysTurn_37 : decode prog_14_method_97_code 37 = .ok (.imul, 1) := by decide +kernel
theorem dc12_laysTurn_38 : decode prog_14_method_97_code 38 = .ok (.iconst 0, 1) := by decide +kernel
theorem dc12_laysTurn_39 : decode prog_14_method_97_code 39 = .ok (.iadd, 1) := by decide +kernel
theorem dc12_laysTurn_40 : decode prog_14_method_97_code 40 = .ok (.iaload, 1) := by decide +kernel
theorem dc12_laysTurn_41 : decode prog_14_method_97_code 41 = .ok (.invokevirtual 328, 3) := by decide +kernel
theorem dc12_laysTurn_44 : decode prog_14_method_97_code 44 = .ok (.iastore, 1) := by decide +kernel
theorem dc12_laysTurn_45 : decode prog_14_method_97_code 45 = .ok (.iinc 1 1, 3) := by decide +kernel
theorem dc12_laysTurn_48 : decode prog_14_method_97_code 48 = .ok (.goto (-35), 3) := by decide +kernel
theorem dc12_laysTurn_51 : decode prog_14_method_97_code 51 = .ok (.return_, 1) := by decide +kernel
theorem dc12_forgiven_0 : decode prog_14_method_99_code 0 = .ok (.aload_n 0, 1) := by decide +kernel
theorem dc12_forgiven_1 : decode prog_14_method_99_code 1 = .ok (.iconst 0, 1) := by decide +kernel
theorem dc12_forgiven_2 : decode prog_14_method_99_code 2 = .ok (.putfield 100, 3) := by decide +kernel
theorem dc12_forgiven_5 : decode prog_14_method_99_code 5 = .ok (.aload_n 0, 1) := by decide +kernel
theorem dc12_forgiven_6 : decode prog_14_method_99_code 6 = .ok (.iload_n 1, 1) := by decide +kernel
theorem dc12_forgiven_7 : decode prog_14_method_99_code 7 = .ok (.invokevirtual 353, 3) := by decide +kernel
theorem dc12_forgiven_10 : decode prog_14_method_99_code 10 = .ok (.ifCond .ne 5, 3) := by decide +kernel
theorem dc12_forgiven_13 : decode prog_14_method_99_code 13 = .ok (.iconst (-1), 1) := by decide +kernel
theorem dc12_forgiven_14 : decode prog_14_method_99_code 14 = .ok (.ireturn, 1) := by decide +kernel
theorem dc12_forgiven_15 : decode prog_14_method_99_code 15 = .ok (.aload_n 0, 1) := by decide +kernel
theorem dc12_forgiven_16 : decode prog_14_method_99_code 16 = .ok (.invokevirtual 449, 3) := by decide +kernel
theorem dc12_forgiven_19 : decode prog_14_method_99_code 19 = .ok (.iconst 0, 1) := by decide +kernel
theorem dc12_forgiven_20 : decode prog_14_method_99_code 20 = .ok (.istore_n 2, 1) := by decide +kernel
theorem dc12_forgiven_21 : decode prog_14_method_99_code 21 = .ok (.iload_n 2, 1) := by decide +kernel
theorem dc12_forgiven_22 : decode prog_14_method_99_code 22 = .ok (.aload_n 0, 1) := by decide +kernel
theorem dc12_forgiven_23 : decode prog_14_method_99_code 23 = .ok (.getfield 55, 3) := by decide +kernel
theorem dc12_forgiven_26 : decode prog_14_method_99_code 26 = .ok (.iconst 4, 1) := by decide +kernel
theorem dc12_forgiven_27 : decode prog_14_method_99_code 27 = .ok (.iload_n 1, 1) := by decide +kernel
theorem dc12_forgiven_28 : decode prog_14_method_99_code 28 = .ok (.imul, 1) := by decide +kernel
theorem dc12_forgiven_29 : decode prog_14_method_99_code 29 = .ok (.iconst 0, 1) := by decide +kernel
theorem dc12_forgiven_30 : decode prog_14_method_99_code 30 = .ok (.iadd, 1) := by decide +kernel
theorem dc12_forgiven_31 : decode prog_14_method_99_code 31 = .ok (.iaload, 1) := by decide +kernel
theorem dc12_forgiven_32 : decode prog_14_method_99_code 32 = .ok (.if_icmp .gt 50, 3) := by decide +kernel
theorem dc12_forgiven_35 : decode prog_14_method_99_code 35 = .ok (.aload_n 0, 1) := by decide +kernel
theorem dc12_forgiven_36 : decode prog_14_method_99_code 36 = .ok (.getfield 58, 3) := by decide +kernel
theorem dc12_forgiven_39 : decode prog_14_method_99_code 39 = .ok (.iconst 4, 1) := by decide +kernel
theorem dc12_forgiven_40 : decode prog_14_method_99_code 40 = .ok (.iload_n 1, 1) := by decide +kernel
theorem dc12_forgiven_41 : decode prog_14_method_99_code 41 = .ok (.imul, 1) := by decide +kernel
theorem dc12_forgiven_42 : decode prog_14_method_99_code 42 = .ok (.iconst 0, 1) := by decide +kernel
theorem dc12_forgiven_43 : decode prog_14_method_99_code 43 = .ok (.iadd, 1) := by decide +kernel
theorem dc12_forgiven_44 : decode prog_14_method_99_code 44 = .ok (.aload_n 0, 1) := by decide +kernel
theorem dc12_forgiven_45 : decode prog_14_method_99_code 45 = .ok (.aload_n 0, 1) := by decide +kernel
theorem dc12_forgiven_46 : decode prog_14_method_99_code 46 = .ok (.getfield 55, 3) := by decide +kernel
theorem dc12_forgiven_49 : decode prog_14_method_99_code 49 = .ok (.iconst 4, 1) := by decide +kernel
theorem dc12_forgiven_50 : decode prog_14_method_99_code 50 = .ok (.iload_n 1, 1) := by decide +kernel
theorem dc12_forgiven_51 : decode prog_14_method_99_code 51 = .ok (.imul, 1) := by decide +kernel
theorem dc12_forgiven_52 : decode prog_14_method_99_code 52 = .ok (.iconst 0, 1) := by decide +kernel
theorem dc12_forgiven_53 : decode prog_14_method_99_code 53 = .ok (.iadd, 1) := by decide +kernel
theorem dc12_forgiven_54 : decode prog_14_method_99_code 54 = .ok (.iaload, 1) := by decide +kernel
theorem dc12_forgiven_55 : decode prog_14_method_99_code 55 = .ok (.iload_n 2, 1) := by decide +kernel
theorem dc12_forgiven_56 : decode prog_14_method_99_code 56 = .ok (.isub, 1) := by decide +kernel
theorem dc12_forgiven_57 : decode prog_14_method_99_code 57 = .ok (.invokevirtual 328, 3) := by decide +kernel
theorem dc12_forgiven_60 : decode prog_14_method_99_code 60 = .ok (.iastore, 1) := by decide +kernel
theorem dc12_forgiven_61 : decode prog_14_method_99_code 61 = .ok (.aload_n 0, 1) := by decide +kernel
theorem dc12_forgiven_62 : decode prog_14_method_99_code 62 = .ok (.aload_n 0, 1) := by decide +kernel
theorem dc12_forgiven_63 : decode prog_14_method_99_code 63 = .ok (.getfield 58, 3) := by decide +kernel
theorem dc12_forgiven_66 : decode prog_14_method_99_code 66 = .ok (.iconst 0, 1) := by decide +kernel
theorem dc12_forgiven_67 : decode prog_14_method_99_code 67 = .ok (.invokevirtual 331, 3) := by decide +kernel
theorem dc12_forgiven_70 : decode prog_14_method_99_code 70 = .ok (.iload_n 1, 1) := by decide +kernel
theorem dc12_forgiven_71 : decode prog_14_method_99_code 71 = .ok (.if_icmp .eq 5, 3) := by decide +kernel
theorem dc12_forgiven_74 : decode prog_14_method_99_code 74 = .ok (.iload_n 2, 1) := by decide +kernel
theorem dc12_forgiven_75 : decode prog_14_method_99_code 75 = .ok (.ireturn, 1) := by decide +kernel
theorem dc12_forgiven_76 : decode prog_14_method_99_code 76 = .ok (.iinc 2 1, 3) := by decide +kernel
theorem dc12_forgiven_79 : decode prog_14_method_99_code 79 = .ok (.goto (-58), 3) := by decide +kernel
theorem dc12_forgiven_82 : decode prog_14_method_99_code 82 = .ok (.iconst (-1), 1) := by decide +kernel
theorem dc12_forgiven_83 : decode prog_14_method_99_code 83 = .ok (.ireturn, 1) := by decide +kernel
theorem dc12_ahead_0 : decode prog_14_method_100_code 0 = .ok (.aload_n 0, 1) := by decide +kernel
theorem dc12_ahead_1 : decode prog_14_method_100_code 1 = .ok (.iconst 0, 1) := by decide +kernel
theorem dc12_ahead_2 : decode prog_14_method_100_code 2 = .ok (.putfield 100, 3) := by decide +kernel
theorem dc12_ahead_5 : decode prog_14_method_100_code 5 = .ok (.aload_n 0, 1) := by decide +kernel
theorem dc12_ahead_6 : decode prog_14_method_100_code 6 = .ok (.iload_n 1, 1) := by decide +kernel
theorem dc12_ahead_7 : decode prog_14_method_100_code 7 = .ok (.invokevirtual 353, 3) := by decide +kernel
theorem dc12_ahead_10 : decode prog_14_method_100_code 10 = .ok (.ifCond .eq 22, 3) := by decide +kernel
theorem dc12_ahead_13 : decode prog_14_method_100_code 13 = .ok (.iload_n 2, 1) := by decide +kernel
theorem dc12_ahead_14 : decode prog_14_method_100_code 14 = .ok (.i2l, 1) := by decide +kernel
theorem dc12_ahead_15 : decode prog_14_method_100_code 15 = .ok (.lconst 0, 1) := by decide +kernel
theorem dc12_ahead_16 : decode prog_14_method_100_code 16 = .ok (.ldc2_w 400, 3) := by decide +kernel
theorem dc12_ahead_19 : decode prog_14_method_100_code 19 = .ok (.invokestatic 221, 3) := by decide +kernel
theorem dc12_ahead_22 : decode prog_14_method_100_code 22 = .ok (.ifCond .eq 10, 3) := by decide +kernel
theorem dc12_ahead_25 : decode prog_14_method_100_code 25 = .ok (.iload_n 3, 1) := by decide +kernel
theorem dc12_ahead_26 : decode prog_14_method_100_code 26 = .ok (.invokestatic 363, 3) := by decide +kernel
theorem dc12_ahead_29 : decode prog_14_method_100_code 29 = .ok (.ifCond .ne 5, 3) := by decide +kernel
theorem dc12_ahead_32 : decode prog_14_method_100_code 32 = .ok (.iconst (-1), 1) := by decide +kernel
theorem dc12_ahead_33 : decode prog_14_method_100_code 33 = .ok (.ireturn, 1) := by decide +kernel
theorem dc12_ahead_34 : decode prog_14_method_100_code 34 = .ok (.aload_n 0, 1) := by decide +kernel
theorem dc12_ahead_35 : decode prog_14_method_100_code 35 = .ok (.getfield 55, 3) := by decide +kernel
theorem dc12_ahead_38 : decode prog_14_method_100_code 38 = .ok (.aload_n 0, 1) := by decide +kernel
theorem dc12_ahead_39 : decode prog_14_method_100_code 39 = .ok (.getfield 58, 3) := by decide +kernel
theorem dc12_ahead_42 : decode prog_14_method_100_code 42 = .ok (.invokestatic 345, 3) := by decide +kernel
theorem dc12_ahead_45 : decode prog_14_method_100_code 45 = .ok (.iconst 0, 1) := by decide +kernel
theorem dc12_ahead_46 : decode prog_14_method_100_code 46 = .ok (.istore 4, 2) := by decide +kernel
theorem dc12_ahead_48 : decode prog_14_method_100_code 48 = .ok (.iload 4, 2) := by decide +kernel
theorem dc12_ahead_50 : decode prog_14_method_100_code 50 = .ok (.iload_n 2, 1) := by decide +kernel
theorem dc12_ahead_51 : decode prog_14_method_100_code 51 = .ok (.if_icmp .ge 18, 3) := by decide +kernel
theorem dc12_ahead_54 : decode prog_14_method_100_code 54 = .ok (.aload_n 0, 1) := by decide +kernel
theorem dc12_ahead_55 : decode prog_14_method_100_code 55 = .ok (.aload_n 0, 1) := by decide +kernel
theorem dc12_ahead_56 : decode prog_14_method_100_code 56 = .ok (.getfield 58, 3) := by decide +kernel
theorem dc12_ahead_59 : decode prog_14_method_100_code 59 = .ok (.iload_n 3, 1) := by decide +kernel
theorem dc12_ahead_60 : decode prog_14_method_100_code 60 = .ok (.invokevirtual 349, 3) := by decide +kernel
theorem dc12_ahead_63 : decode prog_14_method_100_code 63 = .ok (.iinc 4 1, 3) := by decide +kernel
theorem dc12_ahead_66 : decode prog_14_method_100_code 66 = .ok (.goto (-18), 3) := by decide +kernel
theorem dc12_ahead_69 : decode prog_14_method_100_code 69 = .ok (.aload_n 0, 1) := by decide +kernel
theorem dc12_ahead_70 : decode prog_14_method_100_code 70 = .ok (.getfield 58, 3) := by decide +kernel
theorem dc12_ahead_73 : decode prog_14_method_100_code 73 = .ok (.iconst 4, 1) := by decide +kernel
theorem dc12_ahead_74 : decode prog_14_method_100_code 74 = .ok (.iload_n 1, 1) := by decide +kernel
theorem dc12_ahead_75 : decode prog_14_method_100_code 75 = .ok (.imul, 1) := by decide +kernel
theorem dc12_ahead_76 : decode prog_14_method_100_code 76 = .ok (.iconst 0, 1) := by decide +kernel
theorem dc12_ahead_77 : decode prog_14_method_100_code 77 = .ok (.iadd, 1) := by decide +kernel
theorem dc12_ahead_78 : decode prog_14_method_100_code 78 = .ok (.iaload, 1) := by decide +kernel
theorem dc12_ahead_79 : decode prog_14_method_100_code 79 = .ok (.ireturn, 1) := by decide +kernel
theorem dc12_even_0 : decode prog_14_method_101_code 0 = .ok (.aload_n 0, 1) := by decide +kernel
theorem dc12_even_1 : decode prog_14_method_101_code 1 = .ok (.iconst 0, 1) := by decide +kernel
theorem dc12_even_2 : decode prog_14_method_101_code 2 = .ok (.putfield 100, 3) := by decide +kernel
theorem dc12_even_5 : decode prog_14_method_101_code 5 = .ok (.aload_n 0, 1) := by decide +kernel
theorem dc12_even_6 : decode prog_14_method_101_code 6 = .ok (.iload_n 1, 1) := by decide +kernel
theorem dc12_even_7 : decode prog_14_method_101_code 7 = .ok (.invokevirtual 353, 3) := by decide +kernel
theorem dc12_even_10 : decode prog_14_method_101_code 10 = .ok (.ifCond .eq 10, 3) := by decide +kernel
theorem dc12_even_13 : decode prog_14_method_101_code 13 = .ok (.iload_n 2, 1) := by decide +kernel
theorem dc12_even_14 : decode prog_14_method_101_code 14 = .ok (.invokestatic 363, 3) := by decide +kernel
theorem dc12_even_17 : decode prog_14_method_101_code 17 = .ok (.ifCond .ne 5, 3) := by decide +kernel
theorem dc12_even_20 : decode prog_14_method_101_code 20 = .ok (.iconst (-1), 1) := by decide +kernel
theorem dc12_even_21 : decode prog_14_method_101_code 21 = .ok (.ireturn, 1) := by decide +kernel
theorem dc12_even_22 : decode prog_14_method_101_code 22 = .ok (.aload_n 0, 1) := by decide +kernel
theorem dc12_even_23 : decode prog_14_method_101_code 23 = .ok (.getfield 55, 3) := by decide +kernel
theorem dc12_even_26 : decode prog_14_method_101_code 26 = .ok (.aload_n 0, 1) := by decide +kernel
theorem dc12_even_27 : decode prog_14_method_101_code 27 = .ok (.getfield 58, 3) := by decide +kernel
theorem dc12_even_30 : decode prog_14_method_101_code 30 = .ok (.invokestatic 345, 3) := by decide +kernel
theorem dc12_even_33 : decode prog_14_method_101_code 33 = .ok (.iconst 0, 1) := by decide +kernel
theorem dc12_even_34 : decode prog_14_method_101_code 34 = .ok (.istore_n 3, 1) := by decide +kernel
theorem dc12_even_35 : decode prog_14_method_101_code 35 = .ok (.iload_n 3, 1) := by decide +kernel
theorem dc12_even_36 : decode prog_14_method_101_code 36 = .ok (.bipush 60, 2) := by decide +kernel
theorem dc12_even_38 : decode prog_14_method_101_code 38 = .ok (.if_icmp .gt 33, 3) := by decide +kernel
theorem dc12_even_41 : decode prog_14_method_101_code 41 = .ok (.aload_n 0, 1) := by decide +kernel
theorem dc12_even_42 : decode prog_14_method_101_code 42 = .ok (.getfield 58, 3) := by decide +kernel
theorem dc12_even_45 : decode prog_14_method_101_code 45 = .ok (.iconst 4, 1) := by decide +kernel
theorem dc12_even_46 : decode prog_14_method_101_code 46 = .ok (.iload_n 1, 1) := by decide +kernel
theorem dc12_even_47 : decode prog_14_method_101_code 47 = .ok (.imul, 1) := by decide +kernel
theorem dc12_even_48 : decode prog_14_method_101_code 48 = .ok (.iconst 0, 1) := by decide +kernel
theorem dc12_even_49 : decode prog_14_method_101_code 49 = .ok (.iadd, 1) := by decide +kernel
theorem dc12_even_50 : decode prog_14_method_101_code 50 = .ok (.iaload, 1) := by decide +kernel
theorem dc12_even_51 : decode prog_14_method_101_code 51 = .ok (.ifCond .ne 5, 3) := by decide +kernel
theorem dc12_even_54 : decode prog_14_method_101_code 54 = .ok (.iload_n 3, 1) := by decide +kernel
theorem dc12_even_55 : decode prog_14_method_101_code 55 = .ok (.ireturn, 1) := by decide +kernel
theorem dc12_even_56 : decode prog_14_method_101_code 56 = .ok (.aload_n 0, 1) := by decide +kernel
theorem dc12_even_57 : decode prog_14_method_101_code 57 = .ok (.aload_n 0, 1) := by decide +kernel
theorem dc12_even_58 : decode prog_14_method_101_code 58 = .ok (.getfield 58, 3) := by decide +kernel
theorem dc12_even_61 : decode prog_14_method_101_code 61 = .ok (.iload_n 2, 1) := by decide +kernel
theorem dc12_even_62 : decode prog_14_method_101_code 62 = .ok (.invokevirtual 349, 3) := by decide +kernel
theorem dc12_even_65 : decode prog_14_method_101_code 65 = .ok (.iinc 3 1, 3) := by decide +kernel
theorem dc12_even_68 : decode prog_14_method_101_code 68 = .ok (.goto (-33), 3) := by decide +kernel
theorem dc12_even_71 : decode prog_14_method_101_code 71 = .ok (.iconst (-1), 1) := by decide +kernel
theorem dc12_even_72 : decode prog_14_method_101_code 72 = .ok (.ireturn, 1) := by decide +kernel
theorem dc12_together_0 : decode prog_14_method_102_code 0 = .ok (.aload_n 0, 1) := by decide +kernel
theorem dc12_together_1 : decode prog_14_method_102_code 1 = .ok (.iconst 0, 1) := by decide +kernel
theorem dc12_together_2 : decode prog_14_method_102_code 2 = .ok (.putfield 100, 3) := by decide +kernel
theorem dc12_together_5 : decode prog_14_method_102_code 5 = .ok (.aload_n 0, 1) := by decide +kernel
theorem dc12_together_6 : decode prog_14_method_102_code 6 = .ok (.getfield 290, 3) := by decide +kernel
theorem dc12_together_9 : decode prog_14_method_102_code 9 = .ok (.ifCond .eq 10, 3) := by decide +kernel
theorem dc12_together_12 : decode prog_14_method_102_code 12 = .ok (.iload_n 1, 1) := by decide +kernel
theorem dc12_together_13 : decode prog_14_method_102_code 13 = .ok (.invokestatic 363, 3) := by decide +kernel
theorem dc12_together_16 : decode prog_14_method_102_code 16 = .ok (.ifCond .ne 5, 3) := by decide +kernel
theorem dc12_together_19 : decode prog_14_method_102_code 19 = .ok (.iconst (-1), 1) := by decide +kernel
theorem dc12_together_20 : decode prog_14_method_102_code 20 = .ok (.ireturn, 1) := by decide +kernel
theorem dc12_together_21 : decode prog_14_method_102_code 21 = .ok (.aload_n 0, 1) := by decide +kernel
theorem dc12_together_22 : decode prog_14_method_102_code 22 = .ok (.getfield 55, 3) := by decide +kernel
theorem dc12_together_25 : decode prog_14_method_102_code 25 = .ok (.aload_n 0, 1) := by decide +kernel
theorem dc12_together_26 : decode prog_14_method_102_code 26 = .ok (.getfield 58, 3) := by decide +kernel
theorem dc12_together_29 : decode prog_14_method_102_code 29 = .ok (.invokestatic 345, 3) := by decide +kernel
theorem dc12_together_32 : decode prog_14_method_102_code 32 = .ok (.iconst 1, 1) := by decide +kernel
theorem dc12_together_33 : decode prog_14_method_102_code 33 = .ok (.istore_n 2, 1) := by decide +kernel
theorem dc12_together_34 : decode prog_14_method_102_code 34 = .ok (.iload_n 2, 1) := by decide +kernel
theorem dc12_together_35 : decode prog_14_method_102_code 35 = .ok (.bipush 60, 2) := by decide +kernel
theorem dc12_together_37 : decode prog_14_method_102_code 37 = .ok (.if_icmp .gt 31, 3) := by decide +kernel
theorem dc12_together_40 : decode prog_14_method_102_code 40 = .ok (.aload_n 0, 1) := by decide +kernel
theorem dc12_together_41 : decode prog_14_method_102_code 41 = .ok (.aload_n 0, 1) := by decide +kernel
theorem dc12_together_42 : decode prog_14_method_102_code 42 = .ok (.getfield 58, 3) := by decide +kernel
theorem dc12_together_45 : decode prog_14_method_102_code 45 = .ok (.iload_n 1, 1) := by decide +kernel
theorem dc12_together_46 : decode prog_14_method_102_code 46 = .ok (.invokevirtual 349, 3) := by decide +kernel
theorem dc12_together_49 : decode prog_14_method_102_code 49 = .ok (.aload_n 0, 1) := by decide +kernel
theorem dc12_together_50 : decode prog_14_method_102_code 50 = .ok (.getfield 339, 3) := by decide +kernel
theorem dc12_together_53 : decode prog_14_method_102_code 53 = .ok (.invokestatic 452, 3) := by decide +kernel
theorem dc12_together_56 : decode prog_14_method_102_code 56 = .ok (.iconst 1, 1) := by decide +kernel
theorem dc12_together_57 : decode prog_14_method_102_code 57 = .ok (.if_icmp .le 5, 3) := by decide +kernel
theorem dc12_together_60 : decode prog_14_method_102_code 60 = .ok (.iload_n 2, 1) := by decide +kernel
theorem dc12_together_61 : decode prog_14_method_102_code 61 = .ok (.ireturn, 1) := by decide +kernel
theorem dc12_together_62 : decode prog_14_method_102_code 62 = .ok (.iinc 2 1, 3) := by decide +kernel
theorem dc12_together_65 : decode prog_14_method_102_code 65 = .ok (.goto (-31), 3) := by decide +kernel
theorem dc12_together_68 : decode prog_14_method_102_code 68 = .ok (.iconst (-1), 1) := by decide +kernel
theorem dc12_together_69 : decode prog_14_method_102_code 69 = .ok (.ireturn, 1) := by decide +kernel
theorem dc12_all_0 : decode prog_14_method_105_code 0 = .ok (.aload_n 0, 1) := by decide +kernel
theorem dc12_all_1 : decode prog_14_method_105_code 1 = .ok (.iconst 0, 1) := by decide +kernel
theorem dc12_all_2 : decode prog_14_method_105_code 2 = .ok (.putfield 100, 3) := by decide +kernel
theorem dc12_all_5 : decode prog_14_method_105_code 5 = .ok (.aload_n 0, 1) := by decide +kernel
theorem dc12_all_6 : decode prog_14_method_105_code 6 = .ok (.getfield 290, 3) := by decide +kernel
theorem dc12_all_9 : decode prog_14_method_105_code 9 = .ok (.ifCond .ne 5, 3) := by decide +kernel
theorem dc12_all_12 : decode prog_14_method_105_code 12 = .ok (.iconst (-1), 1) := by decide +kernel
theorem dc12_all_13 : decode prog_14_method_105_code 13 = .ok (.ireturn, 1) := by decide +kernel
theorem dc12_all_14 : decode prog_14_method_105_code 14 = .ok (.iload_n 1, 1) := by decide +kernel
theorem dc12_all_15 : decode prog_14_method_105_code 15 = .ok (.tableswitch 149 0 6 #[41, 48, 55, 62, 69, 75, 96], 41) := by decide +kernel
theorem dc12_all_56 : decode prog_14_method_105_code 56 = .ok (.aload_n 0, 1) := by decide +kernel
theorem dc12_all_57 : decode prog_14_method_105_code 57 = .ok (.iconst 3, 1) := by decide +kernel
theorem dc12_all_58 : decode prog_14_method_105_code 58 = .ok (.iconst (-1), 1) := by decide +kernel
theorem dc12_all_59 : decode prog_14_method_105_code 59 = .ok (.invokevirtual 457, 3) := by decide +kernel
theorem dc12_all_62 : decode prog_14_method_105_code 62 = .ok (.ireturn, 1) := by decide +kernel
theorem dc12_all_63 : decode prog_14_method_105_code 63 = .ok (.aload_n 0, 1) := by decide +kernel
theorem dc12_all_64 : decode prog_14_method_105_code 64 = .ok (.iconst 2, 1) := by decide +kernel
theorem dc12_all_65 : decode prog_14_method_105_code 65 = .ok (.iconst (-1), 1) := by decide +kernel
theorem dc12_all_66 : decode prog_14_method_105_code 66 = .ok (.invokevirtual 457, 3) := by decide +kernel
theorem dc12_all_69 : decode prog_14_method_105_code 69 = .ok (.ireturn, 1) := by decide +kernel
theorem dc12_all_70 : decode prog_14_method_105_code 70 = .ok (.aload_n 0, 1) := by decide +kernel
theorem dc12_all_71 : decode prog_14_method_105_code 71 = .ok (.iconst 0, 1) := by decide +kernel
theorem dc12_all_72 : decode prog_14_method_105_code 72 = .ok (.iconst 1, 1) := by decide +kernel
theorem dc12_all_73 : decode prog_14_method_105_code 73 = .ok (.invokevirtual 457, 3) := by decide +kernel
theorem dc12_all_76 : decode prog_14_method_105_code 76 = .ok (.ireturn, 1) := by decide +kernel
theorem dc12_all_77 : decode prog_14_method_105_code 77 = .ok (.aload_n 0, 1) := by decide +kernel
theorem dc12_all_78 : decode prog_14_method_105_code 78 = .ok (.iconst 1, 1) := by decide +kernel
theorem dc12_all_79 : decode prog_14_method_105_code 79 = .ok (.iconst 1, 1) := by decide +kernel
theorem dc12_all_80 : decode prog_14_method_105_code 80 = .ok (.invokevirtual 457, 3) := by decide +kernel
theorem dc12_all_83 : decode prog_14_method_105_code 83 = .ok (.ireturn, 1) := by decide +kernel
theorem dc12_all_84 : decode prog_14_method_105_code 84 = .ok (.aload_n 0, 1) := by decide +kernel
theorem dc12_all_85 : decode prog_14_method_105_code 85 = .ok (.iconst 0, 1) := by decide +kernel
theorem dc12_all_86 : decode prog_14_method_105_code 86 = .ok (.invokevirtual 460, 3) := by decide +kernel
theorem dc12_all_89 : decode prog_14_method_105_code 89 = .ok (.ireturn, 1) := by decide +kernel
theorem dc12_all_90 : decode prog_14_method_105_code 90 = .ok (.aload_n 0, 1) := by decide +kernel
theorem dc12_all_91 : decode prog_14_method_105_code 91 = .ok (.getfield 55, 3) := by decide +kernel
theorem dc12_all_94 : decode prog_14_method_105_code 94 = .ok (.iconst 4, 1) := by decide +kernel
theorem dc12_all_95 : decode prog_14_method_105_code 95 = .ok (.aload_n 0, 1) := by decide +kernel
theorem dc12_all_96 : decode prog_14_method_105_code 96 = .ok (.iconst 1, 1) := by decide +kernel
theorem dc12_all_97 : decode prog_14_method_105_code 97 = .ok (.iconst 1, 1) := by decide +kernel
theorem dc12_all_98 : decode prog_14_method_105_code 98 = .ok (.invokevirtual 457, 3) := by decide +kernel
theorem dc12_all_101 : decode prog_14_method_105_code 101 = .ok (.imul, 1) := by decide +kernel
theorem dc12_all_102 : decode prog_14_method_105_code 102 = .ok (.iconst 1, 1) := by decide +kernel
theorem dc12_all_103 : decode prog_14_method_105_code 103 = .ok (.iadd, 1) := by decide +kernel
theorem dc12_all_104 : decode prog_14_method_105_code 104 = .ok (.iaload, 1) := by decide +kernel
theorem dc12_all_105 : decode prog_14_method_105_code 105 = .ok (.aload_n 0, 1) := by decide +kernel
theorem dc12_all_106 : decode prog_14_method_105_code 106 = .ok (.getfield 290, 3) := by decide +kernel
theorem dc12_all_109 : decode prog_14_method_105_code 109 = .ok (.imul, 1) := by decide +kernel
theorem dc12_all_110 : decode prog_14_method_105_code 110 = .ok (.ireturn, 1) := by decide +kernel
theorem dc12_all_111 : decode prog_14_method_105_code 111 = .ok (.iconst 0, 1) := by decide +kernel
theorem dc12_all_112 : decode prog_14_method_105_code 112 = .ok (.istore_n 2, 1) := by decide +kernel
theorem dc12_all_113 : decode prog_14_method_105_code 113 = .ok (.iconst 0, 1) := by decide +kernel
theorem dc12_all_114 : decode prog_14_method_105_code 114 = .ok (.istore_n 3, 1) := by decide +kernel
theorem dc12_all_115 : decode prog_14_method_105_code 115 = .ok (.iload_n 3, 1) := by decide +kernel
theorem dc12_all_116 : decode prog_14_method_105_code 116 = .ok (.aload_n 0, 1) := by decide +kernel
theorem dc12_all_117 : decode prog_14_method_105_code 117 = .ok (.getfield 290, 3) := by decide +kernel
theorem dc12_all_120 : decode prog_14_method_105_code 120 = .ok (.if_icmp .ge 42, 3) := by decide +kernel
theorem dc12_all_123 : decode prog_14_method_105_code 123 = .ok (.iload_n 2, 1) := by decide +kernel
theorem dc12_all_124 : decode prog_14_method_105_code 124 = .ok (.aload_n 0, 1) := by decide +kernel
theorem dc12_all_125 : decode prog_14_method_105_code 125 = .ok (.getfield 55, 3) := by decide +kernel
theorem dc12_all_128 : decode prog_14_method_105_code 128 = .ok (.iconst 4, 1) := by decide +kernel
theorem dc12_all_129 : decode prog_14_method_105_code 129 = .ok (.iload_n 3, 1) := by decide +kernel
theorem dc12_all_130 : decode prog_14_method_105_code 130 = .ok (.imul, 1) := by decide +kernel
theorem dc12_all_131 : decode prog_14_method_105_code 131 = .ok (.iconst 1, 1) := by decide +kernel
theorem dc12_all_132 : decode prog_14_method_105_code 132 = .ok (.iadd, 1) := by decide +kernel
theorem dc12_all_133 : decode prog_14_method_105_code 133 = .ok (.iaload, 1) := by decide +kernel
theorem dc12_all_134 : decode prog_14_method_105_code 134 = .ok (.aload_n 0, 1) := by decide +kernel
theorem dc12_all_135 : decode prog_14_method_105_code 135 = .ok (.getfield 55, 3) := by decide +kernel
theorem dc12_all_138 : decode prog_14_method_105_code 138 = .ok (.iconst 4, 1) := by decide +kernel
theorem dc12_all_139 : decode prog_14_method_105_code 139 = .ok (.iload_n 3, 1) := by decide +kernel
theorem dc12_all_140 : decode prog_14_method_105_code 140 = .ok (.imul, 1) := by decide +kernel
theorem dc12_all_141 : decode prog_14_method_105_code 141 = .ok (.iconst 2, 1) := by decide +kernel
theorem dc12_all_142 : decode prog_14_method_105_code 142 = .ok (.iadd, 1) := by decide +kernel
theorem dc12_all_143 : decode prog_14_method_105_code 143 = .ok (.iaload, 1) := by decide +kernel
theorem dc12_all_144 : decode prog_14_method_105_code 144 = .ok (.if_icmp .le 9, 3) := by decide +kernel
theorem dc12_all_147 : decode prog_14_method_105_code 147 = .ok (.iconst 1, 1) := by decide +kernel
theorem dc12_all_148 : decode prog_14_method_105_code 148 = .ok (.iload_n 3, 1) := by decide +kernel
theorem dc12_all_149 : decode prog_14_method_105_code 149 = .ok (.ishl, 1) := by decide +kernel
theorem dc12_all_150 : decode prog_14_method_105_code 150 = .ok (.goto 4, 3) := by decide +kernel
theorem dc12_all_153 : decode prog_14_method_105_code 153 = .ok (.iconst 0, 1) := by decide +kernel
theorem dc12_all_154 : decode prog_14_method_105_code 154 = .ok (.ior, 1) := by decide +kernel
theorem dc12_all_155 : decode prog_14_method_105_code 155 = .ok (.istore_n 2, 1) := by decide +kernel
theorem dc12_all_156 : decode prog_14_method_105_code 156 = .ok (.iinc 3 1, 3) := by decide +kernel
theorem dc12_all_159 : decode prog_14_method_105_code 159 = .ok (.goto (-44), 3) := by decide +kernel
theorem dc12_all_162 : decode prog_14_method_105_code 162 = .ok (.iload_n 2, 1) := by decide +kernel
theorem dc12_all_163 : decode prog_14_method_105_code 163 = .ok (.ireturn, 1) := by decide +kernel
theorem dc12_all_164 : decode prog_14_method_105_code 164 = .ok (.iconst (-1), 1) := by decide +kernel
theorem dc12_all_165 : decode prog_14_method_105_code 165 = .ok (.ireturn, 1) := by decide +kernel
theorem dc12_greatest_0 : decode prog_14_method_104_code 0 = .ok (.iconst 0, 1) := by decide +kernel
theorem dc12_greatest_1 : decode prog_14_method_104_code 1 = .ok (.istore_n 3, 1) := by decide +kernel
theorem dc12_greatest_2 : decode prog_14_method_104_code 2 = .ok (.iconst 1, 1) := by decide +kernel
theorem dc12_greatest_3 : decode prog_14_method_104_code 3 = .ok (.istore 4, 2) := by decide +kernel
theorem dc12_greatest_5 : decode prog_14_method_104_code 5 = .ok (.iload 4, 2) := by decide +kernel
theorem dc12_greatest_7 : decode prog_14_method_104_code 7 = .ok (.aload_n 0, 1) := by decide +kernel
theorem dc12_greatest_8 : decode prog_14_method_104_code 8 = .ok (.getfield 290, 3) := by decide +kernel
theorem dc12_greatest_11 : decode prog_14_method_104_code 11 = .ok (.if_icmp .ge 44, 3) := by decide +kernel
theorem dc12_greatest_14 : decode prog_14_method_104_code 14 = .ok (.iload_n 2, 1) := by decide +kernel
theorem dc12_greatest_15 : decode prog_14_method_104_code 15 = .ok (.aload_n 0, 1) := by decide +kernel
theorem dc12_greatest_16 : decode prog_14_method_104_code 16 = .ok (.getfield 55, 3) := by decide +kernel
theorem dc12_greatest_19 : decode prog_14_method_104_code 19 = .ok (.iconst 4, 1) := by decide +kernel
theorem dc12_greatest_20 : decode prog_14_method_104_code 20 = .ok (.iload 4, 2) := by decide +kernel
theorem dc12_greatest_22 : decode prog_14_method_104_code 22 = .ok (.imul, 1) := by decide +kernel
theorem dc12_greatest_23 : decode prog_14_method_104_code 23 = .ok (.iload_n 1, 1) := by decide +kernel
theorem dc12_greatest_24 : decode prog_14_method_104_code 24 = .ok (.iadd, 1) := by decide +kernel
theorem dc12_greatest_25 : decode prog_14_method_104_code 25 = .ok (.iaload, 1) := by decide +kernel
theorem dc12_greatest_26 : decode prog_14_method_104_code 26 = .ok (.imul, 1) := by decide +kernel
theorem dc12_greatest_27 : decode prog_14_method_104_code 27 = .ok (.iload_n 2, 1) := by decide +kernel
theorem dc12_greatest_28 : decode prog_14_method_104_code 28 = .ok (.aload_n 0, 1) := by decide +kernel
theorem dc12_greatest_29 : decode prog_14_method_104_code 29 = .ok (.getfield 55, 3) := by decide +kernel
theorem dc12_greatest_32 : decode prog_14_method_104_code 32 = .ok (.iconst 4, 1) := by decide +kernel
theorem dc12_greatest_33 : decode prog_14_method_104_code 33 = .ok (.iload_n 3, 1) := by decide +kernel
theorem dc12_greatest_34 : decode prog_14_method_104_code 34 = .ok (.imul, 1) := by decide +kernel
theorem dc12_greatest_35 : decode prog_14_method_104_code 35 = .ok (.iload_n 1, 1) := by decide +kernel
theorem dc12_greatest_36 : decode prog_14_method_104_code 36 = .ok (.iadd, 1) := by decide +kernel
theorem dc12_greatest_37 : decode prog_14_method_104_code 37 = .ok (.iaload, 1) := by decide +kernel
theorem dc12_greatest_38 : decode prog_14_method_104_code 38 = .ok (.imul, 1) := by decide +kernel
theorem dc12_greatest_39 : decode prog_14_method_104_code 39 = .ok (.if_icmp .le 8, 3) := by decide +kernel
theorem dc12_greatest_42 : decode prog_14_method_104_code 42 = .ok (.iload 4, 2) := by decide +kernel
theorem dc12_greatest_44 : decode prog_14_method_104_code 44 = .ok (.goto 4, 3) := by decide +kernel
theorem dc12_greatest_47 : decode prog_14_method_104_code 47 = .ok (.iload_n 3, 1) := by decide +kernel
theorem dc12_greatest_48 : decode prog_14_method_104_code 48 = .ok (.istore_n 3, 1) := by decide +kernel
theorem dc12_greatest_49 : decode prog_14_method_104_code 49 = .ok (.iinc 4 1, 3) := by decide +kernel
theorem dc12_greatest_52 : decode prog_14_method_104_code 52 = .ok (.goto (-47), 3) := by decide +kernel
theorem dc12_greatest_55 : decode prog_14_method_104_code 55 = .ok (.iload_n 3, 1) := by decide +kernel
