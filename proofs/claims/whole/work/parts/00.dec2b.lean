theorem dc12_atom_46 : decode prog_14_method_16_code 46 = .ok (.aload_n 0, 1) := by decide +kernel
theorem dc12_atom_47 : decode prog_14_method_16_code 47 = .ok (.invokevirtual 165, 3) := by decide +kernel
theorem dc12_atom_50 : decode prog_14_method_16_code 50 = .ok (.istore_n 2, 1) := by decide +kernel
theorem dc12_atom_51 : decode prog_14_method_16_code 51 = .ok (.aload_n 0, 1) := by decide +kernel
theorem dc12_atom_52 : decode prog_14_method_16_code 52 = .ok (.bipush 93, 2) := by decide +kernel
theorem dc12_atom_54 : decode prog_14_method_16_code 54 = .ok (.invokevirtual 168, 3) := by decide +kernel
theorem dc12_atom_57 : decode prog_14_method_16_code 57 = .ok (.ifCond .ne 5, 3) := by decide +kernel
theorem dc12_atom_60 : decode prog_14_method_16_code 60 = .ok (.iconst 0, 1) := by decide +kernel
theorem dc12_atom_61 : decode prog_14_method_16_code 61 = .ok (.ireturn, 1) := by decide +kernel
theorem dc12_atom_62 : decode prog_14_method_16_code 62 = .ok (.aload_n 0, 1) := by decide +kernel
theorem dc12_atom_63 : decode prog_14_method_16_code 63 = .ok (.dup, 1) := by decide +kernel
theorem dc12_atom_64 : decode prog_14_method_16_code 64 = .ok (.getfield 135, 3) := by decide +kernel
theorem dc12_atom_67 : decode prog_14_method_16_code 67 = .ok (.iconst 1, 1) := by decide +kernel
theorem dc12_atom_68 : decode prog_14_method_16_code 68 = .ok (.isub, 1) := by decide +kernel
theorem dc12_atom_69 : decode prog_14_method_16_code 69 = .ok (.putfield 135, 3) := by decide +kernel
theorem dc12_atom_72 : decode prog_14_method_16_code 72 = .ok (.iload_n 2, 1) := by decide +kernel
theorem dc12_atom_73 : decode prog_14_method_16_code 73 = .ok (.ireturn, 1) := by decide +kernel
theorem dc12_atom_74 : decode prog_14_method_16_code 74 = .ok (.aload_n 0, 1) := by decide +kernel
theorem dc12_atom_75 : decode prog_14_method_16_code 75 = .ok (.invokevirtual 172, 3) := by decide +kernel
theorem dc12_atom_78 : decode prog_14_method_16_code 78 = .ok (.ifCond .ne 8, 3) := by decide +kernel
theorem dc12_atom_81 : decode prog_14_method_16_code 81 = .ok (.aload_n 0, 1) := by decide +kernel
theorem dc12_atom_82 : decode prog_14_method_16_code 82 = .ok (.invokevirtual 138, 3) := by decide +kernel
theorem dc12_atom_85 : decode prog_14_method_16_code 85 = .ok (.pop, 1) := by decide +kernel
theorem dc12_atom_86 : decode prog_14_method_16_code 86 = .ok (.iconst 0, 1) := by decide +kernel
theorem dc12_atom_87 : decode prog_14_method_16_code 87 = .ok (.istore_n 2, 1) := by decide +kernel
theorem dc12_atom_88 : decode prog_14_method_16_code 88 = .ok (.iconst 0, 1) := by decide +kernel
theorem dc12_atom_89 : decode prog_14_method_16_code 89 = .ok (.istore_n 3, 1) := by decide +kernel
theorem dc12_atom_90 : decode prog_14_method_16_code 90 = .ok (.aload_n 0, 1) := by decide +kernel
theorem dc12_atom_91 : decode prog_14_method_16_code 91 = .ok (.invokevirtual 172, 3) := by decide +kernel
theorem dc12_atom_94 : decode prog_14_method_16_code 94 = .ok (.ifCond .eq 62, 3) := by decide +kernel
theorem dc12_atom_97 : decode prog_14_method_16_code 97 = .ok (.aload_n 0, 1) := by decide +kernel
theorem dc12_atom_98 : decode prog_14_method_16_code 98 = .ok (.getfield 132, 3) := by decide +kernel
theorem dc12_atom_101 : decode prog_14_method_16_code 101 = .ok (.iconst (-1), 1) := by decide +kernel
theorem dc12_atom_102 : decode prog_14_method_16_code 102 = .ok (.if_icmp .ne 54, 3) := by decide +kernel
theorem dc12_atom_105 : decode prog_14_method_16_code 105 = .ok (.iload_n 3, 1) := by decide +kernel
theorem dc12_atom_106 : decode prog_14_method_16_code 106 = .ok (.iconst 4, 1) := by decide +kernel
theorem dc12_atom_107 : decode prog_14_method_16_code 107 = .ok (.if_icmp .ne 10, 3) := by decide +kernel
theorem dc12_atom_110 : decode prog_14_method_16_code 110 = .ok (.aload_n 0, 1) := by decide +kernel
theorem dc12_atom_111 : decode prog_14_method_16_code 111 = .ok (.invokevirtual 138, 3) := by decide +kernel
theorem dc12_atom_114 : decode prog_14_method_16_code 114 = .ok (.pop, 1) := by decide +kernel
theorem dc12_atom_115 : decode prog_14_method_16_code 115 = .ok (.iconst 0, 1) := by decide +kernel
theorem dc12_atom_116 : decode prog_14_method_16_code 116 = .ok (.ireturn, 1) := by decide +kernel
theorem dc12_atom_117 : decode prog_14_method_16_code 117 = .ok (.bipush 10, 2) := by decide +kernel
theorem dc12_atom_119 : decode prog_14_method_16_code 119 = .ok (.iload_n 2, 1) := by decide +kernel
theorem dc12_atom_120 : decode prog_14_method_16_code 120 = .ok (.imul, 1) := by decide +kernel
theorem dc12_atom_121 : decode prog_14_method_16_code 121 = .ok (.aload_n 0, 1) := by decide +kernel
theorem dc12_atom_122 : decode prog_14_method_16_code 122 = .ok (.getfield 23, 3) := by decide +kernel
theorem dc12_atom_125 : decode prog_14_method_16_code 125 = .ok (.aload_n 0, 1) := by decide +kernel
theorem dc12_atom_126 : decode prog_14_method_16_code 126 = .ok (.getfield 129, 3) := by decide +kernel
theorem dc12_atom_129 : decode prog_14_method_16_code 129 = .ok (.aload_n 0, 1) := by decide +kernel
theorem dc12_atom_130 : decode prog_14_method_16_code 130 = .ok (.getfield 123, 3) := by decide +kernel
theorem dc12_atom_133 : decode prog_14_method_16_code 133 = .ok (.iadd, 1) := by decide +kernel
theorem dc12_atom_134 : decode prog_14_method_16_code 134 = .ok (.baload, 1) := by decide +kernel
theorem dc12_atom_135 : decode prog_14_method_16_code 135 = .ok (.iadd, 1) := by decide +kernel
theorem dc12_atom_136 : decode prog_14_method_16_code 136 = .ok (.bipush 48, 2) := by decide +kernel
theorem dc12_atom_138 : decode prog_14_method_16_code 138 = .ok (.isub, 1) := by decide +kernel
theorem dc12_atom_139 : decode prog_14_method_16_code 139 = .ok (.istore_n 2, 1) := by decide +kernel
theorem dc12_atom_140 : decode prog_14_method_16_code 140 = .ok (.aload_n 0, 1) := by decide +kernel
theorem dc12_atom_141 : decode prog_14_method_16_code 141 = .ok (.dup, 1) := by decide +kernel
theorem dc12_atom_142 : decode prog_14_method_16_code 142 = .ok (.getfield 123, 3) := by decide +kernel
theorem dc12_atom_145 : decode prog_14_method_16_code 145 = .ok (.iconst 1, 1) := by decide +kernel
theorem dc12_atom_146 : decode prog_14_method_16_code 146 = .ok (.iadd, 1) := by decide +kernel
theorem dc12_atom_147 : decode prog_14_method_16_code 147 = .ok (.putfield 123, 3) := by decide +kernel
theorem dc12_atom_150 : decode prog_14_method_16_code 150 = .ok (.iinc 3 1, 3) := by decide +kernel
theorem dc12_atom_153 : decode prog_14_method_16_code 153 = .ok (.goto (-63), 3) := by decide +kernel
theorem dc12_atom_156 : decode prog_14_method_16_code 156 = .ok (.iload_n 2, 1) := by decide +kernel
theorem dc12_atom_157 : decode prog_14_method_16_code 157 = .ok (.ireturn, 1) := by decide +kernel
theorem dc12_goesIn_0 : decode prog_14_method_12_code 0 = .ok (.aload_n 0, 1) := by decide +kernel
theorem dc12_goesIn_1 : decode prog_14_method_12_code 1 = .ok (.getfield 135, 3) := by decide +kernel
theorem dc12_goesIn_4 : decode prog_14_method_12_code 4 = .ok (.bipush 6, 2) := by decide +kernel
theorem dc12_goesIn_6 : decode prog_14_method_12_code 6 = .ok (.if_icmp .ne 8, 3) := by decide +kernel
theorem dc12_goesIn_9 : decode prog_14_method_12_code 9 = .ok (.aload_n 0, 1) := by decide +kernel
theorem dc12_goesIn_10 : decode prog_14_method_12_code 10 = .ok (.invokevirtual 138, 3) := by decide +kernel
theorem dc12_goesIn_13 : decode prog_14_method_12_code 13 = .ok (.ireturn, 1) := by decide +kernel
theorem dc12_goesIn_14 : decode prog_14_method_12_code 14 = .ok (.aload_n 0, 1) := by decide +kernel
theorem dc12_goesIn_15 : decode prog_14_method_12_code 15 = .ok (.dup, 1) := by decide +kernel
theorem dc12_goesIn_16 : decode prog_14_method_12_code 16 = .ok (.getfield 135, 3) := by decide +kernel
theorem dc12_goesIn_19 : decode prog_14_method_12_code 19 = .ok (.iconst 1, 1) := by decide +kernel
theorem dc12_goesIn_20 : decode prog_14_method_12_code 20 = .ok (.iadd, 1) := by decide +kernel
theorem dc12_goesIn_21 : decode prog_14_method_12_code 21 = .ok (.putfield 135, 3) := by decide +kernel
theorem dc12_goesIn_24 : decode prog_14_method_12_code 24 = .ok (.aload_n 0, 1) := by decide +kernel
theorem dc12_goesIn_25 : decode prog_14_method_12_code 25 = .ok (.dup, 1) := by decide +kernel
theorem dc12_goesIn_26 : decode prog_14_method_12_code 26 = .ok (.getfield 123, 3) := by decide +kernel
theorem dc12_goesIn_29 : decode prog_14_method_12_code 29 = .ok (.iconst 1, 1) := by decide +kernel
theorem dc12_goesIn_30 : decode prog_14_method_12_code 30 = .ok (.iadd, 1) := by decide +kernel
theorem dc12_goesIn_31 : decode prog_14_method_12_code 31 = .ok (.putfield 123, 3) := by decide +kernel
theorem dc12_goesIn_34 : decode prog_14_method_12_code 34 = .ok (.iconst 1, 1) := by decide +kernel
theorem dc12_goesIn_35 : decode prog_14_method_12_code 35 = .ok (.ireturn, 1) := by decide +kernel
theorem dc12_within_0 : decode prog_14_method_15_code 0 = .ok (.ldc2_w 145, 3) := by decide +kernel
theorem dc12_within_3 : decode prog_14_method_15_code 3 = .ok (.ldc2_w 147, 3) := by decide +kernel
theorem dc12_within_6 : decode prog_14_method_15_code 6 = .ok (.lload_n 0, 1) := by decide +kernel
theorem dc12_within_7 : decode prog_14_method_15_code 7 = .ok (.invokestatic 149, 3) := by decide +kernel
theorem dc12_within_10 : decode prog_14_method_15_code 10 = .ok (.invokestatic 155, 3) := by decide +kernel
theorem dc12_within_13 : decode prog_14_method_15_code 13 = .ok (.l2i, 1) := by decide +kernel
theorem dc12_within_14 : decode prog_14_method_15_code 14 = .ok (.ireturn, 1) := by decide +kernel
theorem dc12_isSign_0 : decode prog_14_method_19_code 0 = .ok (.iload_n 0, 1) := by decide +kernel
theorem dc12_isSign_1 : decode prog_14_method_19_code 1 = .ok (.bipush 61, 2) := by decide +kernel
theorem dc12_isSign_3 : decode prog_14_method_19_code 3 = .ok (.if_icmp .eq 15, 3) := by decide +kernel
theorem dc12_isSign_6 : decode prog_14_method_19_code 6 = .ok (.iload_n 0, 1) := by decide +kernel
theorem dc12_isSign_7 : decode prog_14_method_19_code 7 = .ok (.bipush 60, 2) := by decide +kernel
theorem dc12_isSign_9 : decode prog_14_method_19_code 9 = .ok (.if_icmp .eq 9, 3) := by decide +kernel
theorem dc12_isSign_12 : decode prog_14_method_19_code 12 = .ok (.iload_n 0, 1) := by decide +kernel
theorem dc12_isSign_13 : decode prog_14_method_19_code 13 = .ok (.bipush 62, 2) := by decide +kernel
theorem dc12_isSign_15 : decode prog_14_method_19_code 15 = .ok (.if_icmp .ne 7, 3) := by decide +kernel
theorem dc12_isSign_18 : decode prog_14_method_19_code 18 = .ok (.iconst 1, 1) := by decide +kernel
theorem dc12_isSign_19 : decode prog_14_method_19_code 19 = .ok (.goto 4, 3) := by decide +kernel
theorem dc12_isSign_22 : decode prog_14_method_19_code 22 = .ok (.iconst 0, 1) := by decide +kernel
theorem dc12_isSign_23 : decode prog_14_method_19_code 23 = .ok (.ireturn, 1) := by decide +kernel
theorem dc12_unit_0 : decode prog_14_method_21_code 0 = .ok (.aload_n 0, 1) := by decide +kernel
theorem dc12_unit_1 : decode prog_14_method_21_code 1 = .ok (.invokevirtual 142, 3) := by decide +kernel
theorem dc12_unit_4 : decode prog_14_method_21_code 4 = .ok (.istore_n 1, 1) := by decide +kernel
theorem dc12_unit_5 : decode prog_14_method_21_code 5 = .ok (.iload_n 1, 1) := by decide +kernel
theorem dc12_unit_6 : decode prog_14_method_21_code 6 = .ok (.bipush 33, 2) := by decide +kernel
theorem dc12_unit_8 : decode prog_14_method_21_code 8 = .ok (.if_icmp .ne 37, 3) := by decide +kernel
theorem dc12_unit_11 : decode prog_14_method_21_code 11 = .ok (.aload_n 0, 1) := by decide +kernel
theorem dc12_unit_12 : decode prog_14_method_21_code 12 = .ok (.invokevirtual 162, 3) := by decide +kernel
theorem dc12_unit_15 : decode prog_14_method_21_code 15 = .ok (.ifCond .ne 5, 3) := by decide +kernel
theorem dc12_unit_18 : decode prog_14_method_21_code 18 = .ok (.iconst 0, 1) := by decide +kernel
theorem dc12_unit_19 : decode prog_14_method_21_code 19 = .ok (.ireturn, 1) := by decide +kernel
theorem dc12_unit_20 : decode prog_14_method_21_code 20 = .ok (.aload_n 0, 1) := by decide +kernel
theorem dc12_unit_21 : decode prog_14_method_21_code 21 = .ok (.invokevirtual 188, 3) := by decide +kernel
theorem dc12_unit_24 : decode prog_14_method_21_code 24 = .ok (.istore_n 2, 1) := by decide +kernel
theorem dc12_unit_25 : decode prog_14_method_21_code 25 = .ok (.aload_n 0, 1) := by decide +kernel
theorem dc12_unit_26 : decode prog_14_method_21_code 26 = .ok (.dup, 1) := by decide +kernel
theorem dc12_unit_27 : decode prog_14_method_21_code 27 = .ok (.getfield 135, 3) := by decide +kernel
theorem dc12_unit_30 : decode prog_14_method_21_code 30 = .ok (.iconst 1, 1) := by decide +kernel
theorem dc12_unit_31 : decode prog_14_method_21_code 31 = .ok (.isub, 1) := by decide +kernel
theorem dc12_unit_32 : decode prog_14_method_21_code 32 = .ok (.putfield 135, 3) := by decide +kernel
theorem dc12_unit_35 : decode prog_14_method_21_code 35 = .ok (.iload_n 2, 1) := by decide +kernel
theorem dc12_unit_36 : decode prog_14_method_21_code 36 = .ok (.ifCond .ne 7, 3) := by decide +kernel
theorem dc12_unit_39 : decode prog_14_method_21_code 39 = .ok (.iconst 1, 1) := by decide +kernel
theorem dc12_unit_40 : decode prog_14_method_21_code 40 = .ok (.goto 4, 3) := by decide +kernel
theorem dc12_unit_43 : decode prog_14_method_21_code 43 = .ok (.iconst 0, 1) := by decide +kernel
theorem dc12_unit_44 : decode prog_14_method_21_code 44 = .ok (.ireturn, 1) := by decide +kernel
theorem dc12_unit_45 : decode prog_14_method_21_code 45 = .ok (.iload_n 1, 1) := by decide +kernel
theorem dc12_unit_46 : decode prog_14_method_21_code 46 = .ok (.bipush 40, 2) := by decide +kernel
theorem dc12_unit_48 : decode prog_14_method_21_code 48 = .ok (.if_icmp .ne 42, 3) := by decide +kernel
theorem dc12_unit_51 : decode prog_14_method_21_code 51 = .ok (.aload_n 0, 1) := by decide +kernel
theorem dc12_unit_52 : decode prog_14_method_21_code 52 = .ok (.invokevirtual 162, 3) := by decide +kernel
theorem dc12_unit_55 : decode prog_14_method_21_code 55 = .ok (.ifCond .ne 5, 3) := by decide +kernel
theorem dc12_unit_58 : decode prog_14_method_21_code 58 = .ok (.iconst 0, 1) := by decide +kernel
theorem dc12_unit_59 : decode prog_14_method_21_code 59 = .ok (.ireturn, 1) := by decide +kernel
theorem dc12_unit_60 : decode prog_14_method_21_code 60 = .ok (.aload_n 0, 1) := by decide +kernel
theorem dc12_unit_61 : decode prog_14_method_21_code 61 = .ok (.iconst 0, 1) := by decide +kernel
theorem dc12_unit_62 : decode prog_14_method_21_code 62 = .ok (.iconst 0, 1) := by decide +kernel
theorem dc12_unit_63 : decode prog_14_method_21_code 63 = .ok (.invokevirtual 191, 3) := by decide +kernel
theorem dc12_unit_66 : decode prog_14_method_21_code 66 = .ok (.istore_n 2, 1) := by decide +kernel
theorem dc12_unit_67 : decode prog_14_method_21_code 67 = .ok (.aload_n 0, 1) := by decide +kernel
theorem dc12_unit_68 : decode prog_14_method_21_code 68 = .ok (.bipush 41, 2) := by decide +kernel
theorem dc12_unit_70 : decode prog_14_method_21_code 70 = .ok (.invokevirtual 168, 3) := by decide +kernel
theorem dc12_unit_73 : decode prog_14_method_21_code 73 = .ok (.ifCond .ne 5, 3) := by decide +kernel
theorem dc12_unit_76 : decode prog_14_method_21_code 76 = .ok (.iconst 0, 1) := by decide +kernel
theorem dc12_unit_77 : decode prog_14_method_21_code 77 = .ok (.ireturn, 1) := by decide +kernel
theorem dc12_unit_78 : decode prog_14_method_21_code 78 = .ok (.aload_n 0, 1) := by decide +kernel
theorem dc12_unit_79 : decode prog_14_method_21_code 79 = .ok (.dup, 1) := by decide +kernel
theorem dc12_unit_80 : decode prog_14_method_21_code 80 = .ok (.getfield 135, 3) := by decide +kernel
theorem dc12_unit_83 : decode prog_14_method_21_code 83 = .ok (.iconst 1, 1) := by decide +kernel
theorem dc12_unit_84 : decode prog_14_method_21_code 84 = .ok (.isub, 1) := by decide +kernel
theorem dc12_unit_85 : decode prog_14_method_21_code 85 = .ok (.putfield 135, 3) := by decide +kernel
theorem dc12_unit_88 : decode prog_14_method_21_code 88 = .ok (.iload_n 2, 1) := by decide +kernel
theorem dc12_unit_89 : decode prog_14_method_21_code 89 = .ok (.ireturn, 1) := by decide +kernel
theorem dc12_unit_90 : decode prog_14_method_21_code 90 = .ok (.aload_n 0, 1) := by decide +kernel
theorem dc12_unit_91 : decode prog_14_method_21_code 91 = .ok (.iconst 0, 1) := by decide +kernel
theorem dc12_unit_92 : decode prog_14_method_21_code 92 = .ok (.iconst 0, 1) := by decide +kernel
theorem dc12_unit_93 : decode prog_14_method_21_code 93 = .ok (.invokevirtual 195, 3) := by decide +kernel
theorem dc12_unit_96 : decode prog_14_method_21_code 96 = .ok (.ireturn, 1) := by decide +kernel
theorem dc12_readPlan_0 : decode prog_14_method_38_code 0 = .ok (.aload_n 0, 1) := by decide +kernel
theorem dc12_readPlan_1 : decode prog_14_method_38_code 1 = .ok (.aload_n 0, 1) := by decide +kernel
theorem dc12_readPlan_2 : decode prog_14_method_38_code 2 = .ok (.getfield 9, 3) := by decide +kernel
theorem dc12_readPlan_5 : decode prog_14_method_38_code 5 = .ok (.iconst 0, 1) := by decide +kernel
theorem dc12_readPlan_6 : decode prog_14_method_38_code 6 = .ok (.aload_n 0, 1) := by decide +kernel
theorem dc12_readPlan_7 : decode prog_14_method_38_code 7 = .ok (.getfield 113, 3) := by decide +kernel
theorem dc12_readPlan_10 : decode prog_14_method_38_code 10 = .ok (.invokevirtual 211, 3) := by decide +kernel
theorem dc12_readPlan_13 : decode prog_14_method_38_code 13 = .ok (.iconst 0, 1) := by decide +kernel
theorem dc12_readPlan_14 : decode prog_14_method_38_code 14 = .ok (.istore_n 1, 1) := by decide +kernel
theorem dc12_readPlan_15 : decode prog_14_method_38_code 15 = .ok (.iconst 1, 1) := by decide +kernel
theorem dc12_readPlan_16 : decode prog_14_method_38_code 16 = .ok (.istore_n 2, 1) := by decide +kernel
theorem dc12_readPlan_17 : decode prog_14_method_38_code 17 = .ok (.iload_n 2, 1) := by decide +kernel
theorem dc12_readPlan_18 : decode prog_14_method_38_code 18 = .ok (.ifCond .eq 73, 3) := by decide +kernel
theorem dc12_readPlan_21 : decode prog_14_method_38_code 21 = .ok (.aload_n 0, 1) := by decide +kernel
theorem dc12_readPlan_22 : decode prog_14_method_38_code 22 = .ok (.iconst 3, 1) := by decide +kernel
theorem dc12_readPlan_23 : decode prog_14_method_38_code 23 = .ok (.bipush 64, 2) := by decide +kernel
theorem dc12_readPlan_25 : decode prog_14_method_38_code 25 = .ok (.iload_n 1, 1) := by decide +kernel
theorem dc12_readPlan_26 : decode prog_14_method_38_code 26 = .ok (.iadd, 1) := by decide +kernel
theorem dc12_readPlan_27 : decode prog_14_method_38_code 27 = .ok (.imul, 1) := by decide +kernel
theorem dc12_readPlan_28 : decode prog_14_method_38_code 28 = .ok (.invokevirtual 268, 3) := by decide +kernel
theorem dc12_readPlan_31 : decode prog_14_method_38_code 31 = .ok (.aload_n 0, 1) := by decide +kernel
theorem dc12_readPlan_32 : decode prog_14_method_38_code 32 = .ok (.getfield 132, 3) := by decide +kernel
theorem dc12_readPlan_35 : decode prog_14_method_38_code 35 = .ok (.iconst (-1), 1) := by decide +kernel
theorem dc12_readPlan_36 : decode prog_14_method_38_code 36 = .ok (.if_icmp .eq 4, 3) := by decide +kernel
theorem dc12_readPlan_39 : decode prog_14_method_38_code 39 = .ok (.return_, 1) := by decide +kernel
theorem dc12_readPlan_40 : decode prog_14_method_38_code 40 = .ok (.iinc 1 1, 3) := by decide +kernel
theorem dc12_readPlan_43 : decode prog_14_method_38_code 43 = .ok (.aload_n 0, 1) := by decide +kernel
theorem dc12_readPlan_44 : decode prog_14_method_38_code 44 = .ok (.invokevirtual 142, 3) := by decide +kernel
theorem dc12_readPlan_47 : decode prog_14_method_38_code 47 = .ok (.bipush 59, 2) := by decide +kernel
theorem dc12_readPlan_49 : decode prog_14_method_38_code 49 = .ok (.if_icmp .ne 7, 3) := by decide +kernel
theorem dc12_readPlan_52 : decode prog_14_method_38_code 52 = .ok (.iconst 1, 1) := by decide +kernel
theorem dc12_readPlan_53 : decode prog_14_method_38_code 53 = .ok (.goto 4, 3) := by decide +kernel
theorem dc12_readPlan_56 : decode prog_14_method_38_code 56 = .ok (.iconst 0, 1) := by decide +kernel
theorem dc12_readPlan_57 : decode prog_14_method_38_code 57 = .ok (.istore_n 2, 1) := by decide +kernel
theorem dc12_readPlan_58 : decode prog_14_method_38_code 58 = .ok (.iload_n 2, 1) := by decide +kernel
theorem dc12_readPlan_59 : decode prog_14_method_38_code 59 = .ok (.ifCond .eq 15, 3) := by decide +kernel
theorem dc12_readPlan_62 : decode prog_14_method_38_code 62 = .ok (.iload_n 1, 1) := by decide +kernel
theorem dc12_readPlan_63 : decode prog_14_method_38_code 63 = .ok (.bipush 16, 2) := by decide +kernel
theorem dc12_readPlan_65 : decode prog_14_method_38_code 65 = .ok (.if_icmp .ne 9, 3) := by decide +kernel
theorem dc12_readPlan_68 : decode prog_14_method_38_code 68 = .ok (.aload_n 0, 1) := by decide +kernel
theorem dc12_readPlan_69 : decode prog_14_method_38_code 69 = .ok (.invokevirtual 138, 3) := by decide +kernel
theorem dc12_readPlan_72 : decode prog_14_method_38_code 72 = .ok (.pop, 1) := by decide +kernel
theorem dc12_readPlan_73 : decode prog_14_method_38_code 73 = .ok (.return_, 1) := by decide +kernel
theorem dc12_readPlan_74 : decode prog_14_method_38_code 74 = .ok (.iload_n 2, 1) := by decide +kernel
theorem dc12_readPlan_75 : decode prog_14_method_38_code 75 = .ok (.ifCond .eq (-58), 3) := by decide +kernel
theorem dc12_readPlan_78 : decode prog_14_method_38_code 78 = .ok (.aload_n 0, 1) := by decide +kernel
theorem dc12_readPlan_79 : decode prog_14_method_38_code 79 = .ok (.dup, 1) := by decide +kernel
theorem dc12_readPlan_80 : decode prog_14_method_38_code 80 = .ok (.getfield 123, 3) := by decide +kernel
theorem dc12_readPlan_83 : decode prog_14_method_38_code 83 = .ok (.iconst 1, 1) := by decide +kernel
theorem dc12_readPlan_84 : decode prog_14_method_38_code 84 = .ok (.iadd, 1) := by decide +kernel
theorem dc12_readPlan_85 : decode prog_14_method_38_code 85 = .ok (.putfield 123, 3) := by decide +kernel
theorem dc12_readPlan_88 : decode prog_14_method_38_code 88 = .ok (.goto (-71), 3) := by decide +kernel
theorem dc12_readPlan_91 : decode prog_14_method_38_code 91 = .ok (.aload_n 0, 1) := by decide +kernel
theorem dc12_readPlan_92 : decode prog_14_method_38_code 92 = .ok (.getfield 52, 3) := by decide +kernel
theorem dc12_readPlan_95 : decode prog_14_method_38_code 95 = .ok (.iconst 4, 1) := by decide +kernel
theorem dc12_readPlan_96 : decode prog_14_method_38_code 96 = .ok (.iload_n 1, 1) := by decide +kernel
theorem dc12_readPlan_97 : decode prog_14_method_38_code 97 = .ok (.iastore, 1) := by decide +kernel
theorem dc12_readPlan_98 : decode prog_14_method_38_code 98 = .ok (.aload_n 0, 1) := by decide +kernel
theorem dc12_readPlan_99 : decode prog_14_method_38_code 99 = .ok (.invokevirtual 142, 3) := by decide +kernel
theorem dc12_readPlan_102 : decode prog_14_method_38_code 102 = .ok (.iconst (-1), 1) := by decide +kernel
theorem dc12_readPlan_103 : decode prog_14_method_38_code 103 = .ok (.if_icmp .eq 8, 3) := by decide +kernel
theorem dc12_readPlan_106 : decode prog_14_method_38_code 106 = .ok (.aload_n 0, 1) := by decide +kernel
theorem dc12_readPlan_107 : decode prog_14_method_38_code 107 = .ok (.invokevirtual 138, 3) := by decide +kernel
theorem dc12_readPlan_110 : decode prog_14_method_38_code 110 = .ok (.pop, 1) := by decide +kernel
theorem dc12_readPlan_111 : decode prog_14_method_38_code 111 = .ok (.return_, 1) := by decide +kernel
theorem dc12_readStep_0 : decode prog_14_method_37_code 0 = .ok (.ldc_w 263, 3) := by decide +kernel
theorem dc12_readStep_3 : decode prog_14_method_37_code 3 = .ok (.aload_n 0, 1) := by decide +kernel
theorem dc12_readStep_4 : decode prog_14_method_37_code 4 = .ok (.invokevirtual 142, 3) := by decide +kernel
theorem dc12_readStep_7 : decode prog_14_method_37_code 7 = .ok (.invokestatic 229, 3) := by decide +kernel
theorem dc12_readStep_10 : decode prog_14_method_37_code 10 = .ok (.istore_n 2, 1) := by decide +kernel
theorem dc12_readStep_11 : decode prog_14_method_37_code 11 = .ok (.iload_n 2, 1) := by decide +kernel
theorem dc12_readStep_12 : decode prog_14_method_37_code 12 = .ok (.iconst (-1), 1) := by decide +kernel
theorem dc12_readStep_13 : decode prog_14_method_37_code 13 = .ok (.if_icmp .ne 9, 3) := by decide +kernel
theorem dc12_readStep_16 : decode prog_14_method_37_code 16 = .ok (.aload_n 0, 1) := by decide +kernel
theorem dc12_readStep_17 : decode prog_14_method_37_code 17 = .ok (.invokevirtual 138, 3) := by decide +kernel
theorem dc12_readStep_20 : decode prog_14_method_37_code 20 = .ok (.pop, 1) := by decide +kernel
theorem dc12_readStep_21 : decode prog_14_method_37_code 21 = .ok (.return_, 1) := by decide +kernel
theorem dc12_readStep_22 : decode prog_14_method_37_code 22 = .ok (.aload_n 0, 1) := by decide +kernel
theorem dc12_readStep_23 : decode prog_14_method_37_code 23 = .ok (.dup, 1) := by decide +kernel
theorem dc12_readStep_24 : decode prog_14_method_37_code 24 = .ok (.getfield 123, 3) := by decide +kernel
theorem dc12_readStep_27 : decode prog_14_method_37_code 27 = .ok (.iconst 1, 1) := by decide +kernel
theorem dc12_readStep_28 : decode prog_14_method_37_code 28 = .ok (.iadd, 1) := by decide +kernel
theorem dc12_readStep_29 : decode prog_14_method_37_code 29 = .ok (.putfield 123, 3) := by decide +kernel
theorem dc12_readStep_32 : decode prog_14_method_37_code 32 = .ok (.aload_n 0, 1) := by decide +kernel
theorem dc12_readStep_33 : decode prog_14_method_37_code 33 = .ok (.getfield 49, 3) := by decide +kernel
theorem dc12_readStep_36 : decode prog_14_method_37_code 36 = .ok (.iload_n 1, 1) := by decide +kernel
theorem dc12_readStep_37 : decode prog_14_method_37_code 37 = .ok (.iload_n 2, 1) := by decide +kernel
theorem dc12_readStep_38 : decode prog_14_method_37_code 38 = .ok (.iastore, 1) := by decide +kernel
theorem dc12_readStep_39 : decode prog_14_method_37_code 39 = .ok (.aload_n 0, 1) := by decide +kernel
theorem dc12_readStep_40 : decode prog_14_method_37_code 40 = .ok (.getfield 49, 3) := by decide +kernel
theorem dc12_readStep_43 : decode prog_14_method_37_code 43 = .ok (.iload_n 1, 1) := by decide +kernel
theorem dc12_readStep_44 : decode prog_14_method_37_code 44 = .ok (.iconst 1, 1) := by decide +kernel
theorem dc12_readStep_45 : decode prog_14_method_37_code 45 = .ok (.iadd, 1) := by decide +kernel
theorem dc12_readStep_46 : decode prog_14_method_37_code 46 = .ok (.aload_n 0, 1) := by decide +kernel
theorem dc12_readStep_47 : decode prog_14_method_37_code 47 = .ok (.invokevirtual 265, 3) := by decide +kernel
theorem dc12_readStep_50 : decode prog_14_method_37_code 50 = .ok (.iastore, 1) := by decide +kernel
theorem dc12_readStep_51 : decode prog_14_method_37_code 51 = .ok (.aload_n 0, 1) := by decide +kernel
theorem dc12_readStep_52 : decode prog_14_method_37_code 52 = .ok (.getfield 49, 3) := by decide +kernel
theorem dc12_readStep_55 : decode prog_14_method_37_code 55 = .ok (.iload_n 1, 1) := by decide +kernel
theorem dc12_readStep_56 : decode prog_14_method_37_code 56 = .ok (.iconst 2, 1) := by decide +kernel
theorem dc12_readStep_57 : decode prog_14_method_37_code 57 = .ok (.iadd, 1) := by decide +kernel
theorem dc12_readStep_58 : decode prog_14_method_37_code 58 = .ok (.iconst (-1), 1) := by decide +kernel
theorem dc12_readStep_59 : decode prog_14_method_37_code 59 = .ok (.iastore, 1) := by decide +kernel
theorem dc12_readStep_60 : decode prog_14_method_37_code 60 = .ok (.aload_n 0, 1) := by decide +kernel
theorem dc12_readStep_61 : decode prog_14_method_37_code 61 = .ok (.getfield 132, 3) := by decide +kernel
theorem dc12_readStep_64 : decode prog_14_method_37_code 64 = .ok (.iconst (-1), 1) := by decide +kernel
theorem dc12_readStep_65 : decode prog_14_method_37_code 65 = .ok (.if_icmp .ne 8, 3) := by decide +kernel
theorem dc12_readStep_68 : decode prog_14_method_37_code 68 = .ok (.iload_n 2, 1) := by decide +kernel
theorem dc12_readStep_69 : decode prog_14_method_37_code 69 = .ok (.iconst 1, 1) := by decide +kernel
theorem dc12_readStep_70 : decode prog_14_method_37_code 70 = .ok (.if_icmp .le 4, 3) := by decide +kernel
theorem dc12_readStep_73 : decode prog_14_method_37_code 73 = .ok (.return_, 1) := by decide +kernel
theorem dc12_readStep_74 : decode prog_14_method_37_code 74 = .ok (.aload_n 0, 1) := by decide +kernel
theorem dc12_readStep_75 : decode prog_14_method_37_code 75 = .ok (.invokevirtual 265, 3) := by decide +kernel
theorem dc12_readStep_78 : decode prog_14_method_37_code 78 = .ok (.istore_n 3, 1) := by decide +kernel
theorem dc12_readStep_79 : decode prog_14_method_37_code 79 = .ok (.iload_n 2, 1) := by decide +kernel
theorem dc12_readStep_80 : decode prog_14_method_37_code 80 = .ok (.ifCond .ne 27, 3) := by decide +kernel
theorem dc12_readStep_83 : decode prog_14_method_37_code 83 = .ok (.aload_n 0, 1) := by decide +kernel
theorem dc12_readStep_84 : decode prog_14_method_37_code 84 = .ok (.getfield 49, 3) := by decide +kernel
theorem dc12_readStep_87 : decode prog_14_method_37_code 87 = .ok (.iload_n 1, 1) := by decide +kernel
theorem dc12_readStep_88 : decode prog_14_method_37_code 88 = .ok (.iconst 1, 1) := by decide +kernel
theorem dc12_readStep_89 : decode prog_14_method_37_code 89 = .ok (.iadd, 1) := by decide +kernel
theorem dc12_readStep_90 : decode prog_14_method_37_code 90 = .ok (.bipush 10, 2) := by decide +kernel
theorem dc12_readStep_92 : decode prog_14_method_37_code 92 = .ok (.aload_n 0, 1) := by decide +kernel
theorem dc12_readStep_93 : decode prog_14_method_37_code 93 = .ok (.getfield 49, 3) := by decide +kernel
theorem dc12_readStep_96 : decode prog_14_method_37_code 96 = .ok (.iload_n 1, 1) := by decide +kernel
theorem dc12_readStep_97 : decode prog_14_method_37_code 97 = .ok (.iconst 1, 1) := by decide +kernel
theorem dc12_readStep_98 : decode prog_14_method_37_code 98 = .ok (.iadd, 1) := by decide +kernel
theorem dc12_readStep_99 : decode prog_14_method_37_code 99 = .ok (.iaload, 1) := by decide +kernel
theorem dc12_readStep_100 : decode prog_14_method_37_code 100 = .ok (.imul, 1) := by decide +kernel
theorem dc12_readStep_101 : decode prog_14_method_37_code 101 = .ok (.iload_n 3, 1) := by decide +kernel
theorem dc12_readStep_102 : decode prog_14_method_37_code 102 = .ok (.iadd, 1) := by decide +kernel
theorem dc12_readStep_103 : decode prog_14_method_37_code 103 = .ok (.iastore, 1) := by decide +kernel
theorem dc12_readStep_104 : decode prog_14_method_37_code 104 = .ok (.goto 12, 3) := by decide +kernel
theorem dc12_readStep_107 : decode prog_14_method_37_code 107 = .ok (.aload_n 0, 1) := by decide +kernel
theorem dc12_readStep_108 : decode prog_14_method_37_code 108 = .ok (.getfield 49, 3) := by decide +kernel
theorem dc12_readStep_111 : decode prog_14_method_37_code 111 = .ok (.iload_n 1, 1) := by decide +kernel
theorem dc12_readStep_112 : decode prog_14_method_37_code 112 = .ok (.iconst 2, 1) := by decide +kernel
theorem dc12_readStep_113 : decode prog_14_method_37_code 113 = .ok (.iadd, 1) := by decide +kernel
theorem dc12_readStep_114 : decode prog_14_method_37_code 114 = .ok (.iload_n 3, 1) := by decide +kernel
theorem dc12_readStep_115 : decode prog_14_method_37_code 115 = .ok (.iastore, 1) := by decide +kernel
theorem dc12_readStep_116 : decode prog_14_method_37_code 116 = .ok (.return_, 1) := by decide +kernel
theorem dc12_digit_0 : decode prog_14_method_36_code 0 = .ok (.aload_n 0, 1) := by decide +kernel
theorem dc12_digit_1 : decode prog_14_method_36_code 1 = .ok (.invokevirtual 142, 3) := by decide +kernel
theorem dc12_digit_4 : decode prog_14_method_36_code 4 = .ok (.istore_n 1, 1) := by decide +kernel
theorem dc12_digit_5 : decode prog_14_method_36_code 5 = .ok (.aload_n 0, 1) := by decide +kernel
theorem dc12_digit_6 : decode prog_14_method_36_code 6 = .ok (.invokevirtual 172, 3) := by decide +kernel
theorem dc12_digit_9 : decode prog_14_method_36_code 9 = .ok (.ifCond .ne 10, 3) := by decide +kernel
theorem dc12_digit_12 : decode prog_14_method_36_code 12 = .ok (.aload_n 0, 1) := by decide +kernel
theorem dc12_digit_13 : decode prog_14_method_36_code 13 = .ok (.invokevirtual 138, 3) := by decide +kernel
theorem dc12_digit_16 : decode prog_14_method_36_code 16 = .ok (.pop, 1) := by decide +kernel
theorem dc12_digit_17 : decode prog_14_method_36_code 17 = .ok (.iconst 0, 1) := by decide +kernel
theorem dc12_digit_18 : decode prog_14_method_36_code 18 = .ok (.ireturn, 1) := by decide +kernel
theorem dc12_digit_19 : decode prog_14_method_36_code 19 = .ok (.aload_n 0, 1) := by decide +kernel
theorem dc12_digit_20 : decode prog_14_method_36_code 20 = .ok (.dup, 1) := by decide +kernel
theorem dc12_digit_21 : decode prog_14_method_36_code 21 = .ok (.getfield 123, 3) := by decide +kernel
theorem dc12_digit_24 : decode prog_14_method_36_code 24 = .ok (.iconst 1, 1) := by decide +kernel
theorem dc12_digit_25 : decode prog_14_method_36_code 25 = .ok (.iadd, 1) := by decide +kernel
theorem dc12_digit_26 : decode prog_14_method_36_code 26 = .ok (.putfield 123, 3) := by decide +kernel
theorem dc12_digit_29 : decode prog_14_method_36_code 29 = .ok (.iload_n 1, 1) := by decide +kernel
theorem dc12_digit_30 : decode prog_14_method_36_code 30 = .ok (.bipush 48, 2) := by decide +kernel
theorem dc12_digit_32 : decode prog_14_method_36_code 32 = .ok (.isub, 1) := by decide +kernel
theorem dc12_digit_33 : decode prog_14_method_36_code 33 = .ok (.ireturn, 1) := by decide +kernel
theorem dc12_text_0 : decode prog_14_method_40_code 0 = .ok (.aload_n 0, 1) := by decide +kernel
theorem dc12_text_1 : decode prog_14_method_40_code 1 = .ok (.iconst 0, 1) := by decide +kernel
theorem dc12_text_2 : decode prog_14_method_40_code 2 = .ok (.putfield 100, 3) := by decide +kernel
theorem dc12_text_5 : decode prog_14_method_40_code 5 = .ok (.iload_n 1, 1) := by decide +kernel
theorem dc12_text_6 : decode prog_14_method_40_code 6 = .ok (.i2l, 1) := by decide +kernel
theorem dc12_text_7 : decode prog_14_method_40_code 7 = .ok (.lconst 0, 1) := by decide +kernel
theorem dc12_text_8 : decode prog_14_method_40_code 8 = .ok (.ldc2_w 271, 3) := by decide +kernel
theorem dc12_text_11 : decode prog_14_method_40_code 11 = .ok (.invokestatic 221, 3) := by decide +kernel
theorem dc12_text_14 : decode prog_14_method_40_code 14 = .ok (.ifCond .eq 38, 3) := by decide +kernel
theorem dc12_text_17 : decode prog_14_method_40_code 17 = .ok (.iload_n 1, 1) := by decide +kernel
theorem dc12_text_18 : decode prog_14_method_40_code 18 = .ok (.iconst 1, 1) := by decide +kernel
theorem dc12_text_19 : decode prog_14_method_40_code 19 = .ok (.if_icmp .ne 11, 3) := by decide +kernel
theorem dc12_text_22 : decode prog_14_method_40_code 22 = .ok (.aload_n 0, 1) := by decide +kernel
theorem dc12_text_23 : decode prog_14_method_40_code 23 = .ok (.getfield 282, 3) := by decide +kernel
theorem dc12_text_26 : decode prog_14_method_40_code 26 = .ok (.iconst 4, 1) := by decide +kernel
theorem dc12_text_27 : decode prog_14_method_40_code 27 = .ok (.if_icmp .eq 25, 3) := by decide +kernel
theorem dc12_text_30 : decode prog_14_method_40_code 30 = .ok (.iload_n 1, 1) := by decide +kernel
theorem dc12_text_31 : decode prog_14_method_40_code 31 = .ok (.iconst 2, 1) := by decide +kernel
theorem dc12_text_32 : decode prog_14_method_40_code 32 = .ok (.if_icmp .ne 11, 3) := by decide +kernel
theorem dc12_text_35 : decode prog_14_method_40_code 35 = .ok (.aload_n 0, 1) := by decide +kernel
theorem dc12_text_36 : decode prog_14_method_40_code 36 = .ok (.getfield 285, 3) := by decide +kernel
theorem dc12_text_39 : decode prog_14_method_40_code 39 = .ok (.iconst 4, 1) := by decide +kernel
theorem dc12_text_40 : decode prog_14_method_40_code 40 = .ok (.if_icmp .eq 12, 3) := by decide +kernel
theorem dc12_text_43 : decode prog_14_method_40_code 43 = .ok (.aload_n 0, 1) := by decide +kernel
theorem dc12_text_44 : decode prog_14_method_40_code 44 = .ok (.iload_n 1, 1) := by decide +kernel
theorem dc12_text_45 : decode prog_14_method_40_code 45 = .ok (.invokevirtual 288, 3) := by decide +kernel
theorem dc12_text_48 : decode prog_14_method_40_code 48 = .ok (.iconst (-1), 1) := by decide +kernel
theorem dc12_text_49 : decode prog_14_method_40_code 49 = .ok (.if_icmp .eq 5, 3) := by decide +kernel
theorem dc12_text_52 : decode prog_14_method_40_code 52 = .ok (.iconst (-1), 1) := by decide +kernel
theorem dc12_text_53 : decode prog_14_method_40_code 53 = .ok (.ireturn, 1) := by decide +kernel
theorem dc12_text_54 : decode prog_14_method_40_code 54 = .ok (.aload_n 0, 1) := by decide +kernel
theorem dc12_text_55 : decode prog_14_method_40_code 55 = .ok (.getfield 113, 3) := by decide +kernel
theorem dc12_text_58 : decode prog_14_method_40_code 58 = .ok (.istore_n 2, 1) := by decide +kernel
theorem dc12_text_59 : decode prog_14_method_40_code 59 = .ok (.aload_n 0, 1) := by decide +kernel
theorem dc12_text_60 : decode prog_14_method_40_code 60 = .ok (.iconst 0, 1) := by decide +kernel
theorem dc12_text_61 : decode prog_14_method_40_code 61 = .ok (.putfield 113, 3) := by decide +kernel
theorem dc12_text_64 : decode prog_14_method_40_code 64 = .ok (.iload_n 1, 1) := by decide +kernel
theorem dc12_text_65 : decode prog_14_method_40_code 65 = .ok (.iconst 1, 1) := by decide +kernel
theorem dc12_text_66 : decode prog_14_method_40_code 66 = .ok (.if_icmp .ne 64, 3) := by decide +kernel
theorem dc12_text_69 : decode prog_14_method_40_code 69 = .ok (.iconst 0, 1) := by decide +kernel
theorem dc12_text_70 : decode prog_14_method_40_code 70 = .ok (.istore_n 3, 1) := by decide +kernel
theorem dc12_text_71 : decode prog_14_method_40_code 71 = .ok (.iload_n 3, 1) := by decide +kernel
theorem dc12_text_72 : decode prog_14_method_40_code 72 = .ok (.iload_n 2, 1) := by decide +kernel
theorem dc12_text_73 : decode prog_14_method_40_code 73 = .ok (.if_icmp .ge 30, 3) := by decide +kernel
theorem dc12_text_76 : decode prog_14_method_40_code 76 = .ok (.aload_n 0, 1) := by decide +kernel
theorem dc12_text_77 : decode prog_14_method_40_code 77 = .ok (.getfield 13, 3) := by decide +kernel
theorem dc12_text_80 : decode prog_14_method_40_code 80 = .ok (.sipush 240, 3) := by decide +kernel
theorem dc12_text_83 : decode prog_14_method_40_code 83 = .ok (.aload_n 0, 1) := by decide +kernel
theorem dc12_text_84 : decode prog_14_method_40_code 84 = .ok (.getfield 282, 3) := by decide +kernel
theorem dc12_text_87 : decode prog_14_method_40_code 87 = .ok (.imul, 1) := by decide +kernel
theorem dc12_text_88 : decode prog_14_method_40_code 88 = .ok (.iload_n 3, 1) := by decide +kernel
theorem dc12_text_89 : decode prog_14_method_40_code 89 = .ok (.iadd, 1) := by decide +kernel
theorem dc12_text_90 : decode prog_14_method_40_code 90 = .ok (.aload_n 0, 1) := by decide +kernel
theorem dc12_text_91 : decode prog_14_method_40_code 91 = .ok (.getfield 9, 3) := by decide +kernel
theorem dc12_text_94 : decode prog_14_method_40_code 94 = .ok (.iload_n 3, 1) := by decide +kernel
theorem dc12_text_95 : decode prog_14_method_40_code 95 = .ok (.baload, 1) := by decide +kernel
theorem dc12_text_96 : decode prog_14_method_40_code 96 = .ok (.bastore, 1) := by decide +kernel
theorem dc12_text_97 : decode prog_14_method_40_code 97 = .ok (.iinc 3 1, 3) := by decide +kernel
theorem dc12_text_100 : decode prog_14_method_40_code 100 = .ok (.goto (-29), 3) := by decide +kernel
theorem dc12_text_103 : decode prog_14_method_40_code 103 = .ok (.aload_n 0, 1) := by decide +kernel
theorem dc12_text_104 : decode prog_14_method_40_code 104 = .ok (.getfield 16, 3) := by decide +kernel
theorem dc12_text_107 : decode prog_14_method_40_code 107 = .ok (.aload_n 0, 1) := by decide +kernel
theorem dc12_text_108 : decode prog_14_method_40_code 108 = .ok (.getfield 282, 3) := by decide +kernel
theorem dc12_text_111 : decode prog_14_method_40_code 111 = .ok (.iload_n 2, 1) := by decide +kernel
theorem dc12_text_112 : decode prog_14_method_40_code 112 = .ok (.iastore, 1) := by decide +kernel
theorem dc12_text_113 : decode prog_14_method_40_code 113 = .ok (.aload_n 0, 1) := by decide +kernel
theorem dc12_text_114 : decode prog_14_method_40_code 114 = .ok (.dup, 1) := by decide +kernel
theorem dc12_text_115 : decode prog_14_method_40_code 115 = .ok (.getfield 282, 3) := by decide +kernel
theorem dc12_text_118 : decode prog_14_method_40_code 118 = .ok (.iconst 1, 1) := by decide +kernel
theorem dc12_text_119 : decode prog_14_method_40_code 119 = .ok (.iadd, 1) := by decide +kernel
theorem dc12_text_120 : decode prog_14_method_40_code 120 = .ok (.putfield 282, 3) := by decide +kernel
theorem dc12_text_123 : decode prog_14_method_40_code 123 = .ok (.aload_n 0, 1) := by decide +kernel
theorem dc12_text_124 : decode prog_14_method_40_code 124 = .ok (.getfield 282, 3) := by decide +kernel
theorem dc12_text_127 : decode prog_14_method_40_code 127 = .ok (.iconst 1, 1) := by decide +kernel
theorem dc12_text_128 : decode prog_14_method_40_code 128 = .ok (.isub, 1) := by decide +kernel
theorem dc12_text_129 : decode prog_14_method_40_code 129 = .ok (.ireturn, 1) := by decide +kernel
theorem dc12_text_130 : decode prog_14_method_40_code 130 = .ok (.iload_n 1, 1) := by decide +kernel
theorem dc12_text_131 : decode prog_14_method_40_code 131 = .ok (.iconst 2, 1) := by decide +kernel
theorem dc12_text_132 : decode prog_14_method_40_code 132 = .ok (.if_icmp .ne 73, 3) := by decide +kernel
theorem dc12_text_135 : decode prog_14_method_40_code 135 = .ok (.iconst 0, 1) := by decide +kernel
theorem dc12_text_136 : decode prog_14_method_40_code 136 = .ok (.istore_n 3, 1) := by decide +kernel
theorem dc12_text_137 : decode prog_14_method_40_code 137 = .ok (.iload_n 3, 1) := by decide +kernel
theorem dc12_text_138 : decode prog_14_method_40_code 138 = .ok (.bipush 48, 2) := by decide +kernel
theorem dc12_text_140 : decode prog_14_method_40_code 140 = .ok (.if_icmp .ge 33, 3) := by decide +kernel
theorem dc12_text_143 : decode prog_14_method_40_code 143 = .ok (.aload_n 0, 1) := by decide +kernel
theorem dc12_text_144 : decode prog_14_method_40_code 144 = .ok (.getfield 49, 3) := by decide +kernel
theorem dc12_text_147 : decode prog_14_method_40_code 147 = .ok (.bipush 48, 2) := by decide +kernel
theorem dc12_text_149 : decode prog_14_method_40_code 149 = .ok (.aload_n 0, 1) := by decide +kernel
theorem dc12_text_150 : decode prog_14_method_40_code 150 = .ok (.getfield 285, 3) := by decide +kernel
theorem dc12_text_153 : decode prog_14_method_40_code 153 = .ok (.imul, 1) := by decide +kernel
theorem dc12_text_154 : decode prog_14_method_40_code 154 = .ok (.iload_n 3, 1) := by decide +kernel
theorem dc12_text_155 : decode prog_14_method_40_code 155 = .ok (.iadd, 1) := by decide +kernel
theorem dc12_text_156 : decode prog_14_method_40_code 156 = .ok (.aload_n 0, 1) := by decide +kernel
theorem dc12_text_157 : decode prog_14_method_40_code 157 = .ok (.getfield 49, 3) := by decide +kernel
theorem dc12_text_160 : decode prog_14_method_40_code 160 = .ok (.sipush 192, 3) := by decide +kernel
theorem dc12_text_163 : decode prog_14_method_40_code 163 = .ok (.iload_n 3, 1) := by decide +kernel
theorem dc12_text_164 : decode prog_14_method_40_code 164 = .ok (.iadd, 1) := by decide +kernel
theorem dc12_text_165 : decode prog_14_method_40_code 165 = .ok (.iaload, 1) := by decide +kernel
theorem dc12_text_166 : decode prog_14_method_40_code 166 = .ok (.iastore, 1) := by decide +kernel
theorem dc12_text_167 : decode prog_14_method_40_code 167 = .ok (.iinc 3 1, 3) := by decide +kernel
theorem dc12_text_170 : decode prog_14_method_40_code 170 = .ok (.goto (-33), 3) := by decide +kernel
theorem dc12_text_173 : decode prog_14_method_40_code 173 = .ok (.aload_n 0, 1) := by decide +kernel
theorem dc12_text_174 : decode prog_14_method_40_code 174 = .ok (.getfield 52, 3) := by decide +kernel
theorem dc12_text_177 : decode prog_14_method_40_code 177 = .ok (.aload_n 0, 1) := by decide +kernel
theorem dc12_text_178 : decode prog_14_method_40_code 178 = .ok (.getfield 285, 3) := by decide +kernel
theorem dc12_text_181 : decode prog_14_method_40_code 181 = .ok (.aload_n 0, 1) := by decide +kernel
theorem dc12_text_182 : decode prog_14_method_40_code 182 = .ok (.getfield 52, 3) := by decide +kernel
theorem dc12_text_185 : decode prog_14_method_40_code 185 = .ok (.iconst 4, 1) := by decide +kernel
theorem dc12_text_186 : decode prog_14_method_40_code 186 = .ok (.iaload, 1) := by decide +kernel
theorem dc12_text_187 : decode prog_14_method_40_code 187 = .ok (.iastore, 1) := by decide +kernel
theorem dc12_text_188 : decode prog_14_method_40_code 188 = .ok (.aload_n 0, 1) := by decide +kernel
theorem dc12_text_189 : decode prog_14_method_40_code 189 = .ok (.dup, 1) := by decide +kernel
theorem dc12_text_190 : decode prog_14_method_40_code 190 = .ok (.getfield 285, 3) := by decide +kernel
theorem dc12_text_193 : decode prog_14_method_40_code 193 = .ok (.iconst 1, 1) := by decide +kernel
theorem dc12_text_194 : decode prog_14_method_40_code 194 = .ok (.iadd, 1) := by decide +kernel
theorem dc12_text_195 : decode prog_14_method_40_code 195 = .ok (.putfield 285, 3) := by decide +kernel
theorem dc12_text_198 : decode prog_14_method_40_code 198 = .ok (.aload_n 0, 1) := by decide +kernel
theorem dc12_text_199 : decode prog_14_method_40_code 199 = .ok (.getfield 285, 3) := by decide +kernel
theorem dc12_text_202 : decode prog_14_method_40_code 202 = .ok (.iconst 1, 1) := by decide +kernel
theorem dc12_text_203 : decode prog_14_method_40_code 203 = .ok (.isub, 1) := by decide +kernel
theorem dc12_text_204 : decode prog_14_method_40_code 204 = .ok (.ireturn, 1) := by decide +kernel
theorem dc12_text_205 : decode prog_14_method_40_code 205 = .ok (.aload_n 0, 1) := by decide +kernel
theorem dc12_text_206 : decode prog_14_method_40_code 206 = .ok (.aload_n 0, 1) := by decide +kernel
theorem dc12_text_207 : decode prog_14_method_40_code 207 = .ok (.getfield 249, 3) := by decide +kernel
theorem dc12_text_210 : decode prog_14_method_40_code 210 = .ok (.putfield 290, 3) := by decide +kernel
theorem dc12_text_213 : decode prog_14_method_40_code 213 = .ok (.iconst 0, 1) := by decide +kernel
theorem dc12_text_214 : decode prog_14_method_40_code 214 = .ok (.istore_n 3, 1) := by decide +kernel
theorem dc12_text_215 : decode prog_14_method_40_code 215 = .ok (.iload_n 3, 1) := by decide +kernel
theorem dc12_text_216 : decode prog_14_method_40_code 216 = .ok (.iconst 3, 1) := by decide +kernel
theorem dc12_text_217 : decode prog_14_method_40_code 217 = .ok (.if_icmp .ge 21, 3) := by decide +kernel
theorem dc12_text_220 : decode prog_14_method_40_code 220 = .ok (.aload_n 0, 1) := by decide +kernel
theorem dc12_text_221 : decode prog_14_method_40_code 221 = .ok (.getfield 37, 3) := by decide +kernel
theorem dc12_text_224 : decode prog_14_method_40_code 224 = .ok (.iload_n 3, 1) := by decide +kernel
theorem dc12_text_225 : decode prog_14_method_40_code 225 = .ok (.aload_n 0, 1) := by decide +kernel
theorem dc12_text_226 : decode prog_14_method_40_code 226 = .ok (.getfield 40, 3) := by decide +kernel
theorem dc12_text_229 : decode prog_14_method_40_code 229 = .ok (.iload_n 3, 1) := by decide +kernel
theorem dc12_text_230 : decode prog_14_method_40_code 230 = .ok (.iaload, 1) := by decide +kernel
theorem dc12_text_231 : decode prog_14_method_40_code 231 = .ok (.iastore, 1) := by decide +kernel
theorem dc12_text_232 : decode prog_14_method_40_code 232 = .ok (.iinc 3 1, 3) := by decide +kernel
theorem dc12_text_235 : decode prog_14_method_40_code 235 = .ok (.goto (-20), 3) := by decide +kernel
theorem dc12_text_238 : decode prog_14_method_40_code 238 = .ok (.iconst 0, 1) := by decide +kernel
theorem dc12_text_239 : decode prog_14_method_40_code 239 = .ok (.istore_n 3, 1) := by decide +kernel
theorem dc12_text_240 : decode prog_14_method_40_code 240 = .ok (.iload_n 3, 1) := by decide +kernel
theorem dc12_text_241 : decode prog_14_method_40_code 241 = .ok (.bipush 30, 2) := by decide +kernel
theorem dc12_text_243 : decode prog_14_method_40_code 243 = .ok (.if_icmp .ge 21, 3) := by decide +kernel
theorem dc12_text_246 : decode prog_14_method_40_code 246 = .ok (.aload_n 0, 1) := by decide +kernel
theorem dc12_text_247 : decode prog_14_method_40_code 247 = .ok (.getfield 43, 3) := by decide +kernel
theorem dc12_text_250 : decode prog_14_method_40_code 250 = .ok (.iload_n 3, 1) := by decide +kernel
theorem dc12_text_251 : decode prog_14_method_40_code 251 = .ok (.aload_n 0, 1) := by decide +kernel
theorem dc12_text_252 : decode prog_14_method_40_code 252 = .ok (.getfield 46, 3) := by decide +kernel
theorem dc12_text_255 : decode prog_14_method_40_code 255 = .ok (.iload_n 3, 1) := by decide +kernel
theorem dc12_text_256 : decode prog_14_method_40_code 256 = .ok (.iaload, 1) := by decide +kernel
theorem dc12_text_257 : decode prog_14_method_40_code 257 = .ok (.iastore, 1) := by decide +kernel
theorem dc12_text_258 : decode prog_14_method_40_code 258 = .ok (.iinc 3 1, 3) := by decide +kernel
theorem dc12_text_261 : decode prog_14_method_40_code 261 = .ok (.goto (-21), 3) := by decide +kernel
theorem dc12_text_264 : decode prog_14_method_40_code 264 = .ok (.iconst 0, 1) := by decide +kernel
theorem dc12_text_265 : decode prog_14_method_40_code 265 = .ok (.istore_n 3, 1) := by decide +kernel
theorem dc12_text_266 : decode prog_14_method_40_code 266 = .ok (.iload_n 3, 1) := by decide +kernel
theorem dc12_text_267 : decode prog_14_method_40_code 267 = .ok (.sipush 207, 3) := by decide +kernel
theorem dc12_text_270 : decode prog_14_method_40_code 270 = .ok (.if_icmp .ge 16, 3) := by decide +kernel
theorem dc12_text_273 : decode prog_14_method_40_code 273 = .ok (.aload_n 0, 1) := by decide +kernel
theorem dc12_text_274 : decode prog_14_method_40_code 274 = .ok (.getfield 55, 3) := by decide +kernel
theorem dc12_text_277 : decode prog_14_method_40_code 277 = .ok (.iload_n 3, 1) := by decide +kernel
theorem dc12_text_278 : decode prog_14_method_40_code 278 = .ok (.iconst 0, 1) := by decide +kernel
theorem dc12_text_279 : decode prog_14_method_40_code 279 = .ok (.iastore, 1) := by decide +kernel
theorem dc12_text_280 : decode prog_14_method_40_code 280 = .ok (.iinc 3 1, 3) := by decide +kernel
theorem dc12_text_283 : decode prog_14_method_40_code 283 = .ok (.goto (-17), 3) := by decide +kernel
theorem dc12_text_286 : decode prog_14_method_40_code 286 = .ok (.iconst 0, 1) := by decide +kernel
theorem dc12_text_287 : decode prog_14_method_40_code 287 = .ok (.istore_n 3, 1) := by decide +kernel
theorem dc12_text_288 : decode prog_14_method_40_code 288 = .ok (.iload_n 3, 1) := by decide +kernel
theorem dc12_text_289 : decode prog_14_method_40_code 289 = .ok (.aload_n 0, 1) := by decide +kernel
theorem dc12_text_290 : decode prog_14_method_40_code 290 = .ok (.getfield 290, 3) := by decide +kernel
theorem dc12_text_293 : decode prog_14_method_40_code 293 = .ok (.if_icmp .ge 87, 3) := by decide +kernel
theorem dc12_text_296 : decode prog_14_method_40_code 296 = .ok (.aload_n 0, 1) := by decide +kernel
theorem dc12_text_297 : decode prog_14_method_40_code 297 = .ok (.getfield 55, 3) := by decide +kernel
theorem dc12_text_300 : decode prog_14_method_40_code 300 = .ok (.iconst 4, 1) := by decide +kernel
theorem dc12_text_301 : decode prog_14_method_40_code 301 = .ok (.iload_n 3, 1) := by decide +kernel
theorem dc12_text_302 : decode prog_14_method_40_code 302 = .ok (.imul, 1) := by decide +kernel
theorem dc12_text_303 : decode prog_14_method_40_code 303 = .ok (.iconst 0, 1) := by decide +kernel
theorem dc12_text_304 : decode prog_14_method_40_code 304 = .ok (.iadd, 1) := by decide +kernel
theorem dc12_text_305 : decode prog_14_method_40_code 305 = .ok (.aload_n 0, 1) := by decide +kernel
theorem dc12_text_306 : decode prog_14_method_40_code 306 = .ok (.getfield 43, 3) := by decide +kernel
theorem dc12_text_309 : decode prog_14_method_40_code 309 = .ok (.iconst 5, 1) := by decide +kernel
theorem dc12_text_310 : decode prog_14_method_40_code 310 = .ok (.iload_n 3, 1) := by decide +kernel
theorem dc12_text_311 : decode prog_14_method_40_code 311 = .ok (.imul, 1) := by decide +kernel
theorem dc12_text_312 : decode prog_14_method_40_code 312 = .ok (.iaload, 1) := by decide +kernel
theorem dc12_text_313 : decode prog_14_method_40_code 313 = .ok (.iastore, 1) := by decide +kernel
theorem dc12_text_314 : decode prog_14_method_40_code 314 = .ok (.aload_n 0, 1) := by decide +kernel
theorem dc12_text_315 : decode prog_14_method_40_code 315 = .ok (.getfield 55, 3) := by decide +kernel
theorem dc12_text_318 : decode prog_14_method_40_code 318 = .ok (.iconst 4, 1) := by decide +kernel
theorem dc12_text_319 : decode prog_14_method_40_code 319 = .ok (.iload_n 3, 1) := by decide +kernel
theorem dc12_text_320 : decode prog_14_method_40_code 320 = .ok (.imul, 1) := by decide +kernel
theorem dc12_text_321 : decode prog_14_method_40_code 321 = .ok (.iconst 1, 1) := by decide +kernel
theorem dc12_text_322 : decode prog_14_method_40_code 322 = .ok (.iadd, 1) := by decide +kernel
theorem dc12_text_323 : decode prog_14_method_40_code 323 = .ok (.aload_n 0, 1) := by decide +kernel
theorem dc12_text_324 : decode prog_14_method_40_code 324 = .ok (.getfield 43, 3) := by decide +kernel
theorem dc12_text_327 : decode prog_14_method_40_code 327 = .ok (.iconst 5, 1) := by decide +kernel
theorem dc12_text_328 : decode prog_14_method_40_code 328 = .ok (.iload_n 3, 1) := by decide +kernel
theorem dc12_text_329 : decode prog_14_method_40_code 329 = .ok (.imul, 1) := by decide +kernel
theorem dc12_text_330 : decode prog_14_method_40_code 330 = .ok (.iconst 1, 1) := by decide +kernel
theorem dc12_text_331 : decode prog_14_method_40_code 331 = .ok (.iadd, 1) := by decide +kernel
theorem dc12_text_332 : decode prog_14_method_40_code 332 = .ok (.iaload, 1) := by decide +kernel
theorem dc12_text_333 : decode prog_14_method_40_code 333 = .ok (.iastore, 1) := by decide +kernel
theorem dc12_text_334 : decode prog_14_method_40_code 334 = .ok (.aload_n 0, 1) := by decide +kernel
theorem dc12_text_335 : decode prog_14_method_40_code 335 = .ok (.getfield 55, 3) := by decide +kernel
theorem dc12_text_338 : decode prog_14_method_40_code 338 = .ok (.iconst 4, 1) := by decide +kernel
theorem dc12_text_339 : decode prog_14_method_40_code 339 = .ok (.iload_n 3, 1) := by decide +kernel
theorem dc12_text_340 : decode prog_14_method_40_code 340 = .ok (.imul, 1) := by decide +kernel
theorem dc12_text_341 : decode prog_14_method_40_code 341 = .ok (.iconst 2, 1) := by decide +kernel
theorem dc12_text_342 : decode prog_14_method_40_code 342 = .ok (.iadd, 1) := by decide +kernel
theorem dc12_text_343 : decode prog_14_method_40_code 343 = .ok (.aload_n 0, 1) := by decide +kernel
theorem dc12_text_344 : decode prog_14_method_40_code 344 = .ok (.getfield 43, 3) := by decide +kernel
theorem dc12_text_347 : decode prog_14_method_40_code 347 = .ok (.iconst 5, 1) := by decide +kernel
theorem dc12_text_348 : decode prog_14_method_40_code 348 = .ok (.iload_n 3, 1) := by decide +kernel
theorem dc12_text_349 : decode prog_14_method_40_code 349 = .ok (.imul, 1) := by decide +kernel
theorem dc12_text_350 : decode prog_14_method_40_code 350 = .ok (.iconst 2, 1) := by decide +kernel
theorem dc12_text_351 : decode prog_14_method_40_code 351 = .ok (.iadd, 1) := by decide +kernel
theorem dc12_text_352 : decode prog_14_method_40_code 352 = .ok (.iaload, 1) := by decide +kernel
theorem dc12_text_353 : decode prog_14_method_40_code 353 = .ok (.iastore, 1) := by decide +kernel
theorem dc12_text_354 : decode prog_14_method_40_code 354 = .ok (.aload_n 0, 1) := by decide +kernel
theorem dc12_text_355 : decode prog_14_method_40_code 355 = .ok (.getfield 55, 3) := by decide +kernel
theorem dc12_text_358 : decode prog_14_method_40_code 358 = .ok (.iconst 4, 1) := by decide +kernel
theorem dc12_text_359 : decode prog_14_method_40_code 359 = .ok (.iload_n 3, 1) := by decide +kernel
theorem dc12_text_360 : decode prog_14_method_40_code 360 = .ok (.imul, 1) := by decide +kernel
theorem dc12_text_361 : decode prog_14_method_40_code 361 = .ok (.iconst 3, 1) := by decide +kernel
theorem dc12_text_362 : decode prog_14_method_40_code 362 = .ok (.iadd, 1) := by decide +kernel
theorem dc12_text_363 : decode prog_14_method_40_code 363 = .ok (.aload_n 0, 1) := by decide +kernel
theorem dc12_text_364 : decode prog_14_method_40_code 364 = .ok (.getfield 43, 3) := by decide +kernel
theorem dc12_text_367 : decode prog_14_method_40_code 367 = .ok (.iconst 5, 1) := by decide +kernel
theorem dc12_text_368 : decode prog_14_method_40_code 368 = .ok (.iload_n 3, 1) := by decide +kernel
theorem dc12_text_369 : decode prog_14_method_40_code 369 = .ok (.imul, 1) := by decide +kernel
theorem dc12_text_370 : decode prog_14_method_40_code 370 = .ok (.iconst 4, 1) := by decide +kernel
theorem dc12_text_371 : decode prog_14_method_40_code 371 = .ok (.iadd, 1) := by decide +kernel
theorem dc12_text_372 : decode prog_14_method_40_code 372 = .ok (.iaload, 1) := by decide +kernel
theorem dc12_text_373 : decode prog_14_method_40_code 373 = .ok (.iastore, 1) := by decide +kernel
theorem dc12_text_374 : decode prog_14_method_40_code 374 = .ok (.iinc 3 1, 3) := by decide +kernel
theorem dc12_text_377 : decode prog_14_method_40_code 377 = .ok (.goto (-89), 3) := by decide +kernel
theorem dc12_text_380 : decode prog_14_method_40_code 380 = .ok (.aload_n 0, 1) := by decide +kernel
theorem dc12_text_381 : decode prog_14_method_40_code 381 = .ok (.getfield 55, 3) := by decide +kernel
theorem dc12_text_384 : decode prog_14_method_40_code 384 = .ok (.bipush 24, 2) := by decide +kernel
theorem dc12_text_386 : decode prog_14_method_40_code 386 = .ok (.aload_n 0, 1) := by decide +kernel
theorem dc12_text_387 : decode prog_14_method_40_code 387 = .ok (.getfield 37, 3) := by decide +kernel
theorem dc12_text_390 : decode prog_14_method_40_code 390 = .ok (.iconst 2, 1) := by decide +kernel
theorem dc12_text_391 : decode prog_14_method_40_code 391 = .ok (.iaload, 1) := by decide +kernel
theorem dc12_text_392 : decode prog_14_method_40_code 392 = .ok (.iastore, 1) := by decide +kernel
theorem dc12_text_393 : decode prog_14_method_40_code 393 = .ok (.aload_n 0, 1) := by decide +kernel
theorem dc12_text_394 : decode prog_14_method_40_code 394 = .ok (.iconst 0, 1) := by decide +kernel
theorem dc12_text_395 : decode prog_14_method_40_code 395 = .ok (.putfield 293, 3) := by decide +kernel
theorem dc12_text_398 : decode prog_14_method_40_code 398 = .ok (.aload_n 0, 1) := by decide +kernel
theorem dc12_text_399 : decode prog_14_method_40_code 399 = .ok (.iconst 0, 1) := by decide +kernel
theorem dc12_text_400 : decode prog_14_method_40_code 400 = .ok (.putfield 296, 3) := by decide +kernel
theorem dc12_text_403 : decode prog_14_method_40_code 403 = .ok (.aload_n 0, 1) := by decide +kernel
theorem dc12_text_404 : decode prog_14_method_40_code 404 = .ok (.iconst 0, 1) := by decide +kernel
theorem dc12_text_405 : decode prog_14_method_40_code 405 = .ok (.putfield 299, 3) := by decide +kernel
theorem dc12_text_408 : decode prog_14_method_40_code 408 = .ok (.aload_n 0, 1) := by decide +kernel
theorem dc12_text_409 : decode prog_14_method_40_code 409 = .ok (.getfield 290, 3) := by decide +kernel
theorem dc12_text_412 : decode prog_14_method_40_code 412 = .ok (.ireturn, 1) := by decide +kernel
theorem dc12_rule_0 : decode prog_14_method_51_code 0 = .ok (.aload_n 0, 1) := by decide +kernel
theorem dc12_rule_1 : decode prog_14_method_51_code 1 = .ok (.iconst 0, 1) := by decide +kernel
theorem dc12_rule_2 : decode prog_14_method_51_code 2 = .ok (.putfield 100, 3) := by decide +kernel
theorem dc12_rule_5 : decode prog_14_method_51_code 5 = .ok (.aload_n 0, 1) := by decide +kernel
theorem dc12_rule_6 : decode prog_14_method_51_code 6 = .ok (.getfield 290, 3) := by decide +kernel
theorem dc12_rule_9 : decode prog_14_method_51_code 9 = .ok (.ifCond .eq 15, 3) := by decide +kernel
theorem dc12_rule_12 : decode prog_14_method_51_code 12 = .ok (.iload_n 1, 1) := by decide +kernel
theorem dc12_rule_13 : decode prog_14_method_51_code 13 = .ok (.i2l, 1) := by decide +kernel
theorem dc12_rule_14 : decode prog_14_method_51_code 14 = .ok (.lconst 0, 1) := by decide +kernel
theorem dc12_rule_15 : decode prog_14_method_51_code 15 = .ok (.ldc2_w 271, 3) := by decide +kernel
theorem dc12_rule_18 : decode prog_14_method_51_code 18 = .ok (.invokestatic 221, 3) := by decide +kernel
theorem dc12_rule_21 : decode prog_14_method_51_code 21 = .ok (.ifCond .ne 5, 3) := by decide +kernel
theorem dc12_rule_24 : decode prog_14_method_51_code 24 = .ok (.iconst (-1), 1) := by decide +kernel
theorem dc12_rule_25 : decode prog_14_method_51_code 25 = .ok (.ireturn, 1) := by decide +kernel
theorem dc12_rule_26 : decode prog_14_method_51_code 26 = .ok (.iload_n 1, 1) := by decide +kernel
theorem dc12_rule_27 : decode prog_14_method_51_code 27 = .ok (.iconst 2, 1) := by decide +kernel
theorem dc12_rule_28 : decode prog_14_method_51_code 28 = .ok (.if_icmp .ne 13, 3) := by decide +kernel
theorem dc12_rule_31 : decode prog_14_method_51_code 31 = .ok (.aload_n 0, 1) := by decide +kernel
theorem dc12_rule_32 : decode prog_14_method_51_code 32 = .ok (.getfield 55, 3) := by decide +kernel
theorem dc12_rule_35 : decode prog_14_method_51_code 35 = .ok (.bipush 24, 2) := by decide +kernel
theorem dc12_rule_37 : decode prog_14_method_51_code 37 = .ok (.iaload, 1) := by decide +kernel
theorem dc12_rule_38 : decode prog_14_method_51_code 38 = .ok (.goto 9, 3) := by decide +kernel
theorem dc12_rule_41 : decode prog_14_method_51_code 41 = .ok (.aload_n 0, 1) := by decide +kernel
theorem dc12_rule_42 : decode prog_14_method_51_code 42 = .ok (.getfield 37, 3) := by decide +kernel
theorem dc12_rule_45 : decode prog_14_method_51_code 45 = .ok (.iload_n 1, 1) := by decide +kernel
theorem dc12_rule_46 : decode prog_14_method_51_code 46 = .ok (.iaload, 1) := by decide +kernel
theorem dc12_rule_47 : decode prog_14_method_51_code 47 = .ok (.ireturn, 1) := by decide +kernel
theorem dc12_field_0 : decode prog_14_method_52_code 0 = .ok (.aload_n 0, 1) := by decide +kernel
theorem dc12_field_1 : decode prog_14_method_52_code 1 = .ok (.aload_n 0, 1) := by decide +kernel
theorem dc12_field_2 : decode prog_14_method_52_code 2 = .ok (.iload_n 1, 1) := by decide +kernel
theorem dc12_field_3 : decode prog_14_method_52_code 3 = .ok (.invokevirtual 353, 3) := by decide +kernel
theorem dc12_field_6 : decode prog_14_method_52_code 6 = .ok (.ifCond .eq 19, 3) := by decide +kernel
theorem dc12_field_9 : decode prog_14_method_52_code 9 = .ok (.iload_n 2, 1) := by decide +kernel
theorem dc12_field_10 : decode prog_14_method_52_code 10 = .ok (.i2l, 1) := by decide +kernel
theorem dc12_field_11 : decode prog_14_method_52_code 11 = .ok (.lconst 0, 1) := by decide +kernel
theorem dc12_field_12 : decode prog_14_method_52_code 12 = .ok (.ldc2_w 356, 3) := by decide +kernel
theorem dc12_field_15 : decode prog_14_method_52_code 15 = .ok (.invokestatic 221, 3) := by decide +kernel
theorem dc12_field_18 : decode prog_14_method_52_code 18 = .ok (.ifCond .eq 7, 3) := by decide +kernel
theorem dc12_field_21 : decode prog_14_method_52_code 21 = .ok (.iconst 0, 1) := by decide +kernel
theorem dc12_field_22 : decode prog_14_method_52_code 22 = .ok (.goto 4, 3) := by decide +kernel
theorem dc12_field_25 : decode prog_14_method_52_code 25 = .ok (.iconst 1, 1) := by decide +kernel
theorem dc12_field_26 : decode prog_14_method_52_code 26 = .ok (.putfield 100, 3) := by decide +kernel
theorem dc12_field_29 : decode prog_14_method_52_code 29 = .ok (.aload_n 0, 1) := by decide +kernel
theorem dc12_field_30 : decode prog_14_method_52_code 30 = .ok (.getfield 100, 3) := by decide +kernel
theorem dc12_field_33 : decode prog_14_method_52_code 33 = .ok (.ifCond .le 5, 3) := by decide +kernel
theorem dc12_field_36 : decode prog_14_method_52_code 36 = .ok (.iconst 0, 1) := by decide +kernel
theorem dc12_field_37 : decode prog_14_method_52_code 37 = .ok (.ireturn, 1) := by decide +kernel
theorem dc12_field_38 : decode prog_14_method_52_code 38 = .ok (.iload_n 2, 1) := by decide +kernel
theorem dc12_field_39 : decode prog_14_method_52_code 39 = .ok (.iconst 3, 1) := by decide +kernel
theorem dc12_field_40 : decode prog_14_method_52_code 40 = .ok (.if_icmp .ne 11, 3) := by decide +kernel
theorem dc12_field_43 : decode prog_14_method_52_code 43 = .ok (.aload_n 0, 1) := by decide +kernel
theorem dc12_field_44 : decode prog_14_method_52_code 44 = .ok (.iload_n 1, 1) := by decide +kernel
theorem dc12_field_45 : decode prog_14_method_52_code 45 = .ok (.invokevirtual 318, 3) := by decide +kernel
theorem dc12_field_48 : decode prog_14_method_52_code 48 = .ok (.goto 31, 3) := by decide +kernel
theorem dc12_field_51 : decode prog_14_method_52_code 51 = .ok (.iload_n 2, 1) := by decide +kernel
theorem dc12_field_52 : decode prog_14_method_52_code 52 = .ok (.iconst 4, 1) := by decide +kernel
theorem dc12_field_53 : decode prog_14_method_52_code 53 = .ok (.if_icmp .ne 16, 3) := by decide +kernel
theorem dc12_field_56 : decode prog_14_method_52_code 56 = .ok (.aload_n 0, 1) := by decide +kernel
theorem dc12_field_57 : decode prog_14_method_52_code 57 = .ok (.getfield 55, 3) := by decide +kernel
theorem dc12_field_60 : decode prog_14_method_52_code 60 = .ok (.iconst 4, 1) := by decide +kernel
theorem dc12_field_61 : decode prog_14_method_52_code 61 = .ok (.iload_n 1, 1) := by decide +kernel
theorem dc12_field_62 : decode prog_14_method_52_code 62 = .ok (.imul, 1) := by decide +kernel
theorem dc12_field_63 : decode prog_14_method_52_code 63 = .ok (.iconst 3, 1) := by decide +kernel
theorem dc12_field_64 : decode prog_14_method_52_code 64 = .ok (.iadd, 1) := by decide +kernel
theorem dc12_field_65 : decode prog_14_method_52_code 65 = .ok (.iaload, 1) := by decide +kernel
theorem dc12_field_66 : decode prog_14_method_52_code 66 = .ok (.goto 13, 3) := by decide +kernel
theorem dc12_field_69 : decode prog_14_method_52_code 69 = .ok (.aload_n 0, 1) := by decide +kernel
theorem dc12_field_70 : decode prog_14_method_52_code 70 = .ok (.getfield 55, 3) := by decide +kernel
theorem dc12_field_73 : decode prog_14_method_52_code 73 = .ok (.iconst 4, 1) := by decide +kernel
theorem dc12_field_74 : decode prog_14_method_52_code 74 = .ok (.iload_n 1, 1) := by decide +kernel
theorem dc12_field_75 : decode prog_14_method_52_code 75 = .ok (.imul, 1) := by decide +kernel
theorem dc12_field_76 : decode prog_14_method_52_code 76 = .ok (.iload_n 2, 1) := by decide +kernel
theorem dc12_field_77 : decode prog_14_method_52_code 77 = .ok (.iadd, 1) := by decide +kernel
theorem dc12_field_78 : decode prog_14_method_52_code 78 = .ok (.iaload, 1) := by decide +kernel
theorem dc12_field_79 : decode prog_14_method_52_code 79 = .ok (.ireturn, 1) := by decide +kernel
theorem dc12_isField_0 : decode prog_14_method_42_code 0 = .ok (.iload_n 1, 1) := by decide +kernel
theorem dc12_isField_1 : decode prog_14_method_42_code 1 = .ok (.ifCond .lt 15, 3) := by decide +kernel
theorem dc12_isField_4 : decode prog_14_method_42_code 4 = .ok (.iload_n 1, 1) := by decide +kernel
theorem dc12_isField_5 : decode prog_14_method_42_code 5 = .ok (.aload_n 0, 1) := by decide +kernel
theorem dc12_isField_6 : decode prog_14_method_42_code 6 = .ok (.getfield 290, 3) := by decide +kernel
theorem dc12_isField_9 : decode prog_14_method_42_code 9 = .ok (.if_icmp .ge 7, 3) := by decide +kernel
theorem dc12_isField_12 : decode prog_14_method_42_code 12 = .ok (.iconst 1, 1) := by decide +kernel
theorem dc12_isField_13 : decode prog_14_method_42_code 13 = .ok (.goto 4, 3) := by decide +kernel
theorem dc12_isField_16 : decode prog_14_method_42_code 16 = .ok (.iconst 0, 1) := by decide +kernel
theorem dc12_isField_17 : decode prog_14_method_42_code 17 = .ok (.ireturn, 1) := by decide +kernel
theorem dc12_value_0 : decode prog_14_method_44_code 0 = .ok (.aload_n 0, 1) := by decide +kernel
theorem dc12_value_1 : decode prog_14_method_44_code 1 = .ok (.getfield 43, 3) := by decide +kernel
theorem dc12_value_4 : decode prog_14_method_44_code 4 = .ok (.iconst 5, 1) := by decide +kernel
theorem dc12_value_5 : decode prog_14_method_44_code 5 = .ok (.iload_n 1, 1) := by decide +kernel
theorem dc12_value_6 : decode prog_14_method_44_code 6 = .ok (.imul, 1) := by decide +kernel
theorem dc12_value_7 : decode prog_14_method_44_code 7 = .ok (.iconst 3, 1) := by decide +kernel
theorem dc12_value_8 : decode prog_14_method_44_code 8 = .ok (.iadd, 1) := by decide +kernel
theorem dc12_value_9 : decode prog_14_method_44_code 9 = .ok (.iaload, 1) := by decide +kernel
theorem dc12_value_10 : decode prog_14_method_44_code 10 = .ok (.ireturn, 1) := by decide +kernel
theorem dc12_law_0 : decode prog_14_method_53_code 0 = .ok (.aload_n 0, 1) := by decide +kernel
theorem dc12_law_1 : decode prog_14_method_53_code 1 = .ok (.iconst 0, 1) := by decide +kernel
theorem dc12_law_2 : decode prog_14_method_53_code 2 = .ok (.putfield 100, 3) := by decide +kernel
theorem dc12_law_5 : decode prog_14_method_53_code 5 = .ok (.iload_n 1, 1) := by decide +kernel
theorem dc12_law_6 : decode prog_14_method_53_code 6 = .ok (.iconst (-1), 1) := by decide +kernel
theorem dc12_law_7 : decode prog_14_method_53_code 7 = .ok (.if_icmp .eq 21, 3) := by decide +kernel
theorem dc12_law_10 : decode prog_14_method_53_code 10 = .ok (.iload_n 1, 1) := by decide +kernel
theorem dc12_law_11 : decode prog_14_method_53_code 11 = .ok (.i2l, 1) := by decide +kernel
theorem dc12_law_12 : decode prog_14_method_53_code 12 = .ok (.lconst 0, 1) := by decide +kernel
theorem dc12_law_13 : decode prog_14_method_53_code 13 = .ok (.aload_n 0, 1) := by decide +kernel
theorem dc12_law_14 : decode prog_14_method_53_code 14 = .ok (.getfield 282, 3) := by decide +kernel
theorem dc12_law_17 : decode prog_14_method_53_code 17 = .ok (.iconst 1, 1) := by decide +kernel
theorem dc12_law_18 : decode prog_14_method_53_code 18 = .ok (.isub, 1) := by decide +kernel
theorem dc12_law_19 : decode prog_14_method_53_code 19 = .ok (.i2l, 1) := by decide +kernel
theorem dc12_law_20 : decode prog_14_method_53_code 20 = .ok (.invokestatic 221, 3) := by decide +kernel
theorem dc12_law_23 : decode prog_14_method_53_code 23 = .ok (.ifCond .ne 5, 3) := by decide +kernel
theorem dc12_law_26 : decode prog_14_method_53_code 26 = .ok (.iconst 0, 1) := by decide +kernel
theorem dc12_law_27 : decode prog_14_method_53_code 27 = .ok (.ireturn, 1) := by decide +kernel
theorem dc12_law_28 : decode prog_14_method_53_code 28 = .ok (.aload_n 0, 1) := by decide +kernel
theorem dc12_law_29 : decode prog_14_method_53_code 29 = .ok (.iload_n 1, 1) := by decide +kernel
theorem dc12_law_30 : decode prog_14_method_53_code 30 = .ok (.putfield 61, 3) := by decide +kernel
theorem dc12_law_33 : decode prog_14_method_53_code 33 = .ok (.iconst 1, 1) := by decide +kernel
theorem dc12_law_34 : decode prog_14_method_53_code 34 = .ok (.ireturn, 1) := by decide +kernel
theorem dc12_heresy_0 : decode prog_14_method_54_code 0 = .ok (.aload_n 0, 1) := by decide +kernel
theorem dc12_heresy_1 : decode prog_14_method_54_code 1 = .ok (.iconst 0, 1) := by decide +kernel
theorem dc12_heresy_2 : decode prog_14_method_54_code 2 = .ok (.putfield 100, 3) := by decide +kernel
theorem dc12_heresy_5 : decode prog_14_method_54_code 5 = .ok (.iload_n 1, 1) := by decide +kernel
theorem dc12_heresy_6 : decode prog_14_method_54_code 6 = .ok (.i2l, 1) := by decide +kernel
theorem dc12_heresy_7 : decode prog_14_method_54_code 7 = .ok (.lconst 0, 1) := by decide +kernel
theorem dc12_heresy_8 : decode prog_14_method_54_code 8 = .ok (.ldc2_w 358, 3) := by decide +kernel
theorem dc12_heresy_11 : decode prog_14_method_54_code 11 = .ok (.invokestatic 221, 3) := by decide +kernel
theorem dc12_heresy_14 : decode prog_14_method_54_code 14 = .ok (.ifCond .eq 11, 3) := by decide +kernel
theorem dc12_heresy_17 : decode prog_14_method_54_code 17 = .ok (.iload_n 1, 1) := by decide +kernel
theorem dc12_heresy_18 : decode prog_14_method_54_code 18 = .ok (.aload_n 0, 1) := by decide +kernel
theorem dc12_heresy_19 : decode prog_14_method_54_code 19 = .ok (.getfield 360, 3) := by decide +kernel
theorem dc12_heresy_22 : decode prog_14_method_54_code 22 = .ok (.if_icmp .ne 5, 3) := by decide +kernel
theorem dc12_heresy_25 : decode prog_14_method_54_code 25 = .ok (.iconst 0, 1) := by decide +kernel
theorem dc12_heresy_26 : decode prog_14_method_54_code 26 = .ok (.ireturn, 1) := by decide +kernel
theorem dc12_heresy_27 : decode prog_14_method_54_code 27 = .ok (.aload_n 0, 1) := by decide +kernel
theorem dc12_heresy_28 : decode prog_14_method_54_code 28 = .ok (.iload_n 1, 1) := by decide +kernel
theorem dc12_heresy_29 : decode prog_14_method_54_code 29 = .ok (.putfield 360, 3) := by decide +kernel
theorem dc12_heresy_32 : decode prog_14_method_54_code 32 = .ok (.iconst 1, 1) := by decide +kernel
theorem dc12_heresy_33 : decode prog_14_method_54_code 33 = .ok (.ireturn, 1) := by decide +kernel
theorem dc12_year_0 : decode prog_14_method_56_code 0 = .ok (.aload_n 0, 1) := by decide +kernel
theorem dc12_year_1 : decode prog_14_method_56_code 1 = .ok (.iconst 0, 1) := by decide +kernel
theorem dc12_year_2 : decode prog_14_method_56_code 2 = .ok (.putfield 100, 3) := by decide +kernel
theorem dc12_year_5 : decode prog_14_method_56_code 5 = .ok (.aload_n 0, 1) := by decide +kernel
theorem dc12_year_6 : decode prog_14_method_56_code 6 = .ok (.getfield 290, 3) := by decide +kernel
theorem dc12_year_9 : decode prog_14_method_56_code 9 = .ok (.ifCond .eq 23, 3) := by decide +kernel
theorem dc12_year_12 : decode prog_14_method_56_code 12 = .ok (.iload_n 1, 1) := by decide +kernel
theorem dc12_year_13 : decode prog_14_method_56_code 13 = .ok (.invokestatic 363, 3) := by decide +kernel
theorem dc12_year_16 : decode prog_14_method_56_code 16 = .ok (.ifCond .eq 16, 3) := by decide +kernel
theorem dc12_year_19 : decode prog_14_method_56_code 19 = .ok (.aload_n 0, 1) := by decide +kernel
theorem dc12_year_20 : decode prog_14_method_56_code 20 = .ok (.getfield 55, 3) := by decide +kernel
theorem dc12_year_23 : decode prog_14_method_56_code 23 = .ok (.bipush 25, 2) := by decide +kernel
theorem dc12_year_25 : decode prog_14_method_56_code 25 = .ok (.iaload, 1) := by decide +kernel
theorem dc12_year_26 : decode prog_14_method_56_code 26 = .ok (.sipush 999, 3) := by decide +kernel
theorem dc12_year_29 : decode prog_14_method_56_code 29 = .ok (.if_icmp .ne 5, 3) := by decide +kernel
theorem dc12_year_32 : decode prog_14_method_56_code 32 = .ok (.iconst (-1), 1) := by decide +kernel
theorem dc12_year_33 : decode prog_14_method_56_code 33 = .ok (.ireturn, 1) := by decide +kernel
theorem dc12_year_34 : decode prog_14_method_56_code 34 = .ok (.aload_n 0, 1) := by decide +kernel
theorem dc12_year_35 : decode prog_14_method_56_code 35 = .ok (.invokevirtual 366, 3) := by decide +kernel
theorem dc12_year_38 : decode prog_14_method_56_code 38 = .ok (.aload_n 0, 1) := by decide +kernel
theorem dc12_year_39 : decode prog_14_method_56_code 39 = .ok (.aload_n 0, 1) := by decide +kernel
theorem dc12_year_40 : decode prog_14_method_56_code 40 = .ok (.getfield 55, 3) := by decide +kernel
theorem dc12_year_43 : decode prog_14_method_56_code 43 = .ok (.iload_n 1, 1) := by decide +kernel
theorem dc12_year_44 : decode prog_14_method_56_code 44 = .ok (.invokevirtual 349, 3) := by decide +kernel
theorem dc12_year_47 : decode prog_14_method_56_code 47 = .ok (.aload_n 0, 1) := by decide +kernel
theorem dc12_year_48 : decode prog_14_method_56_code 48 = .ok (.getfield 342, 3) := by decide +kernel
theorem dc12_year_51 : decode prog_14_method_56_code 51 = .ok (.ireturn, 1) := by decide +kernel
theorem dc12_isRain_0 : decode prog_14_method_43_code 0 = .ok (.iload_n 0, 1) := by decide +kernel
theorem dc12_isRain_1 : decode prog_14_method_43_code 1 = .ok (.i2l, 1) := by decide +kernel
theorem dc12_isRain_2 : decode prog_14_method_43_code 2 = .ok (.lconst 0, 1) := by decide +kernel
theorem dc12_isRain_3 : decode prog_14_method_43_code 3 = .ok (.ldc2_w 302, 3) := by decide +kernel
theorem dc12_isRain_6 : decode prog_14_method_43_code 6 = .ok (.invokestatic 221, 3) := by decide +kernel
theorem dc12_isRain_9 : decode prog_14_method_43_code 9 = .ok (.ireturn, 1) := by decide +kernel
theorem dc12_remember_0 : decode prog_14_method_55_code 0 = .ok (.aload_n 0, 1) := by decide +kernel
theorem dc12_remember_1 : decode prog_14_method_55_code 1 = .ok (.getfield 296, 3) := by decide +kernel
theorem dc12_remember_4 : decode prog_14_method_55_code 4 = .ok (.bipush 40, 2) := by decide +kernel
theorem dc12_remember_6 : decode prog_14_method_55_code 6 = .ok (.if_icmp .ne 44, 3) := by decide +kernel
theorem dc12_remember_9 : decode prog_14_method_55_code 9 = .ok (.iconst 0, 1) := by decide +kernel
theorem dc12_remember_10 : decode prog_14_method_55_code 10 = .ok (.istore_n 1, 1) := by decide +kernel
theorem dc12_remember_11 : decode prog_14_method_55_code 11 = .ok (.iload_n 1, 1) := by decide +kernel
theorem dc12_remember_12 : decode prog_14_method_55_code 12 = .ok (.sipush 8073, 3) := by decide +kernel
theorem dc12_remember_15 : decode prog_14_method_55_code 15 = .ok (.if_icmp .ge 25, 3) := by decide +kernel
theorem dc12_remember_18 : decode prog_14_method_55_code 18 = .ok (.aload_n 0, 1) := by decide +kernel
theorem dc12_remember_19 : decode prog_14_method_55_code 19 = .ok (.getfield 78, 3) := by decide +kernel
theorem dc12_remember_22 : decode prog_14_method_55_code 22 = .ok (.iload_n 1, 1) := by decide +kernel
theorem dc12_remember_23 : decode prog_14_method_55_code 23 = .ok (.aload_n 0, 1) := by decide +kernel
theorem dc12_remember_24 : decode prog_14_method_55_code 24 = .ok (.getfield 78, 3) := by decide +kernel
theorem dc12_remember_27 : decode prog_14_method_55_code 27 = .ok (.iload_n 1, 1) := by decide +kernel
theorem dc12_remember_28 : decode prog_14_method_55_code 28 = .ok (.sipush 207, 3) := by decide +kernel
theorem dc12_remember_31 : decode prog_14_method_55_code 31 = .ok (.iadd, 1) := by decide +kernel
theorem dc12_remember_32 : decode prog_14_method_55_code 32 = .ok (.iaload, 1) := by decide +kernel
theorem dc12_remember_33 : decode prog_14_method_55_code 33 = .ok (.iastore, 1) := by decide +kernel
theorem dc12_remember_34 : decode prog_14_method_55_code 34 = .ok (.iinc 1 1, 3) := by decide +kernel
theorem dc12_remember_37 : decode prog_14_method_55_code 37 = .ok (.goto (-26), 3) := by decide +kernel
theorem dc12_remember_40 : decode prog_14_method_55_code 40 = .ok (.aload_n 0, 1) := by decide +kernel
theorem dc12_remember_41 : decode prog_14_method_55_code 41 = .ok (.dup, 1) := by decide +kernel
theorem dc12_remember_42 : decode prog_14_method_55_code 42 = .ok (.getfield 296, 3) := by decide +kernel
theorem dc12_remember_45 : decode prog_14_method_55_code 45 = .ok (.iconst 1, 1) := by decide +kernel
theorem dc12_remember_46 : decode prog_14_method_55_code 46 = .ok (.isub, 1) := by decide +kernel
theorem dc12_remember_47 : decode prog_14_method_55_code 47 = .ok (.putfield 296, 3) := by decide +kernel
theorem dc12_remember_50 : decode prog_14_method_55_code 50 = .ok (.iconst 0, 1) := by decide +kernel
theorem dc12_remember_51 : decode prog_14_method_55_code 51 = .ok (.istore_n 1, 1) := by decide +kernel
theorem dc12_remember_52 : decode prog_14_method_55_code 52 = .ok (.iload_n 1, 1) := by decide +kernel
theorem dc12_remember_53 : decode prog_14_method_55_code 53 = .ok (.sipush 207, 3) := by decide +kernel
theorem dc12_remember_56 : decode prog_14_method_55_code 56 = .ok (.if_icmp .ge 30, 3) := by decide +kernel
theorem dc12_remember_59 : decode prog_14_method_55_code 59 = .ok (.aload_n 0, 1) := by decide +kernel
theorem dc12_remember_60 : decode prog_14_method_55_code 60 = .ok (.getfield 78, 3) := by decide +kernel
theorem dc12_remember_63 : decode prog_14_method_55_code 63 = .ok (.sipush 207, 3) := by decide +kernel
theorem dc12_remember_66 : decode prog_14_method_55_code 66 = .ok (.aload_n 0, 1) := by decide +kernel
theorem dc12_remember_67 : decode prog_14_method_55_code 67 = .ok (.getfield 296, 3) := by decide +kernel
theorem dc12_remember_70 : decode prog_14_method_55_code 70 = .ok (.imul, 1) := by decide +kernel
theorem dc12_remember_71 : decode prog_14_method_55_code 71 = .ok (.iload_n 1, 1) := by decide +kernel
theorem dc12_remember_72 : decode prog_14_method_55_code 72 = .ok (.iadd, 1) := by decide +kernel
theorem dc12_remember_73 : decode prog_14_method_55_code 73 = .ok (.aload_n 0, 1) := by decide +kernel
theorem dc12_remember_74 : decode prog_14_method_55_code 74 = .ok (.getfield 55, 3) := by decide +kernel
theorem dc12_remember_77 : decode prog_14_method_55_code 77 = .ok (.iload_n 1, 1) := by decide +kernel
theorem dc12_remember_78 : decode prog_14_method_55_code 78 = .ok (.iaload, 1) := by decide +kernel
theorem dc12_remember_79 : decode prog_14_method_55_code 79 = .ok (.iastore, 1) := by decide +kernel
theorem dc12_remember_80 : decode prog_14_method_55_code 80 = .ok (.iinc 1 1, 3) := by decide +kernel
theorem dc12_remember_83 : decode prog_14_method_55_code 83 = .ok (.goto (-31), 3) := by decide +kernel
theorem dc12_remember_86 : decode prog_14_method_55_code 86 = .ok (.aload_n 0, 1) := by decide +kernel
theorem dc12_remember_87 : decode prog_14_method_55_code 87 = .ok (.dup, 1) := by decide +kernel
theorem dc12_remember_88 : decode prog_14_method_55_code 88 = .ok (.getfield 296, 3) := by decide +kernel
theorem dc12_remember_91 : decode prog_14_method_55_code 91 = .ok (.iconst 1, 1) := by decide +kernel
theorem dc12_remember_92 : decode prog_14_method_55_code 92 = .ok (.iadd, 1) := by decide +kernel
theorem dc12_remember_93 : decode prog_14_method_55_code 93 = .ok (.putfield 296, 3) := by decide +kernel
theorem dc12_remember_96 : decode prog_14_method_55_code 96 = .ok (.return_, 1) := by decide +kernel
theorem dc12_goYear_0 : decode prog_14_method_49_code 0 = .ok (.iconst 0, 1) := by decide +kernel
theorem dc12_goYear_1 : decode prog_14_method_49_code 1 = .ok (.istore_n 3, 1) := by decide +kernel
theorem dc12_goYear_2 : decode prog_14_method_49_code 2 = .ok (.iload_n 3, 1) := by decide +kernel
theorem dc12_goYear_3 : decode prog_14_method_49_code 3 = .ok (.aload_n 0, 1) := by decide +kernel
theorem dc12_goYear_4 : decode prog_14_method_49_code 4 = .ok (.getfield 290, 3) := by decide +kernel
theorem dc12_goYear_7 : decode prog_14_method_49_code 7 = .ok (.if_icmp .ge 27, 3) := by decide +kernel
theorem dc12_goYear_10 : decode prog_14_method_49_code 10 = .ok (.aload_n 1, 1) := by decide +kernel
theorem dc12_goYear_11 : decode prog_14_method_49_code 11 = .ok (.iconst 4, 1) := by decide +kernel
theorem dc12_goYear_12 : decode prog_14_method_49_code 12 = .ok (.iload_n 3, 1) := by decide +kernel
theorem dc12_goYear_13 : decode prog_14_method_49_code 13 = .ok (.imul, 1) := by decide +kernel
theorem dc12_goYear_14 : decode prog_14_method_49_code 14 = .ok (.iconst 0, 1) := by decide +kernel
theorem dc12_goYear_15 : decode prog_14_method_49_code 15 = .ok (.iadd, 1) := by decide +kernel
theorem dc12_goYear_16 : decode prog_14_method_49_code 16 = .ok (.aload_n 0, 1) := by decide +kernel
theorem dc12_goYear_17 : decode prog_14_method_49_code 17 = .ok (.aload_n 1, 1) := by decide +kernel
theorem dc12_goYear_18 : decode prog_14_method_49_code 18 = .ok (.iconst 4, 1) := by decide +kernel
theorem dc12_goYear_19 : decode prog_14_method_49_code 19 = .ok (.iload_n 3, 1) := by decide +kernel
theorem dc12_goYear_20 : decode prog_14_method_49_code 20 = .ok (.imul, 1) := by decide +kernel
theorem dc12_goYear_21 : decode prog_14_method_49_code 21 = .ok (.iconst 0, 1) := by decide +kernel
theorem dc12_goYear_22 : decode prog_14_method_49_code 22 = .ok (.iadd, 1) := by decide +kernel
theorem dc12_goYear_23 : decode prog_14_method_49_code 23 = .ok (.iaload, 1) := by decide +kernel
theorem dc12_goYear_24 : decode prog_14_method_49_code 24 = .ok (.invokevirtual 328, 3) := by decide +kernel
theorem dc12_goYear_27 : decode prog_14_method_49_code 27 = .ok (.iastore, 1) := by decide +kernel
theorem dc12_goYear_28 : decode prog_14_method_49_code 28 = .ok (.iinc 3 1, 3) := by decide +kernel
theorem dc12_goYear_31 : decode prog_14_method_49_code 31 = .ok (.goto (-29), 3) := by decide +kernel
theorem dc12_goYear_34 : decode prog_14_method_49_code 34 = .ok (.iload_n 2, 1) := by decide +kernel
theorem dc12_goYear_35 : decode prog_14_method_49_code 35 = .ok (.aload_n 0, 1) := by decide +kernel
theorem dc12_goYear_36 : decode prog_14_method_49_code 36 = .ok (.getfield 290, 3) := by decide +kernel
theorem dc12_goYear_39 : decode prog_14_method_49_code 39 = .ok (.idiv, 1) := by decide +kernel
theorem dc12_goYear_40 : decode prog_14_method_49_code 40 = .ok (.istore_n 3, 1) := by decide +kernel
theorem dc12_goYear_41 : decode prog_14_method_49_code 41 = .ok (.iload_n 2, 1) := by decide +kernel
theorem dc12_goYear_42 : decode prog_14_method_49_code 42 = .ok (.istore 4, 2) := by decide +kernel
theorem dc12_goYear_44 : decode prog_14_method_49_code 44 = .ok (.iconst 0, 1) := by decide +kernel
theorem dc12_goYear_45 : decode prog_14_method_49_code 45 = .ok (.istore 5, 2) := by decide +kernel
theorem dc12_goYear_47 : decode prog_14_method_49_code 47 = .ok (.iconst 0, 1) := by decide +kernel
theorem dc12_goYear_48 : decode prog_14_method_49_code 48 = .ok (.istore 6, 2) := by decide +kernel
theorem dc12_goYear_50 : decode prog_14_method_49_code 50 = .ok (.iload 6, 2) := by decide +kernel
theorem dc12_goYear_52 : decode prog_14_method_49_code 52 = .ok (.aload_n 0, 1) := by decide +kernel
theorem dc12_goYear_53 : decode prog_14_method_49_code 53 = .ok (.getfield 290, 3) := by decide +kernel
theorem dc12_goYear_56 : decode prog_14_method_49_code 56 = .ok (.if_icmp .ge 61, 3) := by decide +kernel
theorem dc12_goYear_59 : decode prog_14_method_49_code 59 = .ok (.aload_n 0, 1) := by decide +kernel
theorem dc12_goYear_60 : decode prog_14_method_49_code 60 = .ok (.aload_n 1, 1) := by decide +kernel
theorem dc12_goYear_61 : decode prog_14_method_49_code 61 = .ok (.iload 5, 2) := by decide +kernel
theorem dc12_goYear_63 : decode prog_14_method_49_code 63 = .ok (.invokevirtual 331, 3) := by decide +kernel
theorem dc12_goYear_66 : decode prog_14_method_49_code 66 = .ok (.istore 7, 2) := by decide +kernel
theorem dc12_goYear_68 : decode prog_14_method_49_code 68 = .ok (.iload 5, 2) := by decide +kernel
theorem dc12_goYear_70 : decode prog_14_method_49_code 70 = .ok (.iconst 1, 1) := by decide +kernel
theorem dc12_goYear_71 : decode prog_14_method_49_code 71 = .ok (.iload 7, 2) := by decide +kernel
theorem dc12_goYear_73 : decode prog_14_method_49_code 73 = .ok (.ishl, 1) := by decide +kernel
theorem dc12_goYear_74 : decode prog_14_method_49_code 74 = .ok (.ior, 1) := by decide +kernel
theorem dc12_goYear_75 : decode prog_14_method_49_code 75 = .ok (.istore 5, 2) := by decide +kernel
theorem dc12_goYear_77 : decode prog_14_method_49_code 77 = .ok (.aload_n 0, 1) := by decide +kernel
theorem dc12_goYear_78 : decode prog_14_method_49_code 78 = .ok (.getfield 72, 3) := by decide +kernel
theorem dc12_goYear_81 : decode prog_14_method_49_code 81 = .ok (.iload 7, 2) := by decide +kernel
theorem dc12_goYear_83 : decode prog_14_method_49_code 83 = .ok (.iload 4, 2) := by decide +kernel
theorem dc12_goYear_85 : decode prog_14_method_49_code 85 = .ok (.iload_n 3, 1) := by decide +kernel
theorem dc12_goYear_86 : decode prog_14_method_49_code 86 = .ok (.aload_n 0, 1) := by decide +kernel
theorem dc12_goYear_87 : decode prog_14_method_49_code 87 = .ok (.aload_n 1, 1) := by decide +kernel
theorem dc12_goYear_88 : decode prog_14_method_49_code 88 = .ok (.iload 7, 2) := by decide +kernel
theorem dc12_goYear_90 : decode prog_14_method_49_code 90 = .ok (.iload_n 3, 1) := by decide +kernel
theorem dc12_goYear_91 : decode prog_14_method_49_code 91 = .ok (.invokevirtual 335, 3) := by decide +kernel
theorem dc12_goYear_94 : decode prog_14_method_49_code 94 = .ok (.iadd, 1) := by decide +kernel
theorem dc12_goYear_95 : decode prog_14_method_49_code 95 = .ok (.invokestatic 324, 3) := by decide +kernel
theorem dc12_goYear_98 : decode prog_14_method_49_code 98 = .ok (.iastore, 1) := by decide +kernel
theorem dc12_goYear_99 : decode prog_14_method_49_code 99 = .ok (.iload 4, 2) := by decide +kernel
theorem dc12_goYear_101 : decode prog_14_method_49_code 101 = .ok (.aload_n 0, 1) := by decide +kernel
theorem dc12_goYear_102 : decode prog_14_method_49_code 102 = .ok (.getfield 72, 3) := by decide +kernel
theorem dc12_goYear_105 : decode prog_14_method_49_code 105 = .ok (.iload 7, 2) := by decide +kernel
theorem dc12_goYear_107 : decode prog_14_method_49_code 107 = .ok (.iaload, 1) := by decide +kernel
theorem dc12_goYear_108 : decode prog_14_method_49_code 108 = .ok (.isub, 1) := by decide +kernel
theorem dc12_goYear_109 : decode prog_14_method_49_code 109 = .ok (.istore 4, 2) := by decide +kernel
theorem dc12_goYear_111 : decode prog_14_method_49_code 111 = .ok (.iinc 6 1, 3) := by decide +kernel
theorem dc12_goYear_114 : decode prog_14_method_49_code 114 = .ok (.goto (-64), 3) := by decide +kernel
theorem dc12_goYear_117 : decode prog_14_method_49_code 117 = .ok (.aload_n 0, 1) := by decide +kernel
theorem dc12_goYear_118 : decode prog_14_method_49_code 118 = .ok (.iconst 0, 1) := by decide +kernel
theorem dc12_goYear_119 : decode prog_14_method_49_code 119 = .ok (.putfield 339, 3) := by decide +kernel
theorem dc12_goYear_122 : decode prog_14_method_49_code 122 = .ok (.aload_n 0, 1) := by decide +kernel
theorem dc12_goYear_123 : decode prog_14_method_49_code 123 = .ok (.iconst 0, 1) := by decide +kernel
theorem dc12_goYear_124 : decode prog_14_method_49_code 124 = .ok (.putfield 342, 3) := by decide +kernel
theorem dc12_goYear_127 : decode prog_14_method_49_code 127 = .ok (.iconst 0, 1) := by decide +kernel
theorem dc12_goYear_128 : decode prog_14_method_49_code 128 = .ok (.istore 6, 2) := by decide +kernel
theorem dc12_goYear_130 : decode prog_14_method_49_code 130 = .ok (.iload 6, 2) := by decide +kernel
theorem dc12_goYear_132 : decode prog_14_method_49_code 132 = .ok (.aload_n 0, 1) := by decide +kernel
theorem dc12_goYear_133 : decode prog_14_method_49_code 133 = .ok (.getfield 290, 3) := by decide +kernel
theorem dc12_goYear_136 : decode prog_14_method_49_code 136 = .ok (.if_icmp .ge 198, 3) := by decide +kernel
theorem dc12_goYear_139 : decode prog_14_method_49_code 139 = .ok (.iconst 4, 1) := by decide +kernel
theorem dc12_goYear_140 : decode prog_14_method_49_code 140 = .ok (.iload 6, 2) := by decide +kernel
theorem dc12_goYear_142 : decode prog_14_method_49_code 142 = .ok (.imul, 1) := by decide +kernel
theorem dc12_goYear_143 : decode prog_14_method_49_code 143 = .ok (.istore 7, 2) := by decide +kernel
theorem dc12_goYear_145 : decode prog_14_method_49_code 145 = .ok (.aload_n 1, 1) := by decide +kernel
theorem dc12_goYear_146 : decode prog_14_method_49_code 146 = .ok (.iload 7, 2) := by decide +kernel
theorem dc12_goYear_148 : decode prog_14_method_49_code 148 = .ok (.iconst 0, 1) := by decide +kernel
theorem dc12_goYear_149 : decode prog_14_method_49_code 149 = .ok (.iadd, 1) := by decide +kernel
theorem dc12_goYear_150 : decode prog_14_method_49_code 150 = .ok (.iconst 0, 1) := by decide +kernel
theorem dc12_goYear_151 : decode prog_14_method_49_code 151 = .ok (.sipush 999, 3) := by decide +kernel
theorem dc12_goYear_154 : decode prog_14_method_49_code 154 = .ok (.aload_n 1, 1) := by decide +kernel
theorem dc12_goYear_155 : decode prog_14_method_49_code 155 = .ok (.iload 7, 2) := by decide +kernel
theorem dc12_goYear_157 : decode prog_14_method_49_code 157 = .ok (.iconst 0, 1) := by decide +kernel
theorem dc12_goYear_158 : decode prog_14_method_49_code 158 = .ok (.iadd, 1) := by decide +kernel
theorem dc12_goYear_159 : decode prog_14_method_49_code 159 = .ok (.iaload, 1) := by decide +kernel
theorem dc12_goYear_160 : decode prog_14_method_49_code 160 = .ok (.aload_n 0, 1) := by decide +kernel
theorem dc12_goYear_161 : decode prog_14_method_49_code 161 = .ok (.getfield 72, 3) := by decide +kernel
theorem dc12_goYear_164 : decode prog_14_method_49_code 164 = .ok (.iload 6, 2) := by decide +kernel
theorem dc12_goYear_166 : decode prog_14_method_49_code 166 = .ok (.iaload, 1) := by decide +kernel
theorem dc12_goYear_167 : decode prog_14_method_49_code 167 = .ok (.isub, 1) := by decide +kernel
theorem dc12_goYear_168 : decode prog_14_method_49_code 168 = .ok (.iload_n 3, 1) := by decide +kernel
theorem dc12_goYear_169 : decode prog_14_method_49_code 169 = .ok (.iadd, 1) := by decide +kernel
theorem dc12_goYear_170 : decode prog_14_method_49_code 170 = .ok (.invokestatic 324, 3) := by decide +kernel
theorem dc12_goYear_173 : decode prog_14_method_49_code 173 = .ok (.invokestatic 326, 3) := by decide +kernel
theorem dc12_goYear_176 : decode prog_14_method_49_code 176 = .ok (.iastore, 1) := by decide +kernel
theorem dc12_goYear_177 : decode prog_14_method_49_code 177 = .ok (.aload_n 1, 1) := by decide +kernel
theorem dc12_goYear_178 : decode prog_14_method_49_code 178 = .ok (.iload 7, 2) := by decide +kernel
theorem dc12_goYear_180 : decode prog_14_method_49_code 180 = .ok (.iconst 2, 1) := by decide +kernel
theorem dc12_goYear_181 : decode prog_14_method_49_code 181 = .ok (.iadd, 1) := by decide +kernel
theorem dc12_goYear_182 : decode prog_14_method_49_code 182 = .ok (.bipush 30, 2) := by decide +kernel
theorem dc12_goYear_184 : decode prog_14_method_49_code 184 = .ok (.aload_n 1, 1) := by decide +kernel
theorem dc12_goYear_185 : decode prog_14_method_49_code 185 = .ok (.iload 7, 2) := by decide +kernel
theorem dc12_goYear_187 : decode prog_14_method_49_code 187 = .ok (.iconst 2, 1) := by decide +kernel
theorem dc12_goYear_188 : decode prog_14_method_49_code 188 = .ok (.iadd, 1) := by decide +kernel
theorem dc12_goYear_189 : decode prog_14_method_49_code 189 = .ok (.iaload, 1) := by decide +kernel
theorem dc12_goYear_190 : decode prog_14_method_49_code 190 = .ok (.aload_n 0, 1) := by decide +kernel
theorem dc12_goYear_191 : decode prog_14_method_49_code 191 = .ok (.getfield 72, 3) := by decide +kernel
theorem dc12_goYear_194 : decode prog_14_method_49_code 194 = .ok (.iload 6, 2) := by decide +kernel
theorem dc12_goYear_196 : decode prog_14_method_49_code 196 = .ok (.iaload, 1) := by decide +kernel
theorem dc12_goYear_197 : decode prog_14_method_49_code 197 = .ok (.iadd, 1) := by decide +kernel
theorem dc12_goYear_198 : decode prog_14_method_49_code 198 = .ok (.invokestatic 324, 3) := by decide +kernel
theorem dc12_goYear_201 : decode prog_14_method_49_code 201 = .ok (.iastore, 1) := by decide +kernel
theorem dc12_goYear_202 : decode prog_14_method_49_code 202 = .ok (.aload_n 0, 1) := by decide +kernel
theorem dc12_goYear_203 : decode prog_14_method_49_code 203 = .ok (.getfield 75, 3) := by decide +kernel
theorem dc12_goYear_206 : decode prog_14_method_49_code 206 = .ok (.iload 6, 2) := by decide +kernel
theorem dc12_goYear_208 : decode prog_14_method_49_code 208 = .ok (.iconst 0, 1) := by decide +kernel
theorem dc12_goYear_209 : decode prog_14_method_49_code 209 = .ok (.iastore, 1) := by decide +kernel
theorem dc12_goYear_210 : decode prog_14_method_49_code 210 = .ok (.aload_n 0, 1) := by decide +kernel
theorem dc12_goYear_211 : decode prog_14_method_49_code 211 = .ok (.getfield 72, 3) := by decide +kernel
theorem dc12_goYear_214 : decode prog_14_method_49_code 214 = .ok (.iload 6, 2) := by decide +kernel
theorem dc12_goYear_216 : decode prog_14_method_49_code 216 = .ok (.iaload, 1) := by decide +kernel
theorem dc12_goYear_217 : decode prog_14_method_49_code 217 = .ok (.aload_n 0, 1) := by decide +kernel
theorem dc12_goYear_218 : decode prog_14_method_49_code 218 = .ok (.getfield 37, 3) := by decide +kernel
theorem dc12_goYear_221 : decode prog_14_method_49_code 221 = .ok (.iconst 1, 1) := by decide +kernel
theorem dc12_goYear_222 : decode prog_14_method_49_code 222 = .ok (.iaload, 1) := by decide +kernel
theorem dc12_goYear_223 : decode prog_14_method_49_code 223 = .ok (.if_icmp .lt 19, 3) := by decide +kernel
theorem dc12_goYear_226 : decode prog_14_method_49_code 226 = .ok (.aload_n 0, 1) := by decide +kernel
theorem dc12_goYear_227 : decode prog_14_method_49_code 227 = .ok (.dup, 1) := by decide +kernel
theorem dc12_goYear_228 : decode prog_14_method_49_code 228 = .ok (.getfield 339, 3) := by decide +kernel
theorem dc12_goYear_231 : decode prog_14_method_49_code 231 = .ok (.iconst 1, 1) := by decide +kernel
theorem dc12_goYear_232 : decode prog_14_method_49_code 232 = .ok (.iload 6, 2) := by decide +kernel
theorem dc12_goYear_234 : decode prog_14_method_49_code 234 = .ok (.ishl, 1) := by decide +kernel
theorem dc12_goYear_235 : decode prog_14_method_49_code 235 = .ok (.ior, 1) := by decide +kernel
theorem dc12_goYear_236 : decode prog_14_method_49_code 236 = .ok (.putfield 339, 3) := by decide +kernel
theorem dc12_goYear_239 : decode prog_14_method_49_code 239 = .ok (.goto 89, 3) := by decide +kernel
theorem dc12_goYear_242 : decode prog_14_method_49_code 242 = .ok (.aload_n 1, 1) := by decide +kernel
theorem dc12_goYear_243 : decode prog_14_method_49_code 243 = .ok (.iload 7, 2) := by decide +kernel
theorem dc12_goYear_245 : decode prog_14_method_49_code 245 = .ok (.iconst 1, 1) := by decide +kernel
theorem dc12_goYear_246 : decode prog_14_method_49_code 246 = .ok (.iadd, 1) := by decide +kernel
theorem dc12_goYear_247 : decode prog_14_method_49_code 247 = .ok (.iaload, 1) := by decide +kernel
theorem dc12_goYear_248 : decode prog_14_method_49_code 248 = .ok (.aload_n 1, 1) := by decide +kernel
theorem dc12_goYear_249 : decode prog_14_method_49_code 249 = .ok (.iload 7, 2) := by decide +kernel
theorem dc12_goYear_251 : decode prog_14_method_49_code 251 = .ok (.iconst 2, 1) := by decide +kernel
theorem dc12_goYear_252 : decode prog_14_method_49_code 252 = .ok (.iadd, 1) := by decide +kernel
theorem dc12_goYear_253 : decode prog_14_method_49_code 253 = .ok (.iaload, 1) := by decide +kernel
theorem dc12_goYear_254 : decode prog_14_method_49_code 254 = .ok (.invokestatic 324, 3) := by decide +kernel
theorem dc12_goYear_257 : decode prog_14_method_49_code 257 = .ok (.istore 8, 2) := by decide +kernel
theorem dc12_goYear_259 : decode prog_14_method_49_code 259 = .ok (.aload_n 1, 1) := by decide +kernel
theorem dc12_goYear_260 : decode prog_14_method_49_code 260 = .ok (.iload 7, 2) := by decide +kernel
theorem dc12_goYear_262 : decode prog_14_method_49_code 262 = .ok (.iconst 2, 1) := by decide +kernel
theorem dc12_goYear_263 : decode prog_14_method_49_code 263 = .ok (.iadd, 1) := by decide +kernel
theorem dc12_goYear_264 : decode prog_14_method_49_code 264 = .ok (.dup2, 1) := by decide +kernel
theorem dc12_goYear_265 : decode prog_14_method_49_code 265 = .ok (.iaload, 1) := by decide +kernel
theorem dc12_goYear_266 : decode prog_14_method_49_code 266 = .ok (.iload 8, 2) := by decide +kernel
theorem dc12_goYear_268 : decode prog_14_method_49_code 268 = .ok (.isub, 1) := by decide +kernel
theorem dc12_goYear_269 : decode prog_14_method_49_code 269 = .ok (.iastore, 1) := by decide +kernel
theorem dc12_goYear_270 : decode prog_14_method_49_code 270 = .ok (.aload_n 0, 1) := by decide +kernel
theorem dc12_goYear_271 : decode prog_14_method_49_code 271 = .ok (.getfield 75, 3) := by decide +kernel
theorem dc12_goYear_274 : decode prog_14_method_49_code 274 = .ok (.iload 6, 2) := by decide +kernel
theorem dc12_goYear_276 : decode prog_14_method_49_code 276 = .ok (.iload 8, 2) := by decide +kernel
theorem dc12_goYear_278 : decode prog_14_method_49_code 278 = .ok (.aload_n 0, 1) := by decide +kernel
theorem dc12_goYear_279 : decode prog_14_method_49_code 279 = .ok (.iload 6, 2) := by decide +kernel
theorem dc12_goYear_281 : decode prog_14_method_49_code 281 = .ok (.invokevirtual 318, 3) := by decide +kernel
theorem dc12_goYear_284 : decode prog_14_method_49_code 284 = .ok (.imul, 1) := by decide +kernel
theorem dc12_goYear_285 : decode prog_14_method_49_code 285 = .ok (.iastore, 1) := by decide +kernel
theorem dc12_goYear_286 : decode prog_14_method_49_code 286 = .ok (.aload_n 0, 1) := by decide +kernel
theorem dc12_goYear_287 : decode prog_14_method_49_code 287 = .ok (.dup, 1) := by decide +kernel
theorem dc12_goYear_288 : decode prog_14_method_49_code 288 = .ok (.getfield 342, 3) := by decide +kernel
theorem dc12_goYear_291 : decode prog_14_method_49_code 291 = .ok (.aload_n 0, 1) := by decide +kernel
theorem dc12_goYear_292 : decode prog_14_method_49_code 292 = .ok (.getfield 75, 3) := by decide +kernel
theorem dc12_goYear_295 : decode prog_14_method_49_code 295 = .ok (.iload 6, 2) := by decide +kernel
theorem dc12_goYear_297 : decode prog_14_method_49_code 297 = .ok (.iaload, 1) := by decide +kernel
theorem dc12_goYear_298 : decode prog_14_method_49_code 298 = .ok (.iadd, 1) := by decide +kernel
theorem dc12_goYear_299 : decode prog_14_method_49_code 299 = .ok (.putfield 342, 3) := by decide +kernel
theorem dc12_goYear_302 : decode prog_14_method_49_code 302 = .ok (.aload_n 1, 1) := by decide +kernel
theorem dc12_goYear_303 : decode prog_14_method_49_code 303 = .ok (.iload 7, 2) := by decide +kernel
theorem dc12_goYear_305 : decode prog_14_method_49_code 305 = .ok (.iconst 3, 1) := by decide +kernel
theorem dc12_goYear_306 : decode prog_14_method_49_code 306 = .ok (.iadd, 1) := by decide +kernel
theorem dc12_goYear_307 : decode prog_14_method_49_code 307 = .ok (.sipush 999, 3) := by decide +kernel
theorem dc12_goYear_310 : decode prog_14_method_49_code 310 = .ok (.aload_n 1, 1) := by decide +kernel
theorem dc12_goYear_311 : decode prog_14_method_49_code 311 = .ok (.iload 7, 2) := by decide +kernel
theorem dc12_goYear_313 : decode prog_14_method_49_code 313 = .ok (.iconst 3, 1) := by decide +kernel
theorem dc12_goYear_314 : decode prog_14_method_49_code 314 = .ok (.iadd, 1) := by decide +kernel
theorem dc12_goYear_315 : decode prog_14_method_49_code 315 = .ok (.iaload, 1) := by decide +kernel
theorem dc12_goYear_316 : decode prog_14_method_49_code 316 = .ok (.aload_n 0, 1) := by decide +kernel
theorem dc12_goYear_317 : decode prog_14_method_49_code 317 = .ok (.getfield 75, 3) := by decide +kernel
theorem dc12_goYear_320 : decode prog_14_method_49_code 320 = .ok (.iload 6, 2) := by decide +kernel
theorem dc12_goYear_322 : decode prog_14_method_49_code 322 = .ok (.iaload, 1) := by decide +kernel
theorem dc12_goYear_323 : decode prog_14_method_49_code 323 = .ok (.iadd, 1) := by decide +kernel
theorem dc12_goYear_324 : decode prog_14_method_49_code 324 = .ok (.invokestatic 324, 3) := by decide +kernel
theorem dc12_goYear_327 : decode prog_14_method_49_code 327 = .ok (.iastore, 1) := by decide +kernel
theorem dc12_goYear_328 : decode prog_14_method_49_code 328 = .ok (.iinc 6 1, 3) := by decide +kernel
theorem dc12_goYear_331 : decode prog_14_method_49_code 331 = .ok (.goto (-201), 3) := by decide +kernel
theorem dc12_goYear_334 : decode prog_14_method_49_code 334 = .ok (.aload_n 1, 1) := by decide +kernel
theorem dc12_goYear_335 : decode prog_14_method_49_code 335 = .ok (.bipush 25, 2) := by decide +kernel
theorem dc12_goYear_337 : decode prog_14_method_49_code 337 = .ok (.dup2, 1) := by decide +kernel
theorem dc12_goYear_338 : decode prog_14_method_49_code 338 = .ok (.iaload, 1) := by decide +kernel
theorem dc12_goYear_339 : decode prog_14_method_49_code 339 = .ok (.iconst 1, 1) := by decide +kernel
theorem dc12_goYear_340 : decode prog_14_method_49_code 340 = .ok (.iadd, 1) := by decide +kernel
theorem dc12_goYear_341 : decode prog_14_method_49_code 341 = .ok (.iastore, 1) := by decide +kernel
theorem dc12_goYear_342 : decode prog_14_method_49_code 342 = .ok (.aload_n 1, 1) := by decide +kernel
theorem dc12_goYear_343 : decode prog_14_method_49_code 343 = .ok (.bipush 26, 2) := by decide +kernel
theorem dc12_goYear_345 : decode prog_14_method_49_code 345 = .ok (.iaload, 1) := by decide +kernel
theorem dc12_goYear_346 : decode prog_14_method_49_code 346 = .ok (.bipush 60, 2) := by decide +kernel
theorem dc12_goYear_348 : decode prog_14_method_49_code 348 = .ok (.if_icmp .ne 44, 3) := by decide +kernel
theorem dc12_goYear_351 : decode prog_14_method_49_code 351 = .ok (.iconst 1, 1) := by decide +kernel
theorem dc12_goYear_352 : decode prog_14_method_49_code 352 = .ok (.istore 6, 2) := by decide +kernel
theorem dc12_goYear_354 : decode prog_14_method_49_code 354 = .ok (.iload 6, 2) := by decide +kernel
theorem dc12_goYear_356 : decode prog_14_method_49_code 356 = .ok (.sipush 177, 3) := by decide +kernel
theorem dc12_goYear_359 : decode prog_14_method_49_code 359 = .ok (.if_icmp .gt 25, 3) := by decide +kernel
theorem dc12_goYear_362 : decode prog_14_method_49_code 362 = .ok (.aload_n 1, 1) := by decide +kernel
theorem dc12_goYear_363 : decode prog_14_method_49_code 363 = .ok (.bipush 26, 2) := by decide +kernel
theorem dc12_goYear_365 : decode prog_14_method_49_code 365 = .ok (.iload 6, 2) := by decide +kernel
theorem dc12_goYear_367 : decode prog_14_method_49_code 367 = .ok (.iadd, 1) := by decide +kernel
theorem dc12_goYear_368 : decode prog_14_method_49_code 368 = .ok (.aload_n 1, 1) := by decide +kernel
theorem dc12_goYear_369 : decode prog_14_method_49_code 369 = .ok (.bipush 26, 2) := by decide +kernel
theorem dc12_goYear_371 : decode prog_14_method_49_code 371 = .ok (.iload 6, 2) := by decide +kernel
theorem dc12_goYear_373 : decode prog_14_method_49_code 373 = .ok (.iadd, 1) := by decide +kernel
theorem dc12_goYear_374 : decode prog_14_method_49_code 374 = .ok (.iconst 3, 1) := by decide +kernel
theorem dc12_goYear_375 : decode prog_14_method_49_code 375 = .ok (.iadd, 1) := by decide +kernel
theorem dc12_goYear_376 : decode prog_14_method_49_code 376 = .ok (.iaload, 1) := by decide +kernel
theorem dc12_goYear_377 : decode prog_14_method_49_code 377 = .ok (.iastore, 1) := by decide +kernel
theorem dc12_goYear_378 : decode prog_14_method_49_code 378 = .ok (.iinc 6 1, 3) := by decide +kernel
theorem dc12_goYear_381 : decode prog_14_method_49_code 381 = .ok (.goto (-27), 3) := by decide +kernel
theorem dc12_goYear_384 : decode prog_14_method_49_code 384 = .ok (.aload_n 1, 1) := by decide +kernel
theorem dc12_goYear_385 : decode prog_14_method_49_code 385 = .ok (.bipush 26, 2) := by decide +kernel
theorem dc12_goYear_387 : decode prog_14_method_49_code 387 = .ok (.dup2, 1) := by decide +kernel
theorem dc12_goYear_388 : decode prog_14_method_49_code 388 = .ok (.iaload, 1) := by decide +kernel
theorem dc12_goYear_389 : decode prog_14_method_49_code 389 = .ok (.iconst 1, 1) := by decide +kernel
theorem dc12_goYear_390 : decode prog_14_method_49_code 390 = .ok (.isub, 1) := by decide +kernel
theorem dc12_goYear_391 : decode prog_14_method_49_code 391 = .ok (.iastore, 1) := by decide +kernel
theorem dc12_goYear_392 : decode prog_14_method_49_code 392 = .ok (.bipush 27, 2) := by decide +kernel
theorem dc12_goYear_394 : decode prog_14_method_49_code 394 = .ok (.iconst 3, 1) := by decide +kernel
theorem dc12_goYear_395 : decode prog_14_method_49_code 395 = .ok (.aload_n 1, 1) := by decide +kernel
theorem dc12_goYear_396 : decode prog_14_method_49_code 396 = .ok (.bipush 26, 2) := by decide +kernel
theorem dc12_goYear_398 : decode prog_14_method_49_code 398 = .ok (.iaload, 1) := by decide +kernel
theorem dc12_goYear_399 : decode prog_14_method_49_code 399 = .ok (.imul, 1) := by decide +kernel
theorem dc12_goYear_400 : decode prog_14_method_49_code 400 = .ok (.iadd, 1) := by decide +kernel
theorem dc12_goYear_401 : decode prog_14_method_49_code 401 = .ok (.istore 6, 2) := by decide +kernel
theorem dc12_goYear_403 : decode prog_14_method_49_code 403 = .ok (.aload_n 1, 1) := by decide +kernel
theorem dc12_goYear_404 : decode prog_14_method_49_code 404 = .ok (.iload 6, 2) := by decide +kernel
theorem dc12_goYear_406 : decode prog_14_method_49_code 406 = .ok (.iload_n 2, 1) := by decide +kernel
theorem dc12_goYear_407 : decode prog_14_method_49_code 407 = .ok (.iastore, 1) := by decide +kernel
theorem dc12_goYear_408 : decode prog_14_method_49_code 408 = .ok (.aload_n 1, 1) := by decide +kernel
theorem dc12_goYear_409 : decode prog_14_method_49_code 409 = .ok (.iload 6, 2) := by decide +kernel
theorem dc12_goYear_411 : decode prog_14_method_49_code 411 = .ok (.iconst 1, 1) := by decide +kernel
theorem dc12_goYear_412 : decode prog_14_method_49_code 412 = .ok (.iadd, 1) := by decide +kernel
theorem dc12_goYear_413 : decode prog_14_method_49_code 413 = .ok (.aload_n 0, 1) := by decide +kernel
theorem dc12_goYear_414 : decode prog_14_method_49_code 414 = .ok (.getfield 339, 3) := by decide +kernel
theorem dc12_goYear_417 : decode prog_14_method_49_code 417 = .ok (.iastore, 1) := by decide +kernel
theorem dc12_goYear_418 : decode prog_14_method_49_code 418 = .ok (.aload_n 1, 1) := by decide +kernel
theorem dc12_goYear_419 : decode prog_14_method_49_code 419 = .ok (.iload 6, 2) := by decide +kernel
theorem dc12_goYear_421 : decode prog_14_method_49_code 421 = .ok (.iconst 2, 1) := by decide +kernel
theorem dc12_goYear_422 : decode prog_14_method_49_code 422 = .ok (.iadd, 1) := by decide +kernel
theorem dc12_goYear_423 : decode prog_14_method_49_code 423 = .ok (.aload_n 0, 1) := by decide +kernel
theorem dc12_goYear_424 : decode prog_14_method_49_code 424 = .ok (.getfield 342, 3) := by decide +kernel
theorem dc12_goYear_427 : decode prog_14_method_49_code 427 = .ok (.iastore, 1) := by decide +kernel
theorem dc12_goYear_428 : decode prog_14_method_49_code 428 = .ok (.aload_n 1, 1) := by decide +kernel
theorem dc12_goYear_429 : decode prog_14_method_49_code 429 = .ok (.bipush 26, 2) := by decide +kernel
theorem dc12_goYear_431 : decode prog_14_method_49_code 431 = .ok (.dup2, 1) := by decide +kernel
theorem dc12_goYear_432 : decode prog_14_method_49_code 432 = .ok (.iaload, 1) := by decide +kernel
theorem dc12_goYear_433 : decode prog_14_method_49_code 433 = .ok (.iconst 1, 1) := by decide +kernel
theorem dc12_goYear_434 : decode prog_14_method_49_code 434 = .ok (.iadd, 1) := by decide +kernel
theorem dc12_goYear_435 : decode prog_14_method_49_code 435 = .ok (.iastore, 1) := by decide +kernel
theorem dc12_goYear_436 : decode prog_14_method_49_code 436 = .ok (.return_, 1) := by decide +kernel
theorem dc12_withInterest_0 : decode prog_14_method_47_code 0 = .ok (.sipush 999, 3) := by decide +kernel
theorem dc12_withInterest_3 : decode prog_14_method_47_code 3 = .ok (.iload_n 1, 1) := by decide +kernel
theorem dc12_withInterest_4 : decode prog_14_method_47_code 4 = .ok (.iload_n 1, 1) := by decide +kernel
theorem dc12_withInterest_5 : decode prog_14_method_47_code 5 = .ok (.aload_n 0, 1) := by decide +kernel
theorem dc12_withInterest_6 : decode prog_14_method_47_code 6 = .ok (.getfield 37, 3) := by decide +kernel
theorem dc12_withInterest_9 : decode prog_14_method_47_code 9 = .ok (.iconst 0, 1) := by decide +kernel
theorem dc12_withInterest_10 : decode prog_14_method_47_code 10 = .ok (.iaload, 1) := by decide +kernel
theorem dc12_withInterest_11 : decode prog_14_method_47_code 11 = .ok (.imul, 1) := by decide +kernel
theorem dc12_withInterest_12 : decode prog_14_method_47_code 12 = .ok (.bipush 10, 2) := by decide +kernel
theorem dc12_withInterest_14 : decode prog_14_method_47_code 14 = .ok (.idiv, 1) := by decide +kernel
theorem dc12_withInterest_15 : decode prog_14_method_47_code 15 = .ok (.iadd, 1) := by decide +kernel
theorem dc12_withInterest_16 : decode prog_14_method_47_code 16 = .ok (.invokestatic 324, 3) := by decide +kernel
theorem dc12_withInterest_19 : decode prog_14_method_47_code 19 = .ok (.ireturn, 1) := by decide +kernel
theorem dc12_nextIn_0 : decode prog_14_method_48_code 0 = .ok (.iconst (-1), 1) := by decide +kernel
theorem dc12_nextIn_1 : decode prog_14_method_48_code 1 = .ok (.istore_n 3, 1) := by decide +kernel
theorem dc12_nextIn_2 : decode prog_14_method_48_code 2 = .ok (.iconst 0, 1) := by decide +kernel
theorem dc12_nextIn_3 : decode prog_14_method_48_code 3 = .ok (.istore 4, 2) := by decide +kernel
theorem dc12_nextIn_5 : decode prog_14_method_48_code 5 = .ok (.iload 4, 2) := by decide +kernel
theorem dc12_nextIn_7 : decode prog_14_method_48_code 7 = .ok (.aload_n 0, 1) := by decide +kernel
theorem dc12_nextIn_8 : decode prog_14_method_48_code 8 = .ok (.getfield 290, 3) := by decide +kernel
theorem dc12_nextIn_11 : decode prog_14_method_48_code 11 = .ok (.if_icmp .ge 44, 3) := by decide +kernel
theorem dc12_nextIn_14 : decode prog_14_method_48_code 14 = .ok (.iload_n 2, 1) := by decide +kernel
theorem dc12_nextIn_15 : decode prog_14_method_48_code 15 = .ok (.iload 4, 2) := by decide +kernel
theorem dc12_nextIn_17 : decode prog_14_method_48_code 17 = .ok (.invokestatic 233, 3) := by decide +kernel
theorem dc12_nextIn_20 : decode prog_14_method_48_code 20 = .ok (.ifCond .ne 29, 3) := by decide +kernel
theorem dc12_nextIn_23 : decode prog_14_method_48_code 23 = .ok (.iload_n 3, 1) := by decide +kernel
theorem dc12_nextIn_24 : decode prog_14_method_48_code 24 = .ok (.iconst (-1), 1) := by decide +kernel
theorem dc12_nextIn_25 : decode prog_14_method_48_code 25 = .ok (.if_icmp .eq 21, 3) := by decide +kernel
theorem dc12_nextIn_28 : decode prog_14_method_48_code 28 = .ok (.aload_n 1, 1) := by decide +kernel
theorem dc12_nextIn_29 : decode prog_14_method_48_code 29 = .ok (.iconst 4, 1) := by decide +kernel
theorem dc12_nextIn_30 : decode prog_14_method_48_code 30 = .ok (.iload 4, 2) := by decide +kernel
theorem dc12_nextIn_32 : decode prog_14_method_48_code 32 = .ok (.imul, 1) := by decide +kernel
theorem dc12_nextIn_33 : decode prog_14_method_48_code 33 = .ok (.iconst 0, 1) := by decide +kernel
theorem dc12_nextIn_34 : decode prog_14_method_48_code 34 = .ok (.iadd, 1) := by decide +kernel
theorem dc12_nextIn_35 : decode prog_14_method_48_code 35 = .ok (.iaload, 1) := by decide +kernel
theorem dc12_nextIn_36 : decode prog_14_method_48_code 36 = .ok (.aload_n 1, 1) := by decide +kernel
theorem dc12_nextIn_37 : decode prog_14_method_48_code 37 = .ok (.iconst 4, 1) := by decide +kernel
theorem dc12_nextIn_38 : decode prog_14_method_48_code 38 = .ok (.iload_n 3, 1) := by decide +kernel
theorem dc12_nextIn_39 : decode prog_14_method_48_code 39 = .ok (.imul, 1) := by decide +kernel
theorem dc12_nextIn_40 : decode prog_14_method_48_code 40 = .ok (.iconst 0, 1) := by decide +kernel
theorem dc12_nextIn_41 : decode prog_14_method_48_code 41 = .ok (.iadd, 1) := by decide +kernel
theorem dc12_nextIn_42 : decode prog_14_method_48_code 42 = .ok (.iaload, 1) := by decide +kernel
theorem dc12_nextIn_43 : decode prog_14_method_48_code 43 = .ok (.if_icmp .le 6, 3) := by decide +kernel
theorem dc12_nextIn_46 : decode prog_14_method_48_code 46 = .ok (.iload 4, 2) := by decide +kernel
theorem dc12_nextIn_48 : decode prog_14_method_48_code 48 = .ok (.istore_n 3, 1) := by decide +kernel
theorem dc12_nextIn_49 : decode prog_14_method_48_code 49 = .ok (.iinc 4 1, 3) := by decide +kernel
theorem dc12_nextIn_52 : decode prog_14_method_48_code 52 = .ok (.goto (-47), 3) := by decide +kernel
theorem dc12_nextIn_55 : decode prog_14_method_48_code 55 = .ok (.iload_n 3, 1) := by decide +kernel
theorem dc12_nextIn_56 : decode prog_14_method_48_code 56 = .ok (.ireturn, 1) := by decide +kernel
theorem dc12_paid_0 : decode prog_14_method_46_code 0 = .ok (.aload_n 1, 1) := by decide +kernel
theorem dc12_paid_1 : decode prog_14_method_46_code 1 = .ok (.iconst 4, 1) := by decide +kernel
theorem dc12_paid_2 : decode prog_14_method_46_code 2 = .ok (.iload_n 2, 1) := by decide +kernel
theorem dc12_paid_3 : decode prog_14_method_46_code 3 = .ok (.imul, 1) := by decide +kernel
theorem dc12_paid_4 : decode prog_14_method_46_code 4 = .ok (.iconst 0, 1) := by decide +kernel
theorem dc12_paid_5 : decode prog_14_method_46_code 5 = .ok (.iadd, 1) := by decide +kernel
theorem dc12_paid_6 : decode prog_14_method_46_code 6 = .ok (.iaload, 1) := by decide +kernel
theorem dc12_paid_7 : decode prog_14_method_46_code 7 = .ok (.iconst 2, 1) := by decide +kernel
theorem dc12_paid_8 : decode prog_14_method_46_code 8 = .ok (.idiv, 1) := by decide +kernel
theorem dc12_paid_9 : decode prog_14_method_46_code 9 = .ok (.istore 4, 2) := by decide +kernel
theorem dc12_paid_11 : decode prog_14_method_46_code 11 = .ok (.aload_n 0, 1) := by decide +kernel
theorem dc12_paid_12 : decode prog_14_method_46_code 12 = .ok (.getfield 61, 3) := by decide +kernel
theorem dc12_paid_15 : decode prog_14_method_46_code 15 = .ok (.iconst (-1), 1) := by decide +kernel
theorem dc12_paid_16 : decode prog_14_method_46_code 16 = .ok (.if_icmp .eq 82, 3) := by decide +kernel
theorem dc12_paid_19 : decode prog_14_method_46_code 19 = .ok (.aload_n 0, 1) := by decide +kernel
theorem dc12_paid_20 : decode prog_14_method_46_code 20 = .ok (.getfield 20, 3) := by decide +kernel
theorem dc12_paid_23 : decode prog_14_method_46_code 23 = .ok (.bipush 111, 2) := by decide +kernel
theorem dc12_paid_25 : decode prog_14_method_46_code 25 = .ok (.aload_n 1, 1) := by decide +kernel
theorem dc12_paid_26 : decode prog_14_method_46_code 26 = .ok (.iconst 4, 1) := by decide +kernel
theorem dc12_paid_27 : decode prog_14_method_46_code 27 = .ok (.iload_n 2, 1) := by decide +kernel
theorem dc12_paid_28 : decode prog_14_method_46_code 28 = .ok (.imul, 1) := by decide +kernel
theorem dc12_paid_29 : decode prog_14_method_46_code 29 = .ok (.iconst 0, 1) := by decide +kernel
theorem dc12_paid_30 : decode prog_14_method_46_code 30 = .ok (.iadd, 1) := by decide +kernel
theorem dc12_paid_31 : decode prog_14_method_46_code 31 = .ok (.iaload, 1) := by decide +kernel
theorem dc12_paid_32 : decode prog_14_method_46_code 32 = .ok (.iastore, 1) := by decide +kernel
theorem dc12_paid_33 : decode prog_14_method_46_code 33 = .ok (.aload_n 0, 1) := by decide +kernel
theorem dc12_paid_34 : decode prog_14_method_46_code 34 = .ok (.getfield 20, 3) := by decide +kernel
theorem dc12_paid_37 : decode prog_14_method_46_code 37 = .ok (.bipush 110, 2) := by decide +kernel
theorem dc12_paid_39 : decode prog_14_method_46_code 39 = .ok (.aload_n 1, 1) := by decide +kernel
theorem dc12_paid_40 : decode prog_14_method_46_code 40 = .ok (.iconst 4, 1) := by decide +kernel
theorem dc12_paid_41 : decode prog_14_method_46_code 41 = .ok (.iload_n 2, 1) := by decide +kernel
theorem dc12_paid_42 : decode prog_14_method_46_code 42 = .ok (.imul, 1) := by decide +kernel
theorem dc12_paid_43 : decode prog_14_method_46_code 43 = .ok (.iconst 1, 1) := by decide +kernel
theorem dc12_paid_44 : decode prog_14_method_46_code 44 = .ok (.iadd, 1) := by decide +kernel
theorem dc12_paid_45 : decode prog_14_method_46_code 45 = .ok (.iaload, 1) := by decide +kernel
theorem dc12_paid_46 : decode prog_14_method_46_code 46 = .ok (.iastore, 1) := by decide +kernel
theorem dc12_paid_47 : decode prog_14_method_46_code 47 = .ok (.aload_n 0, 1) := by decide +kernel
theorem dc12_paid_48 : decode prog_14_method_46_code 48 = .ok (.getfield 20, 3) := by decide +kernel
theorem dc12_paid_51 : decode prog_14_method_46_code 51 = .ok (.bipush 119, 2) := by decide +kernel
theorem dc12_paid_53 : decode prog_14_method_46_code 53 = .ok (.aload_n 1, 1) := by decide +kernel
theorem dc12_paid_54 : decode prog_14_method_46_code 54 = .ok (.iconst 4, 1) := by decide +kernel
theorem dc12_paid_55 : decode prog_14_method_46_code 55 = .ok (.iload_n 2, 1) := by decide +kernel
theorem dc12_paid_56 : decode prog_14_method_46_code 56 = .ok (.imul, 1) := by decide +kernel
theorem dc12_paid_57 : decode prog_14_method_46_code 57 = .ok (.iconst 2, 1) := by decide +kernel
theorem dc12_paid_58 : decode prog_14_method_46_code 58 = .ok (.iadd, 1) := by decide +kernel
theorem dc12_paid_59 : decode prog_14_method_46_code 59 = .ok (.iaload, 1) := by decide +kernel
theorem dc12_paid_60 : decode prog_14_method_46_code 60 = .ok (.iastore, 1) := by decide +kernel
theorem dc12_paid_61 : decode prog_14_method_46_code 61 = .ok (.aload_n 0, 1) := by decide +kernel
theorem dc12_paid_62 : decode prog_14_method_46_code 62 = .ok (.getfield 20, 3) := by decide +kernel
theorem dc12_paid_65 : decode prog_14_method_46_code 65 = .ok (.bipush 118, 2) := by decide +kernel
theorem dc12_paid_67 : decode prog_14_method_46_code 67 = .ok (.aload_n 0, 1) := by decide +kernel
theorem dc12_paid_68 : decode prog_14_method_46_code 68 = .ok (.iload_n 2, 1) := by decide +kernel
theorem dc12_paid_69 : decode prog_14_method_46_code 69 = .ok (.invokevirtual 318, 3) := by decide +kernel
theorem dc12_paid_72 : decode prog_14_method_46_code 72 = .ok (.iastore, 1) := by decide +kernel
theorem dc12_paid_73 : decode prog_14_method_46_code 73 = .ok (.aload_n 0, 1) := by decide +kernel
theorem dc12_paid_74 : decode prog_14_method_46_code 74 = .ok (.getfield 20, 3) := by decide +kernel
theorem dc12_paid_77 : decode prog_14_method_46_code 77 = .ok (.bipush 115, 2) := by decide +kernel
theorem dc12_paid_79 : decode prog_14_method_46_code 79 = .ok (.iload_n 3, 1) := by decide +kernel
theorem dc12_paid_80 : decode prog_14_method_46_code 80 = .ok (.iastore, 1) := by decide +kernel
theorem dc12_paid_81 : decode prog_14_method_46_code 81 = .ok (.aload_n 0, 1) := by decide +kernel
theorem dc12_paid_82 : decode prog_14_method_46_code 82 = .ok (.getfield 20, 3) := by decide +kernel
theorem dc12_paid_85 : decode prog_14_method_46_code 85 = .ok (.bipush 116, 2) := by decide +kernel
theorem dc12_paid_87 : decode prog_14_method_46_code 87 = .ok (.aload_n 1, 1) := by decide +kernel
