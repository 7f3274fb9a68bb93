theorem dc11_together_18 : decode prog_1_method_63_code 18 = .ok (.invokevirtual 140, 3) := by decide +kernel
theorem dc11_together_21 : decode prog_1_method_63_code 21 = .ok (.iconst 1, 1) := by decide +kernel
theorem dc11_together_22 : decode prog_1_method_63_code 22 = .ok (.istore_n 2, 1) := by decide +kernel
theorem dc11_together_23 : decode prog_1_method_63_code 23 = .ok (.iload_n 2, 1) := by decide +kernel
theorem dc11_together_24 : decode prog_1_method_63_code 24 = .ok (.bipush 60, 2) := by decide +kernel
theorem dc11_together_26 : decode prog_1_method_63_code 26 = .ok (.if_icmp .gt 48, 3) := by decide +kernel
theorem dc11_together_29 : decode prog_1_method_63_code 29 = .ok (.aload_n 0, 1) := by decide +kernel
theorem dc11_together_30 : decode prog_1_method_63_code 30 = .ok (.getfield 68, 3) := by decide +kernel
theorem dc11_together_33 : decode prog_1_method_63_code 33 = .ok (.aload_n 0, 1) := by decide +kernel
theorem dc11_together_34 : decode prog_1_method_63_code 34 = .ok (.getfield 62, 3) := by decide +kernel
theorem dc11_together_37 : decode prog_1_method_63_code 37 = .ok (.iload_n 1, 1) := by decide +kernel
theorem dc11_together_38 : decode prog_1_method_63_code 38 = .ok (.invokevirtual 315, 3) := by decide +kernel
theorem dc11_together_41 : decode prog_1_method_63_code 41 = .ok (.aload_n 0, 1) := by decide +kernel
theorem dc11_together_42 : decode prog_1_method_63_code 42 = .ok (.getfield 68, 3) := by decide +kernel
theorem dc11_together_45 : decode prog_1_method_63_code 45 = .ok (.getfield 319, 3) := by decide +kernel
theorem dc11_together_48 : decode prog_1_method_63_code 48 = .ok (.invokestatic 453, 3) := by decide +kernel
theorem dc11_together_51 : decode prog_1_method_63_code 51 = .ok (.iconst 2, 1) := by decide +kernel
theorem dc11_together_52 : decode prog_1_method_63_code 52 = .ok (.if_icmp .lt 5, 3) := by decide +kernel
theorem dc11_together_55 : decode prog_1_method_63_code 55 = .ok (.iload_n 2, 1) := by decide +kernel
theorem dc11_together_56 : decode prog_1_method_63_code 56 = .ok (.ireturn, 1) := by decide +kernel
theorem dc11_together_57 : decode prog_1_method_63_code 57 = .ok (.aload_n 0, 1) := by decide +kernel
theorem dc11_together_58 : decode prog_1_method_63_code 58 = .ok (.getfield 68, 3) := by decide +kernel
theorem dc11_together_61 : decode prog_1_method_63_code 61 = .ok (.aload_n 0, 1) := by decide +kernel
theorem dc11_together_62 : decode prog_1_method_63_code 62 = .ok (.getfield 62, 3) := by decide +kernel
theorem dc11_together_65 : decode prog_1_method_63_code 65 = .ok (.invokevirtual 329, 3) := by decide +kernel
theorem dc11_together_68 : decode prog_1_method_63_code 68 = .ok (.iinc 2 1, 3) := by decide +kernel
theorem dc11_together_71 : decode prog_1_method_63_code 71 = .ok (.goto (-48), 3) := by decide +kernel
theorem dc11_together_74 : decode prog_1_method_63_code 74 = .ok (.iconst (-1), 1) := by decide +kernel
theorem dc11_together_75 : decode prog_1_method_63_code 75 = .ok (.ireturn, 1) := by decide +kernel
theorem dc11_field_0 : decode prog_1_method_11_code 0 = .ok (.aload_n 0, 1) := by decide +kernel
theorem dc11_field_1 : decode prog_1_method_11_code 1 = .ok (.getfield 58, 3) := by decide +kernel
theorem dc11_field_4 : decode prog_1_method_11_code 4 = .ok (.iload_n 1, 1) := by decide +kernel
theorem dc11_field_5 : decode prog_1_method_11_code 5 = .ok (.invokevirtual 180, 3) := by decide +kernel
theorem dc11_field_8 : decode prog_1_method_11_code 8 = .ok (.ifCond .eq 12, 3) := by decide +kernel
theorem dc11_field_11 : decode prog_1_method_11_code 11 = .ok (.iload_n 2, 1) := by decide +kernel
theorem dc11_field_12 : decode prog_1_method_11_code 12 = .ok (.ifCond .lt 8, 3) := by decide +kernel
theorem dc11_field_15 : decode prog_1_method_11_code 15 = .ok (.iload_n 2, 1) := by decide +kernel
theorem dc11_field_16 : decode prog_1_method_11_code 16 = .ok (.iconst 4, 1) := by decide +kernel
theorem dc11_field_17 : decode prog_1_method_11_code 17 = .ok (.if_icmp .le 11, 3) := by decide +kernel
theorem dc11_field_20 : decode prog_1_method_11_code 20 = .ok (.new 183, 3) := by decide +kernel
theorem dc11_field_23 : decode prog_1_method_11_code 23 = .ok (.dup, 1) := by decide +kernel
theorem dc11_field_24 : decode prog_1_method_11_code 24 = .ok (.invokespecial 185, 3) := by decide +kernel
theorem dc11_field_27 : decode prog_1_method_11_code 27 = .ok (.athrow, 1) := by decide +kernel
theorem dc11_field_28 : decode prog_1_method_11_code 28 = .ok (.iload_n 2, 1) := by decide +kernel
theorem dc11_field_29 : decode prog_1_method_11_code 29 = .ok (.tableswitch 71 0 3 #[31, 41, 51, 61], 31) := by decide +kernel
theorem dc11_field_60 : decode prog_1_method_11_code 60 = .ok (.aload_n 0, 1) := by decide +kernel
theorem dc11_field_61 : decode prog_1_method_11_code 61 = .ok (.getfield 58, 3) := by decide +kernel
theorem dc11_field_64 : decode prog_1_method_11_code 64 = .ok (.getfield 186, 3) := by decide +kernel
theorem dc11_field_67 : decode prog_1_method_11_code 67 = .ok (.iload_n 1, 1) := by decide +kernel
theorem dc11_field_68 : decode prog_1_method_11_code 68 = .ok (.iaload, 1) := by decide +kernel
theorem dc11_field_69 : decode prog_1_method_11_code 69 = .ok (.ireturn, 1) := by decide +kernel
theorem dc11_field_70 : decode prog_1_method_11_code 70 = .ok (.aload_n 0, 1) := by decide +kernel
theorem dc11_field_71 : decode prog_1_method_11_code 71 = .ok (.getfield 58, 3) := by decide +kernel
theorem dc11_field_74 : decode prog_1_method_11_code 74 = .ok (.getfield 189, 3) := by decide +kernel
theorem dc11_field_77 : decode prog_1_method_11_code 77 = .ok (.iload_n 1, 1) := by decide +kernel
theorem dc11_field_78 : decode prog_1_method_11_code 78 = .ok (.iaload, 1) := by decide +kernel
theorem dc11_field_79 : decode prog_1_method_11_code 79 = .ok (.ireturn, 1) := by decide +kernel
theorem dc11_field_80 : decode prog_1_method_11_code 80 = .ok (.aload_n 0, 1) := by decide +kernel
theorem dc11_field_81 : decode prog_1_method_11_code 81 = .ok (.getfield 58, 3) := by decide +kernel
theorem dc11_field_84 : decode prog_1_method_11_code 84 = .ok (.getfield 192, 3) := by decide +kernel
theorem dc11_field_87 : decode prog_1_method_11_code 87 = .ok (.iload_n 1, 1) := by decide +kernel
theorem dc11_field_88 : decode prog_1_method_11_code 88 = .ok (.iaload, 1) := by decide +kernel
theorem dc11_field_89 : decode prog_1_method_11_code 89 = .ok (.ireturn, 1) := by decide +kernel
theorem dc11_field_90 : decode prog_1_method_11_code 90 = .ok (.aload_n 0, 1) := by decide +kernel
theorem dc11_field_91 : decode prog_1_method_11_code 91 = .ok (.getfield 58, 3) := by decide +kernel
theorem dc11_field_94 : decode prog_1_method_11_code 94 = .ok (.getfield 195, 3) := by decide +kernel
theorem dc11_field_97 : decode prog_1_method_11_code 97 = .ok (.iload_n 1, 1) := by decide +kernel
theorem dc11_field_98 : decode prog_1_method_11_code 98 = .ok (.iaload, 1) := by decide +kernel
theorem dc11_field_99 : decode prog_1_method_11_code 99 = .ok (.ireturn, 1) := by decide +kernel
theorem dc11_field_100 : decode prog_1_method_11_code 100 = .ok (.aload_n 0, 1) := by decide +kernel
theorem dc11_field_101 : decode prog_1_method_11_code 101 = .ok (.getfield 58, 3) := by decide +kernel
theorem dc11_field_104 : decode prog_1_method_11_code 104 = .ok (.getfield 198, 3) := by decide +kernel
theorem dc11_field_107 : decode prog_1_method_11_code 107 = .ok (.iload_n 1, 1) := by decide +kernel
theorem dc11_field_108 : decode prog_1_method_11_code 108 = .ok (.iaload, 1) := by decide +kernel
theorem dc11_field_109 : decode prog_1_method_11_code 109 = .ok (.ireturn, 1) := by decide +kernel
