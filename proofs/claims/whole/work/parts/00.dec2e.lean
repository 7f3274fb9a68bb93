theorem dc12_greatest_56 : decode prog_14_method_104_code 56 = .ok (.ireturn, 1) := by decide +kernel
theorem dc12_sumOf_0 : decode prog_14_method_103_code 0 = .ok (.iconst 0, 1) := by decide +kernel
theorem dc12_sumOf_1 : decode prog_14_method_103_code 1 = .ok (.istore_n 2, 1) := by decide +kernel
theorem dc12_sumOf_2 : decode prog_14_method_103_code 2 = .ok (.iconst 0, 1) := by decide +kernel
theorem dc12_sumOf_3 : decode prog_14_method_103_code 3 = .ok (.istore_n 3, 1) := by decide +kernel
theorem dc12_sumOf_4 : decode prog_14_method_103_code 4 = .ok (.iload_n 3, 1) := by decide +kernel
theorem dc12_sumOf_5 : decode prog_14_method_103_code 5 = .ok (.aload_n 0, 1) := by decide +kernel
theorem dc12_sumOf_6 : decode prog_14_method_103_code 6 = .ok (.getfield 290, 3) := by decide +kernel
theorem dc12_sumOf_9 : decode prog_14_method_103_code 9 = .ok (.if_icmp .ge 22, 3) := by decide +kernel
theorem dc12_sumOf_12 : decode prog_14_method_103_code 12 = .ok (.iload_n 2, 1) := by decide +kernel
theorem dc12_sumOf_13 : decode prog_14_method_103_code 13 = .ok (.aload_n 0, 1) := by decide +kernel
theorem dc12_sumOf_14 : decode prog_14_method_103_code 14 = .ok (.getfield 55, 3) := by decide +kernel
theorem dc12_sumOf_17 : decode prog_14_method_103_code 17 = .ok (.iconst 4, 1) := by decide +kernel
theorem dc12_sumOf_18 : decode prog_14_method_103_code 18 = .ok (.iload_n 3, 1) := by decide +kernel
theorem dc12_sumOf_19 : decode prog_14_method_103_code 19 = .ok (.imul, 1) := by decide +kernel
theorem dc12_sumOf_20 : decode prog_14_method_103_code 20 = .ok (.iload_n 1, 1) := by decide +kernel
theorem dc12_sumOf_21 : decode prog_14_method_103_code 21 = .ok (.iadd, 1) := by decide +kernel
theorem dc12_sumOf_22 : decode prog_14_method_103_code 22 = .ok (.iaload, 1) := by decide +kernel
theorem dc12_sumOf_23 : decode prog_14_method_103_code 23 = .ok (.iadd, 1) := by decide +kernel
theorem dc12_sumOf_24 : decode prog_14_method_103_code 24 = .ok (.istore_n 2, 1) := by decide +kernel
theorem dc12_sumOf_25 : decode prog_14_method_103_code 25 = .ok (.iinc 3 1, 3) := by decide +kernel
theorem dc12_sumOf_28 : decode prog_14_method_103_code 28 = .ok (.goto (-24), 3) := by decide +kernel
theorem dc12_sumOf_31 : decode prog_14_method_103_code 31 = .ok (.iload_n 2, 1) := by decide +kernel
theorem dc12_sumOf_32 : decode prog_14_method_103_code 32 = .ok (.ireturn, 1) := by decide +kernel
theorem dc12_shares_0 : decode prog_14_method_106_code 0 = .ok (.aload_n 0, 1) := by decide +kernel
theorem dc12_shares_1 : decode prog_14_method_106_code 1 = .ok (.iconst 0, 1) := by decide +kernel
theorem dc12_shares_2 : decode prog_14_method_106_code 2 = .ok (.putfield 100, 3) := by decide +kernel
theorem dc12_shares_5 : decode prog_14_method_106_code 5 = .ok (.aload_n 0, 1) := by decide +kernel
theorem dc12_shares_6 : decode prog_14_method_106_code 6 = .ok (.iload_n 1, 1) := by decide +kernel
theorem dc12_shares_7 : decode prog_14_method_106_code 7 = .ok (.invokevirtual 353, 3) := by decide +kernel
theorem dc12_shares_10 : decode prog_14_method_106_code 10 = .ok (.ifCond .eq 15, 3) := by decide +kernel
theorem dc12_shares_13 : decode prog_14_method_106_code 13 = .ok (.iload_n 2, 1) := by decide +kernel
theorem dc12_shares_14 : decode prog_14_method_106_code 14 = .ok (.i2l, 1) := by decide +kernel
theorem dc12_shares_15 : decode prog_14_method_106_code 15 = .ok (.lconst 0, 1) := by decide +kernel
theorem dc12_shares_16 : decode prog_14_method_106_code 16 = .ok (.ldc2_w 463, 3) := by decide +kernel
theorem dc12_shares_19 : decode prog_14_method_106_code 19 = .ok (.invokestatic 221, 3) := by decide +kernel
theorem dc12_shares_22 : decode prog_14_method_106_code 22 = .ok (.ifCond .ne 5, 3) := by decide +kernel
theorem dc12_shares_25 : decode prog_14_method_106_code 25 = .ok (.iconst (-1), 1) := by decide +kernel
theorem dc12_shares_26 : decode prog_14_method_106_code 26 = .ok (.ireturn, 1) := by decide +kernel
theorem dc12_shares_27 : decode prog_14_method_106_code 27 = .ok (.aload_n 0, 1) := by decide +kernel
theorem dc12_shares_28 : decode prog_14_method_106_code 28 = .ok (.iconst 0, 1) := by decide +kernel
theorem dc12_shares_29 : decode prog_14_method_106_code 29 = .ok (.invokevirtual 460, 3) := by decide +kernel
theorem dc12_shares_32 : decode prog_14_method_106_code 32 = .ok (.istore_n 3, 1) := by decide +kernel
theorem dc12_shares_33 : decode prog_14_method_106_code 33 = .ok (.iload_n 3, 1) := by decide +kernel
theorem dc12_shares_34 : decode prog_14_method_106_code 34 = .ok (.ifCond .ne 7, 3) := by decide +kernel
theorem dc12_shares_37 : decode prog_14_method_106_code 37 = .ok (.iconst 0, 1) := by decide +kernel
theorem dc12_shares_38 : decode prog_14_method_106_code 38 = .ok (.goto 17, 3) := by decide +kernel
theorem dc12_shares_41 : decode prog_14_method_106_code 41 = .ok (.iload_n 2, 1) := by decide +kernel
theorem dc12_shares_42 : decode prog_14_method_106_code 42 = .ok (.aload_n 0, 1) := by decide +kernel
theorem dc12_shares_43 : decode prog_14_method_106_code 43 = .ok (.getfield 55, 3) := by decide +kernel
theorem dc12_shares_46 : decode prog_14_method_106_code 46 = .ok (.iconst 4, 1) := by decide +kernel
theorem dc12_shares_47 : decode prog_14_method_106_code 47 = .ok (.iload_n 1, 1) := by decide +kernel
theorem dc12_shares_48 : decode prog_14_method_106_code 48 = .ok (.imul, 1) := by decide +kernel
theorem dc12_shares_49 : decode prog_14_method_106_code 49 = .ok (.iconst 0, 1) := by decide +kernel
theorem dc12_shares_50 : decode prog_14_method_106_code 50 = .ok (.iadd, 1) := by decide +kernel
theorem dc12_shares_51 : decode prog_14_method_106_code 51 = .ok (.iaload, 1) := by decide +kernel
theorem dc12_shares_52 : decode prog_14_method_106_code 52 = .ok (.imul, 1) := by decide +kernel
theorem dc12_shares_53 : decode prog_14_method_106_code 53 = .ok (.iload_n 3, 1) := by decide +kernel
theorem dc12_shares_54 : decode prog_14_method_106_code 54 = .ok (.idiv, 1) := by decide +kernel
theorem dc12_shares_55 : decode prog_14_method_106_code 55 = .ok (.ireturn, 1) := by decide +kernel
theorem dc12_buyers_0 : decode prog_14_method_107_code 0 = .ok (.aload_n 0, 1) := by decide +kernel
theorem dc12_buyers_1 : decode prog_14_method_107_code 1 = .ok (.iconst 0, 1) := by decide +kernel
theorem dc12_buyers_2 : decode prog_14_method_107_code 2 = .ok (.putfield 100, 3) := by decide +kernel
theorem dc12_buyers_5 : decode prog_14_method_107_code 5 = .ok (.aload_n 0, 1) := by decide +kernel
theorem dc12_buyers_6 : decode prog_14_method_107_code 6 = .ok (.getfield 290, 3) := by decide +kernel
theorem dc12_buyers_9 : decode prog_14_method_107_code 9 = .ok (.ifCond .eq 15, 3) := by decide +kernel
theorem dc12_buyers_12 : decode prog_14_method_107_code 12 = .ok (.iload_n 1, 1) := by decide +kernel
theorem dc12_buyers_13 : decode prog_14_method_107_code 13 = .ok (.i2l, 1) := by decide +kernel
theorem dc12_buyers_14 : decode prog_14_method_107_code 14 = .ok (.lconst 1, 1) := by decide +kernel
theorem dc12_buyers_15 : decode prog_14_method_107_code 15 = .ok (.ldc2_w 369, 3) := by decide +kernel
theorem dc12_buyers_18 : decode prog_14_method_107_code 18 = .ok (.invokestatic 221, 3) := by decide +kernel
theorem dc12_buyers_21 : decode prog_14_method_107_code 21 = .ok (.ifCond .ne 5, 3) := by decide +kernel
theorem dc12_buyers_24 : decode prog_14_method_107_code 24 = .ok (.iconst (-1), 1) := by decide +kernel
theorem dc12_buyers_25 : decode prog_14_method_107_code 25 = .ok (.ireturn, 1) := by decide +kernel
theorem dc12_buyers_26 : decode prog_14_method_107_code 26 = .ok (.iconst 0, 1) := by decide +kernel
theorem dc12_buyers_27 : decode prog_14_method_107_code 27 = .ok (.istore_n 2, 1) := by decide +kernel
theorem dc12_buyers_28 : decode prog_14_method_107_code 28 = .ok (.iconst 0, 1) := by decide +kernel
theorem dc12_buyers_29 : decode prog_14_method_107_code 29 = .ok (.istore_n 3, 1) := by decide +kernel
theorem dc12_buyers_30 : decode prog_14_method_107_code 30 = .ok (.iload_n 3, 1) := by decide +kernel
theorem dc12_buyers_31 : decode prog_14_method_107_code 31 = .ok (.aload_n 0, 1) := by decide +kernel
theorem dc12_buyers_32 : decode prog_14_method_107_code 32 = .ok (.getfield 290, 3) := by decide +kernel
theorem dc12_buyers_35 : decode prog_14_method_107_code 35 = .ok (.if_icmp .ge 41, 3) := by decide +kernel
theorem dc12_buyers_38 : decode prog_14_method_107_code 38 = .ok (.iload_n 2, 1) := by decide +kernel
theorem dc12_buyers_39 : decode prog_14_method_107_code 39 = .ok (.aload_n 0, 1) := by decide +kernel
theorem dc12_buyers_40 : decode prog_14_method_107_code 40 = .ok (.getfield 55, 3) := by decide +kernel
theorem dc12_buyers_43 : decode prog_14_method_107_code 43 = .ok (.iconst 4, 1) := by decide +kernel
theorem dc12_buyers_44 : decode prog_14_method_107_code 44 = .ok (.iload_n 3, 1) := by decide +kernel
theorem dc12_buyers_45 : decode prog_14_method_107_code 45 = .ok (.imul, 1) := by decide +kernel
theorem dc12_buyers_46 : decode prog_14_method_107_code 46 = .ok (.iconst 3, 1) := by decide +kernel
theorem dc12_buyers_47 : decode prog_14_method_107_code 47 = .ok (.iadd, 1) := by decide +kernel
theorem dc12_buyers_48 : decode prog_14_method_107_code 48 = .ok (.iaload, 1) := by decide +kernel
theorem dc12_buyers_49 : decode prog_14_method_107_code 49 = .ok (.iload_n 1, 1) := by decide +kernel
theorem dc12_buyers_50 : decode prog_14_method_107_code 50 = .ok (.aload_n 0, 1) := by decide +kernel
theorem dc12_buyers_51 : decode prog_14_method_107_code 51 = .ok (.getfield 55, 3) := by decide +kernel
theorem dc12_buyers_54 : decode prog_14_method_107_code 54 = .ok (.bipush 24, 2) := by decide +kernel
theorem dc12_buyers_56 : decode prog_14_method_107_code 56 = .ok (.iaload, 1) := by decide +kernel
theorem dc12_buyers_57 : decode prog_14_method_107_code 57 = .ok (.imul, 1) := by decide +kernel
theorem dc12_buyers_58 : decode prog_14_method_107_code 58 = .ok (.if_icmp .lt 9, 3) := by decide +kernel
theorem dc12_buyers_61 : decode prog_14_method_107_code 61 = .ok (.iconst 1, 1) := by decide +kernel
theorem dc12_buyers_62 : decode prog_14_method_107_code 62 = .ok (.iload_n 3, 1) := by decide +kernel
theorem dc12_buyers_63 : decode prog_14_method_107_code 63 = .ok (.ishl, 1) := by decide +kernel
theorem dc12_buyers_64 : decode prog_14_method_107_code 64 = .ok (.goto 4, 3) := by decide +kernel
theorem dc12_buyers_67 : decode prog_14_method_107_code 67 = .ok (.iconst 0, 1) := by decide +kernel
theorem dc12_buyers_68 : decode prog_14_method_107_code 68 = .ok (.ior, 1) := by decide +kernel
theorem dc12_buyers_69 : decode prog_14_method_107_code 69 = .ok (.istore_n 2, 1) := by decide +kernel
theorem dc12_buyers_70 : decode prog_14_method_107_code 70 = .ok (.iinc 3 1, 3) := by decide +kernel
theorem dc12_buyers_73 : decode prog_14_method_107_code 73 = .ok (.goto (-43), 3) := by decide +kernel
theorem dc12_buyers_76 : decode prog_14_method_107_code 76 = .ok (.iload_n 2, 1) := by decide +kernel
theorem dc12_buyers_77 : decode prog_14_method_107_code 77 = .ok (.ireturn, 1) := by decide +kernel
theorem dc12_image_0 : decode prog_14_method_108_code 0 = .ok (.aload_n 0, 1) := by decide +kernel
theorem dc12_image_1 : decode prog_14_method_108_code 1 = .ok (.iconst 0, 1) := by decide +kernel
theorem dc12_image_2 : decode prog_14_method_108_code 2 = .ok (.putfield 100, 3) := by decide +kernel
theorem dc12_image_5 : decode prog_14_method_108_code 5 = .ok (.aload_n 0, 1) := by decide +kernel
theorem dc12_image_6 : decode prog_14_method_108_code 6 = .ok (.getfield 290, 3) := by decide +kernel
theorem dc12_image_9 : decode prog_14_method_108_code 9 = .ok (.ifCond .ne 5, 3) := by decide +kernel
theorem dc12_image_12 : decode prog_14_method_108_code 12 = .ok (.iconst (-1), 1) := by decide +kernel
theorem dc12_image_13 : decode prog_14_method_108_code 13 = .ok (.ireturn, 1) := by decide +kernel
theorem dc12_image_14 : decode prog_14_method_108_code 14 = .ok (.iconst 0, 1) := by decide +kernel
theorem dc12_image_15 : decode prog_14_method_108_code 15 = .ok (.istore_n 1, 1) := by decide +kernel
theorem dc12_image_16 : decode prog_14_method_108_code 16 = .ok (.iload_n 1, 1) := by decide +kernel
theorem dc12_image_17 : decode prog_14_method_108_code 17 = .ok (.sipush 207, 3) := by decide +kernel
theorem dc12_image_20 : decode prog_14_method_108_code 20 = .ok (.if_icmp .ge 21, 3) := by decide +kernel
theorem dc12_image_23 : decode prog_14_method_108_code 23 = .ok (.aload_n 0, 1) := by decide +kernel
theorem dc12_image_24 : decode prog_14_method_108_code 24 = .ok (.getfield 97, 3) := by decide +kernel
theorem dc12_image_27 : decode prog_14_method_108_code 27 = .ok (.iload_n 1, 1) := by decide +kernel
theorem dc12_image_28 : decode prog_14_method_108_code 28 = .ok (.aload_n 0, 1) := by decide +kernel
theorem dc12_image_29 : decode prog_14_method_108_code 29 = .ok (.getfield 55, 3) := by decide +kernel
theorem dc12_image_32 : decode prog_14_method_108_code 32 = .ok (.iload_n 1, 1) := by decide +kernel
theorem dc12_image_33 : decode prog_14_method_108_code 33 = .ok (.iaload, 1) := by decide +kernel
theorem dc12_image_34 : decode prog_14_method_108_code 34 = .ok (.iastore, 1) := by decide +kernel
theorem dc12_image_35 : decode prog_14_method_108_code 35 = .ok (.iinc 1 1, 3) := by decide +kernel
theorem dc12_image_38 : decode prog_14_method_108_code 38 = .ok (.goto (-22), 3) := by decide +kernel
theorem dc12_image_41 : decode prog_14_method_108_code 41 = .ok (.aload_n 0, 1) := by decide +kernel
theorem dc12_image_42 : decode prog_14_method_108_code 42 = .ok (.iconst 1, 1) := by decide +kernel
theorem dc12_image_43 : decode prog_14_method_108_code 43 = .ok (.putfield 299, 3) := by decide +kernel
theorem dc12_image_46 : decode prog_14_method_108_code 46 = .ok (.aload_n 0, 1) := by decide +kernel
theorem dc12_image_47 : decode prog_14_method_108_code 47 = .ok (.getfield 55, 3) := by decide +kernel
theorem dc12_image_50 : decode prog_14_method_108_code 50 = .ok (.bipush 25, 2) := by decide +kernel
theorem dc12_image_52 : decode prog_14_method_108_code 52 = .ok (.iaload, 1) := by decide +kernel
theorem dc12_image_53 : decode prog_14_method_108_code 53 = .ok (.ireturn, 1) := by decide +kernel
theorem dc12_back_0 : decode prog_14_method_109_code 0 = .ok (.aload_n 0, 1) := by decide +kernel
theorem dc12_back_1 : decode prog_14_method_109_code 1 = .ok (.iconst 0, 1) := by decide +kernel
theorem dc12_back_2 : decode prog_14_method_109_code 2 = .ok (.putfield 100, 3) := by decide +kernel
theorem dc12_back_5 : decode prog_14_method_109_code 5 = .ok (.aload_n 0, 1) := by decide +kernel
theorem dc12_back_6 : decode prog_14_method_109_code 6 = .ok (.getfield 299, 3) := by decide +kernel
theorem dc12_back_9 : decode prog_14_method_109_code 9 = .ok (.ifCond .ne 5, 3) := by decide +kernel
theorem dc12_back_12 : decode prog_14_method_109_code 12 = .ok (.iconst (-1), 1) := by decide +kernel
theorem dc12_back_13 : decode prog_14_method_109_code 13 = .ok (.ireturn, 1) := by decide +kernel
theorem dc12_back_14 : decode prog_14_method_109_code 14 = .ok (.iconst 0, 1) := by decide +kernel
theorem dc12_back_15 : decode prog_14_method_109_code 15 = .ok (.istore_n 1, 1) := by decide +kernel
theorem dc12_back_16 : decode prog_14_method_109_code 16 = .ok (.iload_n 1, 1) := by decide +kernel
theorem dc12_back_17 : decode prog_14_method_109_code 17 = .ok (.sipush 207, 3) := by decide +kernel
theorem dc12_back_20 : decode prog_14_method_109_code 20 = .ok (.if_icmp .ge 21, 3) := by decide +kernel
theorem dc12_back_23 : decode prog_14_method_109_code 23 = .ok (.aload_n 0, 1) := by decide +kernel
theorem dc12_back_24 : decode prog_14_method_109_code 24 = .ok (.getfield 55, 3) := by decide +kernel
theorem dc12_back_27 : decode prog_14_method_109_code 27 = .ok (.iload_n 1, 1) := by decide +kernel
theorem dc12_back_28 : decode prog_14_method_109_code 28 = .ok (.aload_n 0, 1) := by decide +kernel
theorem dc12_back_29 : decode prog_14_method_109_code 29 = .ok (.getfield 97, 3) := by decide +kernel
theorem dc12_back_32 : decode prog_14_method_109_code 32 = .ok (.iload_n 1, 1) := by decide +kernel
theorem dc12_back_33 : decode prog_14_method_109_code 33 = .ok (.iaload, 1) := by decide +kernel
theorem dc12_back_34 : decode prog_14_method_109_code 34 = .ok (.iastore, 1) := by decide +kernel
theorem dc12_back_35 : decode prog_14_method_109_code 35 = .ok (.iinc 1 1, 3) := by decide +kernel
theorem dc12_back_38 : decode prog_14_method_109_code 38 = .ok (.goto (-22), 3) := by decide +kernel
theorem dc12_back_41 : decode prog_14_method_109_code 41 = .ok (.aload_n 0, 1) := by decide +kernel
theorem dc12_back_42 : decode prog_14_method_109_code 42 = .ok (.iconst 0, 1) := by decide +kernel
theorem dc12_back_43 : decode prog_14_method_109_code 43 = .ok (.putfield 296, 3) := by decide +kernel
theorem dc12_back_46 : decode prog_14_method_109_code 46 = .ok (.aload_n 0, 1) := by decide +kernel
theorem dc12_back_47 : decode prog_14_method_109_code 47 = .ok (.getfield 55, 3) := by decide +kernel
theorem dc12_back_50 : decode prog_14_method_109_code 50 = .ok (.bipush 25, 2) := by decide +kernel
theorem dc12_back_52 : decode prog_14_method_109_code 52 = .ok (.iaload, 1) := by decide +kernel
theorem dc12_back_53 : decode prog_14_method_109_code 53 = .ok (.ireturn, 1) := by decide +kernel
theorem dc12_count_0 : decode prog_14_method_110_code 0 = .ok (.aload_n 0, 1) := by decide +kernel
theorem dc12_count_1 : decode prog_14_method_110_code 1 = .ok (.iconst 0, 1) := by decide +kernel
theorem dc12_count_2 : decode prog_14_method_110_code 2 = .ok (.putfield 100, 3) := by decide +kernel
theorem dc12_count_5 : decode prog_14_method_110_code 5 = .ok (.iload_n 1, 1) := by decide +kernel
theorem dc12_count_6 : decode prog_14_method_110_code 6 = .ok (.tableswitch 120 0 10 #[58, 63, 68, 73, 78, 83, 91, 97, 102, 107, 115], 58) := by decide +kernel
theorem dc12_count_64 : decode prog_14_method_110_code 64 = .ok (.aload_n 0, 1) := by decide +kernel
theorem dc12_count_65 : decode prog_14_method_110_code 65 = .ok (.getfield 290, 3) := by decide +kernel
theorem dc12_count_68 : decode prog_14_method_110_code 68 = .ok (.ireturn, 1) := by decide +kernel
theorem dc12_count_69 : decode prog_14_method_110_code 69 = .ok (.aload_n 0, 1) := by decide +kernel
theorem dc12_count_70 : decode prog_14_method_110_code 70 = .ok (.getfield 282, 3) := by decide +kernel
theorem dc12_count_73 : decode prog_14_method_110_code 73 = .ok (.ireturn, 1) := by decide +kernel
theorem dc12_count_74 : decode prog_14_method_110_code 74 = .ok (.aload_n 0, 1) := by decide +kernel
theorem dc12_count_75 : decode prog_14_method_110_code 75 = .ok (.getfield 285, 3) := by decide +kernel
theorem dc12_count_78 : decode prog_14_method_110_code 78 = .ok (.ireturn, 1) := by decide +kernel
theorem dc12_count_79 : decode prog_14_method_110_code 79 = .ok (.aload_n 0, 1) := by decide +kernel
theorem dc12_count_80 : decode prog_14_method_110_code 80 = .ok (.getfield 113, 3) := by decide +kernel
theorem dc12_count_83 : decode prog_14_method_110_code 83 = .ok (.ireturn, 1) := by decide +kernel
theorem dc12_count_84 : decode prog_14_method_110_code 84 = .ok (.aload_n 0, 1) := by decide +kernel
theorem dc12_count_85 : decode prog_14_method_110_code 85 = .ok (.getfield 61, 3) := by decide +kernel
theorem dc12_count_88 : decode prog_14_method_110_code 88 = .ok (.ireturn, 1) := by decide +kernel
theorem dc12_count_89 : decode prog_14_method_110_code 89 = .ok (.aload_n 0, 1) := by decide +kernel
theorem dc12_count_90 : decode prog_14_method_110_code 90 = .ok (.getfield 55, 3) := by decide +kernel
theorem dc12_count_93 : decode prog_14_method_110_code 93 = .ok (.bipush 25, 2) := by decide +kernel
theorem dc12_count_95 : decode prog_14_method_110_code 95 = .ok (.iaload, 1) := by decide +kernel
theorem dc12_count_96 : decode prog_14_method_110_code 96 = .ok (.ireturn, 1) := by decide +kernel
theorem dc12_count_97 : decode prog_14_method_110_code 97 = .ok (.aload_n 0, 1) := by decide +kernel
theorem dc12_count_98 : decode prog_14_method_110_code 98 = .ok (.iconst 3, 1) := by decide +kernel
theorem dc12_count_99 : decode prog_14_method_110_code 99 = .ok (.invokevirtual 460, 3) := by decide +kernel
theorem dc12_count_102 : decode prog_14_method_110_code 102 = .ok (.ireturn, 1) := by decide +kernel
theorem dc12_count_103 : decode prog_14_method_110_code 103 = .ok (.aload_n 0, 1) := by decide +kernel
theorem dc12_count_104 : decode prog_14_method_110_code 104 = .ok (.getfield 360, 3) := by decide +kernel
theorem dc12_count_107 : decode prog_14_method_110_code 107 = .ok (.ireturn, 1) := by decide +kernel
theorem dc12_count_108 : decode prog_14_method_110_code 108 = .ok (.aload_n 0, 1) := by decide +kernel
theorem dc12_count_109 : decode prog_14_method_110_code 109 = .ok (.getfield 293, 3) := by decide +kernel
theorem dc12_count_112 : decode prog_14_method_110_code 112 = .ok (.ireturn, 1) := by decide +kernel
theorem dc12_count_113 : decode prog_14_method_110_code 113 = .ok (.aload_n 0, 1) := by decide +kernel
theorem dc12_count_114 : decode prog_14_method_110_code 114 = .ok (.getfield 55, 3) := by decide +kernel
theorem dc12_count_117 : decode prog_14_method_110_code 117 = .ok (.bipush 26, 2) := by decide +kernel
theorem dc12_count_119 : decode prog_14_method_110_code 119 = .ok (.iaload, 1) := by decide +kernel
theorem dc12_count_120 : decode prog_14_method_110_code 120 = .ok (.ireturn, 1) := by decide +kernel
theorem dc12_count_121 : decode prog_14_method_110_code 121 = .ok (.aload_n 0, 1) := by decide +kernel
theorem dc12_count_122 : decode prog_14_method_110_code 122 = .ok (.getfield 296, 3) := by decide +kernel
theorem dc12_count_125 : decode prog_14_method_110_code 125 = .ok (.ireturn, 1) := by decide +kernel
theorem dc12_count_126 : decode prog_14_method_110_code 126 = .ok (.ldc_w 418, 3) := by decide +kernel
theorem dc12_count_129 : decode prog_14_method_110_code 129 = .ok (.ireturn, 1) := by decide +kernel
