theorem dc11_falls_21 : decode prog_1_method_38_code 21 = .ok (.getfield 68, 3) := by decide +kernel
theorem dc11_falls_24 : decode prog_1_method_38_code 24 = .ok (.aload_n 0, 1) := by decide +kernel
theorem dc11_falls_25 : decode prog_1_method_38_code 25 = .ok (.getfield 58, 3) := by decide +kernel
theorem dc11_falls_28 : decode prog_1_method_38_code 28 = .ok (.iload_n 2, 1) := by decide +kernel
theorem dc11_falls_29 : decode prog_1_method_38_code 29 = .ok (.invokevirtual 315, 3) := by decide +kernel
theorem dc11_falls_32 : decode prog_1_method_38_code 32 = .ok (.aload_n 0, 1) := by decide +kernel
theorem dc11_falls_33 : decode prog_1_method_38_code 33 = .ok (.getfield 68, 3) := by decide +kernel
theorem dc11_falls_36 : decode prog_1_method_38_code 36 = .ok (.getfield 343, 3) := by decide +kernel
theorem dc11_falls_39 : decode prog_1_method_38_code 39 = .ok (.iload_n 1, 1) := by decide +kernel
theorem dc11_falls_40 : decode prog_1_method_38_code 40 = .ok (.iaload, 1) := by decide +kernel
theorem dc11_falls_41 : decode prog_1_method_38_code 41 = .ok (.ireturn, 1) := by decide +kernel
theorem dc11_drowns_0 : decode prog_1_method_39_code 0 = .ok (.aload_n 0, 1) := by decide +kernel
theorem dc11_drowns_1 : decode prog_1_method_39_code 1 = .ok (.iload_n 1, 1) := by decide +kernel
theorem dc11_drowns_2 : decode prog_1_method_39_code 2 = .ok (.invokevirtual 251, 3) := by decide +kernel
theorem dc11_drowns_5 : decode prog_1_method_39_code 5 = .ok (.ifCond .ne 5, 3) := by decide +kernel
theorem dc11_drowns_8 : decode prog_1_method_39_code 8 = .ok (.iconst (-1), 1) := by decide +kernel
theorem dc11_drowns_9 : decode prog_1_method_39_code 9 = .ok (.ireturn, 1) := by decide +kernel
theorem dc11_drowns_10 : decode prog_1_method_39_code 10 = .ok (.aload_n 0, 1) := by decide +kernel
theorem dc11_drowns_11 : decode prog_1_method_39_code 11 = .ok (.getfield 68, 3) := by decide +kernel
theorem dc11_drowns_14 : decode prog_1_method_39_code 14 = .ok (.aload_n 0, 1) := by decide +kernel
theorem dc11_drowns_15 : decode prog_1_method_39_code 15 = .ok (.getfield 58, 3) := by decide +kernel
theorem dc11_drowns_18 : decode prog_1_method_39_code 18 = .ok (.iload_n 1, 1) := by decide +kernel
theorem dc11_drowns_19 : decode prog_1_method_39_code 19 = .ok (.invokevirtual 315, 3) := by decide +kernel
theorem dc11_drowns_22 : decode prog_1_method_39_code 22 = .ok (.aload_n 0, 1) := by decide +kernel
theorem dc11_drowns_23 : decode prog_1_method_39_code 23 = .ok (.getfield 68, 3) := by decide +kernel
theorem dc11_drowns_26 : decode prog_1_method_39_code 26 = .ok (.getfield 319, 3) := by decide +kernel
theorem dc11_drowns_29 : decode prog_1_method_39_code 29 = .ok (.ireturn, 1) := by decide +kernel
theorem dc11_harvest_0 : decode prog_1_method_40_code 0 = .ok (.aload_n 0, 1) := by decide +kernel
theorem dc11_harvest_1 : decode prog_1_method_40_code 1 = .ok (.iload_n 1, 1) := by decide +kernel
theorem dc11_harvest_2 : decode prog_1_method_40_code 2 = .ok (.invokevirtual 251, 3) := by decide +kernel
theorem dc11_harvest_5 : decode prog_1_method_40_code 5 = .ok (.ifCond .ne 5, 3) := by decide +kernel
theorem dc11_harvest_8 : decode prog_1_method_40_code 8 = .ok (.iconst (-1), 1) := by decide +kernel
theorem dc11_harvest_9 : decode prog_1_method_40_code 9 = .ok (.ireturn, 1) := by decide +kernel
theorem dc11_harvest_10 : decode prog_1_method_40_code 10 = .ok (.aload_n 0, 1) := by decide +kernel
theorem dc11_harvest_11 : decode prog_1_method_40_code 11 = .ok (.getfield 68, 3) := by decide +kernel
theorem dc11_harvest_14 : decode prog_1_method_40_code 14 = .ok (.aload_n 0, 1) := by decide +kernel
theorem dc11_harvest_15 : decode prog_1_method_40_code 15 = .ok (.getfield 58, 3) := by decide +kernel
theorem dc11_harvest_18 : decode prog_1_method_40_code 18 = .ok (.iload_n 1, 1) := by decide +kernel
theorem dc11_harvest_19 : decode prog_1_method_40_code 19 = .ok (.invokevirtual 315, 3) := by decide +kernel
theorem dc11_harvest_22 : decode prog_1_method_40_code 22 = .ok (.aload_n 0, 1) := by decide +kernel
theorem dc11_harvest_23 : decode prog_1_method_40_code 23 = .ok (.getfield 68, 3) := by decide +kernel
theorem dc11_harvest_26 : decode prog_1_method_40_code 26 = .ok (.getfield 322, 3) := by decide +kernel
theorem dc11_harvest_29 : decode prog_1_method_40_code 29 = .ok (.ireturn, 1) := by decide +kernel
theorem dc11_safe_0 : decode prog_1_method_41_code 0 = .ok (.aload_n 0, 1) := by decide +kernel
theorem dc11_safe_1 : decode prog_1_method_41_code 1 = .ok (.getfield 58, 3) := by decide +kernel
theorem dc11_safe_4 : decode prog_1_method_41_code 4 = .ok (.getfield 154, 3) := by decide +kernel
theorem dc11_safe_7 : decode prog_1_method_41_code 7 = .ok (.ifCond .ne 5, 3) := by decide +kernel
theorem dc11_safe_10 : decode prog_1_method_41_code 10 = .ok (.iconst (-1), 1) := by decide +kernel
theorem dc11_safe_11 : decode prog_1_method_41_code 11 = .ok (.ireturn, 1) := by decide +kernel
theorem dc11_safe_12 : decode prog_1_method_41_code 12 = .ok (.bipush 99, 2) := by decide +kernel
theorem dc11_safe_14 : decode prog_1_method_41_code 14 = .ok (.istore_n 1, 1) := by decide +kernel
theorem dc11_safe_15 : decode prog_1_method_41_code 15 = .ok (.iload_n 1, 1) := by decide +kernel
theorem dc11_safe_16 : decode prog_1_method_41_code 16 = .ok (.ifCond .lt 33, 3) := by decide +kernel
theorem dc11_safe_19 : decode prog_1_method_41_code 19 = .ok (.aload_n 0, 1) := by decide +kernel
theorem dc11_safe_20 : decode prog_1_method_41_code 20 = .ok (.getfield 68, 3) := by decide +kernel
theorem dc11_safe_23 : decode prog_1_method_41_code 23 = .ok (.aload_n 0, 1) := by decide +kernel
theorem dc11_safe_24 : decode prog_1_method_41_code 24 = .ok (.getfield 58, 3) := by decide +kernel
theorem dc11_safe_27 : decode prog_1_method_41_code 27 = .ok (.iload_n 1, 1) := by decide +kernel
theorem dc11_safe_28 : decode prog_1_method_41_code 28 = .ok (.invokevirtual 315, 3) := by decide +kernel
theorem dc11_safe_31 : decode prog_1_method_41_code 31 = .ok (.aload_n 0, 1) := by decide +kernel
theorem dc11_safe_32 : decode prog_1_method_41_code 32 = .ok (.getfield 68, 3) := by decide +kernel
theorem dc11_safe_35 : decode prog_1_method_41_code 35 = .ok (.getfield 319, 3) := by decide +kernel
theorem dc11_safe_38 : decode prog_1_method_41_code 38 = .ok (.ifCond .ne 5, 3) := by decide +kernel
theorem dc11_safe_41 : decode prog_1_method_41_code 41 = .ok (.iload_n 1, 1) := by decide +kernel
theorem dc11_safe_42 : decode prog_1_method_41_code 42 = .ok (.ireturn, 1) := by decide +kernel
theorem dc11_safe_43 : decode prog_1_method_41_code 43 = .ok (.iinc 1 (-1), 3) := by decide +kernel
theorem dc11_safe_46 : decode prog_1_method_41_code 46 = .ok (.goto (-31), 3) := by decide +kernel
theorem dc11_safe_49 : decode prog_1_method_41_code 49 = .ok (.iconst (-1), 1) := by decide +kernel
theorem dc11_safe_50 : decode prog_1_method_41_code 50 = .ok (.ireturn, 1) := by decide +kernel
theorem dc11_odds_0 : decode prog_1_method_42_code 0 = .ok (.aload_n 0, 1) := by decide +kernel
theorem dc11_odds_1 : decode prog_1_method_42_code 1 = .ok (.getfield 58, 3) := by decide +kernel
theorem dc11_odds_4 : decode prog_1_method_42_code 4 = .ok (.iload_n 1, 1) := by decide +kernel
theorem dc11_odds_5 : decode prog_1_method_42_code 5 = .ok (.invokevirtual 180, 3) := by decide +kernel
theorem dc11_odds_8 : decode prog_1_method_42_code 8 = .ok (.ifCond .eq 18, 3) := by decide +kernel
theorem dc11_odds_11 : decode prog_1_method_42_code 11 = .ok (.iload_n 2, 1) := by decide +kernel
theorem dc11_odds_12 : decode prog_1_method_42_code 12 = .ok (.ifCond .lt 14, 3) := by decide +kernel
theorem dc11_odds_15 : decode prog_1_method_42_code 15 = .ok (.iload_n 3, 1) := by decide +kernel
theorem dc11_odds_16 : decode prog_1_method_42_code 16 = .ok (.iload_n 2, 1) := by decide +kernel
theorem dc11_odds_17 : decode prog_1_method_42_code 17 = .ok (.if_icmp .lt 9, 3) := by decide +kernel
theorem dc11_odds_20 : decode prog_1_method_42_code 20 = .ok (.iload_n 3, 1) := by decide +kernel
theorem dc11_odds_21 : decode prog_1_method_42_code 21 = .ok (.bipush 99, 2) := by decide +kernel
theorem dc11_odds_23 : decode prog_1_method_42_code 23 = .ok (.if_icmp .le 5, 3) := by decide +kernel
theorem dc11_odds_26 : decode prog_1_method_42_code 26 = .ok (.iconst (-1), 1) := by decide +kernel
theorem dc11_odds_27 : decode prog_1_method_42_code 27 = .ok (.ireturn, 1) := by decide +kernel
theorem dc11_odds_28 : decode prog_1_method_42_code 28 = .ok (.iconst 0, 1) := by decide +kernel
theorem dc11_odds_29 : decode prog_1_method_42_code 29 = .ok (.istore 4, 2) := by decide +kernel
theorem dc11_odds_31 : decode prog_1_method_42_code 31 = .ok (.iload_n 2, 1) := by decide +kernel
theorem dc11_odds_32 : decode prog_1_method_42_code 32 = .ok (.istore 5, 2) := by decide +kernel
theorem dc11_odds_34 : decode prog_1_method_42_code 34 = .ok (.iload 5, 2) := by decide +kernel
theorem dc11_odds_36 : decode prog_1_method_42_code 36 = .ok (.iload_n 3, 1) := by decide +kernel
theorem dc11_odds_37 : decode prog_1_method_42_code 37 = .ok (.if_icmp .gt 38, 3) := by decide +kernel
theorem dc11_odds_40 : decode prog_1_method_42_code 40 = .ok (.aload_n 0, 1) := by decide +kernel
theorem dc11_odds_41 : decode prog_1_method_42_code 41 = .ok (.getfield 68, 3) := by decide +kernel
theorem dc11_odds_44 : decode prog_1_method_42_code 44 = .ok (.aload_n 0, 1) := by decide +kernel
theorem dc11_odds_45 : decode prog_1_method_42_code 45 = .ok (.getfield 58, 3) := by decide +kernel
theorem dc11_odds_48 : decode prog_1_method_42_code 48 = .ok (.iload 5, 2) := by decide +kernel
theorem dc11_odds_50 : decode prog_1_method_42_code 50 = .ok (.invokevirtual 315, 3) := by decide +kernel
theorem dc11_odds_53 : decode prog_1_method_42_code 53 = .ok (.iload 4, 2) := by decide +kernel
theorem dc11_odds_55 : decode prog_1_method_42_code 55 = .ok (.aload_n 0, 1) := by decide +kernel
theorem dc11_odds_56 : decode prog_1_method_42_code 56 = .ok (.getfield 68, 3) := by decide +kernel
theorem dc11_odds_59 : decode prog_1_method_42_code 59 = .ok (.getfield 319, 3) := by decide +kernel
theorem dc11_odds_62 : decode prog_1_method_42_code 62 = .ok (.iload_n 1, 1) := by decide +kernel
theorem dc11_odds_63 : decode prog_1_method_42_code 63 = .ok (.ishr, 1) := by decide +kernel
theorem dc11_odds_64 : decode prog_1_method_42_code 64 = .ok (.iconst 1, 1) := by decide +kernel
theorem dc11_odds_65 : decode prog_1_method_42_code 65 = .ok (.iand, 1) := by decide +kernel
theorem dc11_odds_66 : decode prog_1_method_42_code 66 = .ok (.iadd, 1) := by decide +kernel
theorem dc11_odds_67 : decode prog_1_method_42_code 67 = .ok (.istore 4, 2) := by decide +kernel
theorem dc11_odds_69 : decode prog_1_method_42_code 69 = .ok (.iinc 5 1, 3) := by decide +kernel
theorem dc11_odds_72 : decode prog_1_method_42_code 72 = .ok (.goto (-38), 3) := by decide +kernel
theorem dc11_odds_75 : decode prog_1_method_42_code 75 = .ok (.iload 4, 2) := by decide +kernel
theorem dc11_odds_77 : decode prog_1_method_42_code 77 = .ok (.ldc_w 346, 3) := by decide +kernel
theorem dc11_odds_80 : decode prog_1_method_42_code 80 = .ok (.imul, 1) := by decide +kernel
theorem dc11_odds_81 : decode prog_1_method_42_code 81 = .ok (.iload_n 3, 1) := by decide +kernel
theorem dc11_odds_82 : decode prog_1_method_42_code 82 = .ok (.iload_n 2, 1) := by decide +kernel
theorem dc11_odds_83 : decode prog_1_method_42_code 83 = .ok (.isub, 1) := by decide +kernel
theorem dc11_odds_84 : decode prog_1_method_42_code 84 = .ok (.iconst 1, 1) := by decide +kernel
theorem dc11_odds_85 : decode prog_1_method_42_code 85 = .ok (.iadd, 1) := by decide +kernel
theorem dc11_odds_86 : decode prog_1_method_42_code 86 = .ok (.idiv, 1) := by decide +kernel
theorem dc11_odds_87 : decode prog_1_method_42_code 87 = .ok (.ireturn, 1) := by decide +kernel
theorem dc11_least_0 : decode prog_1_method_43_code 0 = .ok (.aload_n 0, 1) := by decide +kernel
theorem dc11_least_1 : decode prog_1_method_43_code 1 = .ok (.iload_n 1, 1) := by decide +kernel
theorem dc11_least_2 : decode prog_1_method_43_code 2 = .ok (.invokevirtual 251, 3) := by decide +kernel
theorem dc11_least_5 : decode prog_1_method_43_code 5 = .ok (.ifCond .eq 12, 3) := by decide +kernel
theorem dc11_least_8 : decode prog_1_method_43_code 8 = .ok (.iload_n 2, 1) := by decide +kernel
theorem dc11_least_9 : decode prog_1_method_43_code 9 = .ok (.ifCond .lt 8, 3) := by decide +kernel
theorem dc11_least_12 : decode prog_1_method_43_code 12 = .ok (.iload_n 2, 1) := by decide +kernel
theorem dc11_least_13 : decode prog_1_method_43_code 13 = .ok (.iconst 1, 1) := by decide +kernel
theorem dc11_least_14 : decode prog_1_method_43_code 14 = .ok (.if_icmp .le 5, 3) := by decide +kernel
theorem dc11_least_17 : decode prog_1_method_43_code 17 = .ok (.iconst (-1), 1) := by decide +kernel
theorem dc11_least_18 : decode prog_1_method_43_code 18 = .ok (.ireturn, 1) := by decide +kernel
theorem dc11_least_19 : decode prog_1_method_43_code 19 = .ok (.aload_n 0, 1) := by decide +kernel
theorem dc11_least_20 : decode prog_1_method_43_code 20 = .ok (.getfield 68, 3) := by decide +kernel
theorem dc11_least_23 : decode prog_1_method_43_code 23 = .ok (.aload_n 0, 1) := by decide +kernel
theorem dc11_least_24 : decode prog_1_method_43_code 24 = .ok (.getfield 58, 3) := by decide +kernel
theorem dc11_least_27 : decode prog_1_method_43_code 27 = .ok (.iload_n 1, 1) := by decide +kernel
theorem dc11_least_28 : decode prog_1_method_43_code 28 = .ok (.invokevirtual 315, 3) := by decide +kernel
theorem dc11_least_31 : decode prog_1_method_43_code 31 = .ok (.aload_n 0, 1) := by decide +kernel
theorem dc11_least_32 : decode prog_1_method_43_code 32 = .ok (.getfield 68, 3) := by decide +kernel
theorem dc11_least_35 : decode prog_1_method_43_code 35 = .ok (.getfield 319, 3) := by decide +kernel
theorem dc11_least_38 : decode prog_1_method_43_code 38 = .ok (.ifCond .ne 5, 3) := by decide +kernel
theorem dc11_least_41 : decode prog_1_method_43_code 41 = .ok (.iconst 0, 1) := by decide +kernel
theorem dc11_least_42 : decode prog_1_method_43_code 42 = .ok (.ireturn, 1) := by decide +kernel
theorem dc11_least_43 : decode prog_1_method_43_code 43 = .ok (.aload_n 0, 1) := by decide +kernel
theorem dc11_least_44 : decode prog_1_method_43_code 44 = .ok (.getfield 62, 3) := by decide +kernel
theorem dc11_least_47 : decode prog_1_method_43_code 47 = .ok (.aload_n 0, 1) := by decide +kernel
theorem dc11_least_48 : decode prog_1_method_43_code 48 = .ok (.getfield 58, 3) := by decide +kernel
theorem dc11_least_51 : decode prog_1_method_43_code 51 = .ok (.invokevirtual 140, 3) := by decide +kernel
theorem dc11_least_54 : decode prog_1_method_43_code 54 = .ok (.iconst (-1), 1) := by decide +kernel
theorem dc11_least_55 : decode prog_1_method_43_code 55 = .ok (.istore_n 3, 1) := by decide +kernel
theorem dc11_least_56 : decode prog_1_method_43_code 56 = .ok (.sipush 1000, 3) := by decide +kernel
theorem dc11_least_59 : decode prog_1_method_43_code 59 = .ok (.istore 4, 2) := by decide +kernel
theorem dc11_least_61 : decode prog_1_method_43_code 61 = .ok (.iconst 0, 1) := by decide +kernel
theorem dc11_least_62 : decode prog_1_method_43_code 62 = .ok (.istore 5, 2) := by decide +kernel
theorem dc11_least_64 : decode prog_1_method_43_code 64 = .ok (.iload 5, 2) := by decide +kernel
theorem dc11_least_66 : decode prog_1_method_43_code 66 = .ok (.aload_n 0, 1) := by decide +kernel
theorem dc11_least_67 : decode prog_1_method_43_code 67 = .ok (.getfield 58, 3) := by decide +kernel
theorem dc11_least_70 : decode prog_1_method_43_code 70 = .ok (.getfield 154, 3) := by decide +kernel
theorem dc11_least_73 : decode prog_1_method_43_code 73 = .ok (.if_icmp .ge 34, 3) := by decide +kernel
theorem dc11_least_76 : decode prog_1_method_43_code 76 = .ok (.aload_n 0, 1) := by decide +kernel
theorem dc11_least_77 : decode prog_1_method_43_code 77 = .ok (.iload 5, 2) := by decide +kernel
theorem dc11_least_79 : decode prog_1_method_43_code 79 = .ok (.iload_n 1, 1) := by decide +kernel
theorem dc11_least_80 : decode prog_1_method_43_code 80 = .ok (.iload 4, 2) := by decide +kernel
theorem dc11_least_82 : decode prog_1_method_43_code 82 = .ok (.invokevirtual 347, 3) := by decide +kernel
theorem dc11_least_85 : decode prog_1_method_43_code 85 = .ok (.istore 6, 2) := by decide +kernel
theorem dc11_least_87 : decode prog_1_method_43_code 87 = .ok (.iload 6, 2) := by decide +kernel
theorem dc11_least_89 : decode prog_1_method_43_code 89 = .ok (.iload 4, 2) := by decide +kernel
theorem dc11_least_91 : decode prog_1_method_43_code 91 = .ok (.if_icmp .ge 10, 3) := by decide +kernel
theorem dc11_least_94 : decode prog_1_method_43_code 94 = .ok (.iload 6, 2) := by decide +kernel
theorem dc11_least_96 : decode prog_1_method_43_code 96 = .ok (.istore 4, 2) := by decide +kernel
theorem dc11_least_98 : decode prog_1_method_43_code 98 = .ok (.iload 5, 2) := by decide +kernel
theorem dc11_least_100 : decode prog_1_method_43_code 100 = .ok (.istore_n 3, 1) := by decide +kernel
theorem dc11_least_101 : decode prog_1_method_43_code 101 = .ok (.iinc 5 1, 3) := by decide +kernel
theorem dc11_least_104 : decode prog_1_method_43_code 104 = .ok (.goto (-40), 3) := by decide +kernel
theorem dc11_least_107 : decode prog_1_method_43_code 107 = .ok (.iload_n 3, 1) := by decide +kernel
theorem dc11_least_108 : decode prog_1_method_43_code 108 = .ok (.iconst (-1), 1) := by decide +kernel
theorem dc11_least_109 : decode prog_1_method_43_code 109 = .ok (.if_icmp .ne 7, 3) := by decide +kernel
theorem dc11_least_112 : decode prog_1_method_43_code 112 = .ok (.iconst (-1), 1) := by decide +kernel
theorem dc11_least_113 : decode prog_1_method_43_code 113 = .ok (.goto 13, 3) := by decide +kernel
theorem dc11_least_116 : decode prog_1_method_43_code 116 = .ok (.iload_n 2, 1) := by decide +kernel
theorem dc11_least_117 : decode prog_1_method_43_code 117 = .ok (.ifCond .ne 7, 3) := by decide +kernel
theorem dc11_least_120 : decode prog_1_method_43_code 120 = .ok (.iload_n 3, 1) := by decide +kernel
theorem dc11_least_121 : decode prog_1_method_43_code 121 = .ok (.goto 5, 3) := by decide +kernel
theorem dc11_least_124 : decode prog_1_method_43_code 124 = .ok (.iload 4, 2) := by decide +kernel
theorem dc11_least_126 : decode prog_1_method_43_code 126 = .ok (.ireturn, 1) := by decide +kernel
theorem dc11_leastOf_0 : decode prog_1_method_44_code 0 = .ok (.iload_n 3, 1) := by decide +kernel
theorem dc11_leastOf_1 : decode prog_1_method_44_code 1 = .ok (.istore 4, 2) := by decide +kernel
theorem dc11_leastOf_3 : decode prog_1_method_44_code 3 = .ok (.iconst 1, 1) := by decide +kernel
theorem dc11_leastOf_4 : decode prog_1_method_44_code 4 = .ok (.istore 5, 2) := by decide +kernel
theorem dc11_leastOf_6 : decode prog_1_method_44_code 6 = .ok (.iload 5, 2) := by decide +kernel
theorem dc11_leastOf_8 : decode prog_1_method_44_code 8 = .ok (.aload_n 0, 1) := by decide +kernel
theorem dc11_leastOf_9 : decode prog_1_method_44_code 9 = .ok (.getfield 58, 3) := by decide +kernel
theorem dc11_leastOf_12 : decode prog_1_method_44_code 12 = .ok (.getfield 186, 3) := by decide +kernel
theorem dc11_leastOf_15 : decode prog_1_method_44_code 15 = .ok (.iload_n 1, 1) := by decide +kernel
theorem dc11_leastOf_16 : decode prog_1_method_44_code 16 = .ok (.iaload, 1) := by decide +kernel
theorem dc11_leastOf_17 : decode prog_1_method_44_code 17 = .ok (.if_icmp .gt 70, 3) := by decide +kernel
theorem dc11_leastOf_20 : decode prog_1_method_44_code 20 = .ok (.iload 5, 2) := by decide +kernel
theorem dc11_leastOf_22 : decode prog_1_method_44_code 22 = .ok (.iload_n 3, 1) := by decide +kernel
theorem dc11_leastOf_23 : decode prog_1_method_44_code 23 = .ok (.if_icmp .ge 64, 3) := by decide +kernel
theorem dc11_leastOf_26 : decode prog_1_method_44_code 26 = .ok (.aload_n 0, 1) := by decide +kernel
theorem dc11_leastOf_27 : decode prog_1_method_44_code 27 = .ok (.getfield 62, 3) := by decide +kernel
theorem dc11_leastOf_30 : decode prog_1_method_44_code 30 = .ok (.getfield 186, 3) := by decide +kernel
theorem dc11_leastOf_33 : decode prog_1_method_44_code 33 = .ok (.iload_n 1, 1) := by decide +kernel
theorem dc11_leastOf_34 : decode prog_1_method_44_code 34 = .ok (.aload_n 0, 1) := by decide +kernel
theorem dc11_leastOf_35 : decode prog_1_method_44_code 35 = .ok (.getfield 58, 3) := by decide +kernel
theorem dc11_leastOf_38 : decode prog_1_method_44_code 38 = .ok (.getfield 186, 3) := by decide +kernel
theorem dc11_leastOf_41 : decode prog_1_method_44_code 41 = .ok (.iload_n 1, 1) := by decide +kernel
theorem dc11_leastOf_42 : decode prog_1_method_44_code 42 = .ok (.iaload, 1) := by decide +kernel
theorem dc11_leastOf_43 : decode prog_1_method_44_code 43 = .ok (.iload 5, 2) := by decide +kernel
theorem dc11_leastOf_45 : decode prog_1_method_44_code 45 = .ok (.isub, 1) := by decide +kernel
theorem dc11_leastOf_46 : decode prog_1_method_44_code 46 = .ok (.iastore, 1) := by decide +kernel
theorem dc11_leastOf_47 : decode prog_1_method_44_code 47 = .ok (.aload_n 0, 1) := by decide +kernel
theorem dc11_leastOf_48 : decode prog_1_method_44_code 48 = .ok (.getfield 68, 3) := by decide +kernel
theorem dc11_leastOf_51 : decode prog_1_method_44_code 51 = .ok (.aload_n 0, 1) := by decide +kernel
theorem dc11_leastOf_52 : decode prog_1_method_44_code 52 = .ok (.getfield 62, 3) := by decide +kernel
theorem dc11_leastOf_55 : decode prog_1_method_44_code 55 = .ok (.iload_n 1, 1) := by decide +kernel
theorem dc11_leastOf_56 : decode prog_1_method_44_code 56 = .ok (.invokevirtual 351, 3) := by decide +kernel
theorem dc11_leastOf_59 : decode prog_1_method_44_code 59 = .ok (.aload_n 0, 1) := by decide +kernel
theorem dc11_leastOf_60 : decode prog_1_method_44_code 60 = .ok (.getfield 68, 3) := by decide +kernel
theorem dc11_leastOf_63 : decode prog_1_method_44_code 63 = .ok (.aload_n 0, 1) := by decide +kernel
theorem dc11_leastOf_64 : decode prog_1_method_44_code 64 = .ok (.getfield 62, 3) := by decide +kernel
theorem dc11_leastOf_67 : decode prog_1_method_44_code 67 = .ok (.iload_n 2, 1) := by decide +kernel
theorem dc11_leastOf_68 : decode prog_1_method_44_code 68 = .ok (.invokevirtual 354, 3) := by decide +kernel
theorem dc11_leastOf_71 : decode prog_1_method_44_code 71 = .ok (.ifCond .ne 10, 3) := by decide +kernel
theorem dc11_leastOf_74 : decode prog_1_method_44_code 74 = .ok (.iload 5, 2) := by decide +kernel
theorem dc11_leastOf_76 : decode prog_1_method_44_code 76 = .ok (.istore 4, 2) := by decide +kernel
theorem dc11_leastOf_78 : decode prog_1_method_44_code 78 = .ok (.goto 9, 3) := by decide +kernel
theorem dc11_leastOf_81 : decode prog_1_method_44_code 81 = .ok (.iinc 5 1, 3) := by decide +kernel
theorem dc11_leastOf_84 : decode prog_1_method_44_code 84 = .ok (.goto (-78), 3) := by decide +kernel
theorem dc11_leastOf_87 : decode prog_1_method_44_code 87 = .ok (.aload_n 0, 1) := by decide +kernel
theorem dc11_leastOf_88 : decode prog_1_method_44_code 88 = .ok (.getfield 62, 3) := by decide +kernel
theorem dc11_leastOf_91 : decode prog_1_method_44_code 91 = .ok (.getfield 186, 3) := by decide +kernel
theorem dc11_leastOf_94 : decode prog_1_method_44_code 94 = .ok (.iload_n 1, 1) := by decide +kernel
theorem dc11_leastOf_95 : decode prog_1_method_44_code 95 = .ok (.aload_n 0, 1) := by decide +kernel
theorem dc11_leastOf_96 : decode prog_1_method_44_code 96 = .ok (.getfield 58, 3) := by decide +kernel
theorem dc11_leastOf_99 : decode prog_1_method_44_code 99 = .ok (.getfield 186, 3) := by decide +kernel
theorem dc11_leastOf_102 : decode prog_1_method_44_code 102 = .ok (.iload_n 1, 1) := by decide +kernel
theorem dc11_leastOf_103 : decode prog_1_method_44_code 103 = .ok (.iaload, 1) := by decide +kernel
theorem dc11_leastOf_104 : decode prog_1_method_44_code 104 = .ok (.iastore, 1) := by decide +kernel
theorem dc11_leastOf_105 : decode prog_1_method_44_code 105 = .ok (.aload_n 0, 1) := by decide +kernel
theorem dc11_leastOf_106 : decode prog_1_method_44_code 106 = .ok (.getfield 68, 3) := by decide +kernel
theorem dc11_leastOf_109 : decode prog_1_method_44_code 109 = .ok (.aload_n 0, 1) := by decide +kernel
theorem dc11_leastOf_110 : decode prog_1_method_44_code 110 = .ok (.getfield 62, 3) := by decide +kernel
theorem dc11_leastOf_113 : decode prog_1_method_44_code 113 = .ok (.iload_n 1, 1) := by decide +kernel
theorem dc11_leastOf_114 : decode prog_1_method_44_code 114 = .ok (.invokevirtual 351, 3) := by decide +kernel
theorem dc11_leastOf_117 : decode prog_1_method_44_code 117 = .ok (.iload 4, 2) := by decide +kernel
theorem dc11_leastOf_119 : decode prog_1_method_44_code 119 = .ok (.ireturn, 1) := by decide +kernel
theorem dc11_best_0 : decode prog_1_method_45_code 0 = .ok (.aload_n 0, 1) := by decide +kernel
theorem dc11_best_1 : decode prog_1_method_45_code 1 = .ok (.iload_n 1, 1) := by decide +kernel
theorem dc11_best_2 : decode prog_1_method_45_code 2 = .ok (.invokevirtual 251, 3) := by decide +kernel
theorem dc11_best_5 : decode prog_1_method_45_code 5 = .ok (.ifCond .eq 12, 3) := by decide +kernel
theorem dc11_best_8 : decode prog_1_method_45_code 8 = .ok (.iload_n 2, 1) := by decide +kernel
theorem dc11_best_9 : decode prog_1_method_45_code 9 = .ok (.ifCond .lt 8, 3) := by decide +kernel
theorem dc11_best_12 : decode prog_1_method_45_code 12 = .ok (.iload_n 2, 1) := by decide +kernel
theorem dc11_best_13 : decode prog_1_method_45_code 13 = .ok (.iconst 1, 1) := by decide +kernel
theorem dc11_best_14 : decode prog_1_method_45_code 14 = .ok (.if_icmp .le 5, 3) := by decide +kernel
theorem dc11_best_17 : decode prog_1_method_45_code 17 = .ok (.iconst (-1), 1) := by decide +kernel
theorem dc11_best_18 : decode prog_1_method_45_code 18 = .ok (.ireturn, 1) := by decide +kernel
theorem dc11_best_19 : decode prog_1_method_45_code 19 = .ok (.iconst (-1), 1) := by decide +kernel
theorem dc11_best_20 : decode prog_1_method_45_code 20 = .ok (.istore_n 3, 1) := by decide +kernel
theorem dc11_best_21 : decode prog_1_method_45_code 21 = .ok (.iconst (-1), 1) := by decide +kernel
theorem dc11_best_22 : decode prog_1_method_45_code 22 = .ok (.istore 4, 2) := by decide +kernel
theorem dc11_best_24 : decode prog_1_method_45_code 24 = .ok (.iconst 0, 1) := by decide +kernel
theorem dc11_best_25 : decode prog_1_method_45_code 25 = .ok (.istore 5, 2) := by decide +kernel
theorem dc11_best_27 : decode prog_1_method_45_code 27 = .ok (.iload 5, 2) := by decide +kernel
theorem dc11_best_29 : decode prog_1_method_45_code 29 = .ok (.aload_n 0, 1) := by decide +kernel
theorem dc11_best_30 : decode prog_1_method_45_code 30 = .ok (.getfield 58, 3) := by decide +kernel
theorem dc11_best_33 : decode prog_1_method_45_code 33 = .ok (.getfield 154, 3) := by decide +kernel
theorem dc11_best_36 : decode prog_1_method_45_code 36 = .ok (.if_icmp .ge 116, 3) := by decide +kernel
theorem dc11_best_39 : decode prog_1_method_45_code 39 = .ok (.iconst 0, 1) := by decide +kernel
theorem dc11_best_40 : decode prog_1_method_45_code 40 = .ok (.istore 6, 2) := by decide +kernel
theorem dc11_best_42 : decode prog_1_method_45_code 42 = .ok (.iload 6, 2) := by decide +kernel
theorem dc11_best_44 : decode prog_1_method_45_code 44 = .ok (.aload_n 0, 1) := by decide +kernel
theorem dc11_best_45 : decode prog_1_method_45_code 45 = .ok (.getfield 58, 3) := by decide +kernel
theorem dc11_best_48 : decode prog_1_method_45_code 48 = .ok (.getfield 154, 3) := by decide +kernel
theorem dc11_best_51 : decode prog_1_method_45_code 51 = .ok (.if_icmp .ge 95, 3) := by decide +kernel
theorem dc11_best_54 : decode prog_1_method_45_code 54 = .ok (.iconst 1, 1) := by decide +kernel
theorem dc11_best_55 : decode prog_1_method_45_code 55 = .ok (.istore 7, 2) := by decide +kernel
theorem dc11_best_57 : decode prog_1_method_45_code 57 = .ok (.iload 7, 2) := by decide +kernel
theorem dc11_best_59 : decode prog_1_method_45_code 59 = .ok (.bipush 9, 2) := by decide +kernel
theorem dc11_best_61 : decode prog_1_method_45_code 61 = .ok (.if_icmp .gt 79, 3) := by decide +kernel
theorem dc11_best_64 : decode prog_1_method_45_code 64 = .ok (.iload 5, 2) := by decide +kernel
theorem dc11_best_66 : decode prog_1_method_45_code 66 = .ok (.iload 6, 2) := by decide +kernel
theorem dc11_best_68 : decode prog_1_method_45_code 68 = .ok (.if_icmp .eq 66, 3) := by decide +kernel
theorem dc11_best_71 : decode prog_1_method_45_code 71 = .ok (.aload_n 0, 1) := by decide +kernel
theorem dc11_best_72 : decode prog_1_method_45_code 72 = .ok (.getfield 58, 3) := by decide +kernel
theorem dc11_best_75 : decode prog_1_method_45_code 75 = .ok (.iload 5, 2) := by decide +kernel
theorem dc11_best_77 : decode prog_1_method_45_code 77 = .ok (.iload 6, 2) := by decide +kernel
theorem dc11_best_79 : decode prog_1_method_45_code 79 = .ok (.iload 7, 2) := by decide +kernel
theorem dc11_best_81 : decode prog_1_method_45_code 81 = .ok (.invokevirtual 264, 3) := by decide +kernel
theorem dc11_best_84 : decode prog_1_method_45_code 84 = .ok (.ifCond .eq 50, 3) := by decide +kernel
theorem dc11_best_87 : decode prog_1_method_45_code 87 = .ok (.aload_n 0, 1) := by decide +kernel
theorem dc11_best_88 : decode prog_1_method_45_code 88 = .ok (.iload 5, 2) := by decide +kernel
theorem dc11_best_90 : decode prog_1_method_45_code 90 = .ok (.iload 6, 2) := by decide +kernel
theorem dc11_best_92 : decode prog_1_method_45_code 92 = .ok (.iload 7, 2) := by decide +kernel
theorem dc11_best_94 : decode prog_1_method_45_code 94 = .ok (.iload_n 1, 1) := by decide +kernel
theorem dc11_best_95 : decode prog_1_method_45_code 95 = .ok (.invokevirtual 358, 3) := by decide +kernel
theorem dc11_best_98 : decode prog_1_method_45_code 98 = .ok (.aload_n 0, 1) := by decide +kernel
theorem dc11_best_99 : decode prog_1_method_45_code 99 = .ok (.getfield 68, 3) := by decide +kernel
theorem dc11_best_102 : decode prog_1_method_45_code 102 = .ok (.getfield 322, 3) := by decide +kernel
theorem dc11_best_105 : decode prog_1_method_45_code 105 = .ok (.iload 4, 2) := by decide +kernel
theorem dc11_best_107 : decode prog_1_method_45_code 107 = .ok (.if_icmp .le 27, 3) := by decide +kernel
theorem dc11_best_110 : decode prog_1_method_45_code 110 = .ok (.aload_n 0, 1) := by decide +kernel
theorem dc11_best_111 : decode prog_1_method_45_code 111 = .ok (.getfield 68, 3) := by decide +kernel
theorem dc11_best_114 : decode prog_1_method_45_code 114 = .ok (.getfield 322, 3) := by decide +kernel
theorem dc11_best_117 : decode prog_1_method_45_code 117 = .ok (.istore 4, 2) := by decide +kernel
theorem dc11_best_119 : decode prog_1_method_45_code 119 = .ok (.bipush 100, 2) := by decide +kernel
theorem dc11_best_121 : decode prog_1_method_45_code 121 = .ok (.iload 5, 2) := by decide +kernel
theorem dc11_best_123 : decode prog_1_method_45_code 123 = .ok (.imul, 1) := by decide +kernel
theorem dc11_best_124 : decode prog_1_method_45_code 124 = .ok (.bipush 10, 2) := by decide +kernel
theorem dc11_best_126 : decode prog_1_method_45_code 126 = .ok (.iload 6, 2) := by decide +kernel
theorem dc11_best_128 : decode prog_1_method_45_code 128 = .ok (.imul, 1) := by decide +kernel
theorem dc11_best_129 : decode prog_1_method_45_code 129 = .ok (.iadd, 1) := by decide +kernel
theorem dc11_best_130 : decode prog_1_method_45_code 130 = .ok (.iload 7, 2) := by decide +kernel
theorem dc11_best_132 : decode prog_1_method_45_code 132 = .ok (.iadd, 1) := by decide +kernel
theorem dc11_best_133 : decode prog_1_method_45_code 133 = .ok (.istore_n 3, 1) := by decide +kernel
theorem dc11_best_134 : decode prog_1_method_45_code 134 = .ok (.iinc 7 1, 3) := by decide +kernel
theorem dc11_best_137 : decode prog_1_method_45_code 137 = .ok (.goto (-80), 3) := by decide +kernel
theorem dc11_best_140 : decode prog_1_method_45_code 140 = .ok (.iinc 6 1, 3) := by decide +kernel
theorem dc11_best_143 : decode prog_1_method_45_code 143 = .ok (.goto (-101), 3) := by decide +kernel
theorem dc11_best_146 : decode prog_1_method_45_code 146 = .ok (.iinc 5 1, 3) := by decide +kernel
theorem dc11_best_149 : decode prog_1_method_45_code 149 = .ok (.goto (-122), 3) := by decide +kernel
theorem dc11_best_152 : decode prog_1_method_45_code 152 = .ok (.iload_n 2, 1) := by decide +kernel
theorem dc11_best_153 : decode prog_1_method_45_code 153 = .ok (.ifCond .ne 7, 3) := by decide +kernel
theorem dc11_best_156 : decode prog_1_method_45_code 156 = .ok (.iload_n 3, 1) := by decide +kernel
theorem dc11_best_157 : decode prog_1_method_45_code 157 = .ok (.goto 5, 3) := by decide +kernel
theorem dc11_best_160 : decode prog_1_method_45_code 160 = .ok (.iload 4, 2) := by decide +kernel
theorem dc11_best_162 : decode prog_1_method_45_code 162 = .ok (.ireturn, 1) := by decide +kernel
theorem dc11_lookBehindSale_0 : decode prog_1_method_46_code 0 = .ok (.aload_n 0, 1) := by decide +kernel
theorem dc11_lookBehindSale_1 : decode prog_1_method_46_code 1 = .ok (.getfield 62, 3) := by decide +kernel
theorem dc11_lookBehindSale_4 : decode prog_1_method_46_code 4 = .ok (.aload_n 0, 1) := by decide +kernel
theorem dc11_lookBehindSale_5 : decode prog_1_method_46_code 5 = .ok (.getfield 58, 3) := by decide +kernel
theorem dc11_lookBehindSale_8 : decode prog_1_method_46_code 8 = .ok (.invokevirtual 140, 3) := by decide +kernel
theorem dc11_lookBehindSale_11 : decode prog_1_method_46_code 11 = .ok (.aload_n 0, 1) := by decide +kernel
theorem dc11_lookBehindSale_12 : decode prog_1_method_46_code 12 = .ok (.getfield 62, 3) := by decide +kernel
theorem dc11_lookBehindSale_15 : decode prog_1_method_46_code 15 = .ok (.iload_n 1, 1) := by decide +kernel
theorem dc11_lookBehindSale_16 : decode prog_1_method_46_code 16 = .ok (.iload_n 2, 1) := by decide +kernel
theorem dc11_lookBehindSale_17 : decode prog_1_method_46_code 17 = .ok (.iload_n 3, 1) := by decide +kernel
theorem dc11_lookBehindSale_18 : decode prog_1_method_46_code 18 = .ok (.invokevirtual 268, 3) := by decide +kernel
theorem dc11_lookBehindSale_21 : decode prog_1_method_46_code 21 = .ok (.aload_n 0, 1) := by decide +kernel
theorem dc11_lookBehindSale_22 : decode prog_1_method_46_code 22 = .ok (.getfield 68, 3) := by decide +kernel
theorem dc11_lookBehindSale_25 : decode prog_1_method_46_code 25 = .ok (.aload_n 0, 1) := by decide +kernel
theorem dc11_lookBehindSale_26 : decode prog_1_method_46_code 26 = .ok (.getfield 62, 3) := by decide +kernel
theorem dc11_lookBehindSale_29 : decode prog_1_method_46_code 29 = .ok (.iload 4, 2) := by decide +kernel
theorem dc11_lookBehindSale_31 : decode prog_1_method_46_code 31 = .ok (.invokevirtual 315, 3) := by decide +kernel
theorem dc11_lookBehindSale_34 : decode prog_1_method_46_code 34 = .ok (.return_, 1) := by decide +kernel
theorem dc11_trades_0 : decode prog_1_method_47_code 0 = .ok (.aload_n 0, 1) := by decide +kernel
theorem dc11_trades_1 : decode prog_1_method_47_code 1 = .ok (.iload_n 1, 1) := by decide +kernel
theorem dc11_trades_2 : decode prog_1_method_47_code 2 = .ok (.invokevirtual 251, 3) := by decide +kernel
theorem dc11_trades_5 : decode prog_1_method_47_code 5 = .ok (.ifCond .eq 8, 3) := by decide +kernel
theorem dc11_trades_8 : decode prog_1_method_47_code 8 = .ok (.iload_n 2, 1) := by decide +kernel
theorem dc11_trades_9 : decode prog_1_method_47_code 9 = .ok (.iconst (-1), 1) := by decide +kernel
theorem dc11_trades_10 : decode prog_1_method_47_code 10 = .ok (.if_icmp .ge 5, 3) := by decide +kernel
theorem dc11_trades_13 : decode prog_1_method_47_code 13 = .ok (.iconst (-1), 1) := by decide +kernel
theorem dc11_trades_14 : decode prog_1_method_47_code 14 = .ok (.ireturn, 1) := by decide +kernel
theorem dc11_trades_15 : decode prog_1_method_47_code 15 = .ok (.aload_n 0, 1) := by decide +kernel
theorem dc11_trades_16 : decode prog_1_method_47_code 16 = .ok (.getfield 62, 3) := by decide +kernel
theorem dc11_trades_19 : decode prog_1_method_47_code 19 = .ok (.aload_n 0, 1) := by decide +kernel
theorem dc11_trades_20 : decode prog_1_method_47_code 20 = .ok (.getfield 58, 3) := by decide +kernel
theorem dc11_trades_23 : decode prog_1_method_47_code 23 = .ok (.invokevirtual 140, 3) := by decide +kernel
theorem dc11_trades_26 : decode prog_1_method_47_code 26 = .ok (.aload_n 0, 1) := by decide +kernel
theorem dc11_trades_27 : decode prog_1_method_47_code 27 = .ok (.getfield 68, 3) := by decide +kernel
theorem dc11_trades_30 : decode prog_1_method_47_code 30 = .ok (.aload_n 0, 1) := by decide +kernel
theorem dc11_trades_31 : decode prog_1_method_47_code 31 = .ok (.getfield 62, 3) := by decide +kernel
theorem dc11_trades_34 : decode prog_1_method_47_code 34 = .ok (.iload_n 1, 1) := by decide +kernel
theorem dc11_trades_35 : decode prog_1_method_47_code 35 = .ok (.invokevirtual 315, 3) := by decide +kernel
theorem dc11_trades_38 : decode prog_1_method_47_code 38 = .ok (.aload_n 0, 1) := by decide +kernel
theorem dc11_trades_39 : decode prog_1_method_47_code 39 = .ok (.getfield 68, 3) := by decide +kernel
theorem dc11_trades_42 : decode prog_1_method_47_code 42 = .ok (.aload_n 0, 1) := by decide +kernel
theorem dc11_trades_43 : decode prog_1_method_47_code 43 = .ok (.getfield 62, 3) := by decide +kernel
theorem dc11_trades_46 : decode prog_1_method_47_code 46 = .ok (.invokevirtual 329, 3) := by decide +kernel
theorem dc11_trades_49 : decode prog_1_method_47_code 49 = .ok (.aload_n 0, 1) := by decide +kernel
theorem dc11_trades_50 : decode prog_1_method_47_code 50 = .ok (.getfield 62, 3) := by decide +kernel
theorem dc11_trades_53 : decode prog_1_method_47_code 53 = .ok (.getfield 198, 3) := by decide +kernel
theorem dc11_trades_56 : decode prog_1_method_47_code 56 = .ok (.iconst 0, 1) := by decide +kernel
theorem dc11_trades_57 : decode prog_1_method_47_code 57 = .ok (.aload_n 0, 1) := by decide +kernel
theorem dc11_trades_58 : decode prog_1_method_47_code 58 = .ok (.getfield 100, 3) := by decide +kernel
theorem dc11_trades_61 : decode prog_1_method_47_code 61 = .ok (.iconst 0, 1) := by decide +kernel
theorem dc11_trades_62 : decode prog_1_method_47_code 62 = .ok (.bipush 6, 2) := by decide +kernel
theorem dc11_trades_64 : decode prog_1_method_47_code 64 = .ok (.invokestatic 361, 3) := by decide +kernel
theorem dc11_trades_67 : decode prog_1_method_47_code 67 = .ok (.iconst 0, 1) := by decide +kernel
theorem dc11_trades_68 : decode prog_1_method_47_code 68 = .ok (.istore_n 3, 1) := by decide +kernel
theorem dc11_trades_69 : decode prog_1_method_47_code 69 = .ok (.iconst 0, 1) := by decide +kernel
theorem dc11_trades_70 : decode prog_1_method_47_code 70 = .ok (.istore 4, 2) := by decide +kernel
theorem dc11_trades_72 : decode prog_1_method_47_code 72 = .ok (.iload 4, 2) := by decide +kernel
theorem dc11_trades_74 : decode prog_1_method_47_code 74 = .ok (.aload_n 0, 1) := by decide +kernel
theorem dc11_trades_75 : decode prog_1_method_47_code 75 = .ok (.getfield 58, 3) := by decide +kernel
theorem dc11_trades_78 : decode prog_1_method_47_code 78 = .ok (.getfield 154, 3) := by decide +kernel
theorem dc11_trades_81 : decode prog_1_method_47_code 81 = .ok (.if_icmp .ge 66, 3) := by decide +kernel
theorem dc11_trades_84 : decode prog_1_method_47_code 84 = .ok (.iconst 0, 1) := by decide +kernel
theorem dc11_trades_85 : decode prog_1_method_47_code 85 = .ok (.istore 5, 2) := by decide +kernel
theorem dc11_trades_87 : decode prog_1_method_47_code 87 = .ok (.iload 5, 2) := by decide +kernel
theorem dc11_trades_89 : decode prog_1_method_47_code 89 = .ok (.aload_n 0, 1) := by decide +kernel
theorem dc11_trades_90 : decode prog_1_method_47_code 90 = .ok (.getfield 58, 3) := by decide +kernel
theorem dc11_trades_93 : decode prog_1_method_47_code 93 = .ok (.getfield 154, 3) := by decide +kernel
theorem dc11_trades_96 : decode prog_1_method_47_code 96 = .ok (.if_icmp .ge 45, 3) := by decide +kernel
theorem dc11_trades_99 : decode prog_1_method_47_code 99 = .ok (.iload 4, 2) := by decide +kernel
theorem dc11_trades_101 : decode prog_1_method_47_code 101 = .ok (.iload 5, 2) := by decide +kernel
theorem dc11_trades_103 : decode prog_1_method_47_code 103 = .ok (.if_icmp .eq 32, 3) := by decide +kernel
theorem dc11_trades_106 : decode prog_1_method_47_code 106 = .ok (.aload_n 0, 1) := by decide +kernel
theorem dc11_trades_107 : decode prog_1_method_47_code 107 = .ok (.iload 4, 2) := by decide +kernel
theorem dc11_trades_109 : decode prog_1_method_47_code 109 = .ok (.iload 5, 2) := by decide +kernel
theorem dc11_trades_111 : decode prog_1_method_47_code 111 = .ok (.iload_n 1, 1) := by decide +kernel
theorem dc11_trades_112 : decode prog_1_method_47_code 112 = .ok (.invokevirtual 367, 3) := by decide +kernel
theorem dc11_trades_115 : decode prog_1_method_47_code 115 = .ok (.ifCond .eq 20, 3) := by decide +kernel
theorem dc11_trades_118 : decode prog_1_method_47_code 118 = .ok (.iload_n 3, 1) := by decide +kernel
theorem dc11_trades_119 : decode prog_1_method_47_code 119 = .ok (.iload_n 2, 1) := by decide +kernel
theorem dc11_trades_120 : decode prog_1_method_47_code 120 = .ok (.if_icmp .ne 12, 3) := by decide +kernel
theorem dc11_trades_123 : decode prog_1_method_47_code 123 = .ok (.bipush 10, 2) := by decide +kernel
theorem dc11_trades_125 : decode prog_1_method_47_code 125 = .ok (.iload 4, 2) := by decide +kernel
theorem dc11_trades_127 : decode prog_1_method_47_code 127 = .ok (.imul, 1) := by decide +kernel
theorem dc11_trades_128 : decode prog_1_method_47_code 128 = .ok (.iload 5, 2) := by decide +kernel
theorem dc11_trades_130 : decode prog_1_method_47_code 130 = .ok (.iadd, 1) := by decide +kernel
theorem dc11_trades_131 : decode prog_1_method_47_code 131 = .ok (.ireturn, 1) := by decide +kernel
theorem dc11_trades_132 : decode prog_1_method_47_code 132 = .ok (.iinc 3 1, 3) := by decide +kernel
theorem dc11_trades_135 : decode prog_1_method_47_code 135 = .ok (.iinc 5 1, 3) := by decide +kernel
theorem dc11_trades_138 : decode prog_1_method_47_code 138 = .ok (.goto (-51), 3) := by decide +kernel
theorem dc11_trades_141 : decode prog_1_method_47_code 141 = .ok (.iinc 4 1, 3) := by decide +kernel
theorem dc11_trades_144 : decode prog_1_method_47_code 144 = .ok (.goto (-72), 3) := by decide +kernel
theorem dc11_trades_147 : decode prog_1_method_47_code 147 = .ok (.iload_n 2, 1) := by decide +kernel
theorem dc11_trades_148 : decode prog_1_method_47_code 148 = .ok (.iconst (-1), 1) := by decide +kernel
theorem dc11_trades_149 : decode prog_1_method_47_code 149 = .ok (.if_icmp .ne 7, 3) := by decide +kernel
theorem dc11_trades_152 : decode prog_1_method_47_code 152 = .ok (.iload_n 3, 1) := by decide +kernel
theorem dc11_trades_153 : decode prog_1_method_47_code 153 = .ok (.goto 4, 3) := by decide +kernel
theorem dc11_trades_156 : decode prog_1_method_47_code 156 = .ok (.iconst (-1), 1) := by decide +kernel
theorem dc11_trades_157 : decode prog_1_method_47_code 157 = .ok (.ireturn, 1) := by decide +kernel
theorem dc11_bothWant_0 : decode prog_1_method_48_code 0 = .ok (.aload_n 0, 1) := by decide +kernel
theorem dc11_bothWant_1 : decode prog_1_method_48_code 1 = .ok (.getfield 58, 3) := by decide +kernel
theorem dc11_bothWant_4 : decode prog_1_method_48_code 4 = .ok (.iload_n 1, 1) := by decide +kernel
theorem dc11_bothWant_5 : decode prog_1_method_48_code 5 = .ok (.iload_n 2, 1) := by decide +kernel
theorem dc11_bothWant_6 : decode prog_1_method_48_code 6 = .ok (.iconst 1, 1) := by decide +kernel
theorem dc11_bothWant_7 : decode prog_1_method_48_code 7 = .ok (.invokevirtual 264, 3) := by decide +kernel
theorem dc11_bothWant_10 : decode prog_1_method_48_code 10 = .ok (.ifCond .ne 5, 3) := by decide +kernel
theorem dc11_bothWant_13 : decode prog_1_method_48_code 13 = .ok (.iconst 0, 1) := by decide +kernel
theorem dc11_bothWant_14 : decode prog_1_method_48_code 14 = .ok (.ireturn, 1) := by decide +kernel
theorem dc11_bothWant_15 : decode prog_1_method_48_code 15 = .ok (.aload_n 0, 1) := by decide +kernel
theorem dc11_bothWant_16 : decode prog_1_method_48_code 16 = .ok (.iload_n 1, 1) := by decide +kernel
theorem dc11_bothWant_17 : decode prog_1_method_48_code 17 = .ok (.iload_n 2, 1) := by decide +kernel
theorem dc11_bothWant_18 : decode prog_1_method_48_code 18 = .ok (.iconst 1, 1) := by decide +kernel
theorem dc11_bothWant_19 : decode prog_1_method_48_code 19 = .ok (.iload_n 3, 1) := by decide +kernel
theorem dc11_bothWant_20 : decode prog_1_method_48_code 20 = .ok (.invokevirtual 358, 3) := by decide +kernel
theorem dc11_bothWant_23 : decode prog_1_method_48_code 23 = .ok (.aload_n 0, 1) := by decide +kernel
theorem dc11_bothWant_24 : decode prog_1_method_48_code 24 = .ok (.getfield 68, 3) := by decide +kernel
theorem dc11_bothWant_27 : decode prog_1_method_48_code 27 = .ok (.aload_n 0, 1) := by decide +kernel
theorem dc11_bothWant_28 : decode prog_1_method_48_code 28 = .ok (.getfield 62, 3) := by decide +kernel
theorem dc11_bothWant_31 : decode prog_1_method_48_code 31 = .ok (.invokevirtual 329, 3) := by decide +kernel
theorem dc11_bothWant_34 : decode prog_1_method_48_code 34 = .ok (.aload_n 0, 1) := by decide +kernel
theorem dc11_bothWant_35 : decode prog_1_method_48_code 35 = .ok (.getfield 62, 3) := by decide +kernel
theorem dc11_bothWant_38 : decode prog_1_method_48_code 38 = .ok (.getfield 198, 3) := by decide +kernel
theorem dc11_bothWant_41 : decode prog_1_method_48_code 41 = .ok (.iload_n 1, 1) := by decide +kernel
theorem dc11_bothWant_42 : decode prog_1_method_48_code 42 = .ok (.iaload, 1) := by decide +kernel
theorem dc11_bothWant_43 : decode prog_1_method_48_code 43 = .ok (.aload_n 0, 1) := by decide +kernel
theorem dc11_bothWant_44 : decode prog_1_method_48_code 44 = .ok (.getfield 100, 3) := by decide +kernel
theorem dc11_bothWant_47 : decode prog_1_method_48_code 47 = .ok (.iload_n 1, 1) := by decide +kernel
theorem dc11_bothWant_48 : decode prog_1_method_48_code 48 = .ok (.iaload, 1) := by decide +kernel
theorem dc11_bothWant_49 : decode prog_1_method_48_code 49 = .ok (.if_icmp .le 25, 3) := by decide +kernel
theorem dc11_bothWant_52 : decode prog_1_method_48_code 52 = .ok (.aload_n 0, 1) := by decide +kernel
theorem dc11_bothWant_53 : decode prog_1_method_48_code 53 = .ok (.getfield 62, 3) := by decide +kernel
theorem dc11_bothWant_56 : decode prog_1_method_48_code 56 = .ok (.getfield 198, 3) := by decide +kernel
theorem dc11_bothWant_59 : decode prog_1_method_48_code 59 = .ok (.iload_n 2, 1) := by decide +kernel
theorem dc11_bothWant_60 : decode prog_1_method_48_code 60 = .ok (.iaload, 1) := by decide +kernel
theorem dc11_bothWant_61 : decode prog_1_method_48_code 61 = .ok (.aload_n 0, 1) := by decide +kernel
theorem dc11_bothWant_62 : decode prog_1_method_48_code 62 = .ok (.getfield 100, 3) := by decide +kernel
theorem dc11_bothWant_65 : decode prog_1_method_48_code 65 = .ok (.iload_n 2, 1) := by decide +kernel
theorem dc11_bothWant_66 : decode prog_1_method_48_code 66 = .ok (.iaload, 1) := by decide +kernel
theorem dc11_bothWant_67 : decode prog_1_method_48_code 67 = .ok (.if_icmp .le 7, 3) := by decide +kernel
theorem dc11_bothWant_70 : decode prog_1_method_48_code 70 = .ok (.iconst 1, 1) := by decide +kernel
theorem dc11_bothWant_71 : decode prog_1_method_48_code 71 = .ok (.goto 4, 3) := by decide +kernel
theorem dc11_bothWant_74 : decode prog_1_method_48_code 74 = .ok (.iconst 0, 1) := by decide +kernel
theorem dc11_bothWant_75 : decode prog_1_method_48_code 75 = .ok (.ireturn, 1) := by decide +kernel
theorem dc11_fell_0 : decode prog_1_method_49_code 0 = .ok (.aload_n 0, 1) := by decide +kernel
theorem dc11_fell_1 : decode prog_1_method_49_code 1 = .ok (.getfield 58, 3) := by decide +kernel
theorem dc11_fell_4 : decode prog_1_method_49_code 4 = .ok (.iload_n 1, 1) := by decide +kernel
theorem dc11_fell_5 : decode prog_1_method_49_code 5 = .ok (.invokevirtual 180, 3) := by decide +kernel
theorem dc11_fell_8 : decode prog_1_method_49_code 8 = .ok (.ifCond .eq 30, 3) := by decide +kernel
theorem dc11_fell_11 : decode prog_1_method_49_code 11 = .ok (.iload_n 2, 1) := by decide +kernel
theorem dc11_fell_12 : decode prog_1_method_49_code 12 = .ok (.invokestatic 340, 3) := by decide +kernel
theorem dc11_fell_15 : decode prog_1_method_49_code 15 = .ok (.ifCond .eq 23, 3) := by decide +kernel
theorem dc11_fell_18 : decode prog_1_method_49_code 18 = .ok (.iload_n 3, 1) := by decide +kernel
theorem dc11_fell_19 : decode prog_1_method_49_code 19 = .ok (.ifCond .lt 19, 3) := by decide +kernel
theorem dc11_fell_22 : decode prog_1_method_49_code 22 = .ok (.iload_n 3, 1) := by decide +kernel
theorem dc11_fell_23 : decode prog_1_method_49_code 23 = .ok (.bipush 99, 2) := by decide +kernel
theorem dc11_fell_25 : decode prog_1_method_49_code 25 = .ok (.if_icmp .gt 13, 3) := by decide +kernel
theorem dc11_fell_28 : decode prog_1_method_49_code 28 = .ok (.aload_n 0, 1) := by decide +kernel
theorem dc11_fell_29 : decode prog_1_method_49_code 29 = .ok (.getfield 89, 3) := by decide +kernel
theorem dc11_fell_32 : decode prog_1_method_49_code 32 = .ok (.invokevirtual 370, 3) := by decide +kernel
theorem dc11_fell_35 : decode prog_1_method_49_code 35 = .ok (.ifCond .eq 5, 3) := by decide +kernel
theorem dc11_fell_38 : decode prog_1_method_49_code 38 = .ok (.iconst (-1), 1) := by decide +kernel
theorem dc11_fell_39 : decode prog_1_method_49_code 39 = .ok (.ireturn, 1) := by decide +kernel
theorem dc11_fell_40 : decode prog_1_method_49_code 40 = .ok (.aload_n 0, 1) := by decide +kernel
theorem dc11_fell_41 : decode prog_1_method_49_code 41 = .ok (.getfield 89, 3) := by decide +kernel
theorem dc11_fell_44 : decode prog_1_method_49_code 44 = .ok (.iload_n 1, 1) := by decide +kernel
theorem dc11_fell_45 : decode prog_1_method_49_code 45 = .ok (.iload_n 2, 1) := by decide +kernel
theorem dc11_fell_46 : decode prog_1_method_49_code 46 = .ok (.iload_n 3, 1) := by decide +kernel
theorem dc11_fell_47 : decode prog_1_method_49_code 47 = .ok (.iload 4, 2) := by decide +kernel
theorem dc11_fell_49 : decode prog_1_method_49_code 49 = .ok (.invokevirtual 373, 3) := by decide +kernel
theorem dc11_fell_52 : decode prog_1_method_49_code 52 = .ok (.aload_n 0, 1) := by decide +kernel
theorem dc11_fell_53 : decode prog_1_method_49_code 53 = .ok (.getfield 89, 3) := by decide +kernel
theorem dc11_fell_56 : decode prog_1_method_49_code 56 = .ok (.getfield 151, 3) := by decide +kernel
theorem dc11_fell_59 : decode prog_1_method_49_code 59 = .ok (.ireturn, 1) := by decide +kernel
theorem dc11_debts_0 : decode prog_1_method_50_code 0 = .ok (.aload_n 0, 1) := by decide +kernel
theorem dc11_debts_1 : decode prog_1_method_50_code 1 = .ok (.getfield 58, 3) := by decide +kernel
theorem dc11_debts_4 : decode prog_1_method_50_code 4 = .ok (.iload_n 1, 1) := by decide +kernel
theorem dc11_debts_5 : decode prog_1_method_50_code 5 = .ok (.invokevirtual 180, 3) := by decide +kernel
theorem dc11_debts_8 : decode prog_1_method_50_code 8 = .ok (.ifCond .eq 8, 3) := by decide +kernel
theorem dc11_debts_11 : decode prog_1_method_50_code 11 = .ok (.iload_n 2, 1) := by decide +kernel
theorem dc11_debts_12 : decode prog_1_method_50_code 12 = .ok (.iconst (-1), 1) := by decide +kernel
theorem dc11_debts_13 : decode prog_1_method_50_code 13 = .ok (.if_icmp .ge 5, 3) := by decide +kernel
theorem dc11_debts_16 : decode prog_1_method_50_code 16 = .ok (.iconst (-1), 1) := by decide +kernel
theorem dc11_debts_17 : decode prog_1_method_50_code 17 = .ok (.ireturn, 1) := by decide +kernel
theorem dc11_debts_18 : decode prog_1_method_50_code 18 = .ok (.aload_n 0, 1) := by decide +kernel
theorem dc11_debts_19 : decode prog_1_method_50_code 19 = .ok (.iload_n 1, 1) := by decide +kernel
theorem dc11_debts_20 : decode prog_1_method_50_code 20 = .ok (.invokevirtual 377, 3) := by decide +kernel
theorem dc11_debts_23 : decode prog_1_method_50_code 23 = .ok (.istore_n 3, 1) := by decide +kernel
theorem dc11_debts_24 : decode prog_1_method_50_code 24 = .ok (.iload_n 2, 1) := by decide +kernel
theorem dc11_debts_25 : decode prog_1_method_50_code 25 = .ok (.iconst (-1), 1) := by decide +kernel
theorem dc11_debts_26 : decode prog_1_method_50_code 26 = .ok (.if_icmp .ne 5, 3) := by decide +kernel
theorem dc11_debts_29 : decode prog_1_method_50_code 29 = .ok (.iload_n 3, 1) := by decide +kernel
theorem dc11_debts_30 : decode prog_1_method_50_code 30 = .ok (.ireturn, 1) := by decide +kernel
theorem dc11_debts_31 : decode prog_1_method_50_code 31 = .ok (.iload_n 2, 1) := by decide +kernel
theorem dc11_debts_32 : decode prog_1_method_50_code 32 = .ok (.iload_n 3, 1) := by decide +kernel
theorem dc11_debts_33 : decode prog_1_method_50_code 33 = .ok (.if_icmp .ge 15, 3) := by decide +kernel
theorem dc11_debts_36 : decode prog_1_method_50_code 36 = .ok (.aload_n 0, 1) := by decide +kernel
theorem dc11_debts_37 : decode prog_1_method_50_code 37 = .ok (.getfield 89, 3) := by decide +kernel
theorem dc11_debts_40 : decode prog_1_method_50_code 40 = .ok (.getfield 380, 3) := by decide +kernel
theorem dc11_debts_43 : decode prog_1_method_50_code 43 = .ok (.iload_n 2, 1) := by decide +kernel
theorem dc11_debts_44 : decode prog_1_method_50_code 44 = .ok (.iaload, 1) := by decide +kernel
theorem dc11_debts_45 : decode prog_1_method_50_code 45 = .ok (.goto 4, 3) := by decide +kernel
theorem dc11_debts_48 : decode prog_1_method_50_code 48 = .ok (.iconst (-1), 1) := by decide +kernel
theorem dc11_debts_49 : decode prog_1_method_50_code 49 = .ok (.ireturn, 1) := by decide +kernel
theorem dc11_fitDebts_0 : decode prog_1_method_51_code 0 = .ok (.aload_n 0, 1) := by decide +kernel
theorem dc11_fitDebts_1 : decode prog_1_method_51_code 1 = .ok (.getfield 62, 3) := by decide +kernel
theorem dc11_fitDebts_4 : decode prog_1_method_51_code 4 = .ok (.aload_n 0, 1) := by decide +kernel
theorem dc11_fitDebts_5 : decode prog_1_method_51_code 5 = .ok (.getfield 58, 3) := by decide +kernel
theorem dc11_fitDebts_8 : decode prog_1_method_51_code 8 = .ok (.invokevirtual 140, 3) := by decide +kernel
theorem dc11_fitDebts_11 : decode prog_1_method_51_code 11 = .ok (.aload_n 0, 1) := by decide +kernel
theorem dc11_fitDebts_12 : decode prog_1_method_51_code 12 = .ok (.getfield 89, 3) := by decide +kernel
theorem dc11_fitDebts_15 : decode prog_1_method_51_code 15 = .ok (.invokevirtual 383, 3) := by decide +kernel
theorem dc11_fitDebts_18 : decode prog_1_method_51_code 18 = .ok (.iconst 0, 1) := by decide +kernel
theorem dc11_fitDebts_19 : decode prog_1_method_51_code 19 = .ok (.istore_n 2, 1) := by decide +kernel
theorem dc11_fitDebts_20 : decode prog_1_method_51_code 20 = .ok (.iload_n 2, 1) := by decide +kernel
theorem dc11_fitDebts_21 : decode prog_1_method_51_code 21 = .ok (.aload_n 0, 1) := by decide +kernel
theorem dc11_fitDebts_22 : decode prog_1_method_51_code 22 = .ok (.getfield 89, 3) := by decide +kernel
theorem dc11_fitDebts_25 : decode prog_1_method_51_code 25 = .ok (.getfield 151, 3) := by decide +kernel
theorem dc11_fitDebts_28 : decode prog_1_method_51_code 28 = .ok (.if_icmp .ge 153, 3) := by decide +kernel
theorem dc11_fitDebts_31 : decode prog_1_method_51_code 31 = .ok (.aload_n 0, 1) := by decide +kernel
theorem dc11_fitDebts_32 : decode prog_1_method_51_code 32 = .ok (.getfield 89, 3) := by decide +kernel
theorem dc11_fitDebts_35 : decode prog_1_method_51_code 35 = .ok (.getfield 386, 3) := by decide +kernel
theorem dc11_fitDebts_38 : decode prog_1_method_51_code 38 = .ok (.iload_n 2, 1) := by decide +kernel
theorem dc11_fitDebts_39 : decode prog_1_method_51_code 39 = .ok (.iaload, 1) := by decide +kernel
theorem dc11_fitDebts_40 : decode prog_1_method_51_code 40 = .ok (.iload_n 1, 1) := by decide +kernel
theorem dc11_fitDebts_41 : decode prog_1_method_51_code 41 = .ok (.if_icmp .ne 134, 3) := by decide +kernel
theorem dc11_fitDebts_44 : decode prog_1_method_51_code 44 = .ok (.aload_n 0, 1) := by decide +kernel
theorem dc11_fitDebts_45 : decode prog_1_method_51_code 45 = .ok (.getfield 89, 3) := by decide +kernel
theorem dc11_fitDebts_48 : decode prog_1_method_51_code 48 = .ok (.getfield 389, 3) := by decide +kernel
theorem dc11_fitDebts_51 : decode prog_1_method_51_code 51 = .ok (.iload_n 2, 1) := by decide +kernel
theorem dc11_fitDebts_52 : decode prog_1_method_51_code 52 = .ok (.iaload, 1) := by decide +kernel
theorem dc11_fitDebts_53 : decode prog_1_method_51_code 53 = .ok (.istore_n 3, 1) := by decide +kernel
theorem dc11_fitDebts_54 : decode prog_1_method_51_code 54 = .ok (.aload_n 0, 1) := by decide +kernel
theorem dc11_fitDebts_55 : decode prog_1_method_51_code 55 = .ok (.getfield 68, 3) := by decide +kernel
theorem dc11_fitDebts_58 : decode prog_1_method_51_code 58 = .ok (.aload_n 0, 1) := by decide +kernel
theorem dc11_fitDebts_59 : decode prog_1_method_51_code 59 = .ok (.getfield 62, 3) := by decide +kernel
theorem dc11_fitDebts_62 : decode prog_1_method_51_code 62 = .ok (.iload_n 3, 1) := by decide +kernel
theorem dc11_fitDebts_63 : decode prog_1_method_51_code 63 = .ok (.invokevirtual 392, 3) := by decide +kernel
theorem dc11_fitDebts_66 : decode prog_1_method_51_code 66 = .ok (.iconst 0, 1) := by decide +kernel
theorem dc11_fitDebts_67 : decode prog_1_method_51_code 67 = .ok (.istore 4, 2) := by decide +kernel
theorem dc11_fitDebts_69 : decode prog_1_method_51_code 69 = .ok (.iload 4, 2) := by decide +kernel
theorem dc11_fitDebts_71 : decode prog_1_method_51_code 71 = .ok (.bipush 99, 2) := by decide +kernel
theorem dc11_fitDebts_73 : decode prog_1_method_51_code 73 = .ok (.if_icmp .gt 102, 3) := by decide +kernel
theorem dc11_fitDebts_76 : decode prog_1_method_51_code 76 = .ok (.aload_n 0, 1) := by decide +kernel
theorem dc11_fitDebts_77 : decode prog_1_method_51_code 77 = .ok (.getfield 62, 3) := by decide +kernel
theorem dc11_fitDebts_80 : decode prog_1_method_51_code 80 = .ok (.getfield 186, 3) := by decide +kernel
theorem dc11_fitDebts_83 : decode prog_1_method_51_code 83 = .ok (.iload_n 1, 1) := by decide +kernel
theorem dc11_fitDebts_84 : decode prog_1_method_51_code 84 = .ok (.iload 4, 2) := by decide +kernel
theorem dc11_fitDebts_86 : decode prog_1_method_51_code 86 = .ok (.iastore, 1) := by decide +kernel
theorem dc11_fitDebts_87 : decode prog_1_method_51_code 87 = .ok (.aload_n 0, 1) := by decide +kernel
theorem dc11_fitDebts_88 : decode prog_1_method_51_code 88 = .ok (.getfield 68, 3) := by decide +kernel
theorem dc11_fitDebts_91 : decode prog_1_method_51_code 91 = .ok (.aload_n 0, 1) := by decide +kernel
theorem dc11_fitDebts_92 : decode prog_1_method_51_code 92 = .ok (.getfield 62, 3) := by decide +kernel
theorem dc11_fitDebts_95 : decode prog_1_method_51_code 95 = .ok (.iload_n 1, 1) := by decide +kernel
theorem dc11_fitDebts_96 : decode prog_1_method_51_code 96 = .ok (.invokevirtual 351, 3) := by decide +kernel
theorem dc11_fitDebts_99 : decode prog_1_method_51_code 99 = .ok (.aload_n 0, 1) := by decide +kernel
theorem dc11_fitDebts_100 : decode prog_1_method_51_code 100 = .ok (.getfield 68, 3) := by decide +kernel
theorem dc11_fitDebts_103 : decode prog_1_method_51_code 103 = .ok (.iload_n 1, 1) := by decide +kernel
theorem dc11_fitDebts_104 : decode prog_1_method_51_code 104 = .ok (.iload_n 3, 1) := by decide +kernel
theorem dc11_fitDebts_105 : decode prog_1_method_51_code 105 = .ok (.invokevirtual 395, 3) := by decide +kernel
theorem dc11_fitDebts_108 : decode prog_1_method_51_code 108 = .ok (.aload_n 0, 1) := by decide +kernel
theorem dc11_fitDebts_109 : decode prog_1_method_51_code 109 = .ok (.getfield 89, 3) := by decide +kernel
theorem dc11_fitDebts_112 : decode prog_1_method_51_code 112 = .ok (.getfield 398, 3) := by decide +kernel
theorem dc11_fitDebts_115 : decode prog_1_method_51_code 115 = .ok (.iload_n 2, 1) := by decide +kernel
theorem dc11_fitDebts_116 : decode prog_1_method_51_code 116 = .ok (.iaload, 1) := by decide +kernel
theorem dc11_fitDebts_117 : decode prog_1_method_51_code 117 = .ok (.if_icmp .lt 7, 3) := by decide +kernel
theorem dc11_fitDebts_120 : decode prog_1_method_51_code 120 = .ok (.iconst 1, 1) := by decide +kernel
theorem dc11_fitDebts_121 : decode prog_1_method_51_code 121 = .ok (.goto 4, 3) := by decide +kernel
theorem dc11_fitDebts_124 : decode prog_1_method_51_code 124 = .ok (.iconst 0, 1) := by decide +kernel
theorem dc11_fitDebts_125 : decode prog_1_method_51_code 125 = .ok (.istore 5, 2) := by decide +kernel
theorem dc11_fitDebts_127 : decode prog_1_method_51_code 127 = .ok (.aload_n 0, 1) := by decide +kernel
theorem dc11_fitDebts_128 : decode prog_1_method_51_code 128 = .ok (.getfield 89, 3) := by decide +kernel
theorem dc11_fitDebts_131 : decode prog_1_method_51_code 131 = .ok (.getfield 401, 3) := by decide +kernel
theorem dc11_fitDebts_134 : decode prog_1_method_51_code 134 = .ok (.iload 4, 2) := by decide +kernel
theorem dc11_fitDebts_136 : decode prog_1_method_51_code 136 = .ok (.aload_n 0, 1) := by decide +kernel
theorem dc11_fitDebts_137 : decode prog_1_method_51_code 137 = .ok (.getfield 89, 3) := by decide +kernel
theorem dc11_fitDebts_140 : decode prog_1_method_51_code 140 = .ok (.getfield 401, 3) := by decide +kernel
theorem dc11_fitDebts_143 : decode prog_1_method_51_code 143 = .ok (.iload 4, 2) := by decide +kernel
theorem dc11_fitDebts_145 : decode prog_1_method_51_code 145 = .ok (.baload, 1) := by decide +kernel
theorem dc11_fitDebts_146 : decode prog_1_method_51_code 146 = .ok (.ifCond .eq 21, 3) := by decide +kernel
theorem dc11_fitDebts_149 : decode prog_1_method_51_code 149 = .ok (.iload 5, 2) := by decide +kernel
theorem dc11_fitDebts_151 : decode prog_1_method_51_code 151 = .ok (.aload_n 0, 1) := by decide +kernel
theorem dc11_fitDebts_152 : decode prog_1_method_51_code 152 = .ok (.getfield 89, 3) := by decide +kernel
theorem dc11_fitDebts_155 : decode prog_1_method_51_code 155 = .ok (.getfield 405, 3) := by decide +kernel
theorem dc11_fitDebts_158 : decode prog_1_method_51_code 158 = .ok (.iload_n 2, 1) := by decide +kernel
theorem dc11_fitDebts_159 : decode prog_1_method_51_code 159 = .ok (.baload, 1) := by decide +kernel
theorem dc11_fitDebts_160 : decode prog_1_method_51_code 160 = .ok (.if_icmp .ne 7, 3) := by decide +kernel
theorem dc11_fitDebts_163 : decode prog_1_method_51_code 163 = .ok (.iconst 1, 1) := by decide +kernel
theorem dc11_fitDebts_164 : decode prog_1_method_51_code 164 = .ok (.goto 4, 3) := by decide +kernel
theorem dc11_fitDebts_167 : decode prog_1_method_51_code 167 = .ok (.iconst 0, 1) := by decide +kernel
theorem dc11_fitDebts_168 : decode prog_1_method_51_code 168 = .ok (.bastore, 1) := by decide +kernel
theorem dc11_fitDebts_169 : decode prog_1_method_51_code 169 = .ok (.iinc 4 1, 3) := by decide +kernel
theorem dc11_fitDebts_172 : decode prog_1_method_51_code 172 = .ok (.goto (-103), 3) := by decide +kernel
theorem dc11_fitDebts_175 : decode prog_1_method_51_code 175 = .ok (.iinc 2 1, 3) := by decide +kernel
theorem dc11_fitDebts_178 : decode prog_1_method_51_code 178 = .ok (.goto (-158), 3) := by decide +kernel
theorem dc11_fitDebts_181 : decode prog_1_method_51_code 181 = .ok (.aload_n 0, 1) := by decide +kernel
theorem dc11_fitDebts_182 : decode prog_1_method_51_code 182 = .ok (.getfield 89, 3) := by decide +kernel
theorem dc11_fitDebts_185 : decode prog_1_method_51_code 185 = .ok (.invokevirtual 408, 3) := by decide +kernel
theorem dc11_fitDebts_188 : decode prog_1_method_51_code 188 = .ok (.ireturn, 1) := by decide +kernel
theorem dc11_ask_0 : decode prog_1_method_52_code 0 = .ok (.aload_n 0, 1) := by decide +kernel
theorem dc11_ask_1 : decode prog_1_method_52_code 1 = .ok (.getfield 58, 3) := by decide +kernel
theorem dc11_ask_4 : decode prog_1_method_52_code 4 = .ok (.iload_n 1, 1) := by decide +kernel
theorem dc11_ask_5 : decode prog_1_method_52_code 5 = .ok (.invokevirtual 180, 3) := by decide +kernel
theorem dc11_ask_8 : decode prog_1_method_52_code 8 = .ok (.ifCond .eq 13, 3) := by decide +kernel
theorem dc11_ask_11 : decode prog_1_method_52_code 11 = .ok (.iload_n 2, 1) := by decide +kernel
theorem dc11_ask_12 : decode prog_1_method_52_code 12 = .ok (.ifCond .lt 9, 3) := by decide +kernel
theorem dc11_ask_15 : decode prog_1_method_52_code 15 = .ok (.iload_n 2, 1) := by decide +kernel
theorem dc11_ask_16 : decode prog_1_method_52_code 16 = .ok (.bipush 99, 2) := by decide +kernel
theorem dc11_ask_18 : decode prog_1_method_52_code 18 = .ok (.if_icmp .le 5, 3) := by decide +kernel
theorem dc11_ask_21 : decode prog_1_method_52_code 21 = .ok (.iconst (-1), 1) := by decide +kernel
theorem dc11_ask_22 : decode prog_1_method_52_code 22 = .ok (.ireturn, 1) := by decide +kernel
theorem dc11_ask_23 : decode prog_1_method_52_code 23 = .ok (.aload_n 0, 1) := by decide +kernel
theorem dc11_ask_24 : decode prog_1_method_52_code 24 = .ok (.iload_n 1, 1) := by decide +kernel
theorem dc11_ask_25 : decode prog_1_method_52_code 25 = .ok (.invokevirtual 377, 3) := by decide +kernel
theorem dc11_ask_28 : decode prog_1_method_52_code 28 = .ok (.istore_n 3, 1) := by decide +kernel
theorem dc11_ask_29 : decode prog_1_method_52_code 29 = .ok (.iload_n 3, 1) := by decide +kernel
theorem dc11_ask_30 : decode prog_1_method_52_code 30 = .ok (.ifCond .ne 5, 3) := by decide +kernel
theorem dc11_ask_33 : decode prog_1_method_52_code 33 = .ok (.iconst (-1), 1) := by decide +kernel
theorem dc11_ask_34 : decode prog_1_method_52_code 34 = .ok (.ireturn, 1) := by decide +kernel
theorem dc11_ask_35 : decode prog_1_method_52_code 35 = .ok (.iconst (-1), 1) := by decide +kernel
theorem dc11_ask_36 : decode prog_1_method_52_code 36 = .ok (.istore 4, 2) := by decide +kernel
theorem dc11_ask_38 : decode prog_1_method_52_code 38 = .ok (.bipush 101, 2) := by decide +kernel
theorem dc11_ask_40 : decode prog_1_method_52_code 40 = .ok (.istore 5, 2) := by decide +kernel
theorem dc11_ask_42 : decode prog_1_method_52_code 42 = .ok (.iconst 0, 1) := by decide +kernel
theorem dc11_ask_43 : decode prog_1_method_52_code 43 = .ok (.istore 6, 2) := by decide +kernel
theorem dc11_ask_45 : decode prog_1_method_52_code 45 = .ok (.iload 6, 2) := by decide +kernel
theorem dc11_ask_47 : decode prog_1_method_52_code 47 = .ok (.bipush 99, 2) := by decide +kernel
theorem dc11_ask_49 : decode prog_1_method_52_code 49 = .ok (.if_icmp .gt 63, 3) := by decide +kernel
theorem dc11_ask_52 : decode prog_1_method_52_code 52 = .ok (.iload 6, 2) := by decide +kernel
theorem dc11_ask_54 : decode prog_1_method_52_code 54 = .ok (.aload_n 0, 1) := by decide +kernel
theorem dc11_ask_55 : decode prog_1_method_52_code 55 = .ok (.getfield 58, 3) := by decide +kernel
theorem dc11_ask_58 : decode prog_1_method_52_code 58 = .ok (.getfield 154, 3) := by decide +kernel
theorem dc11_ask_61 : decode prog_1_method_52_code 61 = .ok (.irem, 1) := by decide +kernel
theorem dc11_ask_62 : decode prog_1_method_52_code 62 = .ok (.ifCond .ne 11, 3) := by decide +kernel
theorem dc11_ask_65 : decode prog_1_method_52_code 65 = .ok (.aload_n 0, 1) := by decide +kernel
theorem dc11_ask_66 : decode prog_1_method_52_code 66 = .ok (.iload_n 1, 1) := by decide +kernel
theorem dc11_ask_67 : decode prog_1_method_52_code 67 = .ok (.iload 6, 2) := by decide +kernel
theorem dc11_ask_69 : decode prog_1_method_52_code 69 = .ok (.iload_n 3, 1) := by decide +kernel
theorem dc11_ask_70 : decode prog_1_method_52_code 70 = .ok (.invokevirtual 411, 3) := by decide +kernel
theorem dc11_ask_73 : decode prog_1_method_52_code 73 = .ok (.iconst 2, 1) := by decide +kernel
theorem dc11_ask_74 : decode prog_1_method_52_code 74 = .ok (.aload_n 0, 1) := by decide +kernel
theorem dc11_ask_75 : decode prog_1_method_52_code 75 = .ok (.iload_n 1, 1) := by decide +kernel
theorem dc11_ask_76 : decode prog_1_method_52_code 76 = .ok (.iload 6, 2) := by decide +kernel
theorem dc11_ask_78 : decode prog_1_method_52_code 78 = .ok (.iload_n 2, 1) := by decide +kernel
theorem dc11_ask_79 : decode prog_1_method_52_code 79 = .ok (.iload_n 3, 1) := by decide +kernel
theorem dc11_ask_80 : decode prog_1_method_52_code 80 = .ok (.invokevirtual 414, 3) := by decide +kernel
theorem dc11_ask_83 : decode prog_1_method_52_code 83 = .ok (.imul, 1) := by decide +kernel
theorem dc11_ask_84 : decode prog_1_method_52_code 84 = .ok (.iload_n 3, 1) := by decide +kernel
theorem dc11_ask_85 : decode prog_1_method_52_code 85 = .ok (.isub, 1) := by decide +kernel
theorem dc11_ask_86 : decode prog_1_method_52_code 86 = .ok (.invokestatic 418, 3) := by decide +kernel
theorem dc11_ask_89 : decode prog_1_method_52_code 89 = .ok (.istore 7, 2) := by decide +kernel
theorem dc11_ask_91 : decode prog_1_method_52_code 91 = .ok (.iload 7, 2) := by decide +kernel
theorem dc11_ask_93 : decode prog_1_method_52_code 93 = .ok (.iload 5, 2) := by decide +kernel
theorem dc11_ask_95 : decode prog_1_method_52_code 95 = .ok (.if_icmp .ge 11, 3) := by decide +kernel
theorem dc11_ask_98 : decode prog_1_method_52_code 98 = .ok (.iload 7, 2) := by decide +kernel
theorem dc11_ask_100 : decode prog_1_method_52_code 100 = .ok (.istore 5, 2) := by decide +kernel
theorem dc11_ask_102 : decode prog_1_method_52_code 102 = .ok (.iload 6, 2) := by decide +kernel
theorem dc11_ask_104 : decode prog_1_method_52_code 104 = .ok (.istore 4, 2) := by decide +kernel
theorem dc11_ask_106 : decode prog_1_method_52_code 106 = .ok (.iinc 6 1, 3) := by decide +kernel
theorem dc11_ask_109 : decode prog_1_method_52_code 109 = .ok (.goto (-64), 3) := by decide +kernel
theorem dc11_ask_112 : decode prog_1_method_52_code 112 = .ok (.iload 4, 2) := by decide +kernel
theorem dc11_ask_114 : decode prog_1_method_52_code 114 = .ok (.ireturn, 1) := by decide +kernel
theorem dc11_weighDebts_0 : decode prog_1_method_53_code 0 = .ok (.aload_n 0, 1) := by decide +kernel
theorem dc11_weighDebts_1 : decode prog_1_method_53_code 1 = .ok (.getfield 68, 3) := by decide +kernel
theorem dc11_weighDebts_4 : decode prog_1_method_53_code 4 = .ok (.aload_n 0, 1) := by decide +kernel
theorem dc11_weighDebts_5 : decode prog_1_method_53_code 5 = .ok (.getfield 62, 3) := by decide +kernel
theorem dc11_weighDebts_8 : decode prog_1_method_53_code 8 = .ok (.iload_n 2, 1) := by decide +kernel
theorem dc11_weighDebts_9 : decode prog_1_method_53_code 9 = .ok (.invokevirtual 392, 3) := by decide +kernel
theorem dc11_weighDebts_12 : decode prog_1_method_53_code 12 = .ok (.iconst 0, 1) := by decide +kernel
theorem dc11_weighDebts_13 : decode prog_1_method_53_code 13 = .ok (.istore 4, 2) := by decide +kernel
theorem dc11_weighDebts_15 : decode prog_1_method_53_code 15 = .ok (.iload 4, 2) := by decide +kernel
theorem dc11_weighDebts_17 : decode prog_1_method_53_code 17 = .ok (.iload_n 3, 1) := by decide +kernel
theorem dc11_weighDebts_18 : decode prog_1_method_53_code 18 = .ok (.if_icmp .ge 78, 3) := by decide +kernel
theorem dc11_weighDebts_21 : decode prog_1_method_53_code 21 = .ok (.aload_n 0, 1) := by decide +kernel
theorem dc11_weighDebts_22 : decode prog_1_method_53_code 22 = .ok (.getfield 62, 3) := by decide +kernel
theorem dc11_weighDebts_25 : decode prog_1_method_53_code 25 = .ok (.getfield 186, 3) := by decide +kernel
theorem dc11_weighDebts_28 : decode prog_1_method_53_code 28 = .ok (.iload_n 1, 1) := by decide +kernel
theorem dc11_weighDebts_29 : decode prog_1_method_53_code 29 = .ok (.aload_n 0, 1) := by decide +kernel
theorem dc11_weighDebts_30 : decode prog_1_method_53_code 30 = .ok (.getfield 89, 3) := by decide +kernel
theorem dc11_weighDebts_33 : decode prog_1_method_53_code 33 = .ok (.getfield 380, 3) := by decide +kernel
theorem dc11_weighDebts_36 : decode prog_1_method_53_code 36 = .ok (.iload 4, 2) := by decide +kernel
theorem dc11_weighDebts_38 : decode prog_1_method_53_code 38 = .ok (.iaload, 1) := by decide +kernel
theorem dc11_weighDebts_39 : decode prog_1_method_53_code 39 = .ok (.iastore, 1) := by decide +kernel
theorem dc11_weighDebts_40 : decode prog_1_method_53_code 40 = .ok (.aload_n 0, 1) := by decide +kernel
theorem dc11_weighDebts_41 : decode prog_1_method_53_code 41 = .ok (.getfield 68, 3) := by decide +kernel
theorem dc11_weighDebts_44 : decode prog_1_method_53_code 44 = .ok (.aload_n 0, 1) := by decide +kernel
theorem dc11_weighDebts_45 : decode prog_1_method_53_code 45 = .ok (.getfield 62, 3) := by decide +kernel
theorem dc11_weighDebts_48 : decode prog_1_method_53_code 48 = .ok (.iload_n 1, 1) := by decide +kernel
theorem dc11_weighDebts_49 : decode prog_1_method_53_code 49 = .ok (.invokevirtual 351, 3) := by decide +kernel
theorem dc11_weighDebts_52 : decode prog_1_method_53_code 52 = .ok (.aload_n 0, 1) := by decide +kernel
theorem dc11_weighDebts_53 : decode prog_1_method_53_code 53 = .ok (.getfield 89, 3) := by decide +kernel
theorem dc11_weighDebts_56 : decode prog_1_method_53_code 56 = .ok (.getfield 423, 3) := by decide +kernel
theorem dc11_weighDebts_59 : decode prog_1_method_53_code 59 = .ok (.iload 4, 2) := by decide +kernel
theorem dc11_weighDebts_61 : decode prog_1_method_53_code 61 = .ok (.aload_n 0, 1) := by decide +kernel
theorem dc11_weighDebts_62 : decode prog_1_method_53_code 62 = .ok (.getfield 68, 3) := by decide +kernel
theorem dc11_weighDebts_65 : decode prog_1_method_53_code 65 = .ok (.getfield 426, 3) := by decide +kernel
theorem dc11_weighDebts_68 : decode prog_1_method_53_code 68 = .ok (.iload_n 1, 1) := by decide +kernel
theorem dc11_weighDebts_69 : decode prog_1_method_53_code 69 = .ok (.iaload, 1) := by decide +kernel
theorem dc11_weighDebts_70 : decode prog_1_method_53_code 70 = .ok (.iastore, 1) := by decide +kernel
theorem dc11_weighDebts_71 : decode prog_1_method_53_code 71 = .ok (.aload_n 0, 1) := by decide +kernel
theorem dc11_weighDebts_72 : decode prog_1_method_53_code 72 = .ok (.getfield 89, 3) := by decide +kernel
theorem dc11_weighDebts_75 : decode prog_1_method_53_code 75 = .ok (.getfield 427, 3) := by decide +kernel
theorem dc11_weighDebts_78 : decode prog_1_method_53_code 78 = .ok (.iload 4, 2) := by decide +kernel
theorem dc11_weighDebts_80 : decode prog_1_method_53_code 80 = .ok (.aload_n 0, 1) := by decide +kernel
theorem dc11_weighDebts_81 : decode prog_1_method_53_code 81 = .ok (.getfield 68, 3) := by decide +kernel
theorem dc11_weighDebts_84 : decode prog_1_method_53_code 84 = .ok (.getfield 430, 3) := by decide +kernel
theorem dc11_weighDebts_87 : decode prog_1_method_53_code 87 = .ok (.iload_n 1, 1) := by decide +kernel
theorem dc11_weighDebts_88 : decode prog_1_method_53_code 88 = .ok (.iaload, 1) := by decide +kernel
theorem dc11_weighDebts_89 : decode prog_1_method_53_code 89 = .ok (.iastore, 1) := by decide +kernel
theorem dc11_weighDebts_90 : decode prog_1_method_53_code 90 = .ok (.iinc 4 1, 3) := by decide +kernel
theorem dc11_weighDebts_93 : decode prog_1_method_53_code 93 = .ok (.goto (-78), 3) := by decide +kernel
theorem dc11_weighDebts_96 : decode prog_1_method_53_code 96 = .ok (.return_, 1) := by decide +kernel
theorem dc11_countYes_0 : decode prog_1_method_54_code 0 = .ok (.iconst 0, 1) := by decide +kernel
theorem dc11_countYes_1 : decode prog_1_method_54_code 1 = .ok (.istore 5, 2) := by decide +kernel
theorem dc11_countYes_3 : decode prog_1_method_54_code 3 = .ok (.iconst 0, 1) := by decide +kernel
theorem dc11_countYes_4 : decode prog_1_method_54_code 4 = .ok (.istore 6, 2) := by decide +kernel
theorem dc11_countYes_6 : decode prog_1_method_54_code 6 = .ok (.iload 6, 2) := by decide +kernel
theorem dc11_countYes_8 : decode prog_1_method_54_code 8 = .ok (.iload 4, 2) := by decide +kernel
theorem dc11_countYes_10 : decode prog_1_method_54_code 10 = .ok (.if_icmp .ge 63, 3) := by decide +kernel
theorem dc11_countYes_13 : decode prog_1_method_54_code 13 = .ok (.aload_n 0, 1) := by decide +kernel
theorem dc11_countYes_14 : decode prog_1_method_54_code 14 = .ok (.getfield 68, 3) := by decide +kernel
theorem dc11_countYes_17 : decode prog_1_method_54_code 17 = .ok (.getfield 426, 3) := by decide +kernel
theorem dc11_countYes_20 : decode prog_1_method_54_code 20 = .ok (.iload_n 1, 1) := by decide +kernel
theorem dc11_countYes_21 : decode prog_1_method_54_code 21 = .ok (.aload_n 0, 1) := by decide +kernel
theorem dc11_countYes_22 : decode prog_1_method_54_code 22 = .ok (.getfield 89, 3) := by decide +kernel
theorem dc11_countYes_25 : decode prog_1_method_54_code 25 = .ok (.getfield 423, 3) := by decide +kernel
theorem dc11_countYes_28 : decode prog_1_method_54_code 28 = .ok (.iload 6, 2) := by decide +kernel
theorem dc11_countYes_30 : decode prog_1_method_54_code 30 = .ok (.iaload, 1) := by decide +kernel
theorem dc11_countYes_31 : decode prog_1_method_54_code 31 = .ok (.iastore, 1) := by decide +kernel
theorem dc11_countYes_32 : decode prog_1_method_54_code 32 = .ok (.aload_n 0, 1) := by decide +kernel
theorem dc11_countYes_33 : decode prog_1_method_54_code 33 = .ok (.getfield 68, 3) := by decide +kernel
theorem dc11_countYes_36 : decode prog_1_method_54_code 36 = .ok (.getfield 430, 3) := by decide +kernel
theorem dc11_countYes_39 : decode prog_1_method_54_code 39 = .ok (.iload_n 1, 1) := by decide +kernel
theorem dc11_countYes_40 : decode prog_1_method_54_code 40 = .ok (.aload_n 0, 1) := by decide +kernel
theorem dc11_countYes_41 : decode prog_1_method_54_code 41 = .ok (.getfield 89, 3) := by decide +kernel
theorem dc11_countYes_44 : decode prog_1_method_54_code 44 = .ok (.getfield 427, 3) := by decide +kernel
theorem dc11_countYes_47 : decode prog_1_method_54_code 47 = .ok (.iload 6, 2) := by decide +kernel
theorem dc11_countYes_49 : decode prog_1_method_54_code 49 = .ok (.iaload, 1) := by decide +kernel
theorem dc11_countYes_50 : decode prog_1_method_54_code 50 = .ok (.iastore, 1) := by decide +kernel
theorem dc11_countYes_51 : decode prog_1_method_54_code 51 = .ok (.aload_n 0, 1) := by decide +kernel
theorem dc11_countYes_52 : decode prog_1_method_54_code 52 = .ok (.getfield 68, 3) := by decide +kernel
theorem dc11_countYes_55 : decode prog_1_method_54_code 55 = .ok (.iload_n 1, 1) := by decide +kernel
theorem dc11_countYes_56 : decode prog_1_method_54_code 56 = .ok (.iload_n 2, 1) := by decide +kernel
theorem dc11_countYes_57 : decode prog_1_method_54_code 57 = .ok (.invokevirtual 395, 3) := by decide +kernel
theorem dc11_countYes_60 : decode prog_1_method_54_code 60 = .ok (.iload_n 3, 1) := by decide +kernel
theorem dc11_countYes_61 : decode prog_1_method_54_code 61 = .ok (.if_icmp .lt 6, 3) := by decide +kernel
theorem dc11_countYes_64 : decode prog_1_method_54_code 64 = .ok (.iinc 5 1, 3) := by decide +kernel
theorem dc11_countYes_67 : decode prog_1_method_54_code 67 = .ok (.iinc 6 1, 3) := by decide +kernel
theorem dc11_countYes_70 : decode prog_1_method_54_code 70 = .ok (.goto (-64), 3) := by decide +kernel
theorem dc11_countYes_73 : decode prog_1_method_54_code 73 = .ok (.iload 5, 2) := by decide +kernel
theorem dc11_countYes_75 : decode prog_1_method_54_code 75 = .ok (.ireturn, 1) := by decide +kernel
theorem dc11_game_0 : decode prog_1_method_55_code 0 = .ok (.aload_n 0, 1) := by decide +kernel
theorem dc11_game_1 : decode prog_1_method_55_code 1 = .ok (.iload_n 1, 1) := by decide +kernel
theorem dc11_game_2 : decode prog_1_method_55_code 2 = .ok (.iload_n 2, 1) := by decide +kernel
theorem dc11_game_3 : decode prog_1_method_55_code 3 = .ok (.invokevirtual 260, 3) := by decide +kernel
theorem dc11_game_6 : decode prog_1_method_55_code 6 = .ok (.ifCond .eq 37, 3) := by decide +kernel
theorem dc11_game_9 : decode prog_1_method_55_code 9 = .ok (.iload_n 3, 1) := by decide +kernel
theorem dc11_game_10 : decode prog_1_method_55_code 10 = .ok (.invokestatic 340, 3) := by decide +kernel
theorem dc11_game_13 : decode prog_1_method_55_code 13 = .ok (.ifCond .eq 30, 3) := by decide +kernel
theorem dc11_game_16 : decode prog_1_method_55_code 16 = .ok (.iload 4, 2) := by decide +kernel
theorem dc11_game_18 : decode prog_1_method_55_code 18 = .ok (.invokestatic 431, 3) := by decide +kernel
theorem dc11_game_21 : decode prog_1_method_55_code 21 = .ok (.ifCond .eq 22, 3) := by decide +kernel
theorem dc11_game_24 : decode prog_1_method_55_code 24 = .ok (.iload 5, 2) := by decide +kernel
theorem dc11_game_26 : decode prog_1_method_55_code 26 = .ok (.invokestatic 431, 3) := by decide +kernel
theorem dc11_game_29 : decode prog_1_method_55_code 29 = .ok (.ifCond .eq 14, 3) := by decide +kernel
theorem dc11_game_32 : decode prog_1_method_55_code 32 = .ok (.iload 6, 2) := by decide +kernel
theorem dc11_game_34 : decode prog_1_method_55_code 34 = .ok (.ifCond .lt 9, 3) := by decide +kernel
theorem dc11_game_37 : decode prog_1_method_55_code 37 = .ok (.iload 6, 2) := by decide +kernel
theorem dc11_game_39 : decode prog_1_method_55_code 39 = .ok (.iconst 1, 1) := by decide +kernel
theorem dc11_game_40 : decode prog_1_method_55_code 40 = .ok (.if_icmp .le 6, 3) := by decide +kernel
theorem dc11_game_43 : decode prog_1_method_55_code 43 = .ok (.ldc 214, 2) := by decide +kernel
theorem dc11_game_45 : decode prog_1_method_55_code 45 = .ok (.ireturn, 1) := by decide +kernel
theorem dc11_game_46 : decode prog_1_method_55_code 46 = .ok (.aload_n 0, 1) := by decide +kernel
theorem dc11_game_47 : decode prog_1_method_55_code 47 = .ok (.iload_n 1, 1) := by decide +kernel
theorem dc11_game_48 : decode prog_1_method_55_code 48 = .ok (.iload_n 2, 1) := by decide +kernel
theorem dc11_game_49 : decode prog_1_method_55_code 49 = .ok (.iload_n 3, 1) := by decide +kernel
theorem dc11_game_50 : decode prog_1_method_55_code 50 = .ok (.iload 4, 2) := by decide +kernel
theorem dc11_game_52 : decode prog_1_method_55_code 52 = .ok (.iload 5, 2) := by decide +kernel
theorem dc11_game_54 : decode prog_1_method_55_code 54 = .ok (.invokevirtual 434, 3) := by decide +kernel
theorem dc11_game_57 : decode prog_1_method_55_code 57 = .ok (.iload 6, 2) := by decide +kernel
theorem dc11_game_59 : decode prog_1_method_55_code 59 = .ok (.ifCond .ne 18, 3) := by decide +kernel
theorem dc11_game_62 : decode prog_1_method_55_code 62 = .ok (.aload_n 0, 1) := by decide +kernel
theorem dc11_game_63 : decode prog_1_method_55_code 63 = .ok (.getfield 68, 3) := by decide +kernel
theorem dc11_game_66 : decode prog_1_method_55_code 66 = .ok (.getfield 438, 3) := by decide +kernel
theorem dc11_game_69 : decode prog_1_method_55_code 69 = .ok (.iload_n 1, 1) := by decide +kernel
theorem dc11_game_70 : decode prog_1_method_55_code 70 = .ok (.iaload, 1) := by decide +kernel
theorem dc11_game_71 : decode prog_1_method_55_code 71 = .ok (.iload 4, 2) := by decide +kernel
theorem dc11_game_73 : decode prog_1_method_55_code 73 = .ok (.isub, 1) := by decide +kernel
theorem dc11_game_74 : decode prog_1_method_55_code 74 = .ok (.goto 15, 3) := by decide +kernel
theorem dc11_game_77 : decode prog_1_method_55_code 77 = .ok (.aload_n 0, 1) := by decide +kernel
theorem dc11_game_78 : decode prog_1_method_55_code 78 = .ok (.getfield 68, 3) := by decide +kernel
theorem dc11_game_81 : decode prog_1_method_55_code 81 = .ok (.getfield 438, 3) := by decide +kernel
theorem dc11_game_84 : decode prog_1_method_55_code 84 = .ok (.iload_n 2, 1) := by decide +kernel
theorem dc11_game_85 : decode prog_1_method_55_code 85 = .ok (.iaload, 1) := by decide +kernel
theorem dc11_game_86 : decode prog_1_method_55_code 86 = .ok (.iload 5, 2) := by decide +kernel
theorem dc11_game_88 : decode prog_1_method_55_code 88 = .ok (.isub, 1) := by decide +kernel
theorem dc11_game_89 : decode prog_1_method_55_code 89 = .ok (.ireturn, 1) := by decide +kernel
theorem dc11_isMove_0 : decode prog_1_method_66_code 0 = .ok (.iload_n 0, 1) := by decide +kernel
theorem dc11_isMove_1 : decode prog_1_method_66_code 1 = .ok (.ifCond .lt 13, 3) := by decide +kernel
theorem dc11_isMove_4 : decode prog_1_method_66_code 4 = .ok (.iload_n 0, 1) := by decide +kernel
theorem dc11_isMove_5 : decode prog_1_method_66_code 5 = .ok (.bipush 6, 2) := by decide +kernel
theorem dc11_isMove_7 : decode prog_1_method_66_code 7 = .ok (.if_icmp .ge 7, 3) := by decide +kernel
theorem dc11_isMove_10 : decode prog_1_method_66_code 10 = .ok (.iconst 1, 1) := by decide +kernel
theorem dc11_isMove_11 : decode prog_1_method_66_code 11 = .ok (.goto 4, 3) := by decide +kernel
theorem dc11_isMove_14 : decode prog_1_method_66_code 14 = .ok (.iconst 0, 1) := by decide +kernel
theorem dc11_isMove_15 : decode prog_1_method_66_code 15 = .ok (.ireturn, 1) := by decide +kernel
theorem dc11_play_0 : decode prog_1_method_56_code 0 = .ok (.aload_n 0, 1) := by decide +kernel
theorem dc11_play_1 : decode prog_1_method_56_code 1 = .ok (.getfield 62, 3) := by decide +kernel
theorem dc11_play_4 : decode prog_1_method_56_code 4 = .ok (.aload_n 0, 1) := by decide +kernel
theorem dc11_play_5 : decode prog_1_method_56_code 5 = .ok (.getfield 58, 3) := by decide +kernel
theorem dc11_play_8 : decode prog_1_method_56_code 8 = .ok (.invokevirtual 140, 3) := by decide +kernel
theorem dc11_play_11 : decode prog_1_method_56_code 11 = .ok (.aload_n 0, 1) := by decide +kernel
theorem dc11_play_12 : decode prog_1_method_56_code 12 = .ok (.getfield 62, 3) := by decide +kernel
theorem dc11_play_15 : decode prog_1_method_56_code 15 = .ok (.getfield 186, 3) := by decide +kernel
theorem dc11_play_18 : decode prog_1_method_56_code 18 = .ok (.iload_n 1, 1) := by decide +kernel
theorem dc11_play_19 : decode prog_1_method_56_code 19 = .ok (.dup2, 1) := by decide +kernel
theorem dc11_play_20 : decode prog_1_method_56_code 20 = .ok (.iaload, 1) := by decide +kernel
theorem dc11_play_21 : decode prog_1_method_56_code 21 = .ok (.iload 4, 2) := by decide +kernel
theorem dc11_play_23 : decode prog_1_method_56_code 23 = .ok (.aload_n 0, 1) := by decide +kernel
theorem dc11_play_24 : decode prog_1_method_56_code 24 = .ok (.getfield 62, 3) := by decide +kernel
theorem dc11_play_27 : decode prog_1_method_56_code 27 = .ok (.getfield 186, 3) := by decide +kernel
theorem dc11_play_30 : decode prog_1_method_56_code 30 = .ok (.iload_n 1, 1) := by decide +kernel
theorem dc11_play_31 : decode prog_1_method_56_code 31 = .ok (.iaload, 1) := by decide +kernel
theorem dc11_play_32 : decode prog_1_method_56_code 32 = .ok (.invokestatic 441, 3) := by decide +kernel
theorem dc11_play_35 : decode prog_1_method_56_code 35 = .ok (.isub, 1) := by decide +kernel
theorem dc11_play_36 : decode prog_1_method_56_code 36 = .ok (.iastore, 1) := by decide +kernel
theorem dc11_play_37 : decode prog_1_method_56_code 37 = .ok (.aload_n 0, 1) := by decide +kernel
theorem dc11_play_38 : decode prog_1_method_56_code 38 = .ok (.getfield 62, 3) := by decide +kernel
theorem dc11_play_41 : decode prog_1_method_56_code 41 = .ok (.getfield 186, 3) := by decide +kernel
theorem dc11_play_44 : decode prog_1_method_56_code 44 = .ok (.iload_n 2, 1) := by decide +kernel
theorem dc11_play_45 : decode prog_1_method_56_code 45 = .ok (.dup2, 1) := by decide +kernel
theorem dc11_play_46 : decode prog_1_method_56_code 46 = .ok (.iaload, 1) := by decide +kernel
theorem dc11_play_47 : decode prog_1_method_56_code 47 = .ok (.iload 5, 2) := by decide +kernel
theorem dc11_play_49 : decode prog_1_method_56_code 49 = .ok (.aload_n 0, 1) := by decide +kernel
theorem dc11_play_50 : decode prog_1_method_56_code 50 = .ok (.getfield 62, 3) := by decide +kernel
theorem dc11_play_53 : decode prog_1_method_56_code 53 = .ok (.getfield 186, 3) := by decide +kernel
theorem dc11_play_56 : decode prog_1_method_56_code 56 = .ok (.iload_n 2, 1) := by decide +kernel
theorem dc11_play_57 : decode prog_1_method_56_code 57 = .ok (.iaload, 1) := by decide +kernel
theorem dc11_play_58 : decode prog_1_method_56_code 58 = .ok (.invokestatic 441, 3) := by decide +kernel
theorem dc11_play_61 : decode prog_1_method_56_code 61 = .ok (.isub, 1) := by decide +kernel
theorem dc11_play_62 : decode prog_1_method_56_code 62 = .ok (.iastore, 1) := by decide +kernel
theorem dc11_play_63 : decode prog_1_method_56_code 63 = .ok (.aload_n 0, 1) := by decide +kernel
theorem dc11_play_64 : decode prog_1_method_56_code 64 = .ok (.getfield 68, 3) := by decide +kernel
theorem dc11_play_67 : decode prog_1_method_56_code 67 = .ok (.aload_n 0, 1) := by decide +kernel
theorem dc11_play_68 : decode prog_1_method_56_code 68 = .ok (.getfield 62, 3) := by decide +kernel
theorem dc11_play_71 : decode prog_1_method_56_code 71 = .ok (.iload_n 3, 1) := by decide +kernel
theorem dc11_play_72 : decode prog_1_method_56_code 72 = .ok (.invokevirtual 315, 3) := by decide +kernel
theorem dc11_play_75 : decode prog_1_method_56_code 75 = .ok (.return_, 1) := by decide +kernel
theorem dc11_rests_0 : decode prog_1_method_57_code 0 = .ok (.aload_n 0, 1) := by decide +kernel
theorem dc11_rests_1 : decode prog_1_method_57_code 1 = .ok (.iload_n 1, 1) := by decide +kernel
theorem dc11_rests_2 : decode prog_1_method_57_code 2 = .ok (.iload_n 2, 1) := by decide +kernel
theorem dc11_rests_3 : decode prog_1_method_57_code 3 = .ok (.invokevirtual 260, 3) := by decide +kernel
theorem dc11_rests_6 : decode prog_1_method_57_code 6 = .ok (.ifCond .eq 16, 3) := by decide +kernel
theorem dc11_rests_9 : decode prog_1_method_57_code 9 = .ok (.iload_n 3, 1) := by decide +kernel
theorem dc11_rests_10 : decode prog_1_method_57_code 10 = .ok (.invokestatic 340, 3) := by decide +kernel
theorem dc11_rests_13 : decode prog_1_method_57_code 13 = .ok (.ifCond .eq 9, 3) := by decide +kernel
theorem dc11_rests_16 : decode prog_1_method_57_code 16 = .ok (.iload 4, 2) := by decide +kernel
theorem dc11_rests_18 : decode prog_1_method_57_code 18 = .ok (.iconst (-1), 1) := by decide +kernel
theorem dc11_rests_19 : decode prog_1_method_57_code 19 = .ok (.if_icmp .ge 5, 3) := by decide +kernel
theorem dc11_rests_22 : decode prog_1_method_57_code 22 = .ok (.iconst (-1), 1) := by decide +kernel
theorem dc11_rests_23 : decode prog_1_method_57_code 23 = .ok (.ireturn, 1) := by decide +kernel
theorem dc11_rests_24 : decode prog_1_method_57_code 24 = .ok (.iconst 0, 1) := by decide +kernel
theorem dc11_rests_25 : decode prog_1_method_57_code 25 = .ok (.istore 5, 2) := by decide +kernel
theorem dc11_rests_27 : decode prog_1_method_57_code 27 = .ok (.iload 5, 2) := by decide +kernel
theorem dc11_rests_29 : decode prog_1_method_57_code 29 = .ok (.bipush 6, 2) := by decide +kernel
theorem dc11_rests_31 : decode prog_1_method_57_code 31 = .ok (.if_icmp .ge 86, 3) := by decide +kernel
theorem dc11_rests_34 : decode prog_1_method_57_code 34 = .ok (.iconst 0, 1) := by decide +kernel
theorem dc11_rests_35 : decode prog_1_method_57_code 35 = .ok (.istore 6, 2) := by decide +kernel
theorem dc11_rests_37 : decode prog_1_method_57_code 37 = .ok (.iload 6, 2) := by decide +kernel
theorem dc11_rests_39 : decode prog_1_method_57_code 39 = .ok (.bipush 6, 2) := by decide +kernel
theorem dc11_rests_41 : decode prog_1_method_57_code 41 = .ok (.if_icmp .ge 70, 3) := by decide +kernel
theorem dc11_rests_44 : decode prog_1_method_57_code 44 = .ok (.aload_n 0, 1) := by decide +kernel
theorem dc11_rests_45 : decode prog_1_method_57_code 45 = .ok (.iload_n 1, 1) := by decide +kernel
theorem dc11_rests_46 : decode prog_1_method_57_code 46 = .ok (.iload_n 2, 1) := by decide +kernel
theorem dc11_rests_47 : decode prog_1_method_57_code 47 = .ok (.iload_n 3, 1) := by decide +kernel
theorem dc11_rests_48 : decode prog_1_method_57_code 48 = .ok (.iload 5, 2) := by decide +kernel
theorem dc11_rests_50 : decode prog_1_method_57_code 50 = .ok (.iload 6, 2) := by decide +kernel
theorem dc11_rests_52 : decode prog_1_method_57_code 52 = .ok (.invokevirtual 434, 3) := by decide +kernel
theorem dc11_rests_55 : decode prog_1_method_57_code 55 = .ok (.aload_n 0, 1) := by decide +kernel
theorem dc11_rests_56 : decode prog_1_method_57_code 56 = .ok (.getfield 93, 3) := by decide +kernel
theorem dc11_rests_59 : decode prog_1_method_57_code 59 = .ok (.iload 5, 2) := by decide +kernel
theorem dc11_rests_61 : decode prog_1_method_57_code 61 = .ok (.bipush 6, 2) := by decide +kernel
theorem dc11_rests_63 : decode prog_1_method_57_code 63 = .ok (.imul, 1) := by decide +kernel
theorem dc11_rests_64 : decode prog_1_method_57_code 64 = .ok (.iload 6, 2) := by decide +kernel
theorem dc11_rests_66 : decode prog_1_method_57_code 66 = .ok (.iadd, 1) := by decide +kernel
theorem dc11_rests_67 : decode prog_1_method_57_code 67 = .ok (.aload_n 0, 1) := by decide +kernel
theorem dc11_rests_68 : decode prog_1_method_57_code 68 = .ok (.getfield 68, 3) := by decide +kernel
theorem dc11_rests_71 : decode prog_1_method_57_code 71 = .ok (.getfield 438, 3) := by decide +kernel
theorem dc11_rests_74 : decode prog_1_method_57_code 74 = .ok (.iload_n 1, 1) := by decide +kernel
theorem dc11_rests_75 : decode prog_1_method_57_code 75 = .ok (.iaload, 1) := by decide +kernel
theorem dc11_rests_76 : decode prog_1_method_57_code 76 = .ok (.iload 5, 2) := by decide +kernel
theorem dc11_rests_78 : decode prog_1_method_57_code 78 = .ok (.isub, 1) := by decide +kernel
theorem dc11_rests_79 : decode prog_1_method_57_code 79 = .ok (.iastore, 1) := by decide +kernel
theorem dc11_rests_80 : decode prog_1_method_57_code 80 = .ok (.aload_n 0, 1) := by decide +kernel
theorem dc11_rests_81 : decode prog_1_method_57_code 81 = .ok (.getfield 97, 3) := by decide +kernel
theorem dc11_rests_84 : decode prog_1_method_57_code 84 = .ok (.iload 5, 2) := by decide +kernel
theorem dc11_rests_86 : decode prog_1_method_57_code 86 = .ok (.bipush 6, 2) := by decide +kernel
theorem dc11_rests_88 : decode prog_1_method_57_code 88 = .ok (.imul, 1) := by decide +kernel
theorem dc11_rests_89 : decode prog_1_method_57_code 89 = .ok (.iload 6, 2) := by decide +kernel
theorem dc11_rests_91 : decode prog_1_method_57_code 91 = .ok (.iadd, 1) := by decide +kernel
theorem dc11_rests_92 : decode prog_1_method_57_code 92 = .ok (.aload_n 0, 1) := by decide +kernel
theorem dc11_rests_93 : decode prog_1_method_57_code 93 = .ok (.getfield 68, 3) := by decide +kernel
theorem dc11_rests_96 : decode prog_1_method_57_code 96 = .ok (.getfield 438, 3) := by decide +kernel
theorem dc11_rests_99 : decode prog_1_method_57_code 99 = .ok (.iload_n 2, 1) := by decide +kernel
theorem dc11_rests_100 : decode prog_1_method_57_code 100 = .ok (.iaload, 1) := by decide +kernel
theorem dc11_rests_101 : decode prog_1_method_57_code 101 = .ok (.iload 6, 2) := by decide +kernel
theorem dc11_rests_103 : decode prog_1_method_57_code 103 = .ok (.isub, 1) := by decide +kernel
theorem dc11_rests_104 : decode prog_1_method_57_code 104 = .ok (.iastore, 1) := by decide +kernel
theorem dc11_rests_105 : decode prog_1_method_57_code 105 = .ok (.iinc 6 1, 3) := by decide +kernel
theorem dc11_rests_108 : decode prog_1_method_57_code 108 = .ok (.goto (-71), 3) := by decide +kernel
theorem dc11_rests_111 : decode prog_1_method_57_code 111 = .ok (.iinc 5 1, 3) := by decide +kernel
theorem dc11_rests_114 : decode prog_1_method_57_code 114 = .ok (.goto (-87), 3) := by decide +kernel
theorem dc11_rests_117 : decode prog_1_method_57_code 117 = .ok (.iconst 0, 1) := by decide +kernel
theorem dc11_rests_118 : decode prog_1_method_57_code 118 = .ok (.istore 5, 2) := by decide +kernel
theorem dc11_rests_120 : decode prog_1_method_57_code 120 = .ok (.iconst 0, 1) := by decide +kernel
theorem dc11_rests_121 : decode prog_1_method_57_code 121 = .ok (.istore 6, 2) := by decide +kernel
theorem dc11_rests_123 : decode prog_1_method_57_code 123 = .ok (.iload 6, 2) := by decide +kernel
theorem dc11_rests_125 : decode prog_1_method_57_code 125 = .ok (.bipush 6, 2) := by decide +kernel
theorem dc11_rests_127 : decode prog_1_method_57_code 127 = .ok (.if_icmp .ge 55, 3) := by decide +kernel
theorem dc11_rests_130 : decode prog_1_method_57_code 130 = .ok (.iconst 0, 1) := by decide +kernel
theorem dc11_rests_131 : decode prog_1_method_57_code 131 = .ok (.istore 7, 2) := by decide +kernel
theorem dc11_rests_133 : decode prog_1_method_57_code 133 = .ok (.iload 7, 2) := by decide +kernel
theorem dc11_rests_135 : decode prog_1_method_57_code 135 = .ok (.bipush 6, 2) := by decide +kernel
theorem dc11_rests_137 : decode prog_1_method_57_code 137 = .ok (.if_icmp .ge 39, 3) := by decide +kernel
theorem dc11_rests_140 : decode prog_1_method_57_code 140 = .ok (.aload_n 0, 1) := by decide +kernel
theorem dc11_rests_141 : decode prog_1_method_57_code 141 = .ok (.iload 6, 2) := by decide +kernel
theorem dc11_rests_143 : decode prog_1_method_57_code 143 = .ok (.iload 7, 2) := by decide +kernel
theorem dc11_rests_145 : decode prog_1_method_57_code 145 = .ok (.invokevirtual 444, 3) := by decide +kernel
theorem dc11_rests_148 : decode prog_1_method_57_code 148 = .ok (.ifCond .eq 22, 3) := by decide +kernel
theorem dc11_rests_151 : decode prog_1_method_57_code 151 = .ok (.iload 5, 2) := by decide +kernel
theorem dc11_rests_153 : decode prog_1_method_57_code 153 = .ok (.iload 4, 2) := by decide +kernel
theorem dc11_rests_155 : decode prog_1_method_57_code 155 = .ok (.if_icmp .ne 12, 3) := by decide +kernel
theorem dc11_rests_158 : decode prog_1_method_57_code 158 = .ok (.bipush 10, 2) := by decide +kernel
theorem dc11_rests_160 : decode prog_1_method_57_code 160 = .ok (.iload 6, 2) := by decide +kernel
theorem dc11_rests_162 : decode prog_1_method_57_code 162 = .ok (.imul, 1) := by decide +kernel
theorem dc11_rests_163 : decode prog_1_method_57_code 163 = .ok (.iload 7, 2) := by decide +kernel
theorem dc11_rests_165 : decode prog_1_method_57_code 165 = .ok (.iadd, 1) := by decide +kernel
theorem dc11_rests_166 : decode prog_1_method_57_code 166 = .ok (.ireturn, 1) := by decide +kernel
theorem dc11_rests_167 : decode prog_1_method_57_code 167 = .ok (.iinc 5 1, 3) := by decide +kernel
theorem dc11_rests_170 : decode prog_1_method_57_code 170 = .ok (.iinc 7 1, 3) := by decide +kernel
theorem dc11_rests_173 : decode prog_1_method_57_code 173 = .ok (.goto (-40), 3) := by decide +kernel
theorem dc11_rests_176 : decode prog_1_method_57_code 176 = .ok (.iinc 6 1, 3) := by decide +kernel
theorem dc11_rests_179 : decode prog_1_method_57_code 179 = .ok (.goto (-56), 3) := by decide +kernel
theorem dc11_rests_182 : decode prog_1_method_57_code 182 = .ok (.iload 4, 2) := by decide +kernel
theorem dc11_rests_184 : decode prog_1_method_57_code 184 = .ok (.iconst (-1), 1) := by decide +kernel
theorem dc11_rests_185 : decode prog_1_method_57_code 185 = .ok (.if_icmp .ne 8, 3) := by decide +kernel
theorem dc11_rests_188 : decode prog_1_method_57_code 188 = .ok (.iload 5, 2) := by decide +kernel
theorem dc11_rests_190 : decode prog_1_method_57_code 190 = .ok (.goto 4, 3) := by decide +kernel
theorem dc11_rests_193 : decode prog_1_method_57_code 193 = .ok (.iconst (-1), 1) := by decide +kernel
theorem dc11_rests_194 : decode prog_1_method_57_code 194 = .ok (.ireturn, 1) := by decide +kernel
theorem dc11_isRest_0 : decode prog_1_method_58_code 0 = .ok (.iload_n 1, 1) := by decide +kernel
theorem dc11_isRest_1 : decode prog_1_method_58_code 1 = .ok (.bipush 6, 2) := by decide +kernel
theorem dc11_isRest_3 : decode prog_1_method_58_code 3 = .ok (.imul, 1) := by decide +kernel
theorem dc11_isRest_4 : decode prog_1_method_58_code 4 = .ok (.iload_n 2, 1) := by decide +kernel
theorem dc11_isRest_5 : decode prog_1_method_58_code 5 = .ok (.iadd, 1) := by decide +kernel
theorem dc11_isRest_6 : decode prog_1_method_58_code 6 = .ok (.istore_n 3, 1) := by decide +kernel
theorem dc11_isRest_7 : decode prog_1_method_58_code 7 = .ok (.iconst 0, 1) := by decide +kernel
theorem dc11_isRest_8 : decode prog_1_method_58_code 8 = .ok (.istore 4, 2) := by decide +kernel
theorem dc11_isRest_10 : decode prog_1_method_58_code 10 = .ok (.iload 4, 2) := by decide +kernel
theorem dc11_isRest_12 : decode prog_1_method_58_code 12 = .ok (.bipush 6, 2) := by decide +kernel
theorem dc11_isRest_14 : decode prog_1_method_58_code 14 = .ok (.if_icmp .ge 53, 3) := by decide +kernel
theorem dc11_isRest_17 : decode prog_1_method_58_code 17 = .ok (.aload_n 0, 1) := by decide +kernel
theorem dc11_isRest_18 : decode prog_1_method_58_code 18 = .ok (.getfield 93, 3) := by decide +kernel
theorem dc11_isRest_21 : decode prog_1_method_58_code 21 = .ok (.iload 4, 2) := by decide +kernel
theorem dc11_isRest_23 : decode prog_1_method_58_code 23 = .ok (.bipush 6, 2) := by decide +kernel
theorem dc11_isRest_25 : decode prog_1_method_58_code 25 = .ok (.imul, 1) := by decide +kernel
theorem dc11_isRest_26 : decode prog_1_method_58_code 26 = .ok (.iload_n 2, 1) := by decide +kernel
theorem dc11_isRest_27 : decode prog_1_method_58_code 27 = .ok (.iadd, 1) := by decide +kernel
theorem dc11_isRest_28 : decode prog_1_method_58_code 28 = .ok (.iaload, 1) := by decide +kernel
theorem dc11_isRest_29 : decode prog_1_method_58_code 29 = .ok (.aload_n 0, 1) := by decide +kernel
theorem dc11_isRest_30 : decode prog_1_method_58_code 30 = .ok (.getfield 93, 3) := by decide +kernel
theorem dc11_isRest_33 : decode prog_1_method_58_code 33 = .ok (.iload_n 3, 1) := by decide +kernel
theorem dc11_isRest_34 : decode prog_1_method_58_code 34 = .ok (.iaload, 1) := by decide +kernel
theorem dc11_isRest_35 : decode prog_1_method_58_code 35 = .ok (.if_icmp .gt 24, 3) := by decide +kernel
theorem dc11_isRest_38 : decode prog_1_method_58_code 38 = .ok (.aload_n 0, 1) := by decide +kernel
theorem dc11_isRest_39 : decode prog_1_method_58_code 39 = .ok (.getfield 97, 3) := by decide +kernel
theorem dc11_isRest_42 : decode prog_1_method_58_code 42 = .ok (.iload_n 1, 1) := by decide +kernel
theorem dc11_isRest_43 : decode prog_1_method_58_code 43 = .ok (.bipush 6, 2) := by decide +kernel
theorem dc11_isRest_45 : decode prog_1_method_58_code 45 = .ok (.imul, 1) := by decide +kernel
theorem dc11_isRest_46 : decode prog_1_method_58_code 46 = .ok (.iload 4, 2) := by decide +kernel
theorem dc11_isRest_48 : decode prog_1_method_58_code 48 = .ok (.iadd, 1) := by decide +kernel
theorem dc11_isRest_49 : decode prog_1_method_58_code 49 = .ok (.iaload, 1) := by decide +kernel
theorem dc11_isRest_50 : decode prog_1_method_58_code 50 = .ok (.aload_n 0, 1) := by decide +kernel
theorem dc11_isRest_51 : decode prog_1_method_58_code 51 = .ok (.getfield 97, 3) := by decide +kernel
theorem dc11_isRest_54 : decode prog_1_method_58_code 54 = .ok (.iload_n 3, 1) := by decide +kernel
theorem dc11_isRest_55 : decode prog_1_method_58_code 55 = .ok (.iaload, 1) := by decide +kernel
theorem dc11_isRest_56 : decode prog_1_method_58_code 56 = .ok (.if_icmp .le 5, 3) := by decide +kernel
theorem dc11_isRest_59 : decode prog_1_method_58_code 59 = .ok (.iconst 0, 1) := by decide +kernel
theorem dc11_isRest_60 : decode prog_1_method_58_code 60 = .ok (.ireturn, 1) := by decide +kernel
theorem dc11_isRest_61 : decode prog_1_method_58_code 61 = .ok (.iinc 4 1, 3) := by decide +kernel
theorem dc11_isRest_64 : decode prog_1_method_58_code 64 = .ok (.goto (-54), 3) := by decide +kernel
theorem dc11_isRest_67 : decode prog_1_method_58_code 67 = .ok (.iconst 1, 1) := by decide +kernel
theorem dc11_isRest_68 : decode prog_1_method_58_code 68 = .ok (.ireturn, 1) := by decide +kernel
theorem dc11_turn_0 : decode prog_1_method_59_code 0 = .ok (.aload_n 0, 1) := by decide +kernel
theorem dc11_turn_1 : decode prog_1_method_59_code 1 = .ok (.getfield 58, 3) := by decide +kernel
theorem dc11_turn_4 : decode prog_1_method_59_code 4 = .ok (.iload_n 1, 1) := by decide +kernel
theorem dc11_turn_5 : decode prog_1_method_59_code 5 = .ok (.invokevirtual 180, 3) := by decide +kernel
theorem dc11_turn_8 : decode prog_1_method_59_code 8 = .ok (.ifCond .ne 5, 3) := by decide +kernel
theorem dc11_turn_11 : decode prog_1_method_59_code 11 = .ok (.iconst (-1), 1) := by decide +kernel
theorem dc11_turn_12 : decode prog_1_method_59_code 12 = .ok (.ireturn, 1) := by decide +kernel
theorem dc11_turn_13 : decode prog_1_method_59_code 13 = .ok (.aload_n 0, 1) := by decide +kernel
theorem dc11_turn_14 : decode prog_1_method_59_code 14 = .ok (.getfield 68, 3) := by decide +kernel
theorem dc11_turn_17 : decode prog_1_method_59_code 17 = .ok (.aload_n 0, 1) := by decide +kernel
theorem dc11_turn_18 : decode prog_1_method_59_code 18 = .ok (.getfield 58, 3) := by decide +kernel
theorem dc11_turn_21 : decode prog_1_method_59_code 21 = .ok (.iconst 0, 1) := by decide +kernel
theorem dc11_turn_22 : decode prog_1_method_59_code 22 = .ok (.invokevirtual 392, 3) := by decide +kernel
theorem dc11_turn_25 : decode prog_1_method_59_code 25 = .ok (.iconst 0, 1) := by decide +kernel
theorem dc11_turn_26 : decode prog_1_method_59_code 26 = .ok (.istore_n 2, 1) := by decide +kernel
theorem dc11_turn_27 : decode prog_1_method_59_code 27 = .ok (.iload_n 2, 1) := by decide +kernel
theorem dc11_turn_28 : decode prog_1_method_59_code 28 = .ok (.aload_n 0, 1) := by decide +kernel
theorem dc11_turn_29 : decode prog_1_method_59_code 29 = .ok (.getfield 58, 3) := by decide +kernel
theorem dc11_turn_32 : decode prog_1_method_59_code 32 = .ok (.getfield 154, 3) := by decide +kernel
theorem dc11_turn_35 : decode prog_1_method_59_code 35 = .ok (.if_icmp .ge 23, 3) := by decide +kernel
theorem dc11_turn_38 : decode prog_1_method_59_code 38 = .ok (.aload_n 0, 1) := by decide +kernel
theorem dc11_turn_39 : decode prog_1_method_59_code 39 = .ok (.getfield 68, 3) := by decide +kernel
theorem dc11_turn_42 : decode prog_1_method_59_code 42 = .ok (.iload_n 2, 1) := by decide +kernel
theorem dc11_turn_43 : decode prog_1_method_59_code 43 = .ok (.invokevirtual 447, 3) := by decide +kernel
theorem dc11_turn_46 : decode prog_1_method_59_code 46 = .ok (.iload_n 1, 1) := by decide +kernel
theorem dc11_turn_47 : decode prog_1_method_59_code 47 = .ok (.if_icmp .ne 5, 3) := by decide +kernel
theorem dc11_turn_50 : decode prog_1_method_59_code 50 = .ok (.iload_n 2, 1) := by decide +kernel
theorem dc11_turn_51 : decode prog_1_method_59_code 51 = .ok (.ireturn, 1) := by decide +kernel
theorem dc11_turn_52 : decode prog_1_method_59_code 52 = .ok (.iinc 2 1, 3) := by decide +kernel
theorem dc11_turn_55 : decode prog_1_method_59_code 55 = .ok (.goto (-28), 3) := by decide +kernel
theorem dc11_turn_58 : decode prog_1_method_59_code 58 = .ok (.iconst (-1), 1) := by decide +kernel
theorem dc11_turn_59 : decode prog_1_method_59_code 59 = .ok (.ireturn, 1) := by decide +kernel
theorem dc11_forgiven_0 : decode prog_1_method_60_code 0 = .ok (.aload_n 0, 1) := by decide +kernel
theorem dc11_forgiven_1 : decode prog_1_method_60_code 1 = .ok (.getfield 58, 3) := by decide +kernel
theorem dc11_forgiven_4 : decode prog_1_method_60_code 4 = .ok (.iload_n 1, 1) := by decide +kernel
theorem dc11_forgiven_5 : decode prog_1_method_60_code 5 = .ok (.invokevirtual 180, 3) := by decide +kernel
theorem dc11_forgiven_8 : decode prog_1_method_60_code 8 = .ok (.ifCond .ne 5, 3) := by decide +kernel
theorem dc11_forgiven_11 : decode prog_1_method_60_code 11 = .ok (.iconst (-1), 1) := by decide +kernel
theorem dc11_forgiven_12 : decode prog_1_method_60_code 12 = .ok (.ireturn, 1) := by decide +kernel
theorem dc11_forgiven_13 : decode prog_1_method_60_code 13 = .ok (.aload_n 0, 1) := by decide +kernel
theorem dc11_forgiven_14 : decode prog_1_method_60_code 14 = .ok (.getfield 62, 3) := by decide +kernel
theorem dc11_forgiven_17 : decode prog_1_method_60_code 17 = .ok (.aload_n 0, 1) := by decide +kernel
theorem dc11_forgiven_18 : decode prog_1_method_60_code 18 = .ok (.getfield 58, 3) := by decide +kernel
theorem dc11_forgiven_21 : decode prog_1_method_60_code 21 = .ok (.invokevirtual 140, 3) := by decide +kernel
theorem dc11_forgiven_24 : decode prog_1_method_60_code 24 = .ok (.aload_n 0, 1) := by decide +kernel
theorem dc11_forgiven_25 : decode prog_1_method_60_code 25 = .ok (.getfield 68, 3) := by decide +kernel
theorem dc11_forgiven_28 : decode prog_1_method_60_code 28 = .ok (.aload_n 0, 1) := by decide +kernel
theorem dc11_forgiven_29 : decode prog_1_method_60_code 29 = .ok (.getfield 62, 3) := by decide +kernel
theorem dc11_forgiven_32 : decode prog_1_method_60_code 32 = .ok (.iconst 0, 1) := by decide +kernel
theorem dc11_forgiven_33 : decode prog_1_method_60_code 33 = .ok (.invokevirtual 392, 3) := by decide +kernel
theorem dc11_forgiven_36 : decode prog_1_method_60_code 36 = .ok (.iconst 0, 1) := by decide +kernel
theorem dc11_forgiven_37 : decode prog_1_method_60_code 37 = .ok (.istore_n 2, 1) := by decide +kernel
theorem dc11_forgiven_38 : decode prog_1_method_60_code 38 = .ok (.iload_n 2, 1) := by decide +kernel
theorem dc11_forgiven_39 : decode prog_1_method_60_code 39 = .ok (.aload_n 0, 1) := by decide +kernel
theorem dc11_forgiven_40 : decode prog_1_method_60_code 40 = .ok (.getfield 58, 3) := by decide +kernel
theorem dc11_forgiven_43 : decode prog_1_method_60_code 43 = .ok (.getfield 186, 3) := by decide +kernel
theorem dc11_forgiven_46 : decode prog_1_method_60_code 46 = .ok (.iload_n 1, 1) := by decide +kernel
theorem dc11_forgiven_47 : decode prog_1_method_60_code 47 = .ok (.iaload, 1) := by decide +kernel
theorem dc11_forgiven_48 : decode prog_1_method_60_code 48 = .ok (.if_icmp .gt 49, 3) := by decide +kernel
theorem dc11_forgiven_51 : decode prog_1_method_60_code 51 = .ok (.aload_n 0, 1) := by decide +kernel
theorem dc11_forgiven_52 : decode prog_1_method_60_code 52 = .ok (.getfield 68, 3) := by decide +kernel
theorem dc11_forgiven_55 : decode prog_1_method_60_code 55 = .ok (.getfield 426, 3) := by decide +kernel
theorem dc11_forgiven_58 : decode prog_1_method_60_code 58 = .ok (.iload_n 1, 1) := by decide +kernel
theorem dc11_forgiven_59 : decode prog_1_method_60_code 59 = .ok (.aload_n 0, 1) := by decide +kernel
theorem dc11_forgiven_60 : decode prog_1_method_60_code 60 = .ok (.getfield 58, 3) := by decide +kernel
theorem dc11_forgiven_63 : decode prog_1_method_60_code 63 = .ok (.aload_n 0, 1) := by decide +kernel
theorem dc11_forgiven_64 : decode prog_1_method_60_code 64 = .ok (.getfield 58, 3) := by decide +kernel
theorem dc11_forgiven_67 : decode prog_1_method_60_code 67 = .ok (.getfield 186, 3) := by decide +kernel
theorem dc11_forgiven_70 : decode prog_1_method_60_code 70 = .ok (.iload_n 1, 1) := by decide +kernel
theorem dc11_forgiven_71 : decode prog_1_method_60_code 71 = .ok (.iaload, 1) := by decide +kernel
theorem dc11_forgiven_72 : decode prog_1_method_60_code 72 = .ok (.iload_n 2, 1) := by decide +kernel
theorem dc11_forgiven_73 : decode prog_1_method_60_code 73 = .ok (.isub, 1) := by decide +kernel
theorem dc11_forgiven_74 : decode prog_1_method_60_code 74 = .ok (.invokevirtual 450, 3) := by decide +kernel
theorem dc11_forgiven_77 : decode prog_1_method_60_code 77 = .ok (.iastore, 1) := by decide +kernel
theorem dc11_forgiven_78 : decode prog_1_method_60_code 78 = .ok (.aload_n 0, 1) := by decide +kernel
theorem dc11_forgiven_79 : decode prog_1_method_60_code 79 = .ok (.getfield 68, 3) := by decide +kernel
theorem dc11_forgiven_82 : decode prog_1_method_60_code 82 = .ok (.iload_n 1, 1) := by decide +kernel
theorem dc11_forgiven_83 : decode prog_1_method_60_code 83 = .ok (.invokevirtual 447, 3) := by decide +kernel
theorem dc11_forgiven_86 : decode prog_1_method_60_code 86 = .ok (.ifCond .le 5, 3) := by decide +kernel
theorem dc11_forgiven_89 : decode prog_1_method_60_code 89 = .ok (.iload_n 2, 1) := by decide +kernel
theorem dc11_forgiven_90 : decode prog_1_method_60_code 90 = .ok (.ireturn, 1) := by decide +kernel
theorem dc11_forgiven_91 : decode prog_1_method_60_code 91 = .ok (.iinc 2 1, 3) := by decide +kernel
theorem dc11_forgiven_94 : decode prog_1_method_60_code 94 = .ok (.goto (-56), 3) := by decide +kernel
theorem dc11_forgiven_97 : decode prog_1_method_60_code 97 = .ok (.iconst (-1), 1) := by decide +kernel
theorem dc11_forgiven_98 : decode prog_1_method_60_code 98 = .ok (.ireturn, 1) := by decide +kernel
theorem dc11_ahead_0 : decode prog_1_method_61_code 0 = .ok (.aload_n 0, 1) := by decide +kernel
theorem dc11_ahead_1 : decode prog_1_method_61_code 1 = .ok (.getfield 58, 3) := by decide +kernel
theorem dc11_ahead_4 : decode prog_1_method_61_code 4 = .ok (.iload_n 1, 1) := by decide +kernel
theorem dc11_ahead_5 : decode prog_1_method_61_code 5 = .ok (.invokevirtual 180, 3) := by decide +kernel
theorem dc11_ahead_8 : decode prog_1_method_61_code 8 = .ok (.ifCond .eq 20, 3) := by decide +kernel
theorem dc11_ahead_11 : decode prog_1_method_61_code 11 = .ok (.iload_n 2, 1) := by decide +kernel
theorem dc11_ahead_12 : decode prog_1_method_61_code 12 = .ok (.ifCond .lt 16, 3) := by decide +kernel
theorem dc11_ahead_15 : decode prog_1_method_61_code 15 = .ok (.iload_n 2, 1) := by decide +kernel
theorem dc11_ahead_16 : decode prog_1_method_61_code 16 = .ok (.bipush 30, 2) := by decide +kernel
theorem dc11_ahead_18 : decode prog_1_method_61_code 18 = .ok (.if_icmp .gt 10, 3) := by decide +kernel
theorem dc11_ahead_21 : decode prog_1_method_61_code 21 = .ok (.iload_n 3, 1) := by decide +kernel
theorem dc11_ahead_22 : decode prog_1_method_61_code 22 = .ok (.invokestatic 340, 3) := by decide +kernel
theorem dc11_ahead_25 : decode prog_1_method_61_code 25 = .ok (.ifCond .ne 5, 3) := by decide +kernel
theorem dc11_ahead_28 : decode prog_1_method_61_code 28 = .ok (.iconst (-1), 1) := by decide +kernel
theorem dc11_ahead_29 : decode prog_1_method_61_code 29 = .ok (.ireturn, 1) := by decide +kernel
theorem dc11_ahead_30 : decode prog_1_method_61_code 30 = .ok (.aload_n 0, 1) := by decide +kernel
theorem dc11_ahead_31 : decode prog_1_method_61_code 31 = .ok (.getfield 62, 3) := by decide +kernel
theorem dc11_ahead_34 : decode prog_1_method_61_code 34 = .ok (.aload_n 0, 1) := by decide +kernel
theorem dc11_ahead_35 : decode prog_1_method_61_code 35 = .ok (.getfield 58, 3) := by decide +kernel
theorem dc11_ahead_38 : decode prog_1_method_61_code 38 = .ok (.invokevirtual 140, 3) := by decide +kernel
theorem dc11_ahead_41 : decode prog_1_method_61_code 41 = .ok (.iconst 0, 1) := by decide +kernel
theorem dc11_ahead_42 : decode prog_1_method_61_code 42 = .ok (.istore 4, 2) := by decide +kernel
theorem dc11_ahead_44 : decode prog_1_method_61_code 44 = .ok (.iload 4, 2) := by decide +kernel
theorem dc11_ahead_46 : decode prog_1_method_61_code 46 = .ok (.iload_n 2, 1) := by decide +kernel
theorem dc11_ahead_47 : decode prog_1_method_61_code 47 = .ok (.if_icmp .ge 32, 3) := by decide +kernel
theorem dc11_ahead_50 : decode prog_1_method_61_code 50 = .ok (.aload_n 0, 1) := by decide +kernel
theorem dc11_ahead_51 : decode prog_1_method_61_code 51 = .ok (.getfield 68, 3) := by decide +kernel
theorem dc11_ahead_54 : decode prog_1_method_61_code 54 = .ok (.aload_n 0, 1) := by decide +kernel
theorem dc11_ahead_55 : decode prog_1_method_61_code 55 = .ok (.getfield 62, 3) := by decide +kernel
theorem dc11_ahead_58 : decode prog_1_method_61_code 58 = .ok (.iload_n 3, 1) := by decide +kernel
theorem dc11_ahead_59 : decode prog_1_method_61_code 59 = .ok (.invokevirtual 315, 3) := by decide +kernel
theorem dc11_ahead_62 : decode prog_1_method_61_code 62 = .ok (.aload_n 0, 1) := by decide +kernel
theorem dc11_ahead_63 : decode prog_1_method_61_code 63 = .ok (.getfield 68, 3) := by decide +kernel
theorem dc11_ahead_66 : decode prog_1_method_61_code 66 = .ok (.aload_n 0, 1) := by decide +kernel
theorem dc11_ahead_67 : decode prog_1_method_61_code 67 = .ok (.getfield 62, 3) := by decide +kernel
theorem dc11_ahead_70 : decode prog_1_method_61_code 70 = .ok (.invokevirtual 329, 3) := by decide +kernel
theorem dc11_ahead_73 : decode prog_1_method_61_code 73 = .ok (.iinc 4 1, 3) := by decide +kernel
theorem dc11_ahead_76 : decode prog_1_method_61_code 76 = .ok (.goto (-32), 3) := by decide +kernel
theorem dc11_ahead_79 : decode prog_1_method_61_code 79 = .ok (.aload_n 0, 1) := by decide +kernel
theorem dc11_ahead_80 : decode prog_1_method_61_code 80 = .ok (.getfield 62, 3) := by decide +kernel
theorem dc11_ahead_83 : decode prog_1_method_61_code 83 = .ok (.getfield 186, 3) := by decide +kernel
theorem dc11_ahead_86 : decode prog_1_method_61_code 86 = .ok (.iload_n 1, 1) := by decide +kernel
theorem dc11_ahead_87 : decode prog_1_method_61_code 87 = .ok (.iaload, 1) := by decide +kernel
theorem dc11_ahead_88 : decode prog_1_method_61_code 88 = .ok (.ireturn, 1) := by decide +kernel
theorem dc11_even_0 : decode prog_1_method_62_code 0 = .ok (.aload_n 0, 1) := by decide +kernel
theorem dc11_even_1 : decode prog_1_method_62_code 1 = .ok (.getfield 58, 3) := by decide +kernel
theorem dc11_even_4 : decode prog_1_method_62_code 4 = .ok (.iload_n 1, 1) := by decide +kernel
theorem dc11_even_5 : decode prog_1_method_62_code 5 = .ok (.invokevirtual 180, 3) := by decide +kernel
theorem dc11_even_8 : decode prog_1_method_62_code 8 = .ok (.ifCond .eq 10, 3) := by decide +kernel
theorem dc11_even_11 : decode prog_1_method_62_code 11 = .ok (.iload_n 2, 1) := by decide +kernel
theorem dc11_even_12 : decode prog_1_method_62_code 12 = .ok (.invokestatic 340, 3) := by decide +kernel
theorem dc11_even_15 : decode prog_1_method_62_code 15 = .ok (.ifCond .ne 5, 3) := by decide +kernel
theorem dc11_even_18 : decode prog_1_method_62_code 18 = .ok (.iconst (-1), 1) := by decide +kernel
theorem dc11_even_19 : decode prog_1_method_62_code 19 = .ok (.ireturn, 1) := by decide +kernel
theorem dc11_even_20 : decode prog_1_method_62_code 20 = .ok (.aload_n 0, 1) := by decide +kernel
theorem dc11_even_21 : decode prog_1_method_62_code 21 = .ok (.getfield 62, 3) := by decide +kernel
theorem dc11_even_24 : decode prog_1_method_62_code 24 = .ok (.aload_n 0, 1) := by decide +kernel
theorem dc11_even_25 : decode prog_1_method_62_code 25 = .ok (.getfield 58, 3) := by decide +kernel
theorem dc11_even_28 : decode prog_1_method_62_code 28 = .ok (.invokevirtual 140, 3) := by decide +kernel
theorem dc11_even_31 : decode prog_1_method_62_code 31 = .ok (.iconst 0, 1) := by decide +kernel
theorem dc11_even_32 : decode prog_1_method_62_code 32 = .ok (.istore_n 3, 1) := by decide +kernel
theorem dc11_even_33 : decode prog_1_method_62_code 33 = .ok (.iload_n 3, 1) := by decide +kernel
theorem dc11_even_34 : decode prog_1_method_62_code 34 = .ok (.bipush 60, 2) := by decide +kernel
theorem dc11_even_36 : decode prog_1_method_62_code 36 = .ok (.if_icmp .gt 46, 3) := by decide +kernel
theorem dc11_even_39 : decode prog_1_method_62_code 39 = .ok (.aload_n 0, 1) := by decide +kernel
theorem dc11_even_40 : decode prog_1_method_62_code 40 = .ok (.getfield 62, 3) := by decide +kernel
theorem dc11_even_43 : decode prog_1_method_62_code 43 = .ok (.getfield 186, 3) := by decide +kernel
theorem dc11_even_46 : decode prog_1_method_62_code 46 = .ok (.iload_n 1, 1) := by decide +kernel
theorem dc11_even_47 : decode prog_1_method_62_code 47 = .ok (.iaload, 1) := by decide +kernel
theorem dc11_even_48 : decode prog_1_method_62_code 48 = .ok (.ifCond .ne 5, 3) := by decide +kernel
theorem dc11_even_51 : decode prog_1_method_62_code 51 = .ok (.iload_n 3, 1) := by decide +kernel
theorem dc11_even_52 : decode prog_1_method_62_code 52 = .ok (.ireturn, 1) := by decide +kernel
theorem dc11_even_53 : decode prog_1_method_62_code 53 = .ok (.aload_n 0, 1) := by decide +kernel
theorem dc11_even_54 : decode prog_1_method_62_code 54 = .ok (.getfield 68, 3) := by decide +kernel
theorem dc11_even_57 : decode prog_1_method_62_code 57 = .ok (.aload_n 0, 1) := by decide +kernel
theorem dc11_even_58 : decode prog_1_method_62_code 58 = .ok (.getfield 62, 3) := by decide +kernel
theorem dc11_even_61 : decode prog_1_method_62_code 61 = .ok (.iload_n 2, 1) := by decide +kernel
theorem dc11_even_62 : decode prog_1_method_62_code 62 = .ok (.invokevirtual 315, 3) := by decide +kernel
theorem dc11_even_65 : decode prog_1_method_62_code 65 = .ok (.aload_n 0, 1) := by decide +kernel
theorem dc11_even_66 : decode prog_1_method_62_code 66 = .ok (.getfield 68, 3) := by decide +kernel
theorem dc11_even_69 : decode prog_1_method_62_code 69 = .ok (.aload_n 0, 1) := by decide +kernel
theorem dc11_even_70 : decode prog_1_method_62_code 70 = .ok (.getfield 62, 3) := by decide +kernel
theorem dc11_even_73 : decode prog_1_method_62_code 73 = .ok (.invokevirtual 329, 3) := by decide +kernel
theorem dc11_even_76 : decode prog_1_method_62_code 76 = .ok (.iinc 3 1, 3) := by decide +kernel
theorem dc11_even_79 : decode prog_1_method_62_code 79 = .ok (.goto (-46), 3) := by decide +kernel
theorem dc11_even_82 : decode prog_1_method_62_code 82 = .ok (.iconst (-1), 1) := by decide +kernel
theorem dc11_even_83 : decode prog_1_method_62_code 83 = .ok (.ireturn, 1) := by decide +kernel
theorem dc11_together_0 : decode prog_1_method_63_code 0 = .ok (.aload_n 0, 1) := by decide +kernel
theorem dc11_together_1 : decode prog_1_method_63_code 1 = .ok (.iload_n 1, 1) := by decide +kernel
theorem dc11_together_2 : decode prog_1_method_63_code 2 = .ok (.invokevirtual 251, 3) := by decide +kernel
theorem dc11_together_5 : decode prog_1_method_63_code 5 = .ok (.ifCond .ne 5, 3) := by decide +kernel
theorem dc11_together_8 : decode prog_1_method_63_code 8 = .ok (.iconst (-1), 1) := by decide +kernel
theorem dc11_together_9 : decode prog_1_method_63_code 9 = .ok (.ireturn, 1) := by decide +kernel
theorem dc11_together_10 : decode prog_1_method_63_code 10 = .ok (.aload_n 0, 1) := by decide +kernel
theorem dc11_together_11 : decode prog_1_method_63_code 11 = .ok (.getfield 62, 3) := by decide +kernel
theorem dc11_together_14 : decode prog_1_method_63_code 14 = .ok (.aload_n 0, 1) := by decide +kernel
theorem dc11_together_15 : decode prog_1_method_63_code 15 = .ok (.getfield 58, 3) := by decide +kernel
