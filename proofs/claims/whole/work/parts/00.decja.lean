theorem dMt_min_0 : decode prog_22_method_69_code 0 = .ok (.iload_n 0, 1) := by decide +kernel
theorem dMt_min_1 : decode prog_22_method_69_code 1 = .ok (.iload_n 1, 1) := by decide +kernel
theorem dMt_min_2 : decode prog_22_method_69_code 2 = .ok (.if_icmp .gt 7, 3) := by decide +kernel
theorem dMt_min_5 : decode prog_22_method_69_code 5 = .ok (.iload_n 0, 1) := by decide +kernel
theorem dMt_min_6 : decode prog_22_method_69_code 6 = .ok (.goto 4, 3) := by decide +kernel
theorem dMt_min_9 : decode prog_22_method_69_code 9 = .ok (.iload_n 1, 1) := by decide +kernel
theorem dMt_min_10 : decode prog_22_method_69_code 10 = .ok (.ireturn, 1) := by decide +kernel
theorem dSr_length_0 : decode prog_24_method_54_code 0 = .ok (.aload_n 0, 1) := by decide +kernel
theorem dSr_length_1 : decode prog_24_method_54_code 1 = .ok (.getfield 9, 3) := by decide +kernel
theorem dSr_length_4 : decode prog_24_method_54_code 4 = .ok (.arraylength, 1) := by decide +kernel
theorem dSr_length_5 : decode prog_24_method_54_code 5 = .ok (.aload_n 0, 1) := by decide +kernel
theorem dSr_length_6 : decode prog_24_method_54_code 6 = .ok (.invokevirtual 335, 3) := by decide +kernel
theorem dSr_length_9 : decode prog_24_method_54_code 9 = .ok (.ishr, 1) := by decide +kernel
theorem dSr_length_10 : decode prog_24_method_54_code 10 = .ok (.ireturn, 1) := by decide +kernel
theorem dSr_coder_0 : decode prog_24_method_152_code 0 = .ok (.getstatic 38, 3) := by decide +kernel
theorem dSr_coder_3 : decode prog_24_method_152_code 3 = .ok (.ifCond .eq 10, 3) := by decide +kernel
theorem dSr_coder_6 : decode prog_24_method_152_code 6 = .ok (.aload_n 0, 1) := by decide +kernel
theorem dSr_coder_7 : decode prog_24_method_152_code 7 = .ok (.getfield 15, 3) := by decide +kernel
theorem dSr_coder_10 : decode prog_24_method_152_code 10 = .ok (.goto 4, 3) := by decide +kernel
theorem dSr_coder_13 : decode prog_24_method_152_code 13 = .ok (.iconst 1, 1) := by decide +kernel
theorem dSr_coder_14 : decode prog_24_method_152_code 14 = .ok (.ireturn, 1) := by decide +kernel
theorem dSr_indexOf_0 : decode prog_24_method_79_code 0 = .ok (.aload_n 0, 1) := by decide +kernel
theorem dSr_indexOf_1 : decode prog_24_method_79_code 1 = .ok (.iload_n 1, 1) := by decide +kernel
theorem dSr_indexOf_2 : decode prog_24_method_79_code 2 = .ok (.iconst 0, 1) := by decide +kernel
theorem dSr_indexOf_3 : decode prog_24_method_79_code 3 = .ok (.invokevirtual 633, 3) := by decide +kernel
theorem dSr_indexOf_6 : decode prog_24_method_79_code 6 = .ok (.ireturn, 1) := by decide +kernel
theorem dSr_indexOf2_0 : decode prog_24_method_80_code 0 = .ok (.aload_n 0, 1) := by decide +kernel
theorem dSr_indexOf2_1 : decode prog_24_method_80_code 1 = .ok (.invokevirtual 492, 3) := by decide +kernel
theorem dSr_indexOf2_4 : decode prog_24_method_80_code 4 = .ok (.ifCond .eq 19, 3) := by decide +kernel
theorem dSr_indexOf2_7 : decode prog_24_method_80_code 7 = .ok (.aload_n 0, 1) := by decide +kernel
theorem dSr_indexOf2_8 : decode prog_24_method_80_code 8 = .ok (.getfield 9, 3) := by decide +kernel
theorem dSr_indexOf2_11 : decode prog_24_method_80_code 11 = .ok (.iload_n 1, 1) := by decide +kernel
theorem dSr_indexOf2_12 : decode prog_24_method_80_code 12 = .ok (.iload_n 2, 1) := by decide +kernel
theorem dSr_indexOf2_13 : decode prog_24_method_80_code 13 = .ok (.aload_n 0, 1) := by decide +kernel
theorem dSr_indexOf2_14 : decode prog_24_method_80_code 14 = .ok (.invokevirtual 505, 3) := by decide +kernel
theorem dSr_indexOf2_17 : decode prog_24_method_80_code 17 = .ok (.invokestatic 637, 3) := by decide +kernel
theorem dSr_indexOf2_20 : decode prog_24_method_80_code 20 = .ok (.goto 16, 3) := by decide +kernel
theorem dSr_indexOf2_23 : decode prog_24_method_80_code 23 = .ok (.aload_n 0, 1) := by decide +kernel
theorem dSr_indexOf2_24 : decode prog_24_method_80_code 24 = .ok (.getfield 9, 3) := by decide +kernel
theorem dSr_indexOf2_27 : decode prog_24_method_80_code 27 = .ok (.iload_n 1, 1) := by decide +kernel
theorem dSr_indexOf2_28 : decode prog_24_method_80_code 28 = .ok (.iload_n 2, 1) := by decide +kernel
theorem dSr_indexOf2_29 : decode prog_24_method_80_code 29 = .ok (.aload_n 0, 1) := by decide +kernel
theorem dSr_indexOf2_30 : decode prog_24_method_80_code 30 = .ok (.invokevirtual 505, 3) := by decide +kernel
theorem dSr_indexOf2_33 : decode prog_24_method_80_code 33 = .ok (.invokestatic 640, 3) := by decide +kernel
theorem dSr_indexOf2_36 : decode prog_24_method_80_code 36 = .ok (.ireturn, 1) := by decide +kernel
theorem dSr_isLatin1_0 : decode prog_24_method_154_code 0 = .ok (.getstatic 38, 3) := by decide +kernel
theorem dSr_isLatin1_3 : decode prog_24_method_154_code 3 = .ok (.ifCond .eq 14, 3) := by decide +kernel
theorem dSr_isLatin1_6 : decode prog_24_method_154_code 6 = .ok (.aload_n 0, 1) := by decide +kernel
theorem dSr_isLatin1_7 : decode prog_24_method_154_code 7 = .ok (.getfield 15, 3) := by decide +kernel
theorem dSr_isLatin1_10 : decode prog_24_method_154_code 10 = .ok (.ifCond .ne 7, 3) := by decide +kernel
theorem dSr_isLatin1_13 : decode prog_24_method_154_code 13 = .ok (.iconst 1, 1) := by decide +kernel
theorem dSr_isLatin1_14 : decode prog_24_method_154_code 14 = .ok (.goto 4, 3) := by decide +kernel
theorem dSr_isLatin1_17 : decode prog_24_method_154_code 17 = .ok (.iconst 0, 1) := by decide +kernel
theorem dSr_isLatin1_18 : decode prog_24_method_154_code 18 = .ok (.ireturn, 1) := by decide +kernel
theorem dSl_indexOf_0 : decode prog_25_method_22_code 0 = .ok (.iload_n 1, 1) := by decide +kernel
theorem dSl_indexOf_1 : decode prog_25_method_22_code 1 = .ok (.invokestatic 88, 3) := by decide +kernel
theorem dSl_indexOf_4 : decode prog_25_method_22_code 4 = .ok (.ifCond .ne 5, 3) := by decide +kernel
theorem dSl_indexOf_7 : decode prog_25_method_22_code 7 = .ok (.iconst (-1), 1) := by decide +kernel
theorem dSl_indexOf_8 : decode prog_25_method_22_code 8 = .ok (.ireturn, 1) := by decide +kernel
theorem dSl_indexOf_9 : decode prog_25_method_22_code 9 = .ok (.iload_n 2, 1) := by decide +kernel
theorem dSl_indexOf_10 : decode prog_25_method_22_code 10 = .ok (.iconst 0, 1) := by decide +kernel
theorem dSl_indexOf_11 : decode prog_25_method_22_code 11 = .ok (.invokestatic 92, 3) := by decide +kernel
theorem dSl_indexOf_14 : decode prog_25_method_22_code 14 = .ok (.istore_n 2, 1) := by decide +kernel
theorem dSl_indexOf_15 : decode prog_25_method_22_code 15 = .ok (.iload_n 3, 1) := by decide +kernel
theorem dSl_indexOf_16 : decode prog_25_method_22_code 16 = .ok (.aload_n 0, 1) := by decide +kernel
theorem dSl_indexOf_17 : decode prog_25_method_22_code 17 = .ok (.arraylength, 1) := by decide +kernel
theorem dSl_indexOf_18 : decode prog_25_method_22_code 18 = .ok (.invokestatic 38, 3) := by decide +kernel
theorem dSl_indexOf_21 : decode prog_25_method_22_code 21 = .ok (.istore_n 3, 1) := by decide +kernel
theorem dSl_indexOf_22 : decode prog_25_method_22_code 22 = .ok (.iload_n 2, 1) := by decide +kernel
theorem dSl_indexOf_23 : decode prog_25_method_22_code 23 = .ok (.iload_n 3, 1) := by decide +kernel
theorem dSl_indexOf_24 : decode prog_25_method_22_code 24 = .ok (.if_icmp .lt 5, 3) := by decide +kernel
theorem dSl_indexOf_27 : decode prog_25_method_22_code 27 = .ok (.iconst (-1), 1) := by decide +kernel
theorem dSl_indexOf_28 : decode prog_25_method_22_code 28 = .ok (.ireturn, 1) := by decide +kernel
theorem dSl_indexOf_29 : decode prog_25_method_22_code 29 = .ok (.aload_n 0, 1) := by decide +kernel
theorem dSl_indexOf_30 : decode prog_25_method_22_code 30 = .ok (.iload_n 1, 1) := by decide +kernel
theorem dSl_indexOf_31 : decode prog_25_method_22_code 31 = .ok (.iload_n 2, 1) := by decide +kernel
theorem dSl_indexOf_32 : decode prog_25_method_22_code 32 = .ok (.iload_n 3, 1) := by decide +kernel
theorem dSl_indexOf_33 : decode prog_25_method_22_code 33 = .ok (.invokestatic 95, 3) := by decide +kernel
theorem dSl_indexOf_36 : decode prog_25_method_22_code 36 = .ok (.ireturn, 1) := by decide +kernel
theorem dSl_canEncode_0 : decode prog_25_method_4_code 0 = .ok (.iload_n 0, 1) := by decide +kernel
theorem dSl_canEncode_1 : decode prog_25_method_4_code 1 = .ok (.ifCond .lt 14, 3) := by decide +kernel
theorem dSl_canEncode_4 : decode prog_25_method_4_code 4 = .ok (.iload_n 0, 1) := by decide +kernel
theorem dSl_canEncode_5 : decode prog_25_method_4_code 5 = .ok (.sipush 255, 3) := by decide +kernel
theorem dSl_canEncode_8 : decode prog_25_method_4_code 8 = .ok (.if_icmp .gt 7, 3) := by decide +kernel
theorem dSl_canEncode_11 : decode prog_25_method_4_code 11 = .ok (.iconst 1, 1) := by decide +kernel
theorem dSl_canEncode_12 : decode prog_25_method_4_code 12 = .ok (.goto 4, 3) := by decide +kernel
theorem dSl_canEncode_15 : decode prog_25_method_4_code 15 = .ok (.iconst 0, 1) := by decide +kernel
theorem dSl_canEncode_16 : decode prog_25_method_4_code 16 = .ok (.ireturn, 1) := by decide +kernel
theorem dMt_max_0 : decode prog_22_method_65_code 0 = .ok (.iload_n 0, 1) := by decide +kernel
theorem dMt_max_1 : decode prog_22_method_65_code 1 = .ok (.iload_n 1, 1) := by decide +kernel
theorem dMt_max_2 : decode prog_22_method_65_code 2 = .ok (.if_icmp .lt 7, 3) := by decide +kernel
theorem dMt_max_5 : decode prog_22_method_65_code 5 = .ok (.iload_n 0, 1) := by decide +kernel
theorem dMt_max_6 : decode prog_22_method_65_code 6 = .ok (.goto 4, 3) := by decide +kernel
theorem dMt_max_9 : decode prog_22_method_65_code 9 = .ok (.iload_n 1, 1) := by decide +kernel
theorem dMt_max_10 : decode prog_22_method_65_code 10 = .ok (.ireturn, 1) := by decide +kernel
theorem dSl_indexOfChar_0 : decode prog_25_method_23_code 0 = .ok (.iload_n 1, 1) := by decide +kernel
theorem dSl_indexOfChar_1 : decode prog_25_method_23_code 1 = .ok (.i2b, 1) := by decide +kernel
theorem dSl_indexOfChar_2 : decode prog_25_method_23_code 2 = .ok (.istore 4, 2) := by decide +kernel
theorem dSl_indexOfChar_4 : decode prog_25_method_23_code 4 = .ok (.iload_n 2, 1) := by decide +kernel
theorem dSl_indexOfChar_5 : decode prog_25_method_23_code 5 = .ok (.istore 5, 2) := by decide +kernel
theorem dSl_indexOfChar_7 : decode prog_25_method_23_code 7 = .ok (.iload 5, 2) := by decide +kernel
theorem dSl_indexOfChar_9 : decode prog_25_method_23_code 9 = .ok (.iload_n 3, 1) := by decide +kernel
theorem dSl_indexOfChar_10 : decode prog_25_method_23_code 10 = .ok (.if_icmp .ge 21, 3) := by decide +kernel
theorem dSl_indexOfChar_13 : decode prog_25_method_23_code 13 = .ok (.aload_n 0, 1) := by decide +kernel
theorem dSl_indexOfChar_14 : decode prog_25_method_23_code 14 = .ok (.iload 5, 2) := by decide +kernel
theorem dSl_indexOfChar_16 : decode prog_25_method_23_code 16 = .ok (.baload, 1) := by decide +kernel
theorem dSl_indexOfChar_17 : decode prog_25_method_23_code 17 = .ok (.iload 4, 2) := by decide +kernel
theorem dSl_indexOfChar_19 : decode prog_25_method_23_code 19 = .ok (.if_icmp .ne 6, 3) := by decide +kernel
theorem dSl_indexOfChar_22 : decode prog_25_method_23_code 22 = .ok (.iload 5, 2) := by decide +kernel
theorem dSl_indexOfChar_24 : decode prog_25_method_23_code 24 = .ok (.ireturn, 1) := by decide +kernel
theorem dSl_indexOfChar_25 : decode prog_25_method_23_code 25 = .ok (.iinc 5 1, 3) := by decide +kernel
theorem dSl_indexOfChar_28 : decode prog_25_method_23_code 28 = .ok (.goto (-21), 3) := by decide +kernel
theorem dSl_indexOfChar_31 : decode prog_25_method_23_code 31 = .ok (.iconst (-1), 1) := by decide +kernel
theorem dSl_indexOfChar_32 : decode prog_25_method_23_code 32 = .ok (.ireturn, 1) := by decide +kernel
theorem dSu_indexOf_0 : decode prog_26_method_40_code 0 = .ok (.iload_n 2, 1) := by decide +kernel
theorem dSu_indexOf_1 : decode prog_26_method_40_code 1 = .ok (.iconst 0, 1) := by decide +kernel
theorem dSu_indexOf_2 : decode prog_26_method_40_code 2 = .ok (.invokestatic 224, 3) := by decide +kernel
theorem dSu_indexOf_5 : decode prog_26_method_40_code 5 = .ok (.istore_n 2, 1) := by decide +kernel
theorem dSu_indexOf_6 : decode prog_26_method_40_code 6 = .ok (.iload_n 3, 1) := by decide +kernel
theorem dSu_indexOf_7 : decode prog_26_method_40_code 7 = .ok (.aload_n 0, 1) := by decide +kernel
theorem dSu_indexOf_8 : decode prog_26_method_40_code 8 = .ok (.arraylength, 1) := by decide +kernel
theorem dSu_indexOf_9 : decode prog_26_method_40_code 9 = .ok (.iconst 1, 1) := by decide +kernel
theorem dSu_indexOf_10 : decode prog_26_method_40_code 10 = .ok (.ishr, 1) := by decide +kernel
theorem dSu_indexOf_11 : decode prog_26_method_40_code 11 = .ok (.invokestatic 183, 3) := by decide +kernel
theorem dSu_indexOf_14 : decode prog_26_method_40_code 14 = .ok (.istore_n 3, 1) := by decide +kernel
theorem dSu_indexOf_15 : decode prog_26_method_40_code 15 = .ok (.iload_n 2, 1) := by decide +kernel
theorem dSu_indexOf_16 : decode prog_26_method_40_code 16 = .ok (.iload_n 3, 1) := by decide +kernel
theorem dSu_indexOf_17 : decode prog_26_method_40_code 17 = .ok (.if_icmp .lt 5, 3) := by decide +kernel
theorem dSu_indexOf_20 : decode prog_26_method_40_code 20 = .ok (.iconst (-1), 1) := by decide +kernel
theorem dSu_indexOf_21 : decode prog_26_method_40_code 21 = .ok (.ireturn, 1) := by decide +kernel
theorem dSu_indexOf_22 : decode prog_26_method_40_code 22 = .ok (.iload_n 1, 1) := by decide +kernel
theorem dSu_indexOf_23 : decode prog_26_method_40_code 23 = .ok (.ldc 227, 2) := by decide +kernel
theorem dSu_indexOf_25 : decode prog_26_method_40_code 25 = .ok (.if_icmp .ge 11, 3) := by decide +kernel
theorem dSu_indexOf_28 : decode prog_26_method_40_code 28 = .ok (.aload_n 0, 1) := by decide +kernel
theorem dSu_indexOf_29 : decode prog_26_method_40_code 29 = .ok (.iload_n 1, 1) := by decide +kernel
theorem dSu_indexOf_30 : decode prog_26_method_40_code 30 = .ok (.iload_n 2, 1) := by decide +kernel
theorem dSu_indexOf_31 : decode prog_26_method_40_code 31 = .ok (.iload_n 3, 1) := by decide +kernel
theorem dSu_indexOf_32 : decode prog_26_method_40_code 32 = .ok (.invokestatic 228, 3) := by decide +kernel
theorem dSu_indexOf_35 : decode prog_26_method_40_code 35 = .ok (.ireturn, 1) := by decide +kernel
theorem dSu_indexOf_36 : decode prog_26_method_40_code 36 = .ok (.aload_n 0, 1) := by decide +kernel
theorem dSu_indexOf_37 : decode prog_26_method_40_code 37 = .ok (.iload_n 1, 1) := by decide +kernel
theorem dSu_indexOf_38 : decode prog_26_method_40_code 38 = .ok (.iload_n 2, 1) := by decide +kernel
theorem dSu_indexOf_39 : decode prog_26_method_40_code 39 = .ok (.iload_n 3, 1) := by decide +kernel
theorem dSu_indexOf_40 : decode prog_26_method_40_code 40 = .ok (.invokestatic 232, 3) := by decide +kernel
theorem dSu_indexOf_43 : decode prog_26_method_40_code 43 = .ok (.ireturn, 1) := by decide +kernel
theorem dSu_indexOfChar_0 : decode prog_26_method_47_code 0 = .ok (.iload_n 2, 1) := by decide +kernel
theorem dSu_indexOfChar_1 : decode prog_26_method_47_code 1 = .ok (.iload_n 3, 1) := by decide +kernel
theorem dSu_indexOfChar_2 : decode prog_26_method_47_code 2 = .ok (.aload_n 0, 1) := by decide +kernel
theorem dSu_indexOfChar_3 : decode prog_26_method_47_code 3 = .ok (.invokestatic 96, 3) := by decide +kernel
theorem dSu_indexOfChar_6 : decode prog_26_method_47_code 6 = .ok (.aload_n 0, 1) := by decide +kernel
theorem dSu_indexOfChar_7 : decode prog_26_method_47_code 7 = .ok (.iload_n 1, 1) := by decide +kernel
theorem dSu_indexOfChar_8 : decode prog_26_method_47_code 8 = .ok (.iload_n 2, 1) := by decide +kernel
theorem dSu_indexOfChar_9 : decode prog_26_method_47_code 9 = .ok (.iload_n 3, 1) := by decide +kernel
theorem dSu_indexOfChar_10 : decode prog_26_method_47_code 10 = .ok (.invokestatic 244, 3) := by decide +kernel
theorem dSu_indexOfChar_13 : decode prog_26_method_47_code 13 = .ok (.ireturn, 1) := by decide +kernel
theorem dSu_checkBoundsBeginEnd_0 : decode prog_26_method_93_code 0 = .ok (.iload_n 0, 1) := by decide +kernel
theorem dSu_checkBoundsBeginEnd_1 : decode prog_26_method_93_code 1 = .ok (.iload_n 1, 1) := by decide +kernel
theorem dSu_checkBoundsBeginEnd_2 : decode prog_26_method_93_code 2 = .ok (.aload_n 2, 1) := by decide +kernel
theorem dSu_checkBoundsBeginEnd_3 : decode prog_26_method_93_code 3 = .ok (.invokestatic 48, 3) := by decide +kernel
theorem dSu_checkBoundsBeginEnd_6 : decode prog_26_method_93_code 6 = .ok (.invokestatic 241, 3) := by decide +kernel
theorem dSu_checkBoundsBeginEnd_9 : decode prog_26_method_93_code 9 = .ok (.return_, 1) := by decide +kernel
theorem dSu_length_0 : decode prog_26_method_6_code 0 = .ok (.aload_n 0, 1) := by decide +kernel
theorem dSu_length_1 : decode prog_26_method_6_code 1 = .ok (.arraylength, 1) := by decide +kernel
theorem dSu_length_2 : decode prog_26_method_6_code 2 = .ok (.iconst 1, 1) := by decide +kernel
theorem dSu_length_3 : decode prog_26_method_6_code 3 = .ok (.ishr, 1) := by decide +kernel
theorem dSu_length_4 : decode prog_26_method_6_code 4 = .ok (.ireturn, 1) := by decide +kernel
theorem dSr_checkBoundsBeginEnd_0 : decode prog_24_method_158_code 0 = .ok (.iload_n 0, 1) := by decide +kernel
theorem dSr_checkBoundsBeginEnd_1 : decode prog_24_method_158_code 1 = .ok (.iload_n 1, 1) := by decide +kernel
theorem dSr_checkBoundsBeginEnd_2 : decode prog_24_method_158_code 2 = .ok (.iload_n 2, 1) := by decide +kernel
theorem dSr_checkBoundsBeginEnd_3 : decode prog_24_method_158_code 3 = .ok (.getstatic 1053, 3) := by decide +kernel
theorem dSr_checkBoundsBeginEnd_6 : decode prog_24_method_158_code 6 = .ok (.invokestatic 1062, 3) := by decide +kernel
theorem dSr_checkBoundsBeginEnd_9 : decode prog_24_method_158_code 9 = .ok (.pop, 1) := by decide +kernel
theorem dSr_checkBoundsBeginEnd_10 : decode prog_24_method_158_code 10 = .ok (.return_, 1) := by decide +kernel
theorem dPr_checkFromToIndex_0 : decode prog_33_method_12_code 0 = .ok (.iload_n 0, 1) := by decide +kernel
theorem dPr_checkFromToIndex_1 : decode prog_33_method_12_code 1 = .ok (.ifCond .lt 13, 3) := by decide +kernel
theorem dPr_checkFromToIndex_4 : decode prog_33_method_12_code 4 = .ok (.iload_n 0, 1) := by decide +kernel
theorem dPr_checkFromToIndex_5 : decode prog_33_method_12_code 5 = .ok (.iload_n 1, 1) := by decide +kernel
theorem dPr_checkFromToIndex_6 : decode prog_33_method_12_code 6 = .ok (.if_icmp .gt 8, 3) := by decide +kernel
theorem dPr_checkFromToIndex_9 : decode prog_33_method_12_code 9 = .ok (.iload_n 1, 1) := by decide +kernel
theorem dPr_checkFromToIndex_10 : decode prog_33_method_12_code 10 = .ok (.iload_n 2, 1) := by decide +kernel
theorem dPr_checkFromToIndex_11 : decode prog_33_method_12_code 11 = .ok (.if_icmp .le 11, 3) := by decide +kernel
theorem dPr_checkFromToIndex_14 : decode prog_33_method_12_code 14 = .ok (.aload_n 3, 1) := by decide +kernel
theorem dPr_checkFromToIndex_15 : decode prog_33_method_12_code 15 = .ok (.iload_n 0, 1) := by decide +kernel
theorem dPr_checkFromToIndex_16 : decode prog_33_method_12_code 16 = .ok (.iload_n 1, 1) := by decide +kernel
theorem dPr_checkFromToIndex_17 : decode prog_33_method_12_code 17 = .ok (.iload_n 2, 1) := by decide +kernel
theorem dPr_checkFromToIndex_18 : decode prog_33_method_12_code 18 = .ok (.invokestatic 99, 3) := by decide +kernel
theorem dPr_checkFromToIndex_21 : decode prog_33_method_12_code 21 = .ok (.athrow, 1) := by decide +kernel
theorem dPr_checkFromToIndex_22 : decode prog_33_method_12_code 22 = .ok (.iload_n 0, 1) := by decide +kernel
theorem dPr_checkFromToIndex_23 : decode prog_33_method_12_code 23 = .ok (.ireturn, 1) := by decide +kernel
theorem dSu_indexOfCharUnsafe_0 : decode prog_26_method_48_code 0 = .ok (.iload_n 2, 1) := by decide +kernel
theorem dSu_indexOfCharUnsafe_1 : decode prog_26_method_48_code 1 = .ok (.istore 4, 2) := by decide +kernel
theorem dSu_indexOfCharUnsafe_3 : decode prog_26_method_48_code 3 = .ok (.iload 4, 2) := by decide +kernel
theorem dSu_indexOfCharUnsafe_5 : decode prog_26_method_48_code 5 = .ok (.iload_n 3, 1) := by decide +kernel
theorem dSu_indexOfCharUnsafe_6 : decode prog_26_method_48_code 6 = .ok (.if_icmp .ge 22, 3) := by decide +kernel
theorem dSu_indexOfCharUnsafe_9 : decode prog_26_method_48_code 9 = .ok (.aload_n 0, 1) := by decide +kernel
theorem dSu_indexOfCharUnsafe_10 : decode prog_26_method_48_code 10 = .ok (.iload 4, 2) := by decide +kernel
theorem dSu_indexOfCharUnsafe_12 : decode prog_26_method_48_code 12 = .ok (.invokestatic 71, 3) := by decide +kernel
theorem dSu_indexOfCharUnsafe_15 : decode prog_26_method_48_code 15 = .ok (.iload_n 1, 1) := by decide +kernel
theorem dSu_indexOfCharUnsafe_16 : decode prog_26_method_48_code 16 = .ok (.if_icmp .ne 6, 3) := by decide +kernel
theorem dSu_indexOfCharUnsafe_19 : decode prog_26_method_48_code 19 = .ok (.iload 4, 2) := by decide +kernel
theorem dSu_indexOfCharUnsafe_21 : decode prog_26_method_48_code 21 = .ok (.ireturn, 1) := by decide +kernel
theorem dSu_indexOfCharUnsafe_22 : decode prog_26_method_48_code 22 = .ok (.iinc 4 1, 3) := by decide +kernel
theorem dSu_indexOfCharUnsafe_25 : decode prog_26_method_48_code 25 = .ok (.goto (-22), 3) := by decide +kernel
theorem dSu_indexOfCharUnsafe_28 : decode prog_26_method_48_code 28 = .ok (.iconst (-1), 1) := by decide +kernel
theorem dSu_indexOfCharUnsafe_29 : decode prog_26_method_48_code 29 = .ok (.ireturn, 1) := by decide +kernel
theorem dSu_getChar_0 : decode prog_26_method_5_code 0 = .ok (.getstatic 44, 3) := by decide +kernel
theorem dSu_getChar_3 : decode prog_26_method_5_code 3 = .ok (.ifCond .ne 25, 3) := by decide +kernel
theorem dSu_getChar_6 : decode prog_26_method_5_code 6 = .ok (.iload_n 1, 1) := by decide +kernel
theorem dSu_getChar_7 : decode prog_26_method_5_code 7 = .ok (.ifCond .lt 11, 3) := by decide +kernel
theorem dSu_getChar_10 : decode prog_26_method_5_code 10 = .ok (.iload_n 1, 1) := by decide +kernel
theorem dSu_getChar_11 : decode prog_26_method_5_code 11 = .ok (.aload_n 0, 1) := by decide +kernel
theorem dSu_getChar_12 : decode prog_26_method_5_code 12 = .ok (.invokestatic 48, 3) := by decide +kernel
theorem dSu_getChar_15 : decode prog_26_method_5_code 15 = .ok (.if_icmp .lt 13, 3) := by decide +kernel
theorem dSu_getChar_18 : decode prog_26_method_5_code 18 = .ok (.new 52, 3) := by decide +kernel
theorem dSu_getChar_21 : decode prog_26_method_5_code 21 = .ok (.dup, 1) := by decide +kernel
theorem dSu_getChar_22 : decode prog_26_method_5_code 22 = .ok (.ldc 54, 2) := by decide +kernel
theorem dSu_getChar_24 : decode prog_26_method_5_code 24 = .ok (.invokespecial 56, 3) := by decide +kernel
theorem dSu_getChar_27 : decode prog_26_method_5_code 27 = .ok (.athrow, 1) := by decide +kernel
theorem dSu_getChar_28 : decode prog_26_method_5_code 28 = .ok (.iload_n 1, 1) := by decide +kernel
theorem dSu_getChar_29 : decode prog_26_method_5_code 29 = .ok (.iconst 1, 1) := by decide +kernel
theorem dSu_getChar_30 : decode prog_26_method_5_code 30 = .ok (.ishl, 1) := by decide +kernel
theorem dSu_getChar_31 : decode prog_26_method_5_code 31 = .ok (.istore_n 1, 1) := by decide +kernel
theorem dSu_getChar_32 : decode prog_26_method_5_code 32 = .ok (.aload_n 0, 1) := by decide +kernel
theorem dSu_getChar_33 : decode prog_26_method_5_code 33 = .ok (.iload_n 1, 1) := by decide +kernel
theorem dSu_getChar_34 : decode prog_26_method_5_code 34 = .ok (.iinc 1 1, 3) := by decide +kernel
theorem dSu_getChar_37 : decode prog_26_method_5_code 37 = .ok (.baload, 1) := by decide +kernel
theorem dSu_getChar_38 : decode prog_26_method_5_code 38 = .ok (.sipush 255, 3) := by decide +kernel
theorem dSu_getChar_41 : decode prog_26_method_5_code 41 = .ok (.iand, 1) := by decide +kernel
theorem dSu_getChar_42 : decode prog_26_method_5_code 42 = .ok (.getstatic 59, 3) := by decide +kernel
theorem dSu_getChar_45 : decode prog_26_method_5_code 45 = .ok (.ishl, 1) := by decide +kernel
theorem dSu_getChar_46 : decode prog_26_method_5_code 46 = .ok (.aload_n 0, 1) := by decide +kernel
theorem dSu_getChar_47 : decode prog_26_method_5_code 47 = .ok (.iload_n 1, 1) := by decide +kernel
theorem dSu_getChar_48 : decode prog_26_method_5_code 48 = .ok (.baload, 1) := by decide +kernel
theorem dSu_getChar_49 : decode prog_26_method_5_code 49 = .ok (.sipush 255, 3) := by decide +kernel
theorem dSu_getChar_52 : decode prog_26_method_5_code 52 = .ok (.iand, 1) := by decide +kernel
theorem dSu_getChar_53 : decode prog_26_method_5_code 53 = .ok (.getstatic 63, 3) := by decide +kernel
theorem dSu_getChar_56 : decode prog_26_method_5_code 56 = .ok (.ishl, 1) := by decide +kernel
theorem dSu_getChar_57 : decode prog_26_method_5_code 57 = .ok (.ior, 1) := by decide +kernel
theorem dSu_getChar_58 : decode prog_26_method_5_code 58 = .ok (.i2c, 1) := by decide +kernel
theorem dSu_getChar_59 : decode prog_26_method_5_code 59 = .ok (.ireturn, 1) := by decide +kernel
theorem dSu_indexOfSupplementary_0 : decode prog_26_method_49_code 0 = .ok (.iload_n 1, 1) := by decide +kernel
theorem dSu_indexOfSupplementary_1 : decode prog_26_method_49_code 1 = .ok (.invokestatic 164, 3) := by decide +kernel
theorem dSu_indexOfSupplementary_4 : decode prog_26_method_49_code 4 = .ok (.ifCond .eq 65, 3) := by decide +kernel
theorem dSu_indexOfSupplementary_7 : decode prog_26_method_49_code 7 = .ok (.iload_n 1, 1) := by decide +kernel
theorem dSu_indexOfSupplementary_8 : decode prog_26_method_49_code 8 = .ok (.invokestatic 157, 3) := by decide +kernel
theorem dSu_indexOfSupplementary_11 : decode prog_26_method_49_code 11 = .ok (.istore 4, 2) := by decide +kernel
theorem dSu_indexOfSupplementary_13 : decode prog_26_method_49_code 13 = .ok (.iload_n 1, 1) := by decide +kernel
theorem dSu_indexOfSupplementary_14 : decode prog_26_method_49_code 14 = .ok (.invokestatic 161, 3) := by decide +kernel
theorem dSu_indexOfSupplementary_17 : decode prog_26_method_49_code 17 = .ok (.istore 5, 2) := by decide +kernel
theorem dSu_indexOfSupplementary_19 : decode prog_26_method_49_code 19 = .ok (.iload_n 2, 1) := by decide +kernel
theorem dSu_indexOfSupplementary_20 : decode prog_26_method_49_code 20 = .ok (.iload_n 3, 1) := by decide +kernel
theorem dSu_indexOfSupplementary_21 : decode prog_26_method_49_code 21 = .ok (.aload_n 0, 1) := by decide +kernel
theorem dSu_indexOfSupplementary_22 : decode prog_26_method_49_code 22 = .ok (.invokestatic 96, 3) := by decide +kernel
theorem dSu_indexOfSupplementary_25 : decode prog_26_method_49_code 25 = .ok (.iload_n 2, 1) := by decide +kernel
theorem dSu_indexOfSupplementary_26 : decode prog_26_method_49_code 26 = .ok (.istore 6, 2) := by decide +kernel
theorem dSu_indexOfSupplementary_28 : decode prog_26_method_49_code 28 = .ok (.iload 6, 2) := by decide +kernel
theorem dSu_indexOfSupplementary_30 : decode prog_26_method_49_code 30 = .ok (.iload_n 3, 1) := by decide +kernel
theorem dSu_indexOfSupplementary_31 : decode prog_26_method_49_code 31 = .ok (.iconst 1, 1) := by decide +kernel
theorem dSu_indexOfSupplementary_32 : decode prog_26_method_49_code 32 = .ok (.isub, 1) := by decide +kernel
theorem dSu_indexOfSupplementary_33 : decode prog_26_method_49_code 33 = .ok (.if_icmp .ge 36, 3) := by decide +kernel
theorem dSu_indexOfSupplementary_36 : decode prog_26_method_49_code 36 = .ok (.aload_n 0, 1) := by decide +kernel
theorem dSu_indexOfSupplementary_37 : decode prog_26_method_49_code 37 = .ok (.iload 6, 2) := by decide +kernel
theorem dSu_indexOfSupplementary_39 : decode prog_26_method_49_code 39 = .ok (.invokestatic 71, 3) := by decide +kernel
theorem dSu_indexOfSupplementary_42 : decode prog_26_method_49_code 42 = .ok (.iload 4, 2) := by decide +kernel
theorem dSu_indexOfSupplementary_44 : decode prog_26_method_49_code 44 = .ok (.if_icmp .ne 19, 3) := by decide +kernel
theorem dSu_indexOfSupplementary_47 : decode prog_26_method_49_code 47 = .ok (.aload_n 0, 1) := by decide +kernel
theorem dSu_indexOfSupplementary_48 : decode prog_26_method_49_code 48 = .ok (.iload 6, 2) := by decide +kernel
theorem dSu_indexOfSupplementary_50 : decode prog_26_method_49_code 50 = .ok (.iconst 1, 1) := by decide +kernel
theorem dSu_indexOfSupplementary_51 : decode prog_26_method_49_code 51 = .ok (.iadd, 1) := by decide +kernel
theorem dSu_indexOfSupplementary_52 : decode prog_26_method_49_code 52 = .ok (.invokestatic 71, 3) := by decide +kernel
theorem dSu_indexOfSupplementary_55 : decode prog_26_method_49_code 55 = .ok (.iload 5, 2) := by decide +kernel
theorem dSu_indexOfSupplementary_57 : decode prog_26_method_49_code 57 = .ok (.if_icmp .ne 6, 3) := by decide +kernel
theorem dSu_indexOfSupplementary_60 : decode prog_26_method_49_code 60 = .ok (.iload 6, 2) := by decide +kernel
theorem dSu_indexOfSupplementary_62 : decode prog_26_method_49_code 62 = .ok (.ireturn, 1) := by decide +kernel
theorem dSu_indexOfSupplementary_63 : decode prog_26_method_49_code 63 = .ok (.iinc 6 1, 3) := by decide +kernel
theorem dSu_indexOfSupplementary_66 : decode prog_26_method_49_code 66 = .ok (.goto (-38), 3) := by decide +kernel
theorem dSu_indexOfSupplementary_69 : decode prog_26_method_49_code 69 = .ok (.iconst (-1), 1) := by decide +kernel
theorem dSu_indexOfSupplementary_70 : decode prog_26_method_49_code 70 = .ok (.ireturn, 1) := by decide +kernel
theorem dCh_isValidCodePoint_0 : decode prog_17_method_11_code 0 = .ok (.iload_n 0, 1) := by decide +kernel
theorem dCh_isValidCodePoint_1 : decode prog_17_method_11_code 1 = .ok (.bipush 16, 2) := by decide +kernel
theorem dCh_isValidCodePoint_3 : decode prog_17_method_11_code 3 = .ok (.iushr, 1) := by decide +kernel
theorem dCh_isValidCodePoint_4 : decode prog_17_method_11_code 4 = .ok (.istore_n 1, 1) := by decide +kernel
theorem dCh_isValidCodePoint_5 : decode prog_17_method_11_code 5 = .ok (.iload_n 1, 1) := by decide +kernel
theorem dCh_isValidCodePoint_6 : decode prog_17_method_11_code 6 = .ok (.bipush 17, 2) := by decide +kernel
theorem dCh_isValidCodePoint_8 : decode prog_17_method_11_code 8 = .ok (.if_icmp .ge 7, 3) := by decide +kernel
theorem dCh_isValidCodePoint_11 : decode prog_17_method_11_code 11 = .ok (.iconst 1, 1) := by decide +kernel
theorem dCh_isValidCodePoint_12 : decode prog_17_method_11_code 12 = .ok (.goto 4, 3) := by decide +kernel
theorem dCh_isValidCodePoint_15 : decode prog_17_method_11_code 15 = .ok (.iconst 0, 1) := by decide +kernel
theorem dCh_isValidCodePoint_16 : decode prog_17_method_11_code 16 = .ok (.ireturn, 1) := by decide +kernel
theorem dCh_highSurrogate_0 : decode prog_17_method_28_code 0 = .ok (.iload_n 0, 1) := by decide +kernel
theorem dCh_highSurrogate_1 : decode prog_17_method_28_code 1 = .ok (.bipush 10, 2) := by decide +kernel
theorem dCh_highSurrogate_3 : decode prog_17_method_28_code 3 = .ok (.iushr, 1) := by decide +kernel
theorem dCh_highSurrogate_4 : decode prog_17_method_28_code 4 = .ok (.ldc 110, 2) := by decide +kernel
theorem dCh_highSurrogate_6 : decode prog_17_method_28_code 6 = .ok (.iadd, 1) := by decide +kernel
theorem dCh_highSurrogate_7 : decode prog_17_method_28_code 7 = .ok (.i2c, 1) := by decide +kernel
theorem dCh_highSurrogate_8 : decode prog_17_method_28_code 8 = .ok (.ireturn, 1) := by decide +kernel
theorem dCh_lowSurrogate_0 : decode prog_17_method_29_code 0 = .ok (.iload_n 0, 1) := by decide +kernel
theorem dCh_lowSurrogate_1 : decode prog_17_method_29_code 1 = .ok (.sipush 1023, 3) := by decide +kernel
theorem dCh_lowSurrogate_4 : decode prog_17_method_29_code 4 = .ok (.iand, 1) := by decide +kernel
theorem dCh_lowSurrogate_5 : decode prog_17_method_29_code 5 = .ok (.ldc 76, 2) := by decide +kernel
theorem dCh_lowSurrogate_7 : decode prog_17_method_29_code 7 = .ok (.iadd, 1) := by decide +kernel
theorem dCh_lowSurrogate_8 : decode prog_17_method_29_code 8 = .ok (.i2c, 1) := by decide +kernel
theorem dCh_lowSurrogate_9 : decode prog_17_method_29_code 9 = .ok (.ireturn, 1) := by decide +kernel
theorem dAr_copyOf_0 : decode prog_31_method_123_code 0 = .ok (.iload_n 1, 1) := by decide +kernel
theorem dAr_copyOf_1 : decode prog_31_method_123_code 1 = .ok (.aload_n 0, 1) := by decide +kernel
theorem dAr_copyOf_2 : decode prog_31_method_123_code 2 = .ok (.arraylength, 1) := by decide +kernel
theorem dAr_copyOf_3 : decode prog_31_method_123_code 3 = .ok (.if_icmp .ne 11, 3) := by decide +kernel
theorem dAr_copyOf_6 : decode prog_31_method_123_code 6 = .ok (.aload_n 0, 1) := by decide +kernel
theorem dAr_copyOf_7 : decode prog_31_method_123_code 7 = .ok (.invokevirtual 316, 3) := by decide +kernel
theorem dAr_copyOf_10 : decode prog_31_method_123_code 10 = .ok (.checkcast 317, 3) := by decide +kernel
theorem dAr_copyOf_13 : decode prog_31_method_123_code 13 = .ok (.areturn, 1) := by decide +kernel
theorem dAr_copyOf_14 : decode prog_31_method_123_code 14 = .ok (.iload_n 1, 1) := by decide +kernel
theorem dAr_copyOf_15 : decode prog_31_method_123_code 15 = .ok (.newarray .int, 2) := by decide +kernel
theorem dAr_copyOf_17 : decode prog_31_method_123_code 17 = .ok (.astore_n 2, 1) := by decide +kernel
theorem dAr_copyOf_18 : decode prog_31_method_123_code 18 = .ok (.aload_n 0, 1) := by decide +kernel
theorem dAr_copyOf_19 : decode prog_31_method_123_code 19 = .ok (.iconst 0, 1) := by decide +kernel
theorem dAr_copyOf_20 : decode prog_31_method_123_code 20 = .ok (.aload_n 2, 1) := by decide +kernel
theorem dAr_copyOf_21 : decode prog_31_method_123_code 21 = .ok (.iconst 0, 1) := by decide +kernel
theorem dAr_copyOf_22 : decode prog_31_method_123_code 22 = .ok (.aload_n 0, 1) := by decide +kernel
theorem dAr_copyOf_23 : decode prog_31_method_123_code 23 = .ok (.arraylength, 1) := by decide +kernel
theorem dAr_copyOf_24 : decode prog_31_method_123_code 24 = .ok (.iload_n 1, 1) := by decide +kernel
theorem dAr_copyOf_25 : decode prog_31_method_123_code 25 = .ok (.invokestatic 304, 3) := by decide +kernel
theorem dAr_copyOf_28 : decode prog_31_method_123_code 28 = .ok (.invokestatic 150, 3) := by decide +kernel
theorem dAr_copyOf_31 : decode prog_31_method_123_code 31 = .ok (.aload_n 2, 1) := by decide +kernel
theorem dAr_copyOf_32 : decode prog_31_method_123_code 32 = .ok (.areturn, 1) := by decide +kernel
theorem dMt_floorMod_0 : decode prog_22_method_50_code 0 = .ok (.iload_n 0, 1) := by decide +kernel
theorem dMt_floorMod_1 : decode prog_22_method_50_code 1 = .ok (.iload_n 1, 1) := by decide +kernel
theorem dMt_floorMod_2 : decode prog_22_method_50_code 2 = .ok (.irem, 1) := by decide +kernel
theorem dMt_floorMod_3 : decode prog_22_method_50_code 3 = .ok (.istore_n 2, 1) := by decide +kernel
theorem dMt_floorMod_4 : decode prog_22_method_50_code 4 = .ok (.iload_n 0, 1) := by decide +kernel
theorem dMt_floorMod_5 : decode prog_22_method_50_code 5 = .ok (.iload_n 1, 1) := by decide +kernel
theorem dMt_floorMod_6 : decode prog_22_method_50_code 6 = .ok (.ixor, 1) := by decide +kernel
theorem dMt_floorMod_7 : decode prog_22_method_50_code 7 = .ok (.ifCond .ge 11, 3) := by decide +kernel
theorem dMt_floorMod_10 : decode prog_22_method_50_code 10 = .ok (.iload_n 2, 1) := by decide +kernel
theorem dMt_floorMod_11 : decode prog_22_method_50_code 11 = .ok (.ifCond .eq 7, 3) := by decide +kernel
theorem dMt_floorMod_14 : decode prog_22_method_50_code 14 = .ok (.iload_n 2, 1) := by decide +kernel
theorem dMt_floorMod_15 : decode prog_22_method_50_code 15 = .ok (.iload_n 1, 1) := by decide +kernel
theorem dMt_floorMod_16 : decode prog_22_method_50_code 16 = .ok (.iadd, 1) := by decide +kernel
theorem dMt_floorMod_17 : decode prog_22_method_50_code 17 = .ok (.ireturn, 1) := by decide +kernel
theorem dMt_floorMod_18 : decode prog_22_method_50_code 18 = .ok (.iload_n 2, 1) := by decide +kernel
theorem dMt_floorMod_19 : decode prog_22_method_50_code 19 = .ok (.ireturn, 1) := by decide +kernel
theorem dMt_abs_0 : decode prog_22_method_59_code 0 = .ok (.iload_n 0, 1) := by decide +kernel
theorem dMt_abs_1 : decode prog_22_method_59_code 1 = .ok (.ifCond .ge 8, 3) := by decide +kernel
theorem dMt_abs_4 : decode prog_22_method_59_code 4 = .ok (.iload_n 0, 1) := by decide +kernel
theorem dMt_abs_5 : decode prog_22_method_59_code 5 = .ok (.ineg, 1) := by decide +kernel
theorem dMt_abs_6 : decode prog_22_method_59_code 6 = .ok (.goto 4, 3) := by decide +kernel
theorem dMt_abs_9 : decode prog_22_method_59_code 9 = .ok (.iload_n 0, 1) := by decide +kernel
theorem dMt_abs_10 : decode prog_22_method_59_code 10 = .ok (.ireturn, 1) := by decide +kernel
theorem dIt_bitCount_0 : decode prog_21_method_49_code 0 = .ok (.iload_n 0, 1) := by decide +kernel
theorem dIt_bitCount_1 : decode prog_21_method_49_code 1 = .ok (.iload_n 0, 1) := by decide +kernel
theorem dIt_bitCount_2 : decode prog_21_method_49_code 2 = .ok (.iconst 1, 1) := by decide +kernel
theorem dIt_bitCount_3 : decode prog_21_method_49_code 3 = .ok (.iushr, 1) := by decide +kernel
theorem dIt_bitCount_4 : decode prog_21_method_49_code 4 = .ok (.ldc_w 265, 3) := by decide +kernel
theorem dIt_bitCount_7 : decode prog_21_method_49_code 7 = .ok (.iand, 1) := by decide +kernel
theorem dIt_bitCount_8 : decode prog_21_method_49_code 8 = .ok (.isub, 1) := by decide +kernel
theorem dIt_bitCount_9 : decode prog_21_method_49_code 9 = .ok (.istore_n 0, 1) := by decide +kernel
theorem dIt_bitCount_10 : decode prog_21_method_49_code 10 = .ok (.iload_n 0, 1) := by decide +kernel
theorem dIt_bitCount_11 : decode prog_21_method_49_code 11 = .ok (.ldc_w 266, 3) := by decide +kernel
theorem dIt_bitCount_14 : decode prog_21_method_49_code 14 = .ok (.iand, 1) := by decide +kernel
theorem dIt_bitCount_15 : decode prog_21_method_49_code 15 = .ok (.iload_n 0, 1) := by decide +kernel
theorem dIt_bitCount_16 : decode prog_21_method_49_code 16 = .ok (.iconst 2, 1) := by decide +kernel
theorem dIt_bitCount_17 : decode prog_21_method_49_code 17 = .ok (.iushr, 1) := by decide +kernel
theorem dIt_bitCount_18 : decode prog_21_method_49_code 18 = .ok (.ldc_w 266, 3) := by decide +kernel
theorem dIt_bitCount_21 : decode prog_21_method_49_code 21 = .ok (.iand, 1) := by decide +kernel
theorem dIt_bitCount_22 : decode prog_21_method_49_code 22 = .ok (.iadd, 1) := by decide +kernel
theorem dIt_bitCount_23 : decode prog_21_method_49_code 23 = .ok (.istore_n 0, 1) := by decide +kernel
theorem dIt_bitCount_24 : decode prog_21_method_49_code 24 = .ok (.iload_n 0, 1) := by decide +kernel
theorem dIt_bitCount_25 : decode prog_21_method_49_code 25 = .ok (.iload_n 0, 1) := by decide +kernel
theorem dIt_bitCount_26 : decode prog_21_method_49_code 26 = .ok (.iconst 4, 1) := by decide +kernel
theorem dIt_bitCount_27 : decode prog_21_method_49_code 27 = .ok (.iushr, 1) := by decide +kernel
theorem dIt_bitCount_28 : decode prog_21_method_49_code 28 = .ok (.iadd, 1) := by decide +kernel
theorem dIt_bitCount_29 : decode prog_21_method_49_code 29 = .ok (.ldc_w 267, 3) := by decide +kernel
theorem dIt_bitCount_32 : decode prog_21_method_49_code 32 = .ok (.iand, 1) := by decide +kernel
theorem dIt_bitCount_33 : decode prog_21_method_49_code 33 = .ok (.istore_n 0, 1) := by decide +kernel
theorem dIt_bitCount_34 : decode prog_21_method_49_code 34 = .ok (.iload_n 0, 1) := by decide +kernel
theorem dIt_bitCount_35 : decode prog_21_method_49_code 35 = .ok (.iload_n 0, 1) := by decide +kernel
theorem dIt_bitCount_36 : decode prog_21_method_49_code 36 = .ok (.bipush 8, 2) := by decide +kernel
theorem dIt_bitCount_38 : decode prog_21_method_49_code 38 = .ok (.iushr, 1) := by decide +kernel
theorem dIt_bitCount_39 : decode prog_21_method_49_code 39 = .ok (.iadd, 1) := by decide +kernel
theorem dIt_bitCount_40 : decode prog_21_method_49_code 40 = .ok (.istore_n 0, 1) := by decide +kernel
theorem dIt_bitCount_41 : decode prog_21_method_49_code 41 = .ok (.iload_n 0, 1) := by decide +kernel
theorem dIt_bitCount_42 : decode prog_21_method_49_code 42 = .ok (.iload_n 0, 1) := by decide +kernel
theorem dIt_bitCount_43 : decode prog_21_method_49_code 43 = .ok (.bipush 16, 2) := by decide +kernel
theorem dIt_bitCount_45 : decode prog_21_method_49_code 45 = .ok (.iushr, 1) := by decide +kernel
theorem dIt_bitCount_46 : decode prog_21_method_49_code 46 = .ok (.iadd, 1) := by decide +kernel
theorem dIt_bitCount_47 : decode prog_21_method_49_code 47 = .ok (.istore_n 0, 1) := by decide +kernel
theorem dIt_bitCount_48 : decode prog_21_method_49_code 48 = .ok (.iload_n 0, 1) := by decide +kernel
theorem dIt_bitCount_49 : decode prog_21_method_49_code 49 = .ok (.bipush 63, 2) := by decide +kernel
theorem dIt_bitCount_51 : decode prog_21_method_49_code 51 = .ok (.iand, 1) := by decide +kernel
theorem dIt_bitCount_52 : decode prog_21_method_49_code 52 = .ok (.ireturn, 1) := by decide +kernel
theorem dSr_charAt_0 : decode prog_24_method_56_code 0 = .ok (.aload_n 0, 1) := by decide +kernel
theorem dSr_charAt_1 : decode prog_24_method_56_code 1 = .ok (.invokevirtual 492, 3) := by decide +kernel
theorem dSr_charAt_4 : decode prog_24_method_56_code 4 = .ok (.ifCond .eq 12, 3) := by decide +kernel
theorem dSr_charAt_7 : decode prog_24_method_56_code 7 = .ok (.aload_n 0, 1) := by decide +kernel
theorem dSr_charAt_8 : decode prog_24_method_56_code 8 = .ok (.getfield 9, 3) := by decide +kernel
theorem dSr_charAt_11 : decode prog_24_method_56_code 11 = .ok (.iload_n 1, 1) := by decide +kernel
theorem dSr_charAt_12 : decode prog_24_method_56_code 12 = .ok (.invokestatic 495, 3) := by decide +kernel
theorem dSr_charAt_15 : decode prog_24_method_56_code 15 = .ok (.ireturn, 1) := by decide +kernel
theorem dSr_charAt_16 : decode prog_24_method_56_code 16 = .ok (.aload_n 0, 1) := by decide +kernel
theorem dSr_charAt_17 : decode prog_24_method_56_code 17 = .ok (.getfield 9, 3) := by decide +kernel
theorem dSr_charAt_20 : decode prog_24_method_56_code 20 = .ok (.iload_n 1, 1) := by decide +kernel
theorem dSr_charAt_21 : decode prog_24_method_56_code 21 = .ok (.invokestatic 498, 3) := by decide +kernel
theorem dSr_charAt_24 : decode prog_24_method_56_code 24 = .ok (.ireturn, 1) := by decide +kernel
theorem dSl_charAt_0 : decode prog_25_method_2_code 0 = .ok (.iload_n 1, 1) := by decide +kernel
theorem dSl_charAt_1 : decode prog_25_method_2_code 1 = .ok (.aload_n 0, 1) := by decide +kernel
theorem dSl_charAt_2 : decode prog_25_method_2_code 2 = .ok (.arraylength, 1) := by decide +kernel
theorem dSl_charAt_3 : decode prog_25_method_2_code 3 = .ok (.invokestatic 9, 3) := by decide +kernel
theorem dSl_charAt_6 : decode prog_25_method_2_code 6 = .ok (.aload_n 0, 1) := by decide +kernel
theorem dSl_charAt_7 : decode prog_25_method_2_code 7 = .ok (.iload_n 1, 1) := by decide +kernel
theorem dSl_charAt_8 : decode prog_25_method_2_code 8 = .ok (.baload, 1) := by decide +kernel
theorem dSl_charAt_9 : decode prog_25_method_2_code 9 = .ok (.sipush 255, 3) := by decide +kernel
theorem dSl_charAt_12 : decode prog_25_method_2_code 12 = .ok (.iand, 1) := by decide +kernel
theorem dSl_charAt_13 : decode prog_25_method_2_code 13 = .ok (.i2c, 1) := by decide +kernel
theorem dSl_charAt_14 : decode prog_25_method_2_code 14 = .ok (.ireturn, 1) := by decide +kernel
theorem dSr_checkIndex_0 : decode prog_24_method_155_code 0 = .ok (.iload_n 0, 1) := by decide +kernel
theorem dSr_checkIndex_1 : decode prog_24_method_155_code 1 = .ok (.iload_n 1, 1) := by decide +kernel
theorem dSr_checkIndex_2 : decode prog_24_method_155_code 2 = .ok (.getstatic 1053, 3) := by decide +kernel
theorem dSr_checkIndex_5 : decode prog_24_method_155_code 5 = .ok (.invokestatic 1059, 3) := by decide +kernel
theorem dSr_checkIndex_8 : decode prog_24_method_155_code 8 = .ok (.pop, 1) := by decide +kernel
theorem dSr_checkIndex_9 : decode prog_24_method_155_code 9 = .ok (.return_, 1) := by decide +kernel
theorem dPr_checkIndex_0 : decode prog_33_method_11_code 0 = .ok (.iload_n 0, 1) := by decide +kernel
theorem dPr_checkIndex_1 : decode prog_33_method_11_code 1 = .ok (.ifCond .lt 8, 3) := by decide +kernel
theorem dPr_checkIndex_4 : decode prog_33_method_11_code 4 = .ok (.iload_n 0, 1) := by decide +kernel
theorem dPr_checkIndex_5 : decode prog_33_method_11_code 5 = .ok (.iload_n 1, 1) := by decide +kernel
theorem dPr_checkIndex_6 : decode prog_33_method_11_code 6 = .ok (.if_icmp .lt 10, 3) := by decide +kernel
theorem dPr_checkIndex_9 : decode prog_33_method_11_code 9 = .ok (.aload_n 2, 1) := by decide +kernel
theorem dPr_checkIndex_10 : decode prog_33_method_11_code 10 = .ok (.iload_n 0, 1) := by decide +kernel
theorem dPr_checkIndex_11 : decode prog_33_method_11_code 11 = .ok (.iload_n 1, 1) := by decide +kernel
theorem dPr_checkIndex_12 : decode prog_33_method_11_code 12 = .ok (.invokestatic 95, 3) := by decide +kernel
theorem dPr_checkIndex_15 : decode prog_33_method_11_code 15 = .ok (.athrow, 1) := by decide +kernel
theorem dPr_checkIndex_16 : decode prog_33_method_11_code 16 = .ok (.iload_n 0, 1) := by decide +kernel
theorem dPr_checkIndex_17 : decode prog_33_method_11_code 17 = .ok (.ireturn, 1) := by decide +kernel
theorem dSu_charAt_0 : decode prog_26_method_83_code 0 = .ok (.iload_n 1, 1) := by decide +kernel
theorem dSu_charAt_1 : decode prog_26_method_83_code 1 = .ok (.aload_n 0, 1) := by decide +kernel
theorem dSu_charAt_2 : decode prog_26_method_83_code 2 = .ok (.invokestatic 67, 3) := by decide +kernel
theorem dSu_charAt_5 : decode prog_26_method_83_code 5 = .ok (.aload_n 0, 1) := by decide +kernel
theorem dSu_charAt_6 : decode prog_26_method_83_code 6 = .ok (.iload_n 1, 1) := by decide +kernel
theorem dSu_charAt_7 : decode prog_26_method_83_code 7 = .ok (.invokestatic 71, 3) := by decide +kernel
theorem dSu_charAt_10 : decode prog_26_method_83_code 10 = .ok (.ireturn, 1) := by decide +kernel
theorem dSu_checkIndex_0 : decode prog_26_method_91_code 0 = .ok (.iload_n 0, 1) := by decide +kernel
theorem dSu_checkIndex_1 : decode prog_26_method_91_code 1 = .ok (.aload_n 1, 1) := by decide +kernel
theorem dSu_checkIndex_2 : decode prog_26_method_91_code 2 = .ok (.invokestatic 48, 3) := by decide +kernel
theorem dSu_checkIndex_5 : decode prog_26_method_91_code 5 = .ok (.invokestatic 414, 3) := by decide +kernel
theorem dSu_checkIndex_8 : decode prog_26_method_91_code 8 = .ok (.return_, 1) := by decide +kernel
theorem dMt_min2_0 : decode prog_22_method_70_code 0 = .ok (.lload_n 0, 1) := by decide +kernel
theorem dMt_min2_1 : decode prog_22_method_70_code 1 = .ok (.lload_n 2, 1) := by decide +kernel
theorem dMt_min2_2 : decode prog_22_method_70_code 2 = .ok (.lcmp, 1) := by decide +kernel
theorem dMt_min2_3 : decode prog_22_method_70_code 3 = .ok (.ifCond .gt 7, 3) := by decide +kernel
theorem dMt_min2_6 : decode prog_22_method_70_code 6 = .ok (.lload_n 0, 1) := by decide +kernel
theorem dMt_min2_7 : decode prog_22_method_70_code 7 = .ok (.goto 4, 3) := by decide +kernel
theorem dMt_min2_10 : decode prog_22_method_70_code 10 = .ok (.lload_n 2, 1) := by decide +kernel
theorem dMt_min2_11 : decode prog_22_method_70_code 11 = .ok (.lreturn, 1) := by decide +kernel
theorem dMt_max2_0 : decode prog_22_method_66_code 0 = .ok (.lload_n 0, 1) := by decide +kernel
theorem dMt_max2_1 : decode prog_22_method_66_code 1 = .ok (.lload_n 2, 1) := by decide +kernel
theorem dMt_max2_2 : decode prog_22_method_66_code 2 = .ok (.lcmp, 1) := by decide +kernel
theorem dMt_max2_3 : decode prog_22_method_66_code 3 = .ok (.ifCond .lt 7, 3) := by decide +kernel
theorem dMt_max2_6 : decode prog_22_method_66_code 6 = .ok (.lload_n 0, 1) := by decide +kernel
theorem dMt_max2_7 : decode prog_22_method_66_code 7 = .ok (.goto 4, 3) := by decide +kernel
theorem dMt_max2_10 : decode prog_22_method_66_code 10 = .ok (.lload_n 2, 1) := by decide +kernel
theorem dMt_max2_11 : decode prog_22_method_66_code 11 = .ok (.lreturn, 1) := by decide +kernel
