theorem dc10_init_0 : decode prog_12_method_1_code 0 = .ok (.aload_n 0, 1) := by decide +kernel
theorem dc10_init_1 : decode prog_12_method_1_code 1 = .ok (.invokespecial 3, 3) := by decide +kernel
theorem dc10_init_4 : decode prog_12_method_1_code 4 = .ok (.aload_n 0, 1) := by decide +kernel
theorem dc10_init_5 : decode prog_12_method_1_code 5 = .ok (.sipush 240, 3) := by decide +kernel
theorem dc10_init_8 : decode prog_12_method_1_code 8 = .ok (.newarray .byte, 2) := by decide +kernel
theorem dc10_init_10 : decode prog_12_method_1_code 10 = .ok (.putfield 9, 3) := by decide +kernel
theorem dc10_init_13 : decode prog_12_method_1_code 13 = .ok (.return_, 1) := by decide +kernel
theorem dc6_init_0 : decode prog_8_method_1_code 0 = .ok (.aload_n 0, 1) := by decide +kernel
theorem dc6_init_1 : decode prog_8_method_1_code 1 = .ok (.invokespecial 3, 3) := by decide +kernel
theorem dc6_init_4 : decode prog_8_method_1_code 4 = .ok (.aload_n 0, 1) := by decide +kernel
theorem dc6_init_5 : decode prog_8_method_1_code 5 = .ok (.getstatic 9, 3) := by decide +kernel
theorem dc6_init_8 : decode prog_8_method_1_code 8 = .ok (.arraylength, 1) := by decide +kernel
theorem dc6_init_9 : decode prog_8_method_1_code 9 = .ok (.newarray .int, 2) := by decide +kernel
theorem dc6_init_11 : decode prog_8_method_1_code 11 = .ok (.putfield 15, 3) := by decide +kernel
theorem dc6_init_14 : decode prog_8_method_1_code 14 = .ok (.aload_n 0, 1) := by decide +kernel
theorem dc6_init_15 : decode prog_8_method_1_code 15 = .ok (.new 18, 3) := by decide +kernel
theorem dc6_init_18 : decode prog_8_method_1_code 18 = .ok (.dup, 1) := by decide +kernel
theorem dc6_init_19 : decode prog_8_method_1_code 19 = .ok (.invokespecial 20, 3) := by decide +kernel
theorem dc6_init_22 : decode prog_8_method_1_code 22 = .ok (.putfield 21, 3) := by decide +kernel
theorem dc6_init_25 : decode prog_8_method_1_code 25 = .ok (.aload_n 0, 1) := by decide +kernel
theorem dc6_init_26 : decode prog_8_method_1_code 26 = .ok (.aload_n 1, 1) := by decide +kernel
theorem dc6_init_27 : decode prog_8_method_1_code 27 = .ok (.putfield 25, 3) := by decide +kernel
theorem dc6_init_30 : decode prog_8_method_1_code 30 = .ok (.return_, 1) := by decide +kernel
theorem dc2_init_0 : decode prog_4_method_1_code 0 = .ok (.aload_n 0, 1) := by decide +kernel
theorem dc2_init_1 : decode prog_4_method_1_code 1 = .ok (.invokespecial 3, 3) := by decide +kernel
theorem dc2_init_4 : decode prog_4_method_1_code 4 = .ok (.aload_n 0, 1) := by decide +kernel
theorem dc2_init_5 : decode prog_4_method_1_code 5 = .ok (.bipush 6, 2) := by decide +kernel
theorem dc2_init_7 : decode prog_4_method_1_code 7 = .ok (.newarray .int, 2) := by decide +kernel
theorem dc2_init_9 : decode prog_4_method_1_code 9 = .ok (.putfield 9, 3) := by decide +kernel
theorem dc2_init_12 : decode prog_4_method_1_code 12 = .ok (.aload_n 0, 1) := by decide +kernel
theorem dc2_init_13 : decode prog_4_method_1_code 13 = .ok (.bipush 6, 2) := by decide +kernel
theorem dc2_init_15 : decode prog_4_method_1_code 15 = .ok (.newarray .int, 2) := by decide +kernel
theorem dc2_init_17 : decode prog_4_method_1_code 17 = .ok (.putfield 15, 3) := by decide +kernel
theorem dc2_init_20 : decode prog_4_method_1_code 20 = .ok (.aload_n 0, 1) := by decide +kernel
theorem dc2_init_21 : decode prog_4_method_1_code 21 = .ok (.bipush 6, 2) := by decide +kernel
theorem dc2_init_23 : decode prog_4_method_1_code 23 = .ok (.newarray .int, 2) := by decide +kernel
theorem dc2_init_25 : decode prog_4_method_1_code 25 = .ok (.putfield 18, 3) := by decide +kernel
theorem dc2_init_28 : decode prog_4_method_1_code 28 = .ok (.aload_n 0, 1) := by decide +kernel
theorem dc2_init_29 : decode prog_4_method_1_code 29 = .ok (.bipush 6, 2) := by decide +kernel
theorem dc2_init_31 : decode prog_4_method_1_code 31 = .ok (.newarray .int, 2) := by decide +kernel
theorem dc2_init_33 : decode prog_4_method_1_code 33 = .ok (.putfield 21, 3) := by decide +kernel
theorem dc2_init_36 : decode prog_4_method_1_code 36 = .ok (.aload_n 0, 1) := by decide +kernel
theorem dc2_init_37 : decode prog_4_method_1_code 37 = .ok (.bipush 6, 2) := by decide +kernel
theorem dc2_init_39 : decode prog_4_method_1_code 39 = .ok (.newarray .int, 2) := by decide +kernel
theorem dc2_init_41 : decode prog_4_method_1_code 41 = .ok (.putfield 24, 3) := by decide +kernel
theorem dc2_init_44 : decode prog_4_method_1_code 44 = .ok (.return_, 1) := by decide +kernel
theorem dc4_init_0 : decode prog_6_method_1_code 0 = .ok (.aload_n 0, 1) := by decide +kernel
theorem dc4_init_1 : decode prog_6_method_1_code 1 = .ok (.invokespecial 3, 3) := by decide +kernel
theorem dc4_init_4 : decode prog_6_method_1_code 4 = .ok (.aload_n 0, 1) := by decide +kernel
theorem dc4_init_5 : decode prog_6_method_1_code 5 = .ok (.sipush 240, 3) := by decide +kernel
theorem dc4_init_8 : decode prog_6_method_1_code 8 = .ok (.newarray .int, 2) := by decide +kernel
theorem dc4_init_10 : decode prog_6_method_1_code 10 = .ok (.putfield 9, 3) := by decide +kernel
theorem dc4_init_13 : decode prog_6_method_1_code 13 = .ok (.aload_n 0, 1) := by decide +kernel
theorem dc4_init_14 : decode prog_6_method_1_code 14 = .ok (.aload_n 1, 1) := by decide +kernel
theorem dc4_init_15 : decode prog_6_method_1_code 15 = .ok (.putfield 15, 3) := by decide +kernel
theorem dc4_init_18 : decode prog_6_method_1_code 18 = .ok (.return_, 1) := by decide +kernel
theorem dc8_init_0 : decode prog_10_method_1_code 0 = .ok (.aload_n 0, 1) := by decide +kernel
theorem dc8_init_1 : decode prog_10_method_1_code 1 = .ok (.invokespecial 3, 3) := by decide +kernel
theorem dc8_init_4 : decode prog_10_method_1_code 4 = .ok (.aload_n 0, 1) := by decide +kernel
theorem dc8_init_5 : decode prog_10_method_1_code 5 = .ok (.bipush 16, 2) := by decide +kernel
theorem dc8_init_7 : decode prog_10_method_1_code 7 = .ok (.newarray .int, 2) := by decide +kernel
theorem dc8_init_9 : decode prog_10_method_1_code 9 = .ok (.putfield 11, 3) := by decide +kernel
theorem dc8_init_12 : decode prog_10_method_1_code 12 = .ok (.aload_n 0, 1) := by decide +kernel
theorem dc8_init_13 : decode prog_10_method_1_code 13 = .ok (.bipush 16, 2) := by decide +kernel
theorem dc8_init_15 : decode prog_10_method_1_code 15 = .ok (.newarray .int, 2) := by decide +kernel
theorem dc8_init_17 : decode prog_10_method_1_code 17 = .ok (.putfield 17, 3) := by decide +kernel
theorem dc8_init_20 : decode prog_10_method_1_code 20 = .ok (.aload_n 0, 1) := by decide +kernel
theorem dc8_init_21 : decode prog_10_method_1_code 21 = .ok (.bipush 16, 2) := by decide +kernel
theorem dc8_init_23 : decode prog_10_method_1_code 23 = .ok (.newarray .int, 2) := by decide +kernel
theorem dc8_init_25 : decode prog_10_method_1_code 25 = .ok (.putfield 20, 3) := by decide +kernel
theorem dc8_init_28 : decode prog_10_method_1_code 28 = .ok (.aload_n 0, 1) := by decide +kernel
theorem dc8_init_29 : decode prog_10_method_1_code 29 = .ok (.aload_n 1, 1) := by decide +kernel
theorem dc8_init_30 : decode prog_10_method_1_code 30 = .ok (.putfield 23, 3) := by decide +kernel
theorem dc8_init_33 : decode prog_10_method_1_code 33 = .ok (.return_, 1) := by decide +kernel
theorem dc9_init_0 : decode prog_11_method_1_code 0 = .ok (.aload_n 0, 1) := by decide +kernel
theorem dc9_init_1 : decode prog_11_method_1_code 1 = .ok (.invokespecial 3, 3) := by decide +kernel
theorem dc9_init_4 : decode prog_11_method_1_code 4 = .ok (.aload_n 0, 1) := by decide +kernel
theorem dc9_init_5 : decode prog_11_method_1_code 5 = .ok (.bipush 6, 2) := by decide +kernel
theorem dc9_init_7 : decode prog_11_method_1_code 7 = .ok (.newarray .int, 2) := by decide +kernel
theorem dc9_init_9 : decode prog_11_method_1_code 9 = .ok (.putfield 9, 3) := by decide +kernel
theorem dc9_init_12 : decode prog_11_method_1_code 12 = .ok (.aload_n 0, 1) := by decide +kernel
theorem dc9_init_13 : decode prog_11_method_1_code 13 = .ok (.bipush 6, 2) := by decide +kernel
theorem dc9_init_15 : decode prog_11_method_1_code 15 = .ok (.newarray .int, 2) := by decide +kernel
theorem dc9_init_17 : decode prog_11_method_1_code 17 = .ok (.putfield 15, 3) := by decide +kernel
theorem dc9_init_20 : decode prog_11_method_1_code 20 = .ok (.aload_n 0, 1) := by decide +kernel
theorem dc9_init_21 : decode prog_11_method_1_code 21 = .ok (.bipush 6, 2) := by decide +kernel
theorem dc9_init_23 : decode prog_11_method_1_code 23 = .ok (.newarray .int, 2) := by decide +kernel
theorem dc9_init_25 : decode prog_11_method_1_code 25 = .ok (.putfield 18, 3) := by decide +kernel
theorem dc9_init_28 : decode prog_11_method_1_code 28 = .ok (.aload_n 0, 1) := by decide +kernel
theorem dc9_init_29 : decode prog_11_method_1_code 29 = .ok (.bipush 6, 2) := by decide +kernel
theorem dc9_init_31 : decode prog_11_method_1_code 31 = .ok (.newarray .int, 2) := by decide +kernel
theorem dc9_init_33 : decode prog_11_method_1_code 33 = .ok (.putfield 21, 3) := by decide +kernel
theorem dc9_init_36 : decode prog_11_method_1_code 36 = .ok (.aload_n 0, 1) := by decide +kernel
theorem dc9_init_37 : decode prog_11_method_1_code 37 = .ok (.bipush 6, 2) := by decide +kernel
theorem dc9_init_39 : decode prog_11_method_1_code 39 = .ok (.newarray .int, 2) := by decide +kernel
theorem dc9_init_41 : decode prog_11_method_1_code 41 = .ok (.putfield 24, 3) := by decide +kernel
theorem dc9_init_44 : decode prog_11_method_1_code 44 = .ok (.return_, 1) := by decide +kernel
theorem dc0_init_0 : decode prog_2_method_1_code 0 = .ok (.aload_n 0, 1) := by decide +kernel
theorem dc0_init_1 : decode prog_2_method_1_code 1 = .ok (.invokespecial 5, 3) := by decide +kernel
theorem dc0_init_4 : decode prog_2_method_1_code 4 = .ok (.aload_n 0, 1) := by decide +kernel
theorem dc0_init_5 : decode prog_2_method_1_code 5 = .ok (.bipush 100, 2) := by decide +kernel
theorem dc0_init_7 : decode prog_2_method_1_code 7 = .ok (.newarray .int, 2) := by decide +kernel
theorem dc0_init_9 : decode prog_2_method_1_code 9 = .ok (.putfield 11, 3) := by decide +kernel
theorem dc0_init_12 : decode prog_2_method_1_code 12 = .ok (.aload_n 0, 1) := by decide +kernel
theorem dc0_init_13 : decode prog_2_method_1_code 13 = .ok (.bipush 100, 2) := by decide +kernel
theorem dc0_init_15 : decode prog_2_method_1_code 15 = .ok (.newarray .int, 2) := by decide +kernel
theorem dc0_init_17 : decode prog_2_method_1_code 17 = .ok (.putfield 15, 3) := by decide +kernel
theorem dc0_init_20 : decode prog_2_method_1_code 20 = .ok (.aload_n 0, 1) := by decide +kernel
theorem dc0_init_21 : decode prog_2_method_1_code 21 = .ok (.bipush 100, 2) := by decide +kernel
theorem dc0_init_23 : decode prog_2_method_1_code 23 = .ok (.newarray .int, 2) := by decide +kernel
theorem dc0_init_25 : decode prog_2_method_1_code 25 = .ok (.putfield 18, 3) := by decide +kernel
theorem dc0_init_28 : decode prog_2_method_1_code 28 = .ok (.return_, 1) := by decide +kernel
theorem dc5_init_0 : decode prog_7_method_1_code 0 = .ok (.aload_n 0, 1) := by decide +kernel
theorem dc5_init_1 : decode prog_7_method_1_code 1 = .ok (.invokespecial 1, 3) := by decide +kernel
theorem dc5_init_4 : decode prog_7_method_1_code 4 = .ok (.aload_n 0, 1) := by decide +kernel
theorem dc5_init_5 : decode prog_7_method_1_code 5 = .ok (.sipush 1040, 3) := by decide +kernel
theorem dc5_init_8 : decode prog_7_method_1_code 8 = .ok (.newarray .int, 2) := by decide +kernel
theorem dc5_init_10 : decode prog_7_method_1_code 10 = .ok (.putfield 11, 3) := by decide +kernel
theorem dc5_init_13 : decode prog_7_method_1_code 13 = .ok (.aload_n 0, 1) := by decide +kernel
theorem dc5_init_14 : decode prog_7_method_1_code 14 = .ok (.bipush 26, 2) := by decide +kernel
theorem dc5_init_16 : decode prog_7_method_1_code 16 = .ok (.newarray .int, 2) := by decide +kernel
theorem dc5_init_18 : decode prog_7_method_1_code 18 = .ok (.putfield 15, 3) := by decide +kernel
theorem dc5_init_21 : decode prog_7_method_1_code 21 = .ok (.aload_n 0, 1) := by decide +kernel
theorem dc5_init_22 : decode prog_7_method_1_code 22 = .ok (.new 18, 3) := by decide +kernel
theorem dc5_init_25 : decode prog_7_method_1_code 25 = .ok (.dup, 1) := by decide +kernel
theorem dc5_init_26 : decode prog_7_method_1_code 26 = .ok (.invokespecial 20, 3) := by decide +kernel
theorem dc5_init_29 : decode prog_7_method_1_code 29 = .ok (.putfield 21, 3) := by decide +kernel
theorem dc5_init_32 : decode prog_7_method_1_code 32 = .ok (.return_, 1) := by decide +kernel
theorem dc1_init_0 : decode prog_3_method_1_code 0 = .ok (.aload_n 0, 1) := by decide +kernel
theorem dc1_init_1 : decode prog_3_method_1_code 1 = .ok (.invokespecial 3, 3) := by decide +kernel
theorem dc1_init_4 : decode prog_3_method_1_code 4 = .ok (.aload_n 0, 1) := by decide +kernel
theorem dc1_init_5 : decode prog_3_method_1_code 5 = .ok (.bipush 10, 2) := by decide +kernel
theorem dc1_init_7 : decode prog_3_method_1_code 7 = .ok (.newarray .int, 2) := by decide +kernel
theorem dc1_init_9 : decode prog_3_method_1_code 9 = .ok (.putfield 11, 3) := by decide +kernel
theorem dc1_init_12 : decode prog_3_method_1_code 12 = .ok (.aload_n 0, 1) := by decide +kernel
theorem dc1_init_13 : decode prog_3_method_1_code 13 = .ok (.bipush 10, 2) := by decide +kernel
theorem dc1_init_15 : decode prog_3_method_1_code 15 = .ok (.newarray .int, 2) := by decide +kernel
theorem dc1_init_17 : decode prog_3_method_1_code 17 = .ok (.putfield 15, 3) := by decide +kernel
theorem dc1_init_20 : decode prog_3_method_1_code 20 = .ok (.aload_n 0, 1) := by decide +kernel
theorem dc1_init_21 : decode prog_3_method_1_code 21 = .ok (.bipush 10, 2) := by decide +kernel
theorem dc1_init_23 : decode prog_3_method_1_code 23 = .ok (.newarray .int, 2) := by decide +kernel
theorem dc1_init_25 : decode prog_3_method_1_code 25 = .ok (.putfield 18, 3) := by decide +kernel
theorem dc1_init_28 : decode prog_3_method_1_code 28 = .ok (.aload_n 0, 1) := by decide +kernel
theorem dc1_init_29 : decode prog_3_method_1_code 29 = .ok (.bipush 10, 2) := by decide +kernel
theorem dc1_init_31 : decode prog_3_method_1_code 31 = .ok (.newarray .boolean, 2) := by decide +kernel
theorem dc1_init_33 : decode prog_3_method_1_code 33 = .ok (.putfield 21, 3) := by decide +kernel
theorem dc1_init_36 : decode prog_3_method_1_code 36 = .ok (.aload_n 0, 1) := by decide +kernel
theorem dc1_init_37 : decode prog_3_method_1_code 37 = .ok (.bipush 100, 2) := by decide +kernel
theorem dc1_init_39 : decode prog_3_method_1_code 39 = .ok (.newarray .boolean, 2) := by decide +kernel
theorem dc1_init_41 : decode prog_3_method_1_code 41 = .ok (.putfield 25, 3) := by decide +kernel
theorem dc1_init_44 : decode prog_3_method_1_code 44 = .ok (.aload_n 0, 1) := by decide +kernel
theorem dc1_init_45 : decode prog_3_method_1_code 45 = .ok (.bipush 100, 2) := by decide +kernel
theorem dc1_init_47 : decode prog_3_method_1_code 47 = .ok (.newarray .int, 2) := by decide +kernel
theorem dc1_init_49 : decode prog_3_method_1_code 49 = .ok (.putfield 28, 3) := by decide +kernel
theorem dc1_init_52 : decode prog_3_method_1_code 52 = .ok (.aload_n 0, 1) := by decide +kernel
theorem dc1_init_53 : decode prog_3_method_1_code 53 = .ok (.bipush 100, 2) := by decide +kernel
theorem dc1_init_55 : decode prog_3_method_1_code 55 = .ok (.newarray .int, 2) := by decide +kernel
theorem dc1_init_57 : decode prog_3_method_1_code 57 = .ok (.putfield 31, 3) := by decide +kernel
theorem dc1_init_60 : decode prog_3_method_1_code 60 = .ok (.aload_n 0, 1) := by decide +kernel
theorem dc1_init_61 : decode prog_3_method_1_code 61 = .ok (.bipush 100, 2) := by decide +kernel
theorem dc1_init_63 : decode prog_3_method_1_code 63 = .ok (.newarray .int, 2) := by decide +kernel
theorem dc1_init_65 : decode prog_3_method_1_code 65 = .ok (.putfield 34, 3) := by decide +kernel
theorem dc1_init_68 : decode prog_3_method_1_code 68 = .ok (.return_, 1) := by decide +kernel
theorem dc10_signsIn_0 : decode prog_12_method_2_code 0 = .ok (.iconst 0, 1) := by decide +kernel
theorem dc10_signsIn_1 : decode prog_12_method_2_code 1 = .ok (.istore_n 1, 1) := by decide +kernel
theorem dc10_signsIn_2 : decode prog_12_method_2_code 2 = .ok (.bipush 24, 2) := by decide +kernel
theorem dc10_signsIn_4 : decode prog_12_method_2_code 4 = .ok (.istore_n 2, 1) := by decide +kernel
theorem dc10_signsIn_5 : decode prog_12_method_2_code 5 = .ok (.iload_n 2, 1) := by decide +kernel
theorem dc10_signsIn_6 : decode prog_12_method_2_code 6 = .ok (.ifCond .lt 22, 3) := by decide +kernel
theorem dc10_signsIn_9 : decode prog_12_method_2_code 9 = .ok (.iload_n 0, 1) := by decide +kernel
theorem dc10_signsIn_10 : decode prog_12_method_2_code 10 = .ok (.iload_n 2, 1) := by decide +kernel
theorem dc10_signsIn_11 : decode prog_12_method_2_code 11 = .ok (.iushr, 1) := by decide +kernel
theorem dc10_signsIn_12 : decode prog_12_method_2_code 12 = .ok (.sipush 255, 3) := by decide +kernel
theorem dc10_signsIn_15 : decode prog_12_method_2_code 15 = .ok (.iand, 1) := by decide +kernel
theorem dc10_signsIn_16 : decode prog_12_method_2_code 16 = .ok (.ifCond .eq 6, 3) := by decide +kernel
theorem dc10_signsIn_19 : decode prog_12_method_2_code 19 = .ok (.iinc 1 1, 3) := by decide +kernel
theorem dc10_signsIn_22 : decode prog_12_method_2_code 22 = .ok (.iinc 2 (-8), 3) := by decide +kernel
theorem dc10_signsIn_25 : decode prog_12_method_2_code 25 = .ok (.goto (-20), 3) := by decide +kernel
theorem dc10_signsIn_28 : decode prog_12_method_2_code 28 = .ok (.iload_n 1, 1) := by decide +kernel
theorem dc10_signsIn_29 : decode prog_12_method_2_code 29 = .ok (.ireturn, 1) := by decide +kernel
theorem dc10_put_0 : decode prog_12_method_3_code 0 = .ok (.bipush 24, 2) := by decide +kernel
theorem dc10_put_2 : decode prog_12_method_3_code 2 = .ok (.istore_n 2, 1) := by decide +kernel
theorem dc10_put_3 : decode prog_12_method_3_code 3 = .ok (.iload_n 2, 1) := by decide +kernel
theorem dc10_put_4 : decode prog_12_method_3_code 4 = .ok (.ifCond .lt 49, 3) := by decide +kernel
theorem dc10_put_7 : decode prog_12_method_3_code 7 = .ok (.iload_n 1, 1) := by decide +kernel
theorem dc10_put_8 : decode prog_12_method_3_code 8 = .ok (.iload_n 2, 1) := by decide +kernel
theorem dc10_put_9 : decode prog_12_method_3_code 9 = .ok (.iushr, 1) := by decide +kernel
theorem dc10_put_10 : decode prog_12_method_3_code 10 = .ok (.sipush 255, 3) := by decide +kernel
theorem dc10_put_13 : decode prog_12_method_3_code 13 = .ok (.iand, 1) := by decide +kernel
theorem dc10_put_14 : decode prog_12_method_3_code 14 = .ok (.istore_n 3, 1) := by decide +kernel
theorem dc10_put_15 : decode prog_12_method_3_code 15 = .ok (.iload_n 3, 1) := by decide +kernel
theorem dc10_put_16 : decode prog_12_method_3_code 16 = .ok (.ifCond .eq 31, 3) := by decide +kernel
theorem dc10_put_19 : decode prog_12_method_3_code 19 = .ok (.aload_n 0, 1) := by decide +kernel
theorem dc10_put_20 : decode prog_12_method_3_code 20 = .ok (.getfield 15, 3) := by decide +kernel
theorem dc10_put_23 : decode prog_12_method_3_code 23 = .ok (.sipush 240, 3) := by decide +kernel
theorem dc10_put_26 : decode prog_12_method_3_code 26 = .ok (.if_icmp .ge 21, 3) := by decide +kernel
theorem dc10_put_29 : decode prog_12_method_3_code 29 = .ok (.aload_n 0, 1) := by decide +kernel
theorem dc10_put_30 : decode prog_12_method_3_code 30 = .ok (.getfield 9, 3) := by decide +kernel
theorem dc10_put_33 : decode prog_12_method_3_code 33 = .ok (.aload_n 0, 1) := by decide +kernel
theorem dc10_put_34 : decode prog_12_method_3_code 34 = .ok (.dup, 1) := by decide +kernel
theorem dc10_put_35 : decode prog_12_method_3_code 35 = .ok (.getfield 15, 3) := by decide +kernel
theorem dc10_put_38 : decode prog_12_method_3_code 38 = .ok (.dup_x1, 1) := by decide +kernel
theorem dc10_put_39 : decode prog_12_method_3_code 39 = .ok (.iconst 1, 1) := by decide +kernel
theorem dc10_put_40 : decode prog_12_method_3_code 40 = .ok (.iadd, 1) := by decide +kernel
theorem dc10_put_41 : decode prog_12_method_3_code 41 = .ok (.putfield 15, 3) := by decide +kernel
theorem dc10_put_44 : decode prog_12_method_3_code 44 = .ok (.iload_n 3, 1) := by decide +kernel
theorem dc10_put_45 : decode prog_12_method_3_code 45 = .ok (.i2b, 1) := by decide +kernel
theorem dc10_put_46 : decode prog_12_method_3_code 46 = .ok (.bastore, 1) := by decide +kernel
theorem dc10_put_47 : decode prog_12_method_3_code 47 = .ok (.iinc 2 (-8), 3) := by decide +kernel
theorem dc10_put_50 : decode prog_12_method_3_code 50 = .ok (.goto (-47), 3) := by decide +kernel
theorem dc10_put_53 : decode prog_12_method_3_code 53 = .ok (.return_, 1) := by decide +kernel
theorem dc6_read_0 : decode prog_8_method_2_code 0 = .ok (.aload_n 0, 1) := by decide +kernel
theorem dc6_read_1 : decode prog_8_method_2_code 1 = .ok (.getfield 25, 3) := by decide +kernel
theorem dc6_read_4 : decode prog_8_method_2_code 4 = .ok (.iconst 0, 1) := by decide +kernel
theorem dc6_read_5 : decode prog_8_method_2_code 5 = .ok (.putfield 29, 3) := by decide +kernel
theorem dc6_read_8 : decode prog_8_method_2_code 8 = .ok (.aload_n 0, 1) := by decide +kernel
theorem dc6_read_9 : decode prog_8_method_2_code 9 = .ok (.iconst 0, 1) := by decide +kernel
theorem dc6_read_10 : decode prog_8_method_2_code 10 = .ok (.putfield 35, 3) := by decide +kernel
theorem dc6_read_13 : decode prog_8_method_2_code 13 = .ok (.aload_n 0, 1) := by decide +kernel
theorem dc6_read_14 : decode prog_8_method_2_code 14 = .ok (.getfield 21, 3) := by decide +kernel
theorem dc6_read_17 : decode prog_8_method_2_code 17 = .ok (.iconst 0, 1) := by decide +kernel
theorem dc6_read_18 : decode prog_8_method_2_code 18 = .ok (.putfield 39, 3) := by decide +kernel
theorem dc6_read_21 : decode prog_8_method_2_code 21 = .ok (.aload_n 0, 1) := by decide +kernel
theorem dc6_read_22 : decode prog_8_method_2_code 22 = .ok (.getfield 21, 3) := by decide +kernel
theorem dc6_read_25 : decode prog_8_method_2_code 25 = .ok (.iconst 0, 1) := by decide +kernel
theorem dc6_read_26 : decode prog_8_method_2_code 26 = .ok (.putfield 42, 3) := by decide +kernel
theorem dc6_read_29 : decode prog_8_method_2_code 29 = .ok (.aload_n 0, 1) := by decide +kernel
theorem dc6_read_30 : decode prog_8_method_2_code 30 = .ok (.getstatic 45, 3) := by decide +kernel
theorem dc6_read_33 : decode prog_8_method_2_code 33 = .ok (.invokevirtual 48, 3) := by decide +kernel
theorem dc6_read_36 : decode prog_8_method_2_code 36 = .ok (.aload_n 0, 1) := by decide +kernel
theorem dc6_read_37 : decode prog_8_method_2_code 37 = .ok (.invokevirtual 52, 3) := by decide +kernel
theorem dc6_read_40 : decode prog_8_method_2_code 40 = .ok (.iconst 0, 1) := by decide +kernel
theorem dc6_read_41 : decode prog_8_method_2_code 41 = .ok (.istore_n 1, 1) := by decide +kernel
theorem dc6_read_42 : decode prog_8_method_2_code 42 = .ok (.iload_n 1, 1) := by decide +kernel
theorem dc6_read_43 : decode prog_8_method_2_code 43 = .ok (.sipush 240, 3) := by decide +kernel
theorem dc6_read_46 : decode prog_8_method_2_code 46 = .ok (.if_icmp .gt 59, 3) := by decide +kernel
theorem dc6_read_49 : decode prog_8_method_2_code 49 = .ok (.aload_n 0, 1) := by decide +kernel
theorem dc6_read_50 : decode prog_8_method_2_code 50 = .ok (.invokevirtual 55, 3) := by decide +kernel
theorem dc6_read_53 : decode prog_8_method_2_code 53 = .ok (.ifCond .ne 5, 3) := by decide +kernel
theorem dc6_read_56 : decode prog_8_method_2_code 56 = .ok (.iconst 0, 1) := by decide +kernel
theorem dc6_read_57 : decode prog_8_method_2_code 57 = .ok (.ireturn, 1) := by decide +kernel
theorem dc6_read_58 : decode prog_8_method_2_code 58 = .ok (.aload_n 0, 1) := by decide +kernel
theorem dc6_read_59 : decode prog_8_method_2_code 59 = .ok (.getfield 25, 3) := by decide +kernel
theorem dc6_read_62 : decode prog_8_method_2_code 62 = .ok (.invokevirtual 59, 3) := by decide +kernel
theorem dc6_read_65 : decode prog_8_method_2_code 65 = .ok (.ifCond .ne 20, 3) := by decide +kernel
theorem dc6_read_68 : decode prog_8_method_2_code 68 = .ok (.aload_n 0, 1) := by decide +kernel
theorem dc6_read_69 : decode prog_8_method_2_code 69 = .ok (.getfield 21, 3) := by decide +kernel
theorem dc6_read_72 : decode prog_8_method_2_code 72 = .ok (.getfield 39, 3) := by decide +kernel
theorem dc6_read_75 : decode prog_8_method_2_code 75 = .ok (.iconst 2, 1) := by decide +kernel
theorem dc6_read_76 : decode prog_8_method_2_code 76 = .ok (.if_icmp .lt 7, 3) := by decide +kernel
theorem dc6_read_79 : decode prog_8_method_2_code 79 = .ok (.iconst 1, 1) := by decide +kernel
theorem dc6_read_80 : decode prog_8_method_2_code 80 = .ok (.goto 4, 3) := by decide +kernel
theorem dc6_read_83 : decode prog_8_method_2_code 83 = .ok (.iconst 0, 1) := by decide +kernel
theorem dc6_read_84 : decode prog_8_method_2_code 84 = .ok (.ireturn, 1) := by decide +kernel
theorem dc6_read_85 : decode prog_8_method_2_code 85 = .ok (.aload_n 0, 1) := by decide +kernel
theorem dc6_read_86 : decode prog_8_method_2_code 86 = .ok (.getfield 25, 3) := by decide +kernel
theorem dc6_read_89 : decode prog_8_method_2_code 89 = .ok (.bipush 59, 2) := by decide +kernel
theorem dc6_read_91 : decode prog_8_method_2_code 91 = .ok (.invokevirtual 63, 3) := by decide +kernel
theorem dc6_read_94 : decode prog_8_method_2_code 94 = .ok (.ifCond .ne 5, 3) := by decide +kernel
theorem dc6_read_97 : decode prog_8_method_2_code 97 = .ok (.iconst 0, 1) := by decide +kernel
theorem dc6_read_98 : decode prog_8_method_2_code 98 = .ok (.ireturn, 1) := by decide +kernel
theorem dc6_read_99 : decode prog_8_method_2_code 99 = .ok (.iinc 1 1, 3) := by decide +kernel
theorem dc6_read_102 : decode prog_8_method_2_code 102 = .ok (.goto (-60), 3) := by decide +kernel
theorem dc6_read_105 : decode prog_8_method_2_code 105 = .ok (.iconst 0, 1) := by decide +kernel
theorem dc6_read_106 : decode prog_8_method_2_code 106 = .ok (.ireturn, 1) := by decide +kernel
theorem dc6_setWithout_0 : decode prog_8_method_4_code 0 = .ok (.aload_n 1, 1) := by decide +kernel
theorem dc6_setWithout_1 : decode prog_8_method_4_code 1 = .ok (.iconst 0, 1) := by decide +kernel
theorem dc6_setWithout_2 : decode prog_8_method_4_code 2 = .ok (.aload_n 0, 1) := by decide +kernel
theorem dc6_setWithout_3 : decode prog_8_method_4_code 3 = .ok (.getfield 15, 3) := by decide +kernel
theorem dc6_setWithout_6 : decode prog_8_method_4_code 6 = .ok (.iconst 0, 1) := by decide +kernel
theorem dc6_setWithout_7 : decode prog_8_method_4_code 7 = .ok (.aload_n 1, 1) := by decide +kernel
theorem dc6_setWithout_8 : decode prog_8_method_4_code 8 = .ok (.arraylength, 1) := by decide +kernel
theorem dc6_setWithout_9 : decode prog_8_method_4_code 9 = .ok (.aload_n 0, 1) := by decide +kernel
theorem dc6_setWithout_10 : decode prog_8_method_4_code 10 = .ok (.getfield 15, 3) := by decide +kernel
theorem dc6_setWithout_13 : decode prog_8_method_4_code 13 = .ok (.arraylength, 1) := by decide +kernel
theorem dc6_setWithout_14 : decode prog_8_method_4_code 14 = .ok (.invokestatic 90, 3) := by decide +kernel
theorem dc6_setWithout_17 : decode prog_8_method_4_code 17 = .ok (.invokestatic 96, 3) := by decide +kernel
theorem dc6_setWithout_20 : decode prog_8_method_4_code 20 = .ok (.return_, 1) := by decide +kernel
theorem dc6_takeRules_0 : decode prog_8_method_5_code 0 = .ok (.aload_n 0, 1) := by decide +kernel
theorem dc6_takeRules_1 : decode prog_8_method_5_code 1 = .ok (.getfield 21, 3) := by decide +kernel
theorem dc6_takeRules_4 : decode prog_8_method_5_code 4 = .ok (.aload_n 0, 1) := by decide +kernel
theorem dc6_takeRules_5 : decode prog_8_method_5_code 5 = .ok (.getfield 15, 3) := by decide +kernel
theorem dc6_takeRules_8 : decode prog_8_method_5_code 8 = .ok (.iconst 0, 1) := by decide +kernel
theorem dc6_takeRules_9 : decode prog_8_method_5_code 9 = .ok (.iaload, 1) := by decide +kernel
theorem dc6_takeRules_10 : decode prog_8_method_5_code 10 = .ok (.putfield 102, 3) := by decide +kernel
theorem dc6_takeRules_13 : decode prog_8_method_5_code 13 = .ok (.aload_n 0, 1) := by decide +kernel
theorem dc6_takeRules_14 : decode prog_8_method_5_code 14 = .ok (.getfield 21, 3) := by decide +kernel
theorem dc6_takeRules_17 : decode prog_8_method_5_code 17 = .ok (.aload_n 0, 1) := by decide +kernel
theorem dc6_takeRules_18 : decode prog_8_method_5_code 18 = .ok (.getfield 15, 3) := by decide +kernel
theorem dc6_takeRules_21 : decode prog_8_method_5_code 21 = .ok (.iconst 1, 1) := by decide +kernel
theorem dc6_takeRules_22 : decode prog_8_method_5_code 22 = .ok (.iaload, 1) := by decide +kernel
theorem dc6_takeRules_23 : decode prog_8_method_5_code 23 = .ok (.putfield 105, 3) := by decide +kernel
theorem dc6_takeRules_26 : decode prog_8_method_5_code 26 = .ok (.aload_n 0, 1) := by decide +kernel
theorem dc6_takeRules_27 : decode prog_8_method_5_code 27 = .ok (.getfield 21, 3) := by decide +kernel
theorem dc6_takeRules_30 : decode prog_8_method_5_code 30 = .ok (.aload_n 0, 1) := by decide +kernel
theorem dc6_takeRules_31 : decode prog_8_method_5_code 31 = .ok (.getfield 15, 3) := by decide +kernel
theorem dc6_takeRules_34 : decode prog_8_method_5_code 34 = .ok (.iconst 2, 1) := by decide +kernel
theorem dc6_takeRules_35 : decode prog_8_method_5_code 35 = .ok (.iaload, 1) := by decide +kernel
theorem dc6_takeRules_36 : decode prog_8_method_5_code 36 = .ok (.putfield 108, 3) := by decide +kernel
theorem dc6_takeRules_39 : decode prog_8_method_5_code 39 = .ok (.return_, 1) := by decide +kernel
theorem dc6_readClause_0 : decode prog_8_method_3_code 0 = .ok (.aload_n 0, 1) := by decide +kernel
theorem dc6_readClause_1 : decode prog_8_method_3_code 1 = .ok (.getfield 25, 3) := by decide +kernel
theorem dc6_readClause_4 : decode prog_8_method_3_code 4 = .ok (.invokevirtual 59, 3) := by decide +kernel
theorem dc6_readClause_7 : decode prog_8_method_3_code 7 = .ok (.istore_n 1, 1) := by decide +kernel
theorem dc6_readClause_8 : decode prog_8_method_3_code 8 = .ok (.iload_n 1, 1) := by decide +kernel
theorem dc6_readClause_9 : decode prog_8_method_3_code 9 = .ok (.bipush 115, 2) := by decide +kernel
theorem dc6_readClause_11 : decode prog_8_method_3_code 11 = .ok (.if_icmp .ne 54, 3) := by decide +kernel
theorem dc6_readClause_14 : decode prog_8_method_3_code 14 = .ok (.aload_n 0, 1) := by decide +kernel
theorem dc6_readClause_15 : decode prog_8_method_3_code 15 = .ok (.getfield 35, 3) := by decide +kernel
theorem dc6_readClause_18 : decode prog_8_method_3_code 18 = .ok (.ifCond .ne 47, 3) := by decide +kernel
theorem dc6_readClause_21 : decode prog_8_method_3_code 21 = .ok (.aload_n 0, 1) := by decide +kernel
theorem dc6_readClause_22 : decode prog_8_method_3_code 22 = .ok (.getfield 25, 3) := by decide +kernel
theorem dc6_readClause_25 : decode prog_8_method_3_code 25 = .ok (.dup, 1) := by decide +kernel
theorem dc6_readClause_26 : decode prog_8_method_3_code 26 = .ok (.getfield 29, 3) := by decide +kernel
theorem dc6_readClause_29 : decode prog_8_method_3_code 29 = .ok (.iconst 1, 1) := by decide +kernel
theorem dc6_readClause_30 : decode prog_8_method_3_code 30 = .ok (.iadd, 1) := by decide +kernel
theorem dc6_readClause_31 : decode prog_8_method_3_code 31 = .ok (.putfield 29, 3) := by decide +kernel
theorem dc6_readClause_34 : decode prog_8_method_3_code 34 = .ok (.aload_n 0, 1) := by decide +kernel
theorem dc6_readClause_35 : decode prog_8_method_3_code 35 = .ok (.iconst 1, 1) := by decide +kernel
theorem dc6_readClause_36 : decode prog_8_method_3_code 36 = .ok (.putfield 35, 3) := by decide +kernel
theorem dc6_readClause_39 : decode prog_8_method_3_code 39 = .ok (.aload_n 0, 1) := by decide +kernel
theorem dc6_readClause_40 : decode prog_8_method_3_code 40 = .ok (.getstatic 45, 3) := by decide +kernel
theorem dc6_readClause_43 : decode prog_8_method_3_code 43 = .ok (.invokevirtual 48, 3) := by decide +kernel
theorem dc6_readClause_46 : decode prog_8_method_3_code 46 = .ok (.aload_n 0, 1) := by decide +kernel
theorem dc6_readClause_47 : decode prog_8_method_3_code 47 = .ok (.ldc 67, 2) := by decide +kernel
theorem dc6_readClause_49 : decode prog_8_method_3_code 49 = .ok (.getstatic 69, 3) := by decide +kernel
theorem dc6_readClause_52 : decode prog_8_method_3_code 52 = .ok (.getstatic 72, 3) := by decide +kernel
theorem dc6_readClause_55 : decode prog_8_method_3_code 55 = .ok (.invokevirtual 75, 3) := by decide +kernel
theorem dc6_readClause_58 : decode prog_8_method_3_code 58 = .ok (.istore_n 2, 1) := by decide +kernel
theorem dc6_readClause_59 : decode prog_8_method_3_code 59 = .ok (.aload_n 0, 1) := by decide +kernel
theorem dc6_readClause_60 : decode prog_8_method_3_code 60 = .ok (.invokevirtual 52, 3) := by decide +kernel
theorem dc6_readClause_63 : decode prog_8_method_3_code 63 = .ok (.iload_n 2, 1) := by decide +kernel
theorem dc6_readClause_64 : decode prog_8_method_3_code 64 = .ok (.ireturn, 1) := by decide +kernel
theorem dc6_readClause_65 : decode prog_8_method_3_code 65 = .ok (.iload_n 1, 1) := by decide +kernel
theorem dc6_readClause_66 : decode prog_8_method_3_code 66 = .ok (.bipush 102, 2) := by decide +kernel
theorem dc6_readClause_68 : decode prog_8_method_3_code 68 = .ok (.if_icmp .ne 54, 3) := by decide +kernel
theorem dc6_readClause_71 : decode prog_8_method_3_code 71 = .ok (.aload_n 0, 1) := by decide +kernel
theorem dc6_readClause_72 : decode prog_8_method_3_code 72 = .ok (.getfield 21, 3) := by decide +kernel
theorem dc6_readClause_75 : decode prog_8_method_3_code 75 = .ok (.getfield 39, 3) := by decide +kernel
theorem dc6_readClause_78 : decode prog_8_method_3_code 78 = .ok (.bipush 6, 2) := by decide +kernel
theorem dc6_readClause_80 : decode prog_8_method_3_code 80 = .ok (.if_icmp .ge 42, 3) := by decide +kernel
theorem dc6_readClause_83 : decode prog_8_method_3_code 83 = .ok (.aload_n 0, 1) := by decide +kernel
theorem dc6_readClause_84 : decode prog_8_method_3_code 84 = .ok (.getfield 25, 3) := by decide +kernel
theorem dc6_readClause_87 : decode prog_8_method_3_code 87 = .ok (.dup, 1) := by decide +kernel
theorem dc6_readClause_88 : decode prog_8_method_3_code 88 = .ok (.getfield 29, 3) := by decide +kernel
theorem dc6_readClause_91 : decode prog_8_method_3_code 91 = .ok (.iconst 1, 1) := by decide +kernel
theorem dc6_readClause_92 : decode prog_8_method_3_code 92 = .ok (.iadd, 1) := by decide +kernel
theorem dc6_readClause_93 : decode prog_8_method_3_code 93 = .ok (.putfield 29, 3) := by decide +kernel
theorem dc6_readClause_96 : decode prog_8_method_3_code 96 = .ok (.aload_n 0, 1) := by decide +kernel
theorem dc6_readClause_97 : decode prog_8_method_3_code 97 = .ok (.getstatic 9, 3) := by decide +kernel
theorem dc6_readClause_100 : decode prog_8_method_3_code 100 = .ok (.invokevirtual 48, 3) := by decide +kernel
theorem dc6_readClause_103 : decode prog_8_method_3_code 103 = .ok (.aload_n 0, 1) := by decide +kernel
theorem dc6_readClause_104 : decode prog_8_method_3_code 104 = .ok (.ldc 79, 2) := by decide +kernel
theorem dc6_readClause_106 : decode prog_8_method_3_code 106 = .ok (.getstatic 81, 3) := by decide +kernel
theorem dc6_readClause_109 : decode prog_8_method_3_code 109 = .ok (.getstatic 84, 3) := by decide +kernel
theorem dc6_readClause_112 : decode prog_8_method_3_code 112 = .ok (.invokevirtual 75, 3) := by decide +kernel
theorem dc6_readClause_115 : decode prog_8_method_3_code 115 = .ok (.istore_n 2, 1) := by decide +kernel
theorem dc6_readClause_116 : decode prog_8_method_3_code 116 = .ok (.aload_n 0, 1) := by decide +kernel
theorem dc6_readClause_117 : decode prog_8_method_3_code 117 = .ok (.invokevirtual 87, 3) := by decide +kernel
theorem dc6_readClause_120 : decode prog_8_method_3_code 120 = .ok (.iload_n 2, 1) := by decide +kernel
theorem dc6_readClause_121 : decode prog_8_method_3_code 121 = .ok (.ireturn, 1) := by decide +kernel
theorem dc6_readClause_122 : decode prog_8_method_3_code 122 = .ok (.iconst 0, 1) := by decide +kernel
theorem dc6_readClause_123 : decode prog_8_method_3_code 123 = .ok (.ireturn, 1) := by decide +kernel
theorem dc10_next_0 : decode prog_12_method_5_code 0 = .ok (.aload_n 0, 1) := by decide +kernel
theorem dc10_next_1 : decode prog_12_method_5_code 1 = .ok (.getfield 19, 3) := by decide +kernel
theorem dc10_next_4 : decode prog_12_method_5_code 4 = .ok (.aload_n 0, 1) := by decide +kernel
theorem dc10_next_5 : decode prog_12_method_5_code 5 = .ok (.getfield 15, 3) := by decide +kernel
theorem dc10_next_8 : decode prog_12_method_5_code 8 = .ok (.if_icmp .ge 30, 3) := by decide +kernel
theorem dc10_next_11 : decode prog_12_method_5_code 11 = .ok (.aload_n 0, 1) := by decide +kernel
theorem dc10_next_12 : decode prog_12_method_5_code 12 = .ok (.getfield 9, 3) := by decide +kernel
theorem dc10_next_15 : decode prog_12_method_5_code 15 = .ok (.aload_n 0, 1) := by decide +kernel
theorem dc10_next_16 : decode prog_12_method_5_code 16 = .ok (.getfield 19, 3) := by decide +kernel
theorem dc10_next_19 : decode prog_12_method_5_code 19 = .ok (.baload, 1) := by decide +kernel
theorem dc10_next_20 : decode prog_12_method_5_code 20 = .ok (.bipush 32, 2) := by decide +kernel
theorem dc10_next_22 : decode prog_12_method_5_code 22 = .ok (.if_icmp .ne 16, 3) := by decide +kernel
theorem dc10_next_25 : decode prog_12_method_5_code 25 = .ok (.aload_n 0, 1) := by decide +kernel
theorem dc10_next_26 : decode prog_12_method_5_code 26 = .ok (.dup, 1) := by decide +kernel
theorem dc10_next_27 : decode prog_12_method_5_code 27 = .ok (.getfield 19, 3) := by decide +kernel
theorem dc10_next_30 : decode prog_12_method_5_code 30 = .ok (.iconst 1, 1) := by decide +kernel
theorem dc10_next_31 : decode prog_12_method_5_code 31 = .ok (.iadd, 1) := by decide +kernel
theorem dc10_next_32 : decode prog_12_method_5_code 32 = .ok (.putfield 19, 3) := by decide +kernel
theorem dc10_next_35 : decode prog_12_method_5_code 35 = .ok (.goto (-35), 3) := by decide +kernel
theorem dc10_next_38 : decode prog_12_method_5_code 38 = .ok (.aload_n 0, 1) := by decide +kernel
theorem dc10_next_39 : decode prog_12_method_5_code 39 = .ok (.getfield 19, 3) := by decide +kernel
theorem dc10_next_42 : decode prog_12_method_5_code 42 = .ok (.aload_n 0, 1) := by decide +kernel
theorem dc10_next_43 : decode prog_12_method_5_code 43 = .ok (.getfield 15, 3) := by decide +kernel
theorem dc10_next_46 : decode prog_12_method_5_code 46 = .ok (.if_icmp .ge 19, 3) := by decide +kernel
theorem dc10_next_49 : decode prog_12_method_5_code 49 = .ok (.aload_n 0, 1) := by decide +kernel
theorem dc10_next_50 : decode prog_12_method_5_code 50 = .ok (.getfield 9, 3) := by decide +kernel
theorem dc10_next_53 : decode prog_12_method_5_code 53 = .ok (.aload_n 0, 1) := by decide +kernel
theorem dc10_next_54 : decode prog_12_method_5_code 54 = .ok (.getfield 19, 3) := by decide +kernel
theorem dc10_next_57 : decode prog_12_method_5_code 57 = .ok (.baload, 1) := by decide +kernel
theorem dc10_next_58 : decode prog_12_method_5_code 58 = .ok (.sipush 255, 3) := by decide +kernel
theorem dc10_next_61 : decode prog_12_method_5_code 61 = .ok (.iand, 1) := by decide +kernel
theorem dc10_next_62 : decode prog_12_method_5_code 62 = .ok (.goto 4, 3) := by decide +kernel
theorem dc10_next_65 : decode prog_12_method_5_code 65 = .ok (.iconst 0, 1) := by decide +kernel
theorem dc10_next_66 : decode prog_12_method_5_code 66 = .ok (.ireturn, 1) := by decide +kernel
theorem dc6_readItems_0 : decode prog_8_method_7_code 0 = .ok (.iconst 0, 1) := by decide +kernel
theorem dc6_readItems_1 : decode prog_8_method_7_code 1 = .ok (.istore 4, 2) := by decide +kernel
theorem dc6_readItems_3 : decode prog_8_method_7_code 3 = .ok (.iconst 0, 1) := by decide +kernel
theorem dc6_readItems_4 : decode prog_8_method_7_code 4 = .ok (.istore 5, 2) := by decide +kernel
theorem dc6_readItems_6 : decode prog_8_method_7_code 6 = .ok (.iload 5, 2) := by decide +kernel
theorem dc6_readItems_8 : decode prog_8_method_7_code 8 = .ok (.aload_n 1, 1) := by decide +kernel
theorem dc6_readItems_9 : decode prog_8_method_7_code 9 = .ok (.invokevirtual 126, 3) := by decide +kernel
theorem dc6_readItems_12 : decode prog_8_method_7_code 12 = .ok (.if_icmp .gt 154, 3) := by decide +kernel
theorem dc6_readItems_15 : decode prog_8_method_7_code 15 = .ok (.aload_n 0, 1) := by decide +kernel
theorem dc6_readItems_16 : decode prog_8_method_7_code 16 = .ok (.getfield 25, 3) := by decide +kernel
theorem dc6_readItems_19 : decode prog_8_method_7_code 19 = .ok (.invokevirtual 59, 3) := by decide +kernel
theorem dc6_readItems_22 : decode prog_8_method_7_code 22 = .ok (.istore 6, 2) := by decide +kernel
theorem dc6_readItems_24 : decode prog_8_method_7_code 24 = .ok (.aload_n 1, 1) := by decide +kernel
theorem dc6_readItems_25 : decode prog_8_method_7_code 25 = .ok (.iload 6, 2) := by decide +kernel
theorem dc6_readItems_27 : decode prog_8_method_7_code 27 = .ok (.i2c, 1) := by decide +kernel
theorem dc6_readItems_28 : decode prog_8_method_7_code 28 = .ok (.invokevirtual 131, 3) := by decide +kernel
theorem dc6_readItems_31 : decode prog_8_method_7_code 31 = .ok (.istore 7, 2) := by decide +kernel
theorem dc6_readItems_33 : decode prog_8_method_7_code 33 = .ok (.iload 7, 2) := by decide +kernel
theorem dc6_readItems_35 : decode prog_8_method_7_code 35 = .ok (.ifCond .lt 14, 3) := by decide +kernel
theorem dc6_readItems_38 : decode prog_8_method_7_code 38 = .ok (.iload 4, 2) := by decide +kernel
theorem dc6_readItems_40 : decode prog_8_method_7_code 40 = .ok (.iload 7, 2) := by decide +kernel
theorem dc6_readItems_42 : decode prog_8_method_7_code 42 = .ok (.ishr, 1) := by decide +kernel
theorem dc6_readItems_43 : decode prog_8_method_7_code 43 = .ok (.iconst 1, 1) := by decide +kernel
theorem dc6_readItems_44 : decode prog_8_method_7_code 44 = .ok (.iand, 1) := by decide +kernel
theorem dc6_readItems_45 : decode prog_8_method_7_code 45 = .ok (.iconst 1, 1) := by decide +kernel
theorem dc6_readItems_46 : decode prog_8_method_7_code 46 = .ok (.if_icmp .ne 21, 3) := by decide +kernel
theorem dc6_readItems_49 : decode prog_8_method_7_code 49 = .ok (.iload 6, 2) := by decide +kernel
theorem dc6_readItems_51 : decode prog_8_method_7_code 51 = .ok (.bipush 59, 2) := by decide +kernel
theorem dc6_readItems_53 : decode prog_8_method_7_code 53 = .ok (.if_icmp .eq 8, 3) := by decide +kernel
theorem dc6_readItems_56 : decode prog_8_method_7_code 56 = .ok (.iload 6, 2) := by decide +kernel
theorem dc6_readItems_58 : decode prog_8_method_7_code 58 = .ok (.ifCond .ne 7, 3) := by decide +kernel
theorem dc6_readItems_61 : decode prog_8_method_7_code 61 = .ok (.iconst 1, 1) := by decide +kernel
theorem dc6_readItems_62 : decode prog_8_method_7_code 62 = .ok (.goto 4, 3) := by decide +kernel
theorem dc6_readItems_65 : decode prog_8_method_7_code 65 = .ok (.iconst 0, 1) := by decide +kernel
theorem dc6_readItems_66 : decode prog_8_method_7_code 66 = .ok (.ireturn, 1) := by decide +kernel
theorem dc6_readItems_67 : decode prog_8_method_7_code 67 = .ok (.iload 4, 2) := by decide +kernel
theorem dc6_readItems_69 : decode prog_8_method_7_code 69 = .ok (.iconst 1, 1) := by decide +kernel
theorem dc6_readItems_70 : decode prog_8_method_7_code 70 = .ok (.iload 7, 2) := by decide +kernel
theorem dc6_readItems_72 : decode prog_8_method_7_code 72 = .ok (.ishl, 1) := by decide +kernel
theorem dc6_readItems_73 : decode prog_8_method_7_code 73 = .ok (.ior, 1) := by decide +kernel
theorem dc6_readItems_74 : decode prog_8_method_7_code 74 = .ok (.istore 4, 2) := by decide +kernel
theorem dc6_readItems_76 : decode prog_8_method_7_code 76 = .ok (.aload_n 0, 1) := by decide +kernel
theorem dc6_readItems_77 : decode prog_8_method_7_code 77 = .ok (.getfield 25, 3) := by decide +kernel
theorem dc6_readItems_80 : decode prog_8_method_7_code 80 = .ok (.dup, 1) := by decide +kernel
theorem dc6_readItems_81 : decode prog_8_method_7_code 81 = .ok (.getfield 29, 3) := by decide +kernel
theorem dc6_readItems_84 : decode prog_8_method_7_code 84 = .ok (.iconst 1, 1) := by decide +kernel
theorem dc6_readItems_85 : decode prog_8_method_7_code 85 = .ok (.iadd, 1) := by decide +kernel
theorem dc6_readItems_86 : decode prog_8_method_7_code 86 = .ok (.putfield 29, 3) := by decide +kernel
theorem dc6_readItems_89 : decode prog_8_method_7_code 89 = .ok (.aload_n 0, 1) := by decide +kernel
theorem dc6_readItems_90 : decode prog_8_method_7_code 90 = .ok (.getfield 15, 3) := by decide +kernel
theorem dc6_readItems_93 : decode prog_8_method_7_code 93 = .ok (.iload 7, 2) := by decide +kernel
theorem dc6_readItems_95 : decode prog_8_method_7_code 95 = .ok (.aload_n 0, 1) := by decide +kernel
theorem dc6_readItems_96 : decode prog_8_method_7_code 96 = .ok (.getfield 25, 3) := by decide +kernel
theorem dc6_readItems_99 : decode prog_8_method_7_code 99 = .ok (.iconst 2, 1) := by decide +kernel
theorem dc6_readItems_100 : decode prog_8_method_7_code 100 = .ok (.invokevirtual 135, 3) := by decide +kernel
theorem dc6_readItems_103 : decode prog_8_method_7_code 103 = .ok (.iastore, 1) := by decide +kernel
theorem dc6_readItems_104 : decode prog_8_method_7_code 104 = .ok (.aload_n 0, 1) := by decide +kernel
theorem dc6_readItems_105 : decode prog_8_method_7_code 105 = .ok (.getfield 15, 3) := by decide +kernel
theorem dc6_readItems_108 : decode prog_8_method_7_code 108 = .ok (.iload 7, 2) := by decide +kernel
theorem dc6_readItems_110 : decode prog_8_method_7_code 110 = .ok (.iaload, 1) := by decide +kernel
theorem dc6_readItems_111 : decode prog_8_method_7_code 111 = .ok (.iconst (-1), 1) := by decide +kernel
theorem dc6_readItems_112 : decode prog_8_method_7_code 112 = .ok (.if_icmp .ne 5, 3) := by decide +kernel
theorem dc6_readItems_115 : decode prog_8_method_7_code 115 = .ok (.iconst 0, 1) := by decide +kernel
theorem dc6_readItems_116 : decode prog_8_method_7_code 116 = .ok (.ireturn, 1) := by decide +kernel
theorem dc6_readItems_117 : decode prog_8_method_7_code 117 = .ok (.aload_n 0, 1) := by decide +kernel
theorem dc6_readItems_118 : decode prog_8_method_7_code 118 = .ok (.getfield 15, 3) := by decide +kernel
theorem dc6_readItems_121 : decode prog_8_method_7_code 121 = .ok (.iload 7, 2) := by decide +kernel
theorem dc6_readItems_123 : decode prog_8_method_7_code 123 = .ok (.iaload, 1) := by decide +kernel
theorem dc6_readItems_124 : decode prog_8_method_7_code 124 = .ok (.aload_n 2, 1) := by decide +kernel
theorem dc6_readItems_125 : decode prog_8_method_7_code 125 = .ok (.iload 7, 2) := by decide +kernel
theorem dc6_readItems_127 : decode prog_8_method_7_code 127 = .ok (.iaload, 1) := by decide +kernel
theorem dc6_readItems_128 : decode prog_8_method_7_code 128 = .ok (.if_icmp .lt 17, 3) := by decide +kernel
theorem dc6_readItems_131 : decode prog_8_method_7_code 131 = .ok (.aload_n 0, 1) := by decide +kernel
theorem dc6_readItems_132 : decode prog_8_method_7_code 132 = .ok (.getfield 15, 3) := by decide +kernel
theorem dc6_readItems_135 : decode prog_8_method_7_code 135 = .ok (.iload 7, 2) := by decide +kernel
theorem dc6_readItems_137 : decode prog_8_method_7_code 137 = .ok (.iaload, 1) := by decide +kernel
theorem dc6_readItems_138 : decode prog_8_method_7_code 138 = .ok (.aload_n 3, 1) := by decide +kernel
theorem dc6_readItems_139 : decode prog_8_method_7_code 139 = .ok (.iload 7, 2) := by decide +kernel
theorem dc6_readItems_141 : decode prog_8_method_7_code 141 = .ok (.iaload, 1) := by decide +kernel
theorem dc6_readItems_142 : decode prog_8_method_7_code 142 = .ok (.if_icmp .le 18, 3) := by decide +kernel
theorem dc6_readItems_145 : decode prog_8_method_7_code 145 = .ok (.aload_n 0, 1) := by decide +kernel
theorem dc6_readItems_146 : decode prog_8_method_7_code 146 = .ok (.getfield 25, 3) := by decide +kernel
theorem dc6_readItems_149 : decode prog_8_method_7_code 149 = .ok (.dup, 1) := by decide +kernel
theorem dc6_readItems_150 : decode prog_8_method_7_code 150 = .ok (.getfield 29, 3) := by decide +kernel
theorem dc6_readItems_153 : decode prog_8_method_7_code 153 = .ok (.iconst 1, 1) := by decide +kernel
theorem dc6_readItems_154 : decode prog_8_method_7_code 154 = .ok (.isub, 1) := by decide +kernel
theorem dc6_readItems_155 : decode prog_8_method_7_code 155 = .ok (.putfield 29, 3) := by decide +kernel
theorem dc6_readItems_158 : decode prog_8_method_7_code 158 = .ok (.iconst 0, 1) := by decide +kernel
theorem dc6_readItems_159 : decode prog_8_method_7_code 159 = .ok (.ireturn, 1) := by decide +kernel
theorem dc6_readItems_160 : decode prog_8_method_7_code 160 = .ok (.iinc 5 1, 3) := by decide +kernel
theorem dc6_readItems_163 : decode prog_8_method_7_code 163 = .ok (.goto (-157), 3) := by decide +kernel
theorem dc6_readItems_166 : decode prog_8_method_7_code 166 = .ok (.iconst 0, 1) := by decide +kernel
theorem dc6_readItems_167 : decode prog_8_method_7_code 167 = .ok (.ireturn, 1) := by decide +kernel
theorem dc10_number_0 : decode prog_12_method_8_code 0 = .ok (.aload_n 0, 1) := by decide +kernel
theorem dc10_number_1 : decode prog_12_method_8_code 1 = .ok (.invokevirtual 22, 3) := by decide +kernel
theorem dc10_number_4 : decode prog_12_method_8_code 4 = .ok (.invokestatic 26, 3) := by decide +kernel
theorem dc10_number_7 : decode prog_12_method_8_code 7 = .ok (.ifCond .ne 5, 3) := by decide +kernel
theorem dc10_number_10 : decode prog_12_method_8_code 10 = .ok (.iconst (-1), 1) := by decide +kernel
theorem dc10_number_11 : decode prog_12_method_8_code 11 = .ok (.ireturn, 1) := by decide +kernel
theorem dc10_number_12 : decode prog_12_method_8_code 12 = .ok (.iconst 0, 1) := by decide +kernel
theorem dc10_number_13 : decode prog_12_method_8_code 13 = .ok (.istore_n 2, 1) := by decide +kernel
theorem dc10_number_14 : decode prog_12_method_8_code 14 = .ok (.iconst 0, 1) := by decide +kernel
theorem dc10_number_15 : decode prog_12_method_8_code 15 = .ok (.istore_n 3, 1) := by decide +kernel
theorem dc10_number_16 : decode prog_12_method_8_code 16 = .ok (.iload_n 3, 1) := by decide +kernel
theorem dc10_number_17 : decode prog_12_method_8_code 17 = .ok (.iload_n 1, 1) := by decide +kernel
theorem dc10_number_18 : decode prog_12_method_8_code 18 = .ok (.if_icmp .ge 50, 3) := by decide +kernel
theorem dc10_number_21 : decode prog_12_method_8_code 21 = .ok (.aload_n 0, 1) := by decide +kernel
theorem dc10_number_22 : decode prog_12_method_8_code 22 = .ok (.aload_n 0, 1) := by decide +kernel
theorem dc10_number_23 : decode prog_12_method_8_code 23 = .ok (.getfield 19, 3) := by decide +kernel
theorem dc10_number_26 : decode prog_12_method_8_code 26 = .ok (.invokevirtual 30, 3) := by decide +kernel
theorem dc10_number_29 : decode prog_12_method_8_code 29 = .ok (.invokestatic 26, 3) := by decide +kernel
theorem dc10_number_32 : decode prog_12_method_8_code 32 = .ok (.ifCond .eq 36, 3) := by decide +kernel
theorem dc10_number_35 : decode prog_12_method_8_code 35 = .ok (.bipush 10, 2) := by decide +kernel
theorem dc10_number_37 : decode prog_12_method_8_code 37 = .ok (.iload_n 2, 1) := by decide +kernel
theorem dc10_number_38 : decode prog_12_method_8_code 38 = .ok (.imul, 1) := by decide +kernel
theorem dc10_number_39 : decode prog_12_method_8_code 39 = .ok (.aload_n 0, 1) := by decide +kernel
theorem dc10_number_40 : decode prog_12_method_8_code 40 = .ok (.aload_n 0, 1) := by decide +kernel
theorem dc10_number_41 : decode prog_12_method_8_code 41 = .ok (.getfield 19, 3) := by decide +kernel
theorem dc10_number_44 : decode prog_12_method_8_code 44 = .ok (.invokevirtual 30, 3) := by decide +kernel
theorem dc10_number_47 : decode prog_12_method_8_code 47 = .ok (.iadd, 1) := by decide +kernel
theorem dc10_number_48 : decode prog_12_method_8_code 48 = .ok (.bipush 48, 2) := by decide +kernel
theorem dc10_number_50 : decode prog_12_method_8_code 50 = .ok (.isub, 1) := by decide +kernel
theorem dc10_number_51 : decode prog_12_method_8_code 51 = .ok (.istore_n 2, 1) := by decide +kernel
theorem dc10_number_52 : decode prog_12_method_8_code 52 = .ok (.aload_n 0, 1) := by decide +kernel
theorem dc10_number_53 : decode prog_12_method_8_code 53 = .ok (.dup, 1) := by decide +kernel
theorem dc10_number_54 : decode prog_12_method_8_code 54 = .ok (.getfield 19, 3) := by decide +kernel
theorem dc10_number_57 : decode prog_12_method_8_code 57 = .ok (.iconst 1, 1) := by decide +kernel
theorem dc10_number_58 : decode prog_12_method_8_code 58 = .ok (.iadd, 1) := by decide +kernel
theorem dc10_number_59 : decode prog_12_method_8_code 59 = .ok (.putfield 19, 3) := by decide +kernel
theorem dc10_number_62 : decode prog_12_method_8_code 62 = .ok (.iinc 3 1, 3) := by decide +kernel
theorem dc10_number_65 : decode prog_12_method_8_code 65 = .ok (.goto (-49), 3) := by decide +kernel
theorem dc10_number_68 : decode prog_12_method_8_code 68 = .ok (.aload_n 0, 1) := by decide +kernel
theorem dc10_number_69 : decode prog_12_method_8_code 69 = .ok (.aload_n 0, 1) := by decide +kernel
theorem dc10_number_70 : decode prog_12_method_8_code 70 = .ok (.getfield 19, 3) := by decide +kernel
theorem dc10_number_73 : decode prog_12_method_8_code 73 = .ok (.invokevirtual 30, 3) := by decide +kernel
theorem dc10_number_76 : decode prog_12_method_8_code 76 = .ok (.invokestatic 26, 3) := by decide +kernel
theorem dc10_number_79 : decode prog_12_method_8_code 79 = .ok (.ifCond .eq 7, 3) := by decide +kernel
theorem dc10_number_82 : decode prog_12_method_8_code 82 = .ok (.iconst (-1), 1) := by decide +kernel
theorem dc10_number_83 : decode prog_12_method_8_code 83 = .ok (.goto 4, 3) := by decide +kernel
theorem dc10_number_86 : decode prog_12_method_8_code 86 = .ok (.iload_n 2, 1) := by decide +kernel
theorem dc10_number_87 : decode prog_12_method_8_code 87 = .ok (.ireturn, 1) := by decide +kernel
theorem dc10_isDigit_0 : decode prog_12_method_7_code 0 = .ok (.iload_n 0, 1) := by decide +kernel
theorem dc10_isDigit_1 : decode prog_12_method_7_code 1 = .ok (.bipush 48, 2) := by decide +kernel
theorem dc10_isDigit_3 : decode prog_12_method_7_code 3 = .ok (.if_icmp .lt 13, 3) := by decide +kernel
theorem dc10_isDigit_6 : decode prog_12_method_7_code 6 = .ok (.iload_n 0, 1) := by decide +kernel
theorem dc10_isDigit_7 : decode prog_12_method_7_code 7 = .ok (.bipush 57, 2) := by decide +kernel
theorem dc10_isDigit_9 : decode prog_12_method_7_code 9 = .ok (.if_icmp .gt 7, 3) := by decide +kernel
theorem dc10_isDigit_12 : decode prog_12_method_7_code 12 = .ok (.iconst 1, 1) := by decide +kernel
theorem dc10_isDigit_13 : decode prog_12_method_7_code 13 = .ok (.goto 4, 3) := by decide +kernel
theorem dc10_isDigit_16 : decode prog_12_method_7_code 16 = .ok (.iconst 0, 1) := by decide +kernel
theorem dc10_isDigit_17 : decode prog_12_method_7_code 17 = .ok (.ireturn, 1) := by decide +kernel
theorem dc10_signAt_0 : decode prog_12_method_4_code 0 = .ok (.iload_n 1, 1) := by decide +kernel
theorem dc10_signAt_1 : decode prog_12_method_4_code 1 = .ok (.ifCond .lt 24, 3) := by decide +kernel
theorem dc10_signAt_4 : decode prog_12_method_4_code 4 = .ok (.iload_n 1, 1) := by decide +kernel
theorem dc10_signAt_5 : decode prog_12_method_4_code 5 = .ok (.aload_n 0, 1) := by decide +kernel
theorem dc10_signAt_6 : decode prog_12_method_4_code 6 = .ok (.getfield 15, 3) := by decide +kernel
theorem dc10_signAt_9 : decode prog_12_method_4_code 9 = .ok (.if_icmp .ge 16, 3) := by decide +kernel
theorem dc10_signAt_12 : decode prog_12_method_4_code 12 = .ok (.aload_n 0, 1) := by decide +kernel
theorem dc10_signAt_13 : decode prog_12_method_4_code 13 = .ok (.getfield 9, 3) := by decide +kernel
theorem dc10_signAt_16 : decode prog_12_method_4_code 16 = .ok (.iload_n 1, 1) := by decide +kernel
theorem dc10_signAt_17 : decode prog_12_method_4_code 17 = .ok (.baload, 1) := by decide +kernel
theorem dc10_signAt_18 : decode prog_12_method_4_code 18 = .ok (.sipush 255, 3) := by decide +kernel
theorem dc10_signAt_21 : decode prog_12_method_4_code 21 = .ok (.iand, 1) := by decide +kernel
theorem dc10_signAt_22 : decode prog_12_method_4_code 22 = .ok (.goto 4, 3) := by decide +kernel
theorem dc10_signAt_25 : decode prog_12_method_4_code 25 = .ok (.iconst 0, 1) := by decide +kernel
theorem dc10_signAt_26 : decode prog_12_method_4_code 26 = .ok (.ireturn, 1) := by decide +kernel
theorem dc6_takeField_0 : decode prog_8_method_6_code 0 = .ok (.aload_n 0, 1) := by decide +kernel
theorem dc6_takeField_1 : decode prog_8_method_6_code 1 = .ok (.getfield 21, 3) := by decide +kernel
theorem dc6_takeField_4 : decode prog_8_method_6_code 4 = .ok (.getfield 111, 3) := by decide +kernel
theorem dc6_takeField_7 : decode prog_8_method_6_code 7 = .ok (.aload_n 0, 1) := by decide +kernel
theorem dc6_takeField_8 : decode prog_8_method_6_code 8 = .ok (.getfield 21, 3) := by decide +kernel
theorem dc6_takeField_11 : decode prog_8_method_6_code 11 = .ok (.getfield 39, 3) := by decide +kernel
theorem dc6_takeField_14 : decode prog_8_method_6_code 14 = .ok (.aload_n 0, 1) := by decide +kernel
theorem dc6_takeField_15 : decode prog_8_method_6_code 15 = .ok (.getfield 15, 3) := by decide +kernel
theorem dc6_takeField_18 : decode prog_8_method_6_code 18 = .ok (.iconst 0, 1) := by decide +kernel
theorem dc6_takeField_19 : decode prog_8_method_6_code 19 = .ok (.iaload, 1) := by decide +kernel
theorem dc6_takeField_20 : decode prog_8_method_6_code 20 = .ok (.iastore, 1) := by decide +kernel
theorem dc6_takeField_21 : decode prog_8_method_6_code 21 = .ok (.aload_n 0, 1) := by decide +kernel
theorem dc6_takeField_22 : decode prog_8_method_6_code 22 = .ok (.getfield 21, 3) := by decide +kernel
theorem dc6_takeField_25 : decode prog_8_method_6_code 25 = .ok (.getfield 114, 3) := by decide +kernel
theorem dc6_takeField_28 : decode prog_8_method_6_code 28 = .ok (.aload_n 0, 1) := by decide +kernel
theorem dc6_takeField_29 : decode prog_8_method_6_code 29 = .ok (.getfield 21, 3) := by decide +kernel
theorem dc6_takeField_32 : decode prog_8_method_6_code 32 = .ok (.getfield 39, 3) := by decide +kernel
theorem dc6_takeField_35 : decode prog_8_method_6_code 35 = .ok (.aload_n 0, 1) := by decide +kernel
theorem dc6_takeField_36 : decode prog_8_method_6_code 36 = .ok (.getfield 15, 3) := by decide +kernel
theorem dc6_takeField_39 : decode prog_8_method_6_code 39 = .ok (.iconst 1, 1) := by decide +kernel
theorem dc6_takeField_40 : decode prog_8_method_6_code 40 = .ok (.iaload, 1) := by decide +kernel
theorem dc6_takeField_41 : decode prog_8_method_6_code 41 = .ok (.iastore, 1) := by decide +kernel
theorem dc6_takeField_42 : decode prog_8_method_6_code 42 = .ok (.aload_n 0, 1) := by decide +kernel
theorem dc6_takeField_43 : decode prog_8_method_6_code 43 = .ok (.getfield 21, 3) := by decide +kernel
theorem dc6_takeField_46 : decode prog_8_method_6_code 46 = .ok (.getfield 117, 3) := by decide +kernel
theorem dc6_takeField_49 : decode prog_8_method_6_code 49 = .ok (.aload_n 0, 1) := by decide +kernel
theorem dc6_takeField_50 : decode prog_8_method_6_code 50 = .ok (.getfield 21, 3) := by decide +kernel
theorem dc6_takeField_53 : decode prog_8_method_6_code 53 = .ok (.getfield 39, 3) := by decide +kernel
theorem dc6_takeField_56 : decode prog_8_method_6_code 56 = .ok (.aload_n 0, 1) := by decide +kernel
theorem dc6_takeField_57 : decode prog_8_method_6_code 57 = .ok (.getfield 15, 3) := by decide +kernel
theorem dc6_takeField_60 : decode prog_8_method_6_code 60 = .ok (.iconst 2, 1) := by decide +kernel
theorem dc6_takeField_61 : decode prog_8_method_6_code 61 = .ok (.iaload, 1) := by decide +kernel
theorem dc6_takeField_62 : decode prog_8_method_6_code 62 = .ok (.iastore, 1) := by decide +kernel
theorem dc6_takeField_63 : decode prog_8_method_6_code 63 = .ok (.aload_n 0, 1) := by decide +kernel
theorem dc6_takeField_64 : decode prog_8_method_6_code 64 = .ok (.getfield 21, 3) := by decide +kernel
theorem dc6_takeField_67 : decode prog_8_method_6_code 67 = .ok (.getfield 120, 3) := by decide +kernel
theorem dc6_takeField_70 : decode prog_8_method_6_code 70 = .ok (.aload_n 0, 1) := by decide +kernel
theorem dc6_takeField_71 : decode prog_8_method_6_code 71 = .ok (.getfield 21, 3) := by decide +kernel
theorem dc6_takeField_74 : decode prog_8_method_6_code 74 = .ok (.getfield 39, 3) := by decide +kernel
theorem dc6_takeField_77 : decode prog_8_method_6_code 77 = .ok (.aload_n 0, 1) := by decide +kernel
theorem dc6_takeField_78 : decode prog_8_method_6_code 78 = .ok (.getfield 15, 3) := by decide +kernel
theorem dc6_takeField_81 : decode prog_8_method_6_code 81 = .ok (.iconst 3, 1) := by decide +kernel
theorem dc6_takeField_82 : decode prog_8_method_6_code 82 = .ok (.iaload, 1) := by decide +kernel
theorem dc6_takeField_83 : decode prog_8_method_6_code 83 = .ok (.iastore, 1) := by decide +kernel
theorem dc6_takeField_84 : decode prog_8_method_6_code 84 = .ok (.aload_n 0, 1) := by decide +kernel
theorem dc6_takeField_85 : decode prog_8_method_6_code 85 = .ok (.getfield 21, 3) := by decide +kernel
theorem dc6_takeField_88 : decode prog_8_method_6_code 88 = .ok (.getfield 123, 3) := by decide +kernel
theorem dc6_takeField_91 : decode prog_8_method_6_code 91 = .ok (.aload_n 0, 1) := by decide +kernel
theorem dc6_takeField_92 : decode prog_8_method_6_code 92 = .ok (.getfield 21, 3) := by decide +kernel
theorem dc6_takeField_95 : decode prog_8_method_6_code 95 = .ok (.getfield 39, 3) := by decide +kernel
theorem dc6_takeField_98 : decode prog_8_method_6_code 98 = .ok (.aload_n 0, 1) := by decide +kernel
theorem dc6_takeField_99 : decode prog_8_method_6_code 99 = .ok (.getfield 15, 3) := by decide +kernel
theorem dc6_takeField_102 : decode prog_8_method_6_code 102 = .ok (.iconst 4, 1) := by decide +kernel
theorem dc6_takeField_103 : decode prog_8_method_6_code 103 = .ok (.iaload, 1) := by decide +kernel
theorem dc6_takeField_104 : decode prog_8_method_6_code 104 = .ok (.iastore, 1) := by decide +kernel
theorem dc6_takeField_105 : decode prog_8_method_6_code 105 = .ok (.aload_n 0, 1) := by decide +kernel
theorem dc6_takeField_106 : decode prog_8_method_6_code 106 = .ok (.getfield 21, 3) := by decide +kernel
theorem dc6_takeField_109 : decode prog_8_method_6_code 109 = .ok (.dup, 1) := by decide +kernel
theorem dc6_takeField_110 : decode prog_8_method_6_code 110 = .ok (.getfield 39, 3) := by decide +kernel
theorem dc6_takeField_113 : decode prog_8_method_6_code 113 = .ok (.iconst 1, 1) := by decide +kernel
theorem dc6_takeField_114 : decode prog_8_method_6_code 114 = .ok (.iadd, 1) := by decide +kernel
theorem dc6_takeField_115 : decode prog_8_method_6_code 115 = .ok (.putfield 39, 3) := by decide +kernel
theorem dc6_takeField_118 : decode prog_8_method_6_code 118 = .ok (.return_, 1) := by decide +kernel
theorem dc10_take_0 : decode prog_12_method_6_code 0 = .ok (.aload_n 0, 1) := by decide +kernel
theorem dc10_take_1 : decode prog_12_method_6_code 1 = .ok (.invokevirtual 22, 3) := by decide +kernel
theorem dc10_take_4 : decode prog_12_method_6_code 4 = .ok (.iload_n 1, 1) := by decide +kernel
theorem dc10_take_5 : decode prog_12_method_6_code 5 = .ok (.if_icmp .eq 5, 3) := by decide +kernel
theorem dc10_take_8 : decode prog_12_method_6_code 8 = .ok (.iconst 0, 1) := by decide +kernel
theorem dc10_take_9 : decode prog_12_method_6_code 9 = .ok (.ireturn, 1) := by decide +kernel
theorem dc10_take_10 : decode prog_12_method_6_code 10 = .ok (.aload_n 0, 1) := by decide +kernel
theorem dc10_take_11 : decode prog_12_method_6_code 11 = .ok (.dup, 1) := by decide +kernel
theorem dc10_take_12 : decode prog_12_method_6_code 12 = .ok (.getfield 19, 3) := by decide +kernel
theorem dc10_take_15 : decode prog_12_method_6_code 15 = .ok (.iconst 1, 1) := by decide +kernel
theorem dc10_take_16 : decode prog_12_method_6_code 16 = .ok (.iadd, 1) := by decide +kernel
theorem dc10_take_17 : decode prog_12_method_6_code 17 = .ok (.putfield 19, 3) := by decide +kernel
theorem dc10_take_20 : decode prog_12_method_6_code 20 = .ok (.iconst 1, 1) := by decide +kernel
theorem dc10_take_21 : decode prog_12_method_6_code 21 = .ok (.ireturn, 1) := by decide +kernel
theorem dc4_read_0 : decode prog_6_method_3_code 0 = .ok (.aload_n 0, 1) := by decide +kernel
theorem dc4_read_1 : decode prog_6_method_3_code 1 = .ok (.getfield 15, 3) := by decide +kernel
theorem dc4_read_4 : decode prog_6_method_3_code 4 = .ok (.iconst 0, 1) := by decide +kernel
theorem dc4_read_5 : decode prog_6_method_3_code 5 = .ok (.putfield 34, 3) := by decide +kernel
theorem dc4_read_8 : decode prog_6_method_3_code 8 = .ok (.aload_n 0, 1) := by decide +kernel
theorem dc4_read_9 : decode prog_6_method_3_code 9 = .ok (.iconst 0, 1) := by decide +kernel
theorem dc4_read_10 : decode prog_6_method_3_code 10 = .ok (.putfield 21, 3) := by decide +kernel
theorem dc4_read_13 : decode prog_6_method_3_code 13 = .ok (.iconst 0, 1) := by decide +kernel
theorem dc4_read_14 : decode prog_6_method_3_code 14 = .ok (.istore_n 1, 1) := by decide +kernel
theorem dc4_read_15 : decode prog_6_method_3_code 15 = .ok (.iload_n 1, 1) := by decide +kernel
theorem dc4_read_16 : decode prog_6_method_3_code 16 = .ok (.sipush 240, 3) := by decide +kernel
theorem dc4_read_19 : decode prog_6_method_3_code 19 = .ok (.if_icmp .gt 44, 3) := by decide +kernel
theorem dc4_read_22 : decode prog_6_method_3_code 22 = .ok (.aload_n 0, 1) := by decide +kernel
theorem dc4_read_23 : decode prog_6_method_3_code 23 = .ok (.invokevirtual 39, 3) := by decide +kernel
theorem dc4_read_26 : decode prog_6_method_3_code 26 = .ok (.ifCond .ne 5, 3) := by decide +kernel
theorem dc4_read_29 : decode prog_6_method_3_code 29 = .ok (.iconst 0, 1) := by decide +kernel
theorem dc4_read_30 : decode prog_6_method_3_code 30 = .ok (.ireturn, 1) := by decide +kernel
theorem dc4_read_31 : decode prog_6_method_3_code 31 = .ok (.aload_n 0, 1) := by decide +kernel
theorem dc4_read_32 : decode prog_6_method_3_code 32 = .ok (.getfield 15, 3) := by decide +kernel
theorem dc4_read_35 : decode prog_6_method_3_code 35 = .ok (.invokevirtual 43, 3) := by decide +kernel
theorem dc4_read_38 : decode prog_6_method_3_code 38 = .ok (.ifCond .ne 5, 3) := by decide +kernel
theorem dc4_read_41 : decode prog_6_method_3_code 41 = .ok (.iconst 1, 1) := by decide +kernel
theorem dc4_read_42 : decode prog_6_method_3_code 42 = .ok (.ireturn, 1) := by decide +kernel
theorem dc4_read_43 : decode prog_6_method_3_code 43 = .ok (.aload_n 0, 1) := by decide +kernel
theorem dc4_read_44 : decode prog_6_method_3_code 44 = .ok (.getfield 15, 3) := by decide +kernel
theorem dc4_read_47 : decode prog_6_method_3_code 47 = .ok (.bipush 59, 2) := by decide +kernel
theorem dc4_read_49 : decode prog_6_method_3_code 49 = .ok (.invokevirtual 47, 3) := by decide +kernel
theorem dc4_read_52 : decode prog_6_method_3_code 52 = .ok (.ifCond .ne 5, 3) := by decide +kernel
theorem dc4_read_55 : decode prog_6_method_3_code 55 = .ok (.iconst 0, 1) := by decide +kernel
theorem dc4_read_56 : decode prog_6_method_3_code 56 = .ok (.ireturn, 1) := by decide +kernel
theorem dc4_read_57 : decode prog_6_method_3_code 57 = .ok (.iinc 1 1, 3) := by decide +kernel
theorem dc4_read_60 : decode prog_6_method_3_code 60 = .ok (.goto (-45), 3) := by decide +kernel
theorem dc4_read_63 : decode prog_6_method_3_code 63 = .ok (.iconst 0, 1) := by decide +kernel
theorem dc4_read_64 : decode prog_6_method_3_code 64 = .ok (.ireturn, 1) := by decide +kernel
theorem dc4_readClause_0 : decode prog_6_method_4_code 0 = .ok (.aload_n 0, 1) := by decide +kernel
theorem dc4_readClause_1 : decode prog_6_method_4_code 1 = .ok (.getfield 15, 3) := by decide +kernel
theorem dc4_readClause_4 : decode prog_6_method_4_code 4 = .ok (.bipush 121, 2) := by decide +kernel
theorem dc4_readClause_6 : decode prog_6_method_4_code 6 = .ok (.invokevirtual 47, 3) := by decide +kernel
theorem dc4_readClause_9 : decode prog_6_method_4_code 9 = .ok (.ifCond .eq 15, 3) := by decide +kernel
theorem dc4_readClause_12 : decode prog_6_method_4_code 12 = .ok (.aload_n 0, 1) := by decide +kernel
theorem dc4_readClause_13 : decode prog_6_method_4_code 13 = .ok (.getfield 15, 3) := by decide +kernel
theorem dc4_readClause_16 : decode prog_6_method_4_code 16 = .ok (.bipush 58, 2) := by decide +kernel
theorem dc4_readClause_18 : decode prog_6_method_4_code 18 = .ok (.invokevirtual 47, 3) := by decide +kernel
theorem dc4_readClause_21 : decode prog_6_method_4_code 21 = .ok (.ifCond .ne 5, 3) := by decide +kernel
theorem dc4_readClause_24 : decode prog_6_method_4_code 24 = .ok (.iconst 0, 1) := by decide +kernel
theorem dc4_readClause_25 : decode prog_6_method_4_code 25 = .ok (.ireturn, 1) := by decide +kernel
theorem dc4_readClause_26 : decode prog_6_method_4_code 26 = .ok (.aload_n 0, 1) := by decide +kernel
theorem dc4_readClause_27 : decode prog_6_method_4_code 27 = .ok (.invokevirtual 51, 3) := by decide +kernel
theorem dc4_readClause_30 : decode prog_6_method_4_code 30 = .ok (.ifCond .eq 32, 3) := by decide +kernel
theorem dc4_readClause_33 : decode prog_6_method_4_code 33 = .ok (.aload_n 0, 1) := by decide +kernel
theorem dc4_readClause_34 : decode prog_6_method_4_code 34 = .ok (.iconst 0, 1) := by decide +kernel
theorem dc4_readClause_35 : decode prog_6_method_4_code 35 = .ok (.invokevirtual 54, 3) := by decide +kernel
theorem dc4_readClause_38 : decode prog_6_method_4_code 38 = .ok (.ifCond .eq 15, 3) := by decide +kernel
theorem dc4_readClause_41 : decode prog_6_method_4_code 41 = .ok (.aload_n 0, 1) := by decide +kernel
theorem dc4_readClause_42 : decode prog_6_method_4_code 42 = .ok (.getfield 15, 3) := by decide +kernel
theorem dc4_readClause_45 : decode prog_6_method_4_code 45 = .ok (.bipush 63, 2) := by decide +kernel
theorem dc4_readClause_47 : decode prog_6_method_4_code 47 = .ok (.invokevirtual 47, 3) := by decide +kernel
theorem dc4_readClause_50 : decode prog_6_method_4_code 50 = .ok (.ifCond .ne 5, 3) := by decide +kernel
theorem dc4_readClause_53 : decode prog_6_method_4_code 53 = .ok (.iconst 0, 1) := by decide +kernel
theorem dc4_readClause_54 : decode prog_6_method_4_code 54 = .ok (.ireturn, 1) := by decide +kernel
theorem dc4_readClause_55 : decode prog_6_method_4_code 55 = .ok (.aload_n 0, 1) := by decide +kernel
theorem dc4_readClause_56 : decode prog_6_method_4_code 56 = .ok (.bipush (-63), 2) := by decide +kernel
theorem dc4_readClause_58 : decode prog_6_method_4_code 58 = .ok (.invokevirtual 57, 3) := by decide +kernel
theorem dc4_readClause_61 : decode prog_6_method_4_code 61 = .ok (.pop, 1) := by decide +kernel
theorem dc4_readClause_62 : decode prog_6_method_4_code 62 = .ok (.aload_n 0, 1) := by decide +kernel
theorem dc4_readClause_63 : decode prog_6_method_4_code 63 = .ok (.iconst 0, 1) := by decide +kernel
theorem dc4_readClause_64 : decode prog_6_method_4_code 64 = .ok (.invokevirtual 60, 3) := by decide +kernel
theorem dc4_readClause_67 : decode prog_6_method_4_code 67 = .ok (.ifCond .eq 16, 3) := by decide +kernel
theorem dc4_readClause_70 : decode prog_6_method_4_code 70 = .ok (.aload_n 0, 1) := by decide +kernel
theorem dc4_readClause_71 : decode prog_6_method_4_code 71 = .ok (.bipush (-59), 2) := by decide +kernel
theorem dc4_readClause_73 : decode prog_6_method_4_code 73 = .ok (.invokevirtual 57, 3) := by decide +kernel
theorem dc4_readClause_76 : decode prog_6_method_4_code 76 = .ok (.ifCond .eq 7, 3) := by decide +kernel
theorem dc4_readClause_79 : decode prog_6_method_4_code 79 = .ok (.iconst 1, 1) := by decide +kernel
theorem dc4_readClause_80 : decode prog_6_method_4_code 80 = .ok (.goto 4, 3) := by decide +kernel
theorem dc4_readClause_83 : decode prog_6_method_4_code 83 = .ok (.iconst 0, 1) := by decide +kernel
theorem dc4_readClause_84 : decode prog_6_method_4_code 84 = .ok (.ireturn, 1) := by decide +kernel
theorem dc4_isConditional_0 : decode prog_6_method_5_code 0 = .ok (.aload_n 0, 1) := by decide +kernel
theorem dc4_isConditional_1 : decode prog_6_method_5_code 1 = .ok (.getfield 15, 3) := by decide +kernel
theorem dc4_isConditional_4 : decode prog_6_method_5_code 4 = .ok (.getfield 34, 3) := by decide +kernel
theorem dc4_isConditional_7 : decode prog_6_method_5_code 7 = .ok (.istore_n 1, 1) := by decide +kernel
theorem dc4_isConditional_8 : decode prog_6_method_5_code 8 = .ok (.iload_n 1, 1) := by decide +kernel
theorem dc4_isConditional_9 : decode prog_6_method_5_code 9 = .ok (.aload_n 0, 1) := by decide +kernel
theorem dc4_isConditional_10 : decode prog_6_method_5_code 10 = .ok (.getfield 15, 3) := by decide +kernel
theorem dc4_isConditional_13 : decode prog_6_method_5_code 13 = .ok (.getfield 63, 3) := by decide +kernel
theorem dc4_isConditional_16 : decode prog_6_method_5_code 16 = .ok (.if_icmp .ge 47, 3) := by decide +kernel
theorem dc4_isConditional_19 : decode prog_6_method_5_code 19 = .ok (.aload_n 0, 1) := by decide +kernel
theorem dc4_isConditional_20 : decode prog_6_method_5_code 20 = .ok (.getfield 15, 3) := by decide +kernel
theorem dc4_isConditional_23 : decode prog_6_method_5_code 23 = .ok (.iload_n 1, 1) := by decide +kernel
theorem dc4_isConditional_24 : decode prog_6_method_5_code 24 = .ok (.invokevirtual 66, 3) := by decide +kernel
theorem dc4_isConditional_27 : decode prog_6_method_5_code 27 = .ok (.istore_n 2, 1) := by decide +kernel
theorem dc4_isConditional_28 : decode prog_6_method_5_code 28 = .ok (.iload_n 2, 1) := by decide +kernel
theorem dc4_isConditional_29 : decode prog_6_method_5_code 29 = .ok (.bipush 59, 2) := by decide +kernel
theorem dc4_isConditional_31 : decode prog_6_method_5_code 31 = .ok (.if_icmp .ne 5, 3) := by decide +kernel
theorem dc4_isConditional_34 : decode prog_6_method_5_code 34 = .ok (.iconst 0, 1) := by decide +kernel
theorem dc4_isConditional_35 : decode prog_6_method_5_code 35 = .ok (.ireturn, 1) := by decide +kernel
theorem dc4_isConditional_36 : decode prog_6_method_5_code 36 = .ok (.iload_n 2, 1) := by decide +kernel
theorem dc4_isConditional_37 : decode prog_6_method_5_code 37 = .ok (.bipush 33, 2) := by decide +kernel
theorem dc4_isConditional_39 : decode prog_6_method_5_code 39 = .ok (.if_icmp .eq 16, 3) := by decide +kernel
theorem dc4_isConditional_42 : decode prog_6_method_5_code 42 = .ok (.iload_n 2, 1) := by decide +kernel
theorem dc4_isConditional_43 : decode prog_6_method_5_code 43 = .ok (.bipush 40, 2) := by decide +kernel
theorem dc4_isConditional_45 : decode prog_6_method_5_code 45 = .ok (.if_icmp .eq 10, 3) := by decide +kernel
theorem dc4_isConditional_48 : decode prog_6_method_5_code 48 = .ok (.iload_n 2, 1) := by decide +kernel
theorem dc4_isConditional_49 : decode prog_6_method_5_code 49 = .ok (.invokestatic 70, 3) := by decide +kernel
theorem dc4_isConditional_52 : decode prog_6_method_5_code 52 = .ok (.ifCond .eq 5, 3) := by decide +kernel
theorem dc4_isConditional_55 : decode prog_6_method_5_code 55 = .ok (.iconst 1, 1) := by decide +kernel
theorem dc4_isConditional_56 : decode prog_6_method_5_code 56 = .ok (.ireturn, 1) := by decide +kernel
theorem dc4_isConditional_57 : decode prog_6_method_5_code 57 = .ok (.iinc 1 1, 3) := by decide +kernel
theorem dc4_isConditional_60 : decode prog_6_method_5_code 60 = .ok (.goto (-52), 3) := by decide +kernel
theorem dc4_isConditional_63 : decode prog_6_method_5_code 63 = .ok (.iconst 0, 1) := by decide +kernel
theorem dc4_isConditional_64 : decode prog_6_method_5_code 64 = .ok (.ireturn, 1) := by decide +kernel
theorem dc4_isComparing_0 : decode prog_6_method_6_code 0 = .ok (.iload_n 0, 1) := by decide +kernel
theorem dc4_isComparing_1 : decode prog_6_method_6_code 1 = .ok (.bipush 61, 2) := by decide +kernel
theorem dc4_isComparing_3 : decode prog_6_method_6_code 3 = .ok (.if_icmp .eq 15, 3) := by decide +kernel
theorem dc4_isComparing_6 : decode prog_6_method_6_code 6 = .ok (.iload_n 0, 1) := by decide +kernel
theorem dc4_isComparing_7 : decode prog_6_method_6_code 7 = .ok (.bipush 60, 2) := by decide +kernel
theorem dc4_isComparing_9 : decode prog_6_method_6_code 9 = .ok (.if_icmp .eq 9, 3) := by decide +kernel
theorem dc4_isComparing_12 : decode prog_6_method_6_code 12 = .ok (.iload_n 0, 1) := by decide +kernel
theorem dc4_isComparing_13 : decode prog_6_method_6_code 13 = .ok (.bipush 62, 2) := by decide +kernel
theorem dc4_isComparing_15 : decode prog_6_method_6_code 15 = .ok (.if_icmp .ne 7, 3) := by decide +kernel
theorem dc4_isComparing_18 : decode prog_6_method_6_code 18 = .ok (.iconst 1, 1) := by decide +kernel
theorem dc4_isComparing_19 : decode prog_6_method_6_code 19 = .ok (.goto 4, 3) := by decide +kernel
theorem dc4_isComparing_22 : decode prog_6_method_6_code 22 = .ok (.iconst 0, 1) := by decide +kernel
theorem dc4_isComparing_23 : decode prog_6_method_6_code 23 = .ok (.ireturn, 1) := by decide +kernel
theorem dc4_readCondition_0 : decode prog_6_method_7_code 0 = .ok (.aload_n 0, 1) := by decide +kernel
theorem dc4_readCondition_1 : decode prog_6_method_7_code 1 = .ok (.iload_n 1, 1) := by decide +kernel
theorem dc4_readCondition_2 : decode prog_6_method_7_code 2 = .ok (.invokevirtual 73, 3) := by decide +kernel
theorem dc4_readCondition_5 : decode prog_6_method_7_code 5 = .ok (.ifCond .ne 5, 3) := by decide +kernel
theorem dc4_readCondition_8 : decode prog_6_method_7_code 8 = .ok (.iconst 0, 1) := by decide +kernel
theorem dc4_readCondition_9 : decode prog_6_method_7_code 9 = .ok (.ireturn, 1) := by decide +kernel
theorem dc4_readCondition_10 : decode prog_6_method_7_code 10 = .ok (.iconst 0, 1) := by decide +kernel
theorem dc4_readCondition_11 : decode prog_6_method_7_code 11 = .ok (.istore_n 2, 1) := by decide +kernel
theorem dc4_readCondition_12 : decode prog_6_method_7_code 12 = .ok (.iload_n 2, 1) := by decide +kernel
theorem dc4_readCondition_13 : decode prog_6_method_7_code 13 = .ok (.sipush 240, 3) := by decide +kernel
theorem dc4_readCondition_16 : decode prog_6_method_7_code 16 = .ok (.if_icmp .ge 40, 3) := by decide +kernel
theorem dc4_readCondition_19 : decode prog_6_method_7_code 19 = .ok (.aload_n 0, 1) := by decide +kernel
theorem dc4_readCondition_20 : decode prog_6_method_7_code 20 = .ok (.getfield 15, 3) := by decide +kernel
theorem dc4_readCondition_23 : decode prog_6_method_7_code 23 = .ok (.bipush 124, 2) := by decide +kernel
theorem dc4_readCondition_25 : decode prog_6_method_7_code 25 = .ok (.invokevirtual 47, 3) := by decide +kernel
theorem dc4_readCondition_28 : decode prog_6_method_7_code 28 = .ok (.ifCond .eq 28, 3) := by decide +kernel
theorem dc4_readCondition_31 : decode prog_6_method_7_code 31 = .ok (.aload_n 0, 1) := by decide +kernel
theorem dc4_readCondition_32 : decode prog_6_method_7_code 32 = .ok (.iload_n 1, 1) := by decide +kernel
theorem dc4_readCondition_33 : decode prog_6_method_7_code 33 = .ok (.invokevirtual 73, 3) := by decide +kernel
theorem dc4_readCondition_36 : decode prog_6_method_7_code 36 = .ok (.ifCond .eq 12, 3) := by decide +kernel
theorem dc4_readCondition_39 : decode prog_6_method_7_code 39 = .ok (.aload_n 0, 1) := by decide +kernel
theorem dc4_readCondition_40 : decode prog_6_method_7_code 40 = .ok (.bipush (-124), 2) := by decide +kernel
theorem dc4_readCondition_42 : decode prog_6_method_7_code 42 = .ok (.invokevirtual 57, 3) := by decide +kernel
theorem dc4_readCondition_45 : decode prog_6_method_7_code 45 = .ok (.ifCond .ne 5, 3) := by decide +kernel
theorem dc4_readCondition_48 : decode prog_6_method_7_code 48 = .ok (.iconst 0, 1) := by decide +kernel
theorem dc4_readCondition_49 : decode prog_6_method_7_code 49 = .ok (.ireturn, 1) := by decide +kernel
theorem dc4_readCondition_50 : decode prog_6_method_7_code 50 = .ok (.iinc 2 1, 3) := by decide +kernel
theorem dc4_readCondition_53 : decode prog_6_method_7_code 53 = .ok (.goto (-41), 3) := by decide +kernel
theorem dc4_readCondition_56 : decode prog_6_method_7_code 56 = .ok (.iconst 1, 1) := by decide +kernel
theorem dc4_readCondition_57 : decode prog_6_method_7_code 57 = .ok (.ireturn, 1) := by decide +kernel
theorem dc4_readTruth_0 : decode prog_6_method_8_code 0 = .ok (.aload_n 0, 1) := by decide +kernel
theorem dc4_readTruth_1 : decode prog_6_method_8_code 1 = .ok (.iload_n 1, 1) := by decide +kernel
theorem dc4_readTruth_2 : decode prog_6_method_8_code 2 = .ok (.invokevirtual 76, 3) := by decide +kernel
theorem dc4_readTruth_5 : decode prog_6_method_8_code 5 = .ok (.ifCond .ne 5, 3) := by decide +kernel
theorem dc4_readTruth_8 : decode prog_6_method_8_code 8 = .ok (.iconst 0, 1) := by decide +kernel
theorem dc4_readTruth_9 : decode prog_6_method_8_code 9 = .ok (.ireturn, 1) := by decide +kernel
theorem dc4_readTruth_10 : decode prog_6_method_8_code 10 = .ok (.iconst 0, 1) := by decide +kernel
theorem dc4_readTruth_11 : decode prog_6_method_8_code 11 = .ok (.istore_n 2, 1) := by decide +kernel
theorem dc4_readTruth_12 : decode prog_6_method_8_code 12 = .ok (.iload_n 2, 1) := by decide +kernel
theorem dc4_readTruth_13 : decode prog_6_method_8_code 13 = .ok (.sipush 240, 3) := by decide +kernel
theorem dc4_readTruth_16 : decode prog_6_method_8_code 16 = .ok (.if_icmp .ge 40, 3) := by decide +kernel
theorem dc4_readTruth_19 : decode prog_6_method_8_code 19 = .ok (.aload_n 0, 1) := by decide +kernel
theorem dc4_readTruth_20 : decode prog_6_method_8_code 20 = .ok (.getfield 15, 3) := by decide +kernel
theorem dc4_readTruth_23 : decode prog_6_method_8_code 23 = .ok (.bipush 38, 2) := by decide +kernel
theorem dc4_readTruth_25 : decode prog_6_method_8_code 25 = .ok (.invokevirtual 47, 3) := by decide +kernel
theorem dc4_readTruth_28 : decode prog_6_method_8_code 28 = .ok (.ifCond .eq 28, 3) := by decide +kernel
theorem dc4_readTruth_31 : decode prog_6_method_8_code 31 = .ok (.aload_n 0, 1) := by decide +kernel
theorem dc4_readTruth_32 : decode prog_6_method_8_code 32 = .ok (.iload_n 1, 1) := by decide +kernel
theorem dc4_readTruth_33 : decode prog_6_method_8_code 33 = .ok (.invokevirtual 76, 3) := by decide +kernel
theorem dc4_readTruth_36 : decode prog_6_method_8_code 36 = .ok (.ifCond .eq 12, 3) := by decide +kernel
theorem dc4_readTruth_39 : decode prog_6_method_8_code 39 = .ok (.aload_n 0, 1) := by decide +kernel
theorem dc4_readTruth_40 : decode prog_6_method_8_code 40 = .ok (.bipush (-38), 2) := by decide +kernel
theorem dc4_readTruth_42 : decode prog_6_method_8_code 42 = .ok (.invokevirtual 57, 3) := by decide +kernel
theorem dc4_readTruth_45 : decode prog_6_method_8_code 45 = .ok (.ifCond .ne 5, 3) := by decide +kernel
theorem dc4_readTruth_48 : decode prog_6_method_8_code 48 = .ok (.iconst 0, 1) := by decide +kernel
theorem dc4_readTruth_49 : decode prog_6_method_8_code 49 = .ok (.ireturn, 1) := by decide +kernel
theorem dc4_readTruth_50 : decode prog_6_method_8_code 50 = .ok (.iinc 2 1, 3) := by decide +kernel
theorem dc4_readTruth_53 : decode prog_6_method_8_code 53 = .ok (.goto (-41), 3) := by decide +kernel
theorem dc4_readTruth_56 : decode prog_6_method_8_code 56 = .ok (.iconst 1, 1) := by decide +kernel
theorem dc4_readTruth_57 : decode prog_6_method_8_code 57 = .ok (.ireturn, 1) := by decide +kernel
theorem dc4_readUnit_0 : decode prog_6_method_9_code 0 = .ok (.aload_n 0, 1) := by decide +kernel
theorem dc4_readUnit_1 : decode prog_6_method_9_code 1 = .ok (.getfield 15, 3) := by decide +kernel
theorem dc4_readUnit_4 : decode prog_6_method_9_code 4 = .ok (.invokevirtual 43, 3) := by decide +kernel
theorem dc4_readUnit_7 : decode prog_6_method_9_code 7 = .ok (.istore_n 2, 1) := by decide +kernel
theorem dc4_readUnit_8 : decode prog_6_method_9_code 8 = .ok (.iload_n 2, 1) := by decide +kernel
theorem dc4_readUnit_9 : decode prog_6_method_9_code 9 = .ok (.bipush 33, 2) := by decide +kernel
theorem dc4_readUnit_11 : decode prog_6_method_9_code 11 = .ok (.if_icmp .ne 36, 3) := by decide +kernel
theorem dc4_readUnit_14 : decode prog_6_method_9_code 14 = .ok (.aload_n 0, 1) := by decide +kernel
theorem dc4_readUnit_15 : decode prog_6_method_9_code 15 = .ok (.iload_n 1, 1) := by decide +kernel
theorem dc4_readUnit_16 : decode prog_6_method_9_code 16 = .ok (.invokevirtual 79, 3) := by decide +kernel
theorem dc4_readUnit_19 : decode prog_6_method_9_code 19 = .ok (.ifCond .eq 26, 3) := by decide +kernel
theorem dc4_readUnit_22 : decode prog_6_method_9_code 22 = .ok (.aload_n 0, 1) := by decide +kernel
theorem dc4_readUnit_23 : decode prog_6_method_9_code 23 = .ok (.iload_n 1, 1) := by decide +kernel
theorem dc4_readUnit_24 : decode prog_6_method_9_code 24 = .ok (.iconst 1, 1) := by decide +kernel
theorem dc4_readUnit_25 : decode prog_6_method_9_code 25 = .ok (.iadd, 1) := by decide +kernel
theorem dc4_readUnit_26 : decode prog_6_method_9_code 26 = .ok (.invokevirtual 76, 3) := by decide +kernel
theorem dc4_readUnit_29 : decode prog_6_method_9_code 29 = .ok (.ifCond .eq 16, 3) := by decide +kernel
theorem dc4_readUnit_32 : decode prog_6_method_9_code 32 = .ok (.aload_n 0, 1) := by decide +kernel
theorem dc4_readUnit_33 : decode prog_6_method_9_code 33 = .ok (.bipush (-33), 2) := by decide +kernel
theorem dc4_readUnit_35 : decode prog_6_method_9_code 35 = .ok (.invokevirtual 57, 3) := by decide +kernel
theorem dc4_readUnit_38 : decode prog_6_method_9_code 38 = .ok (.ifCond .eq 7, 3) := by decide +kernel
theorem dc4_readUnit_41 : decode prog_6_method_9_code 41 = .ok (.iconst 1, 1) := by decide +kernel
theorem dc4_readUnit_42 : decode prog_6_method_9_code 42 = .ok (.goto 4, 3) := by decide +kernel
theorem dc4_readUnit_45 : decode prog_6_method_9_code 45 = .ok (.iconst 0, 1) := by decide +kernel
theorem dc4_readUnit_46 : decode prog_6_method_9_code 46 = .ok (.ireturn, 1) := by decide +kernel
theorem dc4_readUnit_47 : decode prog_6_method_9_code 47 = .ok (.iload_n 2, 1) := by decide +kernel
theorem dc4_readUnit_48 : decode prog_6_method_9_code 48 = .ok (.bipush 40, 2) := by decide +kernel
theorem dc4_readUnit_50 : decode prog_6_method_9_code 50 = .ok (.if_icmp .ne 39, 3) := by decide +kernel
theorem dc4_readUnit_53 : decode prog_6_method_9_code 53 = .ok (.aload_n 0, 1) := by decide +kernel
theorem dc4_readUnit_54 : decode prog_6_method_9_code 54 = .ok (.iload_n 1, 1) := by decide +kernel
theorem dc4_readUnit_55 : decode prog_6_method_9_code 55 = .ok (.invokevirtual 79, 3) := by decide +kernel
theorem dc4_readUnit_58 : decode prog_6_method_9_code 58 = .ok (.ifCond .eq 29, 3) := by decide +kernel
theorem dc4_readUnit_61 : decode prog_6_method_9_code 61 = .ok (.aload_n 0, 1) := by decide +kernel
theorem dc4_readUnit_62 : decode prog_6_method_9_code 62 = .ok (.iload_n 1, 1) := by decide +kernel
theorem dc4_readUnit_63 : decode prog_6_method_9_code 63 = .ok (.iconst 1, 1) := by decide +kernel
theorem dc4_readUnit_64 : decode prog_6_method_9_code 64 = .ok (.iadd, 1) := by decide +kernel
theorem dc4_readUnit_65 : decode prog_6_method_9_code 65 = .ok (.invokevirtual 54, 3) := by decide +kernel
theorem dc4_readUnit_68 : decode prog_6_method_9_code 68 = .ok (.ifCond .eq 19, 3) := by decide +kernel
theorem dc4_readUnit_71 : decode prog_6_method_9_code 71 = .ok (.aload_n 0, 1) := by decide +kernel
theorem dc4_readUnit_72 : decode prog_6_method_9_code 72 = .ok (.getfield 15, 3) := by decide +kernel
theorem dc4_readUnit_75 : decode prog_6_method_9_code 75 = .ok (.bipush 41, 2) := by decide +kernel
theorem dc4_readUnit_77 : decode prog_6_method_9_code 77 = .ok (.invokevirtual 47, 3) := by decide +kernel
theorem dc4_readUnit_80 : decode prog_6_method_9_code 80 = .ok (.ifCond .eq 7, 3) := by decide +kernel
theorem dc4_readUnit_83 : decode prog_6_method_9_code 83 = .ok (.iconst 1, 1) := by decide +kernel
theorem dc4_readUnit_84 : decode prog_6_method_9_code 84 = .ok (.goto 4, 3) := by decide +kernel
theorem dc4_readUnit_87 : decode prog_6_method_9_code 87 = .ok (.iconst 0, 1) := by decide +kernel
theorem dc4_readUnit_88 : decode prog_6_method_9_code 88 = .ok (.ireturn, 1) := by decide +kernel
theorem dc4_readUnit_89 : decode prog_6_method_9_code 89 = .ok (.aload_n 0, 1) := by decide +kernel
theorem dc4_readUnit_90 : decode prog_6_method_9_code 90 = .ok (.iload_n 1, 1) := by decide +kernel
theorem dc4_readUnit_91 : decode prog_6_method_9_code 91 = .ok (.invokevirtual 60, 3) := by decide +kernel
theorem dc4_readUnit_94 : decode prog_6_method_9_code 94 = .ok (.ifCond .ne 5, 3) := by decide +kernel
theorem dc4_readUnit_97 : decode prog_6_method_9_code 97 = .ok (.iconst 0, 1) := by decide +kernel
theorem dc4_readUnit_98 : decode prog_6_method_9_code 98 = .ok (.ireturn, 1) := by decide +kernel
theorem dc4_readUnit_99 : decode prog_6_method_9_code 99 = .ok (.aload_n 0, 1) := by decide +kernel
theorem dc4_readUnit_100 : decode prog_6_method_9_code 100 = .ok (.getfield 15, 3) := by decide +kernel
theorem dc4_readUnit_103 : decode prog_6_method_9_code 103 = .ok (.invokevirtual 43, 3) := by decide +kernel
theorem dc4_readUnit_106 : decode prog_6_method_9_code 106 = .ok (.istore_n 3, 1) := by decide +kernel
theorem dc4_readUnit_107 : decode prog_6_method_9_code 107 = .ok (.iload_n 3, 1) := by decide +kernel
theorem dc4_readUnit_108 : decode prog_6_method_9_code 108 = .ok (.invokestatic 70, 3) := by decide +kernel
theorem dc4_readUnit_111 : decode prog_6_method_9_code 111 = .ok (.ifCond .ne 5, 3) := by decide +kernel
theorem dc4_readUnit_114 : decode prog_6_method_9_code 114 = .ok (.iconst 0, 1) := by decide +kernel
theorem dc4_readUnit_115 : decode prog_6_method_9_code 115 = .ok (.ireturn, 1) := by decide +kernel
theorem dc4_readUnit_116 : decode prog_6_method_9_code 116 = .ok (.aload_n 0, 1) := by decide +kernel
theorem dc4_readUnit_117 : decode prog_6_method_9_code 117 = .ok (.getfield 15, 3) := by decide +kernel
theorem dc4_readUnit_120 : decode prog_6_method_9_code 120 = .ok (.dup, 1) := by decide +kernel
theorem dc4_readUnit_121 : decode prog_6_method_9_code 121 = .ok (.getfield 34, 3) := by decide +kernel
theorem dc4_readUnit_124 : decode prog_6_method_9_code 124 = .ok (.iconst 1, 1) := by decide +kernel
theorem dc4_readUnit_125 : decode prog_6_method_9_code 125 = .ok (.iadd, 1) := by decide +kernel
theorem dc4_readUnit_126 : decode prog_6_method_9_code 126 = .ok (.putfield 34, 3) := by decide +kernel
theorem dc4_readUnit_129 : decode prog_6_method_9_code 129 = .ok (.aload_n 0, 1) := by decide +kernel
theorem dc4_readUnit_130 : decode prog_6_method_9_code 130 = .ok (.iload_n 1, 1) := by decide +kernel
theorem dc4_readUnit_131 : decode prog_6_method_9_code 131 = .ok (.invokevirtual 60, 3) := by decide +kernel
theorem dc4_readUnit_134 : decode prog_6_method_9_code 134 = .ok (.ifCond .eq 16, 3) := by decide +kernel
theorem dc4_readUnit_137 : decode prog_6_method_9_code 137 = .ok (.aload_n 0, 1) := by decide +kernel
theorem dc4_readUnit_138 : decode prog_6_method_9_code 138 = .ok (.iload_n 3, 1) := by decide +kernel
theorem dc4_readUnit_139 : decode prog_6_method_9_code 139 = .ok (.ineg, 1) := by decide +kernel
theorem dc4_readUnit_140 : decode prog_6_method_9_code 140 = .ok (.invokevirtual 57, 3) := by decide +kernel
theorem dc4_readUnit_143 : decode prog_6_method_9_code 143 = .ok (.ifCond .eq 7, 3) := by decide +kernel
theorem dc4_readUnit_146 : decode prog_6_method_9_code 146 = .ok (.iconst 1, 1) := by decide +kernel
theorem dc4_readUnit_147 : decode prog_6_method_9_code 147 = .ok (.goto 4, 3) := by decide +kernel
theorem dc4_readUnit_150 : decode prog_6_method_9_code 150 = .ok (.iconst 0, 1) := by decide +kernel
theorem dc4_readUnit_151 : decode prog_6_method_9_code 151 = .ok (.ireturn, 1) := by decide +kernel
theorem dc4_goesDeeper_0 : decode prog_6_method_13_code 0 = .ok (.iload_n 1, 1) := by decide +kernel
theorem dc4_goesDeeper_1 : decode prog_6_method_13_code 1 = .ok (.bipush 6, 2) := by decide +kernel
theorem dc4_goesDeeper_3 : decode prog_6_method_13_code 3 = .ok (.if_icmp .lt 5, 3) := by decide +kernel
theorem dc4_goesDeeper_6 : decode prog_6_method_13_code 6 = .ok (.iconst 0, 1) := by decide +kernel
theorem dc4_goesDeeper_7 : decode prog_6_method_13_code 7 = .ok (.ireturn, 1) := by decide +kernel
theorem dc4_goesDeeper_8 : decode prog_6_method_13_code 8 = .ok (.aload_n 0, 1) := by decide +kernel
theorem dc4_goesDeeper_9 : decode prog_6_method_13_code 9 = .ok (.getfield 15, 3) := by decide +kernel
theorem dc4_goesDeeper_12 : decode prog_6_method_13_code 12 = .ok (.dup, 1) := by decide +kernel
theorem dc4_goesDeeper_13 : decode prog_6_method_13_code 13 = .ok (.getfield 34, 3) := by decide +kernel
theorem dc4_goesDeeper_16 : decode prog_6_method_13_code 16 = .ok (.iconst 1, 1) := by decide +kernel
theorem dc4_goesDeeper_17 : decode prog_6_method_13_code 17 = .ok (.iadd, 1) := by decide +kernel
theorem dc4_goesDeeper_18 : decode prog_6_method_13_code 18 = .ok (.putfield 34, 3) := by decide +kernel
theorem dc4_goesDeeper_21 : decode prog_6_method_13_code 21 = .ok (.iconst 1, 1) := by decide +kernel
theorem dc4_goesDeeper_22 : decode prog_6_method_13_code 22 = .ok (.ireturn, 1) := by decide +kernel
theorem dc4_write_0 : decode prog_6_method_14_code 0 = .ok (.aload_n 0, 1) := by decide +kernel
theorem dc4_write_1 : decode prog_6_method_14_code 1 = .ok (.getfield 21, 3) := by decide +kernel
theorem dc4_write_4 : decode prog_6_method_14_code 4 = .ok (.aload_n 0, 1) := by decide +kernel
theorem dc4_write_5 : decode prog_6_method_14_code 5 = .ok (.getfield 9, 3) := by decide +kernel
theorem dc4_write_8 : decode prog_6_method_14_code 8 = .ok (.arraylength, 1) := by decide +kernel
theorem dc4_write_9 : decode prog_6_method_14_code 9 = .ok (.if_icmp .lt 5, 3) := by decide +kernel
theorem dc4_write_12 : decode prog_6_method_14_code 12 = .ok (.iconst 0, 1) := by decide +kernel
theorem dc4_write_13 : decode prog_6_method_14_code 13 = .ok (.ireturn, 1) := by decide +kernel
theorem dc4_write_14 : decode prog_6_method_14_code 14 = .ok (.aload_n 0, 1) := by decide +kernel
theorem dc4_write_15 : decode prog_6_method_14_code 15 = .ok (.getfield 9, 3) := by decide +kernel
theorem dc4_write_18 : decode prog_6_method_14_code 18 = .ok (.aload_n 0, 1) := by decide +kernel
theorem dc4_write_19 : decode prog_6_method_14_code 19 = .ok (.dup, 1) := by decide +kernel
theorem dc4_write_20 : decode prog_6_method_14_code 20 = .ok (.getfield 21, 3) := by decide +kernel
theorem dc4_write_23 : decode prog_6_method_14_code 23 = .ok (.dup_x1, 1) := by decide +kernel
theorem dc4_write_24 : decode prog_6_method_14_code 24 = .ok (.iconst 1, 1) := by decide +kernel
theorem dc4_write_25 : decode prog_6_method_14_code 25 = .ok (.iadd, 1) := by decide +kernel
theorem dc4_write_26 : decode prog_6_method_14_code 26 = .ok (.putfield 21, 3) := by decide +kernel
theorem dc4_write_29 : decode prog_6_method_14_code 29 = .ok (.iload_n 1, 1) := by decide +kernel
theorem dc4_write_30 : decode prog_6_method_14_code 30 = .ok (.iastore, 1) := by decide +kernel
theorem dc4_write_31 : decode prog_6_method_14_code 31 = .ok (.iconst 1, 1) := by decide +kernel
theorem dc4_write_32 : decode prog_6_method_14_code 32 = .ok (.ireturn, 1) := by decide +kernel
theorem dc4_readSum_0 : decode prog_6_method_10_code 0 = .ok (.aload_n 0, 1) := by decide +kernel
theorem dc4_readSum_1 : decode prog_6_method_10_code 1 = .ok (.iload_n 1, 1) := by decide +kernel
theorem dc4_readSum_2 : decode prog_6_method_10_code 2 = .ok (.invokevirtual 82, 3) := by decide +kernel
theorem dc4_readSum_5 : decode prog_6_method_10_code 5 = .ok (.ifCond .ne 5, 3) := by decide +kernel
theorem dc4_readSum_8 : decode prog_6_method_10_code 8 = .ok (.iconst 0, 1) := by decide +kernel
theorem dc4_readSum_9 : decode prog_6_method_10_code 9 = .ok (.ireturn, 1) := by decide +kernel
theorem dc4_readSum_10 : decode prog_6_method_10_code 10 = .ok (.iconst 0, 1) := by decide +kernel
theorem dc4_readSum_11 : decode prog_6_method_10_code 11 = .ok (.istore_n 2, 1) := by decide +kernel
theorem dc4_readSum_12 : decode prog_6_method_10_code 12 = .ok (.iload_n 2, 1) := by decide +kernel
theorem dc4_readSum_13 : decode prog_6_method_10_code 13 = .ok (.sipush 240, 3) := by decide +kernel
theorem dc4_readSum_16 : decode prog_6_method_10_code 16 = .ok (.if_icmp .ge 64, 3) := by decide +kernel
theorem dc4_readSum_19 : decode prog_6_method_10_code 19 = .ok (.aload_n 0, 1) := by decide +kernel
theorem dc4_readSum_20 : decode prog_6_method_10_code 20 = .ok (.getfield 15, 3) := by decide +kernel
theorem dc4_readSum_23 : decode prog_6_method_10_code 23 = .ok (.invokevirtual 43, 3) := by decide +kernel
theorem dc4_readSum_26 : decode prog_6_method_10_code 26 = .ok (.istore_n 3, 1) := by decide +kernel
theorem dc4_readSum_27 : decode prog_6_method_10_code 27 = .ok (.iload_n 3, 1) := by decide +kernel
theorem dc4_readSum_28 : decode prog_6_method_10_code 28 = .ok (.bipush 43, 2) := by decide +kernel
theorem dc4_readSum_30 : decode prog_6_method_10_code 30 = .ok (.if_icmp .eq 12, 3) := by decide +kernel
theorem dc4_readSum_33 : decode prog_6_method_10_code 33 = .ok (.iload_n 3, 1) := by decide +kernel
theorem dc4_readSum_34 : decode prog_6_method_10_code 34 = .ok (.bipush 45, 2) := by decide +kernel
theorem dc4_readSum_36 : decode prog_6_method_10_code 36 = .ok (.if_icmp .eq 6, 3) := by decide +kernel
theorem dc4_readSum_39 : decode prog_6_method_10_code 39 = .ok (.goto 41, 3) := by decide +kernel
theorem dc4_readSum_42 : decode prog_6_method_10_code 42 = .ok (.aload_n 0, 1) := by decide +kernel
theorem dc4_readSum_43 : decode prog_6_method_10_code 43 = .ok (.getfield 15, 3) := by decide +kernel
theorem dc4_readSum_46 : decode prog_6_method_10_code 46 = .ok (.dup, 1) := by decide +kernel
theorem dc4_readSum_47 : decode prog_6_method_10_code 47 = .ok (.getfield 34, 3) := by decide +kernel
theorem dc4_readSum_50 : decode prog_6_method_10_code 50 = .ok (.iconst 1, 1) := by decide +kernel
theorem dc4_readSum_51 : decode prog_6_method_10_code 51 = .ok (.iadd, 1) := by decide +kernel
theorem dc4_readSum_52 : decode prog_6_method_10_code 52 = .ok (.putfield 34, 3) := by decide +kernel
theorem dc4_readSum_55 : decode prog_6_method_10_code 55 = .ok (.aload_n 0, 1) := by decide +kernel
theorem dc4_readSum_56 : decode prog_6_method_10_code 56 = .ok (.iload_n 1, 1) := by decide +kernel
theorem dc4_readSum_57 : decode prog_6_method_10_code 57 = .ok (.invokevirtual 82, 3) := by decide +kernel
theorem dc4_readSum_60 : decode prog_6_method_10_code 60 = .ok (.ifCond .eq 12, 3) := by decide +kernel
theorem dc4_readSum_63 : decode prog_6_method_10_code 63 = .ok (.aload_n 0, 1) := by decide +kernel
theorem dc4_readSum_64 : decode prog_6_method_10_code 64 = .ok (.iload_n 3, 1) := by decide +kernel
theorem dc4_readSum_65 : decode prog_6_method_10_code 65 = .ok (.ineg, 1) := by decide +kernel
theorem dc4_readSum_66 : decode prog_6_method_10_code 66 = .ok (.invokevirtual 57, 3) := by decide +kernel
theorem dc4_readSum_69 : decode prog_6_method_10_code 69 = .ok (.ifCond .ne 5, 3) := by decide +kernel
theorem dc4_readSum_72 : decode prog_6_method_10_code 72 = .ok (.iconst 0, 1) := by decide +kernel
theorem dc4_readSum_73 : decode prog_6_method_10_code 73 = .ok (.ireturn, 1) := by decide +kernel
theorem dc4_readSum_74 : decode prog_6_method_10_code 74 = .ok (.iinc 2 1, 3) := by decide +kernel
theorem dc4_readSum_77 : decode prog_6_method_10_code 77 = .ok (.goto (-65), 3) := by decide +kernel
theorem dc4_readSum_80 : decode prog_6_method_10_code 80 = .ok (.iconst 1, 1) := by decide +kernel
theorem dc4_readSum_81 : decode prog_6_method_10_code 81 = .ok (.ireturn, 1) := by decide +kernel
theorem dc4_readTerm_0 : decode prog_6_method_11_code 0 = .ok (.aload_n 0, 1) := by decide +kernel
theorem dc4_readTerm_1 : decode prog_6_method_11_code 1 = .ok (.iload_n 1, 1) := by decide +kernel
theorem dc4_readTerm_2 : decode prog_6_method_11_code 2 = .ok (.invokevirtual 85, 3) := by decide +kernel
theorem dc4_readTerm_5 : decode prog_6_method_11_code 5 = .ok (.ifCond .ne 5, 3) := by decide +kernel
theorem dc4_readTerm_8 : decode prog_6_method_11_code 8 = .ok (.iconst 0, 1) := by decide +kernel
theorem dc4_readTerm_9 : decode prog_6_method_11_code 9 = .ok (.ireturn, 1) := by decide +kernel
theorem dc4_readTerm_10 : decode prog_6_method_11_code 10 = .ok (.iconst 0, 1) := by decide +kernel
theorem dc4_readTerm_11 : decode prog_6_method_11_code 11 = .ok (.istore_n 2, 1) := by decide +kernel
theorem dc4_readTerm_12 : decode prog_6_method_11_code 12 = .ok (.iload_n 2, 1) := by decide +kernel
theorem dc4_readTerm_13 : decode prog_6_method_11_code 13 = .ok (.sipush 240, 3) := by decide +kernel
theorem dc4_readTerm_16 : decode prog_6_method_11_code 16 = .ok (.if_icmp .ge 64, 3) := by decide +kernel
theorem dc4_readTerm_19 : decode prog_6_method_11_code 19 = .ok (.aload_n 0, 1) := by decide +kernel
theorem dc4_readTerm_20 : decode prog_6_method_11_code 20 = .ok (.getfield 15, 3) := by decide +kernel
theorem dc4_readTerm_23 : decode prog_6_method_11_code 23 = .ok (.invokevirtual 43, 3) := by decide +kernel
theorem dc4_readTerm_26 : decode prog_6_method_11_code 26 = .ok (.istore_n 3, 1) := by decide +kernel
theorem dc4_readTerm_27 : decode prog_6_method_11_code 27 = .ok (.iload_n 3, 1) := by decide +kernel
theorem dc4_readTerm_28 : decode prog_6_method_11_code 28 = .ok (.bipush 42, 2) := by decide +kernel
theorem dc4_readTerm_30 : decode prog_6_method_11_code 30 = .ok (.if_icmp .eq 12, 3) := by decide +kernel
theorem dc4_readTerm_33 : decode prog_6_method_11_code 33 = .ok (.iload_n 3, 1) := by decide +kernel
theorem dc4_readTerm_34 : decode prog_6_method_11_code 34 = .ok (.bipush 47, 2) := by decide +kernel
theorem dc4_readTerm_36 : decode prog_6_method_11_code 36 = .ok (.if_icmp .eq 6, 3) := by decide +kernel
theorem dc4_readTerm_39 : decode prog_6_method_11_code 39 = .ok (.goto 41, 3) := by decide +kernel
theorem dc4_readTerm_42 : decode prog_6_method_11_code 42 = .ok (.aload_n 0, 1) := by decide +kernel
theorem dc4_readTerm_43 : decode prog_6_method_11_code 43 = .ok (.getfield 15, 3) := by decide +kernel
theorem dc4_readTerm_46 : decode prog_6_method_11_code 46 = .ok (.dup, 1) := by decide +kernel
theorem dc4_readTerm_47 : decode prog_6_method_11_code 47 = .ok (.getfield 34, 3) := by decide +kernel
theorem dc4_readTerm_50 : decode prog_6_method_11_code 50 = .ok (.iconst 1, 1) := by decide +kernel
theorem dc4_readTerm_51 : decode prog_6_method_11_code 51 = .ok (.iadd, 1) := by decide +kernel
theorem dc4_readTerm_52 : decode prog_6_method_11_code 52 = .ok (.putfield 34, 3) := by decide +kernel
theorem dc4_readTerm_55 : decode prog_6_method_11_code 55 = .ok (.aload_n 0, 1) := by decide +kernel
theorem dc4_readTerm_56 : decode prog_6_method_11_code 56 = .ok (.iload_n 1, 1) := by decide +kernel
theorem dc4_readTerm_57 : decode prog_6_method_11_code 57 = .ok (.invokevirtual 85, 3) := by decide +kernel
theorem dc4_readTerm_60 : decode prog_6_method_11_code 60 = .ok (.ifCond .eq 12, 3) := by decide +kernel
theorem dc4_readTerm_63 : decode prog_6_method_11_code 63 = .ok (.aload_n 0, 1) := by decide +kernel
theorem dc4_readTerm_64 : decode prog_6_method_11_code 64 = .ok (.iload_n 3, 1) := by decide +kernel
theorem dc4_readTerm_65 : decode prog_6_method_11_code 65 = .ok (.ineg, 1) := by decide +kernel
theorem dc4_readTerm_66 : decode prog_6_method_11_code 66 = .ok (.invokevirtual 57, 3) := by decide +kernel
theorem dc4_readTerm_69 : decode prog_6_method_11_code 69 = .ok (.ifCond .ne 5, 3) := by decide +kernel
theorem dc4_readTerm_72 : decode prog_6_method_11_code 72 = .ok (.iconst 0, 1) := by decide +kernel
theorem dc4_readTerm_73 : decode prog_6_method_11_code 73 = .ok (.ireturn, 1) := by decide +kernel
theorem dc4_readTerm_74 : decode prog_6_method_11_code 74 = .ok (.iinc 2 1, 3) := by decide +kernel
theorem dc4_readTerm_77 : decode prog_6_method_11_code 77 = .ok (.goto (-65), 3) := by decide +kernel
theorem dc4_readTerm_80 : decode prog_6_method_11_code 80 = .ok (.iconst 1, 1) := by decide +kernel
theorem dc4_readTerm_81 : decode prog_6_method_11_code 81 = .ok (.ireturn, 1) := by decide +kernel
theorem dc4_readAtom_0 : decode prog_6_method_12_code 0 = .ok (.aload_n 0, 1) := by decide +kernel
theorem dc4_readAtom_1 : decode prog_6_method_12_code 1 = .ok (.getfield 15, 3) := by decide +kernel
theorem dc4_readAtom_4 : decode prog_6_method_12_code 4 = .ok (.invokevirtual 43, 3) := by decide +kernel
theorem dc4_readAtom_7 : decode prog_6_method_12_code 7 = .ok (.istore_n 2, 1) := by decide +kernel
theorem dc4_readAtom_8 : decode prog_6_method_12_code 8 = .ok (.iload_n 2, 1) := by decide +kernel
theorem dc4_readAtom_9 : decode prog_6_method_12_code 9 = .ok (.bipush 91, 2) := by decide +kernel
theorem dc4_readAtom_11 : decode prog_6_method_12_code 11 = .ok (.if_icmp .ne 39, 3) := by decide +kernel
theorem dc4_readAtom_14 : decode prog_6_method_12_code 14 = .ok (.aload_n 0, 1) := by decide +kernel
theorem dc4_readAtom_15 : decode prog_6_method_12_code 15 = .ok (.iload_n 1, 1) := by decide +kernel
theorem dc4_readAtom_16 : decode prog_6_method_12_code 16 = .ok (.invokevirtual 79, 3) := by decide +kernel
theorem dc4_readAtom_19 : decode prog_6_method_12_code 19 = .ok (.ifCond .eq 29, 3) := by decide +kernel
theorem dc4_readAtom_22 : decode prog_6_method_12_code 22 = .ok (.aload_n 0, 1) := by decide +kernel
theorem dc4_readAtom_23 : decode prog_6_method_12_code 23 = .ok (.iload_n 1, 1) := by decide +kernel
theorem dc4_readAtom_24 : decode prog_6_method_12_code 24 = .ok (.iconst 1, 1) := by decide +kernel
theorem dc4_readAtom_25 : decode prog_6_method_12_code 25 = .ok (.iadd, 1) := by decide +kernel
theorem dc4_readAtom_26 : decode prog_6_method_12_code 26 = .ok (.invokevirtual 60, 3) := by decide +kernel
theorem dc4_readAtom_29 : decode prog_6_method_12_code 29 = .ok (.ifCond .eq 19, 3) := by decide +kernel
theorem dc4_readAtom_32 : decode prog_6_method_12_code 32 = .ok (.aload_n 0, 1) := by decide +kernel
theorem dc4_readAtom_33 : decode prog_6_method_12_code 33 = .ok (.getfield 15, 3) := by decide +kernel
theorem dc4_readAtom_36 : decode prog_6_method_12_code 36 = .ok (.bipush 93, 2) := by decide +kernel
theorem dc4_readAtom_38 : decode prog_6_method_12_code 38 = .ok (.invokevirtual 47, 3) := by decide +kernel
theorem dc4_readAtom_41 : decode prog_6_method_12_code 41 = .ok (.ifCond .eq 7, 3) := by decide +kernel
theorem dc4_readAtom_44 : decode prog_6_method_12_code 44 = .ok (.iconst 1, 1) := by decide +kernel
theorem dc4_readAtom_45 : decode prog_6_method_12_code 45 = .ok (.goto 4, 3) := by decide +kernel
theorem dc4_readAtom_48 : decode prog_6_method_12_code 48 = .ok (.iconst 0, 1) := by decide +kernel
theorem dc4_readAtom_49 : decode prog_6_method_12_code 49 = .ok (.ireturn, 1) := by decide +kernel
theorem dc4_readAtom_50 : decode prog_6_method_12_code 50 = .ok (.ldc 88, 2) := by decide +kernel
theorem dc4_readAtom_52 : decode prog_6_method_12_code 52 = .ok (.iload_n 2, 1) := by decide +kernel
theorem dc4_readAtom_53 : decode prog_6_method_12_code 53 = .ok (.i2c, 1) := by decide +kernel
theorem dc4_readAtom_54 : decode prog_6_method_12_code 54 = .ok (.invokevirtual 90, 3) := by decide +kernel
theorem dc4_readAtom_57 : decode prog_6_method_12_code 57 = .ok (.istore_n 3, 1) := by decide +kernel
theorem dc4_readAtom_58 : decode prog_6_method_12_code 58 = .ok (.iload_n 3, 1) := by decide +kernel
theorem dc4_readAtom_59 : decode prog_6_method_12_code 59 = .ok (.ifCond .lt 24, 3) := by decide +kernel
theorem dc4_readAtom_62 : decode prog_6_method_12_code 62 = .ok (.aload_n 0, 1) := by decide +kernel
theorem dc4_readAtom_63 : decode prog_6_method_12_code 63 = .ok (.getfield 15, 3) := by decide +kernel
theorem dc4_readAtom_66 : decode prog_6_method_12_code 66 = .ok (.dup, 1) := by decide +kernel
theorem dc4_readAtom_67 : decode prog_6_method_12_code 67 = .ok (.getfield 34, 3) := by decide +kernel
theorem dc4_readAtom_70 : decode prog_6_method_12_code 70 = .ok (.iconst 1, 1) := by decide +kernel
theorem dc4_readAtom_71 : decode prog_6_method_12_code 71 = .ok (.iadd, 1) := by decide +kernel
theorem dc4_readAtom_72 : decode prog_6_method_12_code 72 = .ok (.putfield 34, 3) := by decide +kernel
theorem dc4_readAtom_75 : decode prog_6_method_12_code 75 = .ok (.aload_n 0, 1) := by decide +kernel
theorem dc4_readAtom_76 : decode prog_6_method_12_code 76 = .ok (.iconst (-1), 1) := by decide +kernel
theorem dc4_readAtom_77 : decode prog_6_method_12_code 77 = .ok (.iload_n 3, 1) := by decide +kernel
theorem dc4_readAtom_78 : decode prog_6_method_12_code 78 = .ok (.isub, 1) := by decide +kernel
theorem dc4_readAtom_79 : decode prog_6_method_12_code 79 = .ok (.invokevirtual 57, 3) := by decide +kernel
theorem dc4_readAtom_82 : decode prog_6_method_12_code 82 = .ok (.ireturn, 1) := by decide +kernel
theorem dc4_readAtom_83 : decode prog_6_method_12_code 83 = .ok (.aload_n 0, 1) := by decide +kernel
theorem dc4_readAtom_84 : decode prog_6_method_12_code 84 = .ok (.getfield 15, 3) := by decide +kernel
theorem dc4_readAtom_87 : decode prog_6_method_12_code 87 = .ok (.iconst 4, 1) := by decide +kernel
theorem dc4_readAtom_88 : decode prog_6_method_12_code 88 = .ok (.invokevirtual 95, 3) := by decide +kernel
theorem dc4_readAtom_91 : decode prog_6_method_12_code 91 = .ok (.istore 4, 2) := by decide +kernel
theorem dc4_readAtom_93 : decode prog_6_method_12_code 93 = .ok (.iload 4, 2) := by decide +kernel
theorem dc4_readAtom_95 : decode prog_6_method_12_code 95 = .ok (.iconst (-1), 1) := by decide +kernel
theorem dc4_readAtom_96 : decode prog_6_method_12_code 96 = .ok (.if_icmp .eq 16, 3) := by decide +kernel
theorem dc4_readAtom_99 : decode prog_6_method_12_code 99 = .ok (.aload_n 0, 1) := by decide +kernel
theorem dc4_readAtom_100 : decode prog_6_method_12_code 100 = .ok (.iload 4, 2) := by decide +kernel
theorem dc4_readAtom_102 : decode prog_6_method_12_code 102 = .ok (.invokevirtual 57, 3) := by decide +kernel
theorem dc4_readAtom_105 : decode prog_6_method_12_code 105 = .ok (.ifCond .eq 7, 3) := by decide +kernel
theorem dc4_readAtom_108 : decode prog_6_method_12_code 108 = .ok (.iconst 1, 1) := by decide +kernel
theorem dc4_readAtom_109 : decode prog_6_method_12_code 109 = .ok (.goto 4, 3) := by decide +kernel
theorem dc4_readAtom_112 : decode prog_6_method_12_code 112 = .ok (.iconst 0, 1) := by decide +kernel
theorem dc4_readAtom_113 : decode prog_6_method_12_code 113 = .ok (.ireturn, 1) := by decide +kernel
theorem dc8_read_0 : decode prog_10_method_3_code 0 = .ok (.aload_n 0, 1) := by decide +kernel
theorem dc8_read_1 : decode prog_10_method_3_code 1 = .ok (.getfield 23, 3) := by decide +kernel
theorem dc8_read_4 : decode prog_10_method_3_code 4 = .ok (.iconst 0, 1) := by decide +kernel
theorem dc8_read_5 : decode prog_10_method_3_code 5 = .ok (.putfield 34, 3) := by decide +kernel
theorem dc8_read_8 : decode prog_10_method_3_code 8 = .ok (.iconst 0, 1) := by decide +kernel
theorem dc8_read_9 : decode prog_10_method_3_code 9 = .ok (.istore_n 1, 1) := by decide +kernel
theorem dc8_read_10 : decode prog_10_method_3_code 10 = .ok (.iload_n 1, 1) := by decide +kernel
theorem dc8_read_11 : decode prog_10_method_3_code 11 = .ok (.bipush 16, 2) := by decide +kernel
theorem dc8_read_13 : decode prog_10_method_3_code 13 = .ok (.if_icmp .ge 54, 3) := by decide +kernel
theorem dc8_read_16 : decode prog_10_method_3_code 16 = .ok (.iload_n 1, 1) := by decide +kernel
theorem dc8_read_17 : decode prog_10_method_3_code 17 = .ok (.ifCond .le 15, 3) := by decide +kernel
theorem dc8_read_20 : decode prog_10_method_3_code 20 = .ok (.aload_n 0, 1) := by decide +kernel
theorem dc8_read_21 : decode prog_10_method_3_code 21 = .ok (.getfield 23, 3) := by decide +kernel
theorem dc8_read_24 : decode prog_10_method_3_code 24 = .ok (.bipush 59, 2) := by decide +kernel
theorem dc8_read_26 : decode prog_10_method_3_code 26 = .ok (.invokevirtual 39, 3) := by decide +kernel
theorem dc8_read_29 : decode prog_10_method_3_code 29 = .ok (.ifCond .eq 11, 3) := by decide +kernel
theorem dc8_read_32 : decode prog_10_method_3_code 32 = .ok (.aload_n 0, 1) := by decide +kernel
theorem dc8_read_33 : decode prog_10_method_3_code 33 = .ok (.iload_n 1, 1) := by decide +kernel
theorem dc8_read_34 : decode prog_10_method_3_code 34 = .ok (.invokevirtual 43, 3) := by decide +kernel
theorem dc8_read_37 : decode prog_10_method_3_code 37 = .ok (.ifCond .ne 5, 3) := by decide +kernel
theorem dc8_read_40 : decode prog_10_method_3_code 40 = .ok (.iconst 0, 1) := by decide +kernel
theorem dc8_read_41 : decode prog_10_method_3_code 41 = .ok (.ireturn, 1) := by decide +kernel
theorem dc8_read_42 : decode prog_10_method_3_code 42 = .ok (.aload_n 0, 1) := by decide +kernel
theorem dc8_read_43 : decode prog_10_method_3_code 43 = .ok (.getfield 23, 3) := by decide +kernel
theorem dc8_read_46 : decode prog_10_method_3_code 46 = .ok (.invokevirtual 46, 3) := by decide +kernel
theorem dc8_read_49 : decode prog_10_method_3_code 49 = .ok (.ifCond .ne 12, 3) := by decide +kernel
theorem dc8_read_52 : decode prog_10_method_3_code 52 = .ok (.aload_n 0, 1) := by decide +kernel
theorem dc8_read_53 : decode prog_10_method_3_code 53 = .ok (.iload_n 1, 1) := by decide +kernel
theorem dc8_read_54 : decode prog_10_method_3_code 54 = .ok (.iconst 1, 1) := by decide +kernel
theorem dc8_read_55 : decode prog_10_method_3_code 55 = .ok (.iadd, 1) := by decide +kernel
theorem dc8_read_56 : decode prog_10_method_3_code 56 = .ok (.putfield 27, 3) := by decide +kernel
theorem dc8_read_59 : decode prog_10_method_3_code 59 = .ok (.iconst 1, 1) := by decide +kernel
theorem dc8_read_60 : decode prog_10_method_3_code 60 = .ok (.ireturn, 1) := by decide +kernel
theorem dc8_read_61 : decode prog_10_method_3_code 61 = .ok (.iinc 1 1, 3) := by decide +kernel
theorem dc8_read_64 : decode prog_10_method_3_code 64 = .ok (.goto (-54), 3) := by decide +kernel
theorem dc8_read_67 : decode prog_10_method_3_code 67 = .ok (.iconst 0, 1) := by decide +kernel
theorem dc8_read_68 : decode prog_10_method_3_code 68 = .ok (.ireturn, 1) := by decide +kernel
theorem dc8_readStep_0 : decode prog_10_method_4_code 0 = .ok (.aload_n 0, 1) := by decide +kernel
theorem dc8_readStep_1 : decode prog_10_method_4_code 1 = .ok (.getfield 11, 3) := by decide +kernel
theorem dc8_readStep_4 : decode prog_10_method_4_code 4 = .ok (.iload_n 1, 1) := by decide +kernel
theorem dc8_readStep_5 : decode prog_10_method_4_code 5 = .ok (.ldc 50, 2) := by decide +kernel
theorem dc8_readStep_7 : decode prog_10_method_4_code 7 = .ok (.aload_n 0, 1) := by decide +kernel
theorem dc8_readStep_8 : decode prog_10_method_4_code 8 = .ok (.getfield 23, 3) := by decide +kernel
theorem dc8_readStep_11 : decode prog_10_method_4_code 11 = .ok (.invokevirtual 46, 3) := by decide +kernel
theorem dc8_readStep_14 : decode prog_10_method_4_code 14 = .ok (.i2c, 1) := by decide +kernel
theorem dc8_readStep_15 : decode prog_10_method_4_code 15 = .ok (.invokevirtual 52, 3) := by decide +kernel
theorem dc8_readStep_18 : decode prog_10_method_4_code 18 = .ok (.iastore, 1) := by decide +kernel
theorem dc8_readStep_19 : decode prog_10_method_4_code 19 = .ok (.aload_n 0, 1) := by decide +kernel
theorem dc8_readStep_20 : decode prog_10_method_4_code 20 = .ok (.getfield 11, 3) := by decide +kernel
theorem dc8_readStep_23 : decode prog_10_method_4_code 23 = .ok (.iload_n 1, 1) := by decide +kernel
theorem dc8_readStep_24 : decode prog_10_method_4_code 24 = .ok (.iaload, 1) := by decide +kernel
theorem dc8_readStep_25 : decode prog_10_method_4_code 25 = .ok (.ifCond .ge 5, 3) := by decide +kernel
theorem dc8_readStep_28 : decode prog_10_method_4_code 28 = .ok (.iconst 0, 1) := by decide +kernel
theorem dc8_readStep_29 : decode prog_10_method_4_code 29 = .ok (.ireturn, 1) := by decide +kernel
theorem dc8_readStep_30 : decode prog_10_method_4_code 30 = .ok (.aload_n 0, 1) := by decide +kernel
theorem dc8_readStep_31 : decode prog_10_method_4_code 31 = .ok (.getfield 23, 3) := by decide +kernel
theorem dc8_readStep_34 : decode prog_10_method_4_code 34 = .ok (.dup, 1) := by decide +kernel
theorem dc8_readStep_35 : decode prog_10_method_4_code 35 = .ok (.getfield 34, 3) := by decide +kernel
theorem dc8_readStep_38 : decode prog_10_method_4_code 38 = .ok (.iconst 1, 1) := by decide +kernel
theorem dc8_readStep_39 : decode prog_10_method_4_code 39 = .ok (.iadd, 1) := by decide +kernel
theorem dc8_readStep_40 : decode prog_10_method_4_code 40 = .ok (.putfield 34, 3) := by decide +kernel
theorem dc8_readStep_43 : decode prog_10_method_4_code 43 = .ok (.aload_n 0, 1) := by decide +kernel
theorem dc8_readStep_44 : decode prog_10_method_4_code 44 = .ok (.getfield 17, 3) := by decide +kernel
theorem dc8_readStep_47 : decode prog_10_method_4_code 47 = .ok (.iload_n 1, 1) := by decide +kernel
theorem dc8_readStep_48 : decode prog_10_method_4_code 48 = .ok (.aload_n 0, 1) := by decide +kernel
theorem dc8_readStep_49 : decode prog_10_method_4_code 49 = .ok (.invokevirtual 58, 3) := by decide +kernel
theorem dc8_readStep_52 : decode prog_10_method_4_code 52 = .ok (.iastore, 1) := by decide +kernel
theorem dc8_readStep_53 : decode prog_10_method_4_code 53 = .ok (.aload_n 0, 1) := by decide +kernel
theorem dc8_readStep_54 : decode prog_10_method_4_code 54 = .ok (.getfield 20, 3) := by decide +kernel
theorem dc8_readStep_57 : decode prog_10_method_4_code 57 = .ok (.iload_n 1, 1) := by decide +kernel
theorem dc8_readStep_58 : decode prog_10_method_4_code 58 = .ok (.iconst (-1), 1) := by decide +kernel
theorem dc8_readStep_59 : decode prog_10_method_4_code 59 = .ok (.iastore, 1) := by decide +kernel
theorem dc8_readStep_60 : decode prog_10_method_4_code 60 = .ok (.aload_n 0, 1) := by decide +kernel
theorem dc8_readStep_61 : decode prog_10_method_4_code 61 = .ok (.getfield 17, 3) := by decide +kernel
theorem dc8_readStep_64 : decode prog_10_method_4_code 64 = .ok (.iload_n 1, 1) := by decide +kernel
theorem dc8_readStep_65 : decode prog_10_method_4_code 65 = .ok (.iaload, 1) := by decide +kernel
theorem dc8_readStep_66 : decode prog_10_method_4_code 66 = .ok (.iconst (-1), 1) := by decide +kernel
theorem dc8_readStep_67 : decode prog_10_method_4_code 67 = .ok (.if_icmp .eq 13, 3) := by decide +kernel
theorem dc8_readStep_70 : decode prog_10_method_4_code 70 = .ok (.aload_n 0, 1) := by decide +kernel
theorem dc8_readStep_71 : decode prog_10_method_4_code 71 = .ok (.getfield 11, 3) := by decide +kernel
theorem dc8_readStep_74 : decode prog_10_method_4_code 74 = .ok (.iload_n 1, 1) := by decide +kernel
theorem dc8_readStep_75 : decode prog_10_method_4_code 75 = .ok (.iaload, 1) := by decide +kernel
theorem dc8_readStep_76 : decode prog_10_method_4_code 76 = .ok (.iconst 1, 1) := by decide +kernel
theorem dc8_readStep_77 : decode prog_10_method_4_code 77 = .ok (.if_icmp .le 19, 3) := by decide +kernel
theorem dc8_readStep_80 : decode prog_10_method_4_code 80 = .ok (.aload_n 0, 1) := by decide +kernel
theorem dc8_readStep_81 : decode prog_10_method_4_code 81 = .ok (.getfield 17, 3) := by decide +kernel
theorem dc8_readStep_84 : decode prog_10_method_4_code 84 = .ok (.iload_n 1, 1) := by decide +kernel
theorem dc8_readStep_85 : decode prog_10_method_4_code 85 = .ok (.iaload, 1) := by decide +kernel
theorem dc8_readStep_86 : decode prog_10_method_4_code 86 = .ok (.iconst (-1), 1) := by decide +kernel
theorem dc8_readStep_87 : decode prog_10_method_4_code 87 = .ok (.if_icmp .eq 7, 3) := by decide +kernel
theorem dc8_readStep_90 : decode prog_10_method_4_code 90 = .ok (.iconst 1, 1) := by decide +kernel
theorem dc8_readStep_91 : decode prog_10_method_4_code 91 = .ok (.goto 4, 3) := by decide +kernel
theorem dc8_readStep_94 : decode prog_10_method_4_code 94 = .ok (.iconst 0, 1) := by decide +kernel
theorem dc8_readStep_95 : decode prog_10_method_4_code 95 = .ok (.ireturn, 1) := by decide +kernel
theorem dc8_readStep_96 : decode prog_10_method_4_code 96 = .ok (.aload_n 0, 1) := by decide +kernel
theorem dc8_readStep_97 : decode prog_10_method_4_code 97 = .ok (.invokevirtual 58, 3) := by decide +kernel
theorem dc8_readStep_100 : decode prog_10_method_4_code 100 = .ok (.istore_n 2, 1) := by decide +kernel
theorem dc8_readStep_101 : decode prog_10_method_4_code 101 = .ok (.aload_n 0, 1) := by decide +kernel
theorem dc8_readStep_102 : decode prog_10_method_4_code 102 = .ok (.getfield 11, 3) := by decide +kernel
theorem dc8_readStep_105 : decode prog_10_method_4_code 105 = .ok (.iload_n 1, 1) := by decide +kernel
theorem dc8_readStep_106 : decode prog_10_method_4_code 106 = .ok (.iaload, 1) := by decide +kernel
theorem dc8_readStep_107 : decode prog_10_method_4_code 107 = .ok (.ifCond .ne 23, 3) := by decide +kernel
theorem dc8_readStep_110 : decode prog_10_method_4_code 110 = .ok (.aload_n 0, 1) := by decide +kernel
theorem dc8_readStep_111 : decode prog_10_method_4_code 111 = .ok (.getfield 17, 3) := by decide +kernel
theorem dc8_readStep_114 : decode prog_10_method_4_code 114 = .ok (.iload_n 1, 1) := by decide +kernel
theorem dc8_readStep_115 : decode prog_10_method_4_code 115 = .ok (.bipush 10, 2) := by decide +kernel
theorem dc8_readStep_117 : decode prog_10_method_4_code 117 = .ok (.aload_n 0, 1) := by decide +kernel
theorem dc8_readStep_118 : decode prog_10_method_4_code 118 = .ok (.getfield 17, 3) := by decide +kernel
theorem dc8_readStep_121 : decode prog_10_method_4_code 121 = .ok (.iload_n 1, 1) := by decide +kernel
theorem dc8_readStep_122 : decode prog_10_method_4_code 122 = .ok (.iaload, 1) := by decide +kernel
