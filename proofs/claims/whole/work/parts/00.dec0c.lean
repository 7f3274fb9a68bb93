theorem dc5_restore_11 : decode prog_7_method_3_code 11 = .ok (.getfield 25, 3) := by decide +kernel
theorem dc5_restore_14 : decode prog_7_method_3_code 14 = .ok (.bipush 40, 2) := by decide +kernel
theorem dc5_restore_16 : decode prog_7_method_3_code 16 = .ok (.iadd, 1) := by decide +kernel
theorem dc5_restore_17 : decode prog_7_method_3_code 17 = .ok (.iconst 1, 1) := by decide +kernel
theorem dc5_restore_18 : decode prog_7_method_3_code 18 = .ok (.isub, 1) := by decide +kernel
theorem dc5_restore_19 : decode prog_7_method_3_code 19 = .ok (.bipush 40, 2) := by decide +kernel
theorem dc5_restore_21 : decode prog_7_method_3_code 21 = .ok (.irem, 1) := by decide +kernel
theorem dc5_restore_22 : decode prog_7_method_3_code 22 = .ok (.putfield 25, 3) := by decide +kernel
theorem dc5_restore_25 : decode prog_7_method_3_code 25 = .ok (.aload_n 0, 1) := by decide +kernel
theorem dc5_restore_26 : decode prog_7_method_3_code 26 = .ok (.dup, 1) := by decide +kernel
theorem dc5_restore_27 : decode prog_7_method_3_code 27 = .ok (.getfield 33, 3) := by decide +kernel
theorem dc5_restore_30 : decode prog_7_method_3_code 30 = .ok (.iconst 1, 1) := by decide +kernel
theorem dc5_restore_31 : decode prog_7_method_3_code 31 = .ok (.isub, 1) := by decide +kernel
theorem dc5_restore_32 : decode prog_7_method_3_code 32 = .ok (.putfield 33, 3) := by decide +kernel
theorem dc5_restore_35 : decode prog_7_method_3_code 35 = .ok (.aload_n 1, 1) := by decide +kernel
theorem dc5_restore_36 : decode prog_7_method_3_code 36 = .ok (.aload_n 0, 1) := by decide +kernel
theorem dc5_restore_37 : decode prog_7_method_3_code 37 = .ok (.getfield 11, 3) := by decide +kernel
theorem dc5_restore_40 : decode prog_7_method_3_code 40 = .ok (.aload_n 0, 1) := by decide +kernel
theorem dc5_restore_41 : decode prog_7_method_3_code 41 = .ok (.getfield 25, 3) := by decide +kernel
theorem dc5_restore_44 : decode prog_7_method_3_code 44 = .ok (.bipush 26, 2) := by decide +kernel
theorem dc5_restore_46 : decode prog_7_method_3_code 46 = .ok (.imul, 1) := by decide +kernel
theorem dc5_restore_47 : decode prog_7_method_3_code 47 = .ok (.invokevirtual 42, 3) := by decide +kernel
theorem dc5_restore_50 : decode prog_7_method_3_code 50 = .ok (.iconst 1, 1) := by decide +kernel
theorem dc5_restore_51 : decode prog_7_method_3_code 51 = .ok (.ireturn, 1) := by decide +kernel
theorem dc2_readFrom_0 : decode prog_4_method_4_code 0 = .ok (.iload_n 2, 1) := by decide +kernel
theorem dc2_readFrom_1 : decode prog_4_method_4_code 1 = .ok (.ifCond .lt 12, 3) := by decide +kernel
theorem dc2_readFrom_4 : decode prog_4_method_4_code 4 = .ok (.iload_n 2, 1) := by decide +kernel
theorem dc2_readFrom_5 : decode prog_4_method_4_code 5 = .ok (.aload_n 1, 1) := by decide +kernel
theorem dc2_readFrom_6 : decode prog_4_method_4_code 6 = .ok (.arraylength, 1) := by decide +kernel
theorem dc2_readFrom_7 : decode prog_4_method_4_code 7 = .ok (.bipush 26, 2) := by decide +kernel
theorem dc2_readFrom_9 : decode prog_4_method_4_code 9 = .ok (.isub, 1) := by decide +kernel
theorem dc2_readFrom_10 : decode prog_4_method_4_code 10 = .ok (.if_icmp .le 4, 3) := by decide +kernel
theorem dc2_readFrom_13 : decode prog_4_method_4_code 13 = .ok (.return_, 1) := by decide +kernel
theorem dc2_readFrom_14 : decode prog_4_method_4_code 14 = .ok (.aload_n 1, 1) := by decide +kernel
theorem dc2_readFrom_15 : decode prog_4_method_4_code 15 = .ok (.iload_n 2, 1) := by decide +kernel
theorem dc2_readFrom_16 : decode prog_4_method_4_code 16 = .ok (.aload_n 0, 1) := by decide +kernel
theorem dc2_readFrom_17 : decode prog_4_method_4_code 17 = .ok (.getfield 9, 3) := by decide +kernel
theorem dc2_readFrom_20 : decode prog_4_method_4_code 20 = .ok (.iconst 0, 1) := by decide +kernel
theorem dc2_readFrom_21 : decode prog_4_method_4_code 21 = .ok (.bipush 6, 2) := by decide +kernel
theorem dc2_readFrom_23 : decode prog_4_method_4_code 23 = .ok (.invokestatic 27, 3) := by decide +kernel
theorem dc2_readFrom_26 : decode prog_4_method_4_code 26 = .ok (.aload_n 1, 1) := by decide +kernel
theorem dc2_readFrom_27 : decode prog_4_method_4_code 27 = .ok (.iload_n 2, 1) := by decide +kernel
theorem dc2_readFrom_28 : decode prog_4_method_4_code 28 = .ok (.bipush 6, 2) := by decide +kernel
theorem dc2_readFrom_30 : decode prog_4_method_4_code 30 = .ok (.iadd, 1) := by decide +kernel
theorem dc2_readFrom_31 : decode prog_4_method_4_code 31 = .ok (.aload_n 0, 1) := by decide +kernel
theorem dc2_readFrom_32 : decode prog_4_method_4_code 32 = .ok (.getfield 15, 3) := by decide +kernel
theorem dc2_readFrom_35 : decode prog_4_method_4_code 35 = .ok (.iconst 0, 1) := by decide +kernel
theorem dc2_readFrom_36 : decode prog_4_method_4_code 36 = .ok (.bipush 6, 2) := by decide +kernel
theorem dc2_readFrom_38 : decode prog_4_method_4_code 38 = .ok (.invokestatic 27, 3) := by decide +kernel
theorem dc2_readFrom_41 : decode prog_4_method_4_code 41 = .ok (.aload_n 1, 1) := by decide +kernel
theorem dc2_readFrom_42 : decode prog_4_method_4_code 42 = .ok (.iload_n 2, 1) := by decide +kernel
theorem dc2_readFrom_43 : decode prog_4_method_4_code 43 = .ok (.bipush 12, 2) := by decide +kernel
theorem dc2_readFrom_45 : decode prog_4_method_4_code 45 = .ok (.iadd, 1) := by decide +kernel
theorem dc2_readFrom_46 : decode prog_4_method_4_code 46 = .ok (.aload_n 0, 1) := by decide +kernel
theorem dc2_readFrom_47 : decode prog_4_method_4_code 47 = .ok (.getfield 18, 3) := by decide +kernel
theorem dc2_readFrom_50 : decode prog_4_method_4_code 50 = .ok (.iconst 0, 1) := by decide +kernel
theorem dc2_readFrom_51 : decode prog_4_method_4_code 51 = .ok (.bipush 6, 2) := by decide +kernel
theorem dc2_readFrom_53 : decode prog_4_method_4_code 53 = .ok (.invokestatic 27, 3) := by decide +kernel
theorem dc2_readFrom_56 : decode prog_4_method_4_code 56 = .ok (.aload_n 1, 1) := by decide +kernel
theorem dc2_readFrom_57 : decode prog_4_method_4_code 57 = .ok (.iload_n 2, 1) := by decide +kernel
theorem dc2_readFrom_58 : decode prog_4_method_4_code 58 = .ok (.bipush 18, 2) := by decide +kernel
theorem dc2_readFrom_60 : decode prog_4_method_4_code 60 = .ok (.iadd, 1) := by decide +kernel
theorem dc2_readFrom_61 : decode prog_4_method_4_code 61 = .ok (.aload_n 0, 1) := by decide +kernel
theorem dc2_readFrom_62 : decode prog_4_method_4_code 62 = .ok (.getfield 24, 3) := by decide +kernel
theorem dc2_readFrom_65 : decode prog_4_method_4_code 65 = .ok (.iconst 0, 1) := by decide +kernel
theorem dc2_readFrom_66 : decode prog_4_method_4_code 66 = .ok (.bipush 6, 2) := by decide +kernel
theorem dc2_readFrom_68 : decode prog_4_method_4_code 68 = .ok (.invokestatic 27, 3) := by decide +kernel
theorem dc2_readFrom_71 : decode prog_4_method_4_code 71 = .ok (.aload_n 0, 1) := by decide +kernel
theorem dc2_readFrom_72 : decode prog_4_method_4_code 72 = .ok (.aload_n 1, 1) := by decide +kernel
theorem dc2_readFrom_73 : decode prog_4_method_4_code 73 = .ok (.iload_n 2, 1) := by decide +kernel
theorem dc2_readFrom_74 : decode prog_4_method_4_code 74 = .ok (.bipush 24, 2) := by decide +kernel
theorem dc2_readFrom_76 : decode prog_4_method_4_code 76 = .ok (.iadd, 1) := by decide +kernel
theorem dc2_readFrom_77 : decode prog_4_method_4_code 77 = .ok (.iaload, 1) := by decide +kernel
theorem dc2_readFrom_78 : decode prog_4_method_4_code 78 = .ok (.putfield 43, 3) := by decide +kernel
theorem dc2_readFrom_81 : decode prog_4_method_4_code 81 = .ok (.aload_n 0, 1) := by decide +kernel
theorem dc2_readFrom_82 : decode prog_4_method_4_code 82 = .ok (.aload_n 1, 1) := by decide +kernel
theorem dc2_readFrom_83 : decode prog_4_method_4_code 83 = .ok (.iload_n 2, 1) := by decide +kernel
theorem dc2_readFrom_84 : decode prog_4_method_4_code 84 = .ok (.bipush 24, 2) := by decide +kernel
theorem dc2_readFrom_86 : decode prog_4_method_4_code 86 = .ok (.iadd, 1) := by decide +kernel
theorem dc2_readFrom_87 : decode prog_4_method_4_code 87 = .ok (.iconst 1, 1) := by decide +kernel
theorem dc2_readFrom_88 : decode prog_4_method_4_code 88 = .ok (.iadd, 1) := by decide +kernel
theorem dc2_readFrom_89 : decode prog_4_method_4_code 89 = .ok (.iaload, 1) := by decide +kernel
theorem dc2_readFrom_90 : decode prog_4_method_4_code 90 = .ok (.putfield 46, 3) := by decide +kernel
theorem dc2_readFrom_93 : decode prog_4_method_4_code 93 = .ok (.return_, 1) := by decide +kernel
theorem dc5_keepImage_0 : decode prog_7_method_4_code 0 = .ok (.aload_n 1, 1) := by decide +kernel
theorem dc5_keepImage_1 : decode prog_7_method_4_code 1 = .ok (.aload_n 0, 1) := by decide +kernel
theorem dc5_keepImage_2 : decode prog_7_method_4_code 2 = .ok (.getfield 15, 3) := by decide +kernel
theorem dc5_keepImage_5 : decode prog_7_method_4_code 5 = .ok (.iconst 0, 1) := by decide +kernel
theorem dc5_keepImage_6 : decode prog_7_method_4_code 6 = .ok (.invokevirtual 29, 3) := by decide +kernel
theorem dc5_keepImage_9 : decode prog_7_method_4_code 9 = .ok (.aload_n 0, 1) := by decide +kernel
theorem dc5_keepImage_10 : decode prog_7_method_4_code 10 = .ok (.getfield 21, 3) := by decide +kernel
theorem dc5_keepImage_13 : decode prog_7_method_4_code 13 = .ok (.aload_n 2, 1) := by decide +kernel
theorem dc5_keepImage_14 : decode prog_7_method_4_code 14 = .ok (.invokevirtual 45, 3) := by decide +kernel
theorem dc5_keepImage_17 : decode prog_7_method_4_code 17 = .ok (.aload_n 0, 1) := by decide +kernel
theorem dc5_keepImage_18 : decode prog_7_method_4_code 18 = .ok (.iconst 1, 1) := by decide +kernel
theorem dc5_keepImage_19 : decode prog_7_method_4_code 19 = .ok (.putfield 49, 3) := by decide +kernel
theorem dc5_keepImage_22 : decode prog_7_method_4_code 22 = .ok (.return_, 1) := by decide +kernel
theorem dc0_copyFrom_0 : decode prog_2_method_5_code 0 = .ok (.aload_n 1, 1) := by decide +kernel
theorem dc0_copyFrom_1 : decode prog_2_method_5_code 1 = .ok (.getfield 11, 3) := by decide +kernel
theorem dc0_copyFrom_4 : decode prog_2_method_5_code 4 = .ok (.iconst 0, 1) := by decide +kernel
theorem dc0_copyFrom_5 : decode prog_2_method_5_code 5 = .ok (.aload_n 0, 1) := by decide +kernel
theorem dc0_copyFrom_6 : decode prog_2_method_5_code 6 = .ok (.getfield 11, 3) := by decide +kernel
theorem dc0_copyFrom_9 : decode prog_2_method_5_code 9 = .ok (.iconst 0, 1) := by decide +kernel
theorem dc0_copyFrom_10 : decode prog_2_method_5_code 10 = .ok (.bipush 100, 2) := by decide +kernel
theorem dc0_copyFrom_12 : decode prog_2_method_5_code 12 = .ok (.invokestatic 30, 3) := by decide +kernel
theorem dc0_copyFrom_15 : decode prog_2_method_5_code 15 = .ok (.aload_n 1, 1) := by decide +kernel
theorem dc0_copyFrom_16 : decode prog_2_method_5_code 16 = .ok (.getfield 15, 3) := by decide +kernel
theorem dc0_copyFrom_19 : decode prog_2_method_5_code 19 = .ok (.iconst 0, 1) := by decide +kernel
theorem dc0_copyFrom_20 : decode prog_2_method_5_code 20 = .ok (.aload_n 0, 1) := by decide +kernel
theorem dc0_copyFrom_21 : decode prog_2_method_5_code 21 = .ok (.getfield 15, 3) := by decide +kernel
theorem dc0_copyFrom_24 : decode prog_2_method_5_code 24 = .ok (.iconst 0, 1) := by decide +kernel
theorem dc0_copyFrom_25 : decode prog_2_method_5_code 25 = .ok (.bipush 100, 2) := by decide +kernel
theorem dc0_copyFrom_27 : decode prog_2_method_5_code 27 = .ok (.invokestatic 30, 3) := by decide +kernel
theorem dc0_copyFrom_30 : decode prog_2_method_5_code 30 = .ok (.aload_n 1, 1) := by decide +kernel
theorem dc0_copyFrom_31 : decode prog_2_method_5_code 31 = .ok (.getfield 18, 3) := by decide +kernel
theorem dc0_copyFrom_34 : decode prog_2_method_5_code 34 = .ok (.iconst 0, 1) := by decide +kernel
theorem dc0_copyFrom_35 : decode prog_2_method_5_code 35 = .ok (.aload_n 0, 1) := by decide +kernel
theorem dc0_copyFrom_36 : decode prog_2_method_5_code 36 = .ok (.getfield 18, 3) := by decide +kernel
theorem dc0_copyFrom_39 : decode prog_2_method_5_code 39 = .ok (.iconst 0, 1) := by decide +kernel
theorem dc0_copyFrom_40 : decode prog_2_method_5_code 40 = .ok (.bipush 100, 2) := by decide +kernel
theorem dc0_copyFrom_42 : decode prog_2_method_5_code 42 = .ok (.invokestatic 30, 3) := by decide +kernel
theorem dc0_copyFrom_45 : decode prog_2_method_5_code 45 = .ok (.return_, 1) := by decide +kernel
theorem dc5_bringImage_0 : decode prog_7_method_5_code 0 = .ok (.aload_n 0, 1) := by decide +kernel
theorem dc5_bringImage_1 : decode prog_7_method_5_code 1 = .ok (.getfield 49, 3) := by decide +kernel
theorem dc5_bringImage_4 : decode prog_7_method_5_code 4 = .ok (.ifCond .ne 5, 3) := by decide +kernel
theorem dc5_bringImage_7 : decode prog_7_method_5_code 7 = .ok (.iconst 0, 1) := by decide +kernel
theorem dc5_bringImage_8 : decode prog_7_method_5_code 8 = .ok (.ireturn, 1) := by decide +kernel
theorem dc5_bringImage_9 : decode prog_7_method_5_code 9 = .ok (.aload_n 1, 1) := by decide +kernel
theorem dc5_bringImage_10 : decode prog_7_method_5_code 10 = .ok (.aload_n 0, 1) := by decide +kernel
theorem dc5_bringImage_11 : decode prog_7_method_5_code 11 = .ok (.getfield 15, 3) := by decide +kernel
theorem dc5_bringImage_14 : decode prog_7_method_5_code 14 = .ok (.iconst 0, 1) := by decide +kernel
theorem dc5_bringImage_15 : decode prog_7_method_5_code 15 = .ok (.invokevirtual 42, 3) := by decide +kernel
theorem dc5_bringImage_18 : decode prog_7_method_5_code 18 = .ok (.aload_n 2, 1) := by decide +kernel
theorem dc5_bringImage_19 : decode prog_7_method_5_code 19 = .ok (.aload_n 0, 1) := by decide +kernel
theorem dc5_bringImage_20 : decode prog_7_method_5_code 20 = .ok (.getfield 21, 3) := by decide +kernel
theorem dc5_bringImage_23 : decode prog_7_method_5_code 23 = .ok (.invokevirtual 45, 3) := by decide +kernel
theorem dc5_bringImage_26 : decode prog_7_method_5_code 26 = .ok (.aload_n 0, 1) := by decide +kernel
theorem dc5_bringImage_27 : decode prog_7_method_5_code 27 = .ok (.iconst 0, 1) := by decide +kernel
theorem dc5_bringImage_28 : decode prog_7_method_5_code 28 = .ok (.putfield 33, 3) := by decide +kernel
theorem dc5_bringImage_31 : decode prog_7_method_5_code 31 = .ok (.iconst 1, 1) := by decide +kernel
theorem dc5_bringImage_32 : decode prog_7_method_5_code 32 = .ok (.ireturn, 1) := by decide +kernel
theorem dc9_drownsAny_0 : decode prog_11_method_8_code 0 = .ok (.iconst 0, 1) := by decide +kernel
theorem dc9_drownsAny_1 : decode prog_11_method_8_code 1 = .ok (.istore_n 3, 1) := by decide +kernel
theorem dc9_drownsAny_2 : decode prog_11_method_8_code 2 = .ok (.iload_n 3, 1) := by decide +kernel
theorem dc9_drownsAny_3 : decode prog_11_method_8_code 3 = .ok (.aload_n 0, 1) := by decide +kernel
theorem dc9_drownsAny_4 : decode prog_11_method_8_code 4 = .ok (.getfield 38, 3) := by decide +kernel
theorem dc9_drownsAny_7 : decode prog_11_method_8_code 7 = .ok (.if_icmp .ge 24, 3) := by decide +kernel
theorem dc9_drownsAny_10 : decode prog_11_method_8_code 10 = .ok (.aload_n 0, 1) := by decide +kernel
theorem dc9_drownsAny_11 : decode prog_11_method_8_code 11 = .ok (.iload_n 3, 1) := by decide +kernel
theorem dc9_drownsAny_12 : decode prog_11_method_8_code 12 = .ok (.iload_n 2, 1) := by decide +kernel
theorem dc9_drownsAny_13 : decode prog_11_method_8_code 13 = .ok (.invokevirtual 41, 3) := by decide +kernel
theorem dc9_drownsAny_16 : decode prog_11_method_8_code 16 = .ok (.aload_n 1, 1) := by decide +kernel
theorem dc9_drownsAny_17 : decode prog_11_method_8_code 17 = .ok (.getfield 45, 3) := by decide +kernel
theorem dc9_drownsAny_20 : decode prog_11_method_8_code 20 = .ok (.if_icmp .lt 5, 3) := by decide +kernel
theorem dc9_drownsAny_23 : decode prog_11_method_8_code 23 = .ok (.iconst 1, 1) := by decide +kernel
theorem dc9_drownsAny_24 : decode prog_11_method_8_code 24 = .ok (.ireturn, 1) := by decide +kernel
theorem dc9_drownsAny_25 : decode prog_11_method_8_code 25 = .ok (.iinc 3 1, 3) := by decide +kernel
theorem dc9_drownsAny_28 : decode prog_11_method_8_code 28 = .ok (.goto (-26), 3) := by decide +kernel
theorem dc9_drownsAny_31 : decode prog_11_method_8_code 31 = .ok (.iconst 0, 1) := by decide +kernel
theorem dc9_drownsAny_32 : decode prog_11_method_8_code 32 = .ok (.ireturn, 1) := by decide +kernel
theorem dc1_isFull_0 : decode prog_3_method_2_code 0 = .ok (.aload_n 0, 1) := by decide +kernel
theorem dc1_isFull_1 : decode prog_3_method_2_code 1 = .ok (.getfield 37, 3) := by decide +kernel
theorem dc1_isFull_4 : decode prog_3_method_2_code 4 = .ok (.bipush 10, 2) := by decide +kernel
theorem dc1_isFull_6 : decode prog_3_method_2_code 6 = .ok (.if_icmp .lt 7, 3) := by decide +kernel
theorem dc1_isFull_9 : decode prog_3_method_2_code 9 = .ok (.iconst 1, 1) := by decide +kernel
theorem dc1_isFull_10 : decode prog_3_method_2_code 10 = .ok (.goto 4, 3) := by decide +kernel
theorem dc1_isFull_13 : decode prog_3_method_2_code 13 = .ok (.iconst 0, 1) := by decide +kernel
theorem dc1_isFull_14 : decode prog_3_method_2_code 14 = .ok (.ireturn, 1) := by decide +kernel
theorem dc1_note_0 : decode prog_3_method_3_code 0 = .ok (.aload_n 0, 1) := by decide +kernel
theorem dc1_note_1 : decode prog_3_method_3_code 1 = .ok (.invokevirtual 41, 3) := by decide +kernel
theorem dc1_note_4 : decode prog_3_method_3_code 4 = .ok (.ifCond .eq 4, 3) := by decide +kernel
theorem dc1_note_7 : decode prog_3_method_3_code 7 = .ok (.return_, 1) := by decide +kernel
theorem dc1_note_8 : decode prog_3_method_3_code 8 = .ok (.aload_n 0, 1) := by decide +kernel
theorem dc1_note_9 : decode prog_3_method_3_code 9 = .ok (.getfield 11, 3) := by decide +kernel
theorem dc1_note_12 : decode prog_3_method_3_code 12 = .ok (.aload_n 0, 1) := by decide +kernel
theorem dc1_note_13 : decode prog_3_method_3_code 13 = .ok (.getfield 37, 3) := by decide +kernel
theorem dc1_note_16 : decode prog_3_method_3_code 16 = .ok (.iload_n 1, 1) := by decide +kernel
theorem dc1_note_17 : decode prog_3_method_3_code 17 = .ok (.iastore, 1) := by decide +kernel
theorem dc1_note_18 : decode prog_3_method_3_code 18 = .ok (.aload_n 0, 1) := by decide +kernel
theorem dc1_note_19 : decode prog_3_method_3_code 19 = .ok (.getfield 15, 3) := by decide +kernel
theorem dc1_note_22 : decode prog_3_method_3_code 22 = .ok (.aload_n 0, 1) := by decide +kernel
theorem dc1_note_23 : decode prog_3_method_3_code 23 = .ok (.getfield 37, 3) := by decide +kernel
theorem dc1_note_26 : decode prog_3_method_3_code 26 = .ok (.iload_n 2, 1) := by decide +kernel
theorem dc1_note_27 : decode prog_3_method_3_code 27 = .ok (.iastore, 1) := by decide +kernel
theorem dc1_note_28 : decode prog_3_method_3_code 28 = .ok (.aload_n 0, 1) := by decide +kernel
theorem dc1_note_29 : decode prog_3_method_3_code 29 = .ok (.getfield 18, 3) := by decide +kernel
theorem dc1_note_32 : decode prog_3_method_3_code 32 = .ok (.aload_n 0, 1) := by decide +kernel
theorem dc1_note_33 : decode prog_3_method_3_code 33 = .ok (.getfield 37, 3) := by decide +kernel
theorem dc1_note_36 : decode prog_3_method_3_code 36 = .ok (.iload_n 3, 1) := by decide +kernel
theorem dc1_note_37 : decode prog_3_method_3_code 37 = .ok (.iastore, 1) := by decide +kernel
theorem dc1_note_38 : decode prog_3_method_3_code 38 = .ok (.aload_n 0, 1) := by decide +kernel
theorem dc1_note_39 : decode prog_3_method_3_code 39 = .ok (.getfield 21, 3) := by decide +kernel
theorem dc1_note_42 : decode prog_3_method_3_code 42 = .ok (.aload_n 0, 1) := by decide +kernel
theorem dc1_note_43 : decode prog_3_method_3_code 43 = .ok (.getfield 37, 3) := by decide +kernel
theorem dc1_note_46 : decode prog_3_method_3_code 46 = .ok (.iload 4, 2) := by decide +kernel
theorem dc1_note_48 : decode prog_3_method_3_code 48 = .ok (.bastore, 1) := by decide +kernel
theorem dc1_note_49 : decode prog_3_method_3_code 49 = .ok (.aload_n 0, 1) := by decide +kernel
theorem dc1_note_50 : decode prog_3_method_3_code 50 = .ok (.dup, 1) := by decide +kernel
theorem dc1_note_51 : decode prog_3_method_3_code 51 = .ok (.getfield 37, 3) := by decide +kernel
theorem dc1_note_54 : decode prog_3_method_3_code 54 = .ok (.iconst 1, 1) := by decide +kernel
theorem dc1_note_55 : decode prog_3_method_3_code 55 = .ok (.iadd, 1) := by decide +kernel
theorem dc1_note_56 : decode prog_3_method_3_code 56 = .ok (.putfield 37, 3) := by decide +kernel
theorem dc1_note_59 : decode prog_3_method_3_code 59 = .ok (.return_, 1) := by decide +kernel
theorem dc1_allowAll_0 : decode prog_3_method_4_code 0 = .ok (.iconst 0, 1) := by decide +kernel
theorem dc1_allowAll_1 : decode prog_3_method_4_code 1 = .ok (.istore_n 1, 1) := by decide +kernel
theorem dc1_allowAll_2 : decode prog_3_method_4_code 2 = .ok (.iload_n 1, 1) := by decide +kernel
theorem dc1_allowAll_3 : decode prog_3_method_4_code 3 = .ok (.bipush 99, 2) := by decide +kernel
theorem dc1_allowAll_5 : decode prog_3_method_4_code 5 = .ok (.if_icmp .gt 16, 3) := by decide +kernel
theorem dc1_allowAll_8 : decode prog_3_method_4_code 8 = .ok (.aload_n 0, 1) := by decide +kernel
theorem dc1_allowAll_9 : decode prog_3_method_4_code 9 = .ok (.getfield 25, 3) := by decide +kernel
theorem dc1_allowAll_12 : decode prog_3_method_4_code 12 = .ok (.iload_n 1, 1) := by decide +kernel
theorem dc1_allowAll_13 : decode prog_3_method_4_code 13 = .ok (.iconst 1, 1) := by decide +kernel
theorem dc1_allowAll_14 : decode prog_3_method_4_code 14 = .ok (.bastore, 1) := by decide +kernel
theorem dc1_allowAll_15 : decode prog_3_method_4_code 15 = .ok (.iinc 1 1, 3) := by decide +kernel
theorem dc1_allowAll_18 : decode prog_3_method_4_code 18 = .ok (.goto (-16), 3) := by decide +kernel
theorem dc1_allowAll_21 : decode prog_3_method_4_code 21 = .ok (.return_, 1) := by decide +kernel
theorem dc1_listAllowed_0 : decode prog_3_method_5_code 0 = .ok (.iconst 0, 1) := by decide +kernel
theorem dc1_listAllowed_1 : decode prog_3_method_5_code 1 = .ok (.istore_n 1, 1) := by decide +kernel
theorem dc1_listAllowed_2 : decode prog_3_method_5_code 2 = .ok (.iconst 0, 1) := by decide +kernel
theorem dc1_listAllowed_3 : decode prog_3_method_5_code 3 = .ok (.istore_n 2, 1) := by decide +kernel
theorem dc1_listAllowed_4 : decode prog_3_method_5_code 4 = .ok (.iload_n 2, 1) := by decide +kernel
theorem dc1_listAllowed_5 : decode prog_3_method_5_code 5 = .ok (.bipush 99, 2) := by decide +kernel
theorem dc1_listAllowed_7 : decode prog_3_method_5_code 7 = .ok (.if_icmp .gt 28, 3) := by decide +kernel
theorem dc1_listAllowed_10 : decode prog_3_method_5_code 10 = .ok (.aload_n 0, 1) := by decide +kernel
theorem dc1_listAllowed_11 : decode prog_3_method_5_code 11 = .ok (.getfield 25, 3) := by decide +kernel
theorem dc1_listAllowed_14 : decode prog_3_method_5_code 14 = .ok (.iload_n 2, 1) := by decide +kernel
theorem dc1_listAllowed_15 : decode prog_3_method_5_code 15 = .ok (.baload, 1) := by decide +kernel
theorem dc1_listAllowed_16 : decode prog_3_method_5_code 16 = .ok (.ifCond .eq 13, 3) := by decide +kernel
theorem dc1_listAllowed_19 : decode prog_3_method_5_code 19 = .ok (.aload_n 0, 1) := by decide +kernel
theorem dc1_listAllowed_20 : decode prog_3_method_5_code 20 = .ok (.getfield 28, 3) := by decide +kernel
theorem dc1_listAllowed_23 : decode prog_3_method_5_code 23 = .ok (.iload_n 1, 1) := by decide +kernel
theorem dc1_listAllowed_24 : decode prog_3_method_5_code 24 = .ok (.iinc 1 1, 3) := by decide +kernel
theorem dc1_listAllowed_27 : decode prog_3_method_5_code 27 = .ok (.iload_n 2, 1) := by decide +kernel
theorem dc1_listAllowed_28 : decode prog_3_method_5_code 28 = .ok (.iastore, 1) := by decide +kernel
theorem dc1_listAllowed_29 : decode prog_3_method_5_code 29 = .ok (.iinc 2 1, 3) := by decide +kernel
theorem dc1_listAllowed_32 : decode prog_3_method_5_code 32 = .ok (.goto (-28), 3) := by decide +kernel
theorem dc1_listAllowed_35 : decode prog_3_method_5_code 35 = .ok (.iload_n 1, 1) := by decide +kernel
theorem dc1_listAllowed_36 : decode prog_3_method_5_code 36 = .ok (.ireturn, 1) := by decide +kernel
theorem dc9_rank_0 : decode prog_11_method_6_code 0 = .ok (.iconst 0, 1) := by decide +kernel
theorem dc9_rank_1 : decode prog_11_method_6_code 1 = .ok (.istore_n 2, 1) := by decide +kernel
theorem dc9_rank_2 : decode prog_11_method_6_code 2 = .ok (.iconst 0, 1) := by decide +kernel
theorem dc9_rank_3 : decode prog_11_method_6_code 3 = .ok (.istore_n 3, 1) := by decide +kernel
theorem dc9_rank_4 : decode prog_11_method_6_code 4 = .ok (.iload_n 3, 1) := by decide +kernel
theorem dc9_rank_5 : decode prog_11_method_6_code 5 = .ok (.aload_n 0, 1) := by decide +kernel
theorem dc9_rank_6 : decode prog_11_method_6_code 6 = .ok (.getfield 38, 3) := by decide +kernel
theorem dc9_rank_9 : decode prog_11_method_6_code 9 = .ok (.if_icmp .ge 21, 3) := by decide +kernel
theorem dc9_rank_12 : decode prog_11_method_6_code 12 = .ok (.aload_n 0, 1) := by decide +kernel
theorem dc9_rank_13 : decode prog_11_method_6_code 13 = .ok (.iload_n 3, 1) := by decide +kernel
theorem dc9_rank_14 : decode prog_11_method_6_code 14 = .ok (.iload_n 1, 1) := by decide +kernel
theorem dc9_rank_15 : decode prog_11_method_6_code 15 = .ok (.invokevirtual 94, 3) := by decide +kernel
theorem dc9_rank_18 : decode prog_11_method_6_code 18 = .ok (.ifCond .eq 6, 3) := by decide +kernel
theorem dc9_rank_21 : decode prog_11_method_6_code 21 = .ok (.iinc 2 1, 3) := by decide +kernel
theorem dc9_rank_24 : decode prog_11_method_6_code 24 = .ok (.iinc 3 1, 3) := by decide +kernel
theorem dc9_rank_27 : decode prog_11_method_6_code 27 = .ok (.goto (-23), 3) := by decide +kernel
theorem dc9_rank_30 : decode prog_11_method_6_code 30 = .ok (.iload_n 2, 1) := by decide +kernel
theorem dc9_rank_31 : decode prog_11_method_6_code 31 = .ok (.ireturn, 1) := by decide +kernel
