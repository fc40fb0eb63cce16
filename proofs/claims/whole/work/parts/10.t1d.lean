theorem dJ6_numberOfTrailingZeros_0f7a4_0 : decode cJ6_numberOfTrailingZeros_0f7a4 0 = .ok (.iload_n 0, 1) := by decide +kernel
theorem dJ6_numberOfTrailingZeros_0f7a4_1 : decode cJ6_numberOfTrailingZeros_0f7a4 1 = .ok (.iconst (-1), 1) := by decide +kernel
theorem dJ6_numberOfTrailingZeros_0f7a4_2 : decode cJ6_numberOfTrailingZeros_0f7a4 2 = .ok (.ixor, 1) := by decide +kernel
theorem dJ6_numberOfTrailingZeros_0f7a4_3 : decode cJ6_numberOfTrailingZeros_0f7a4 3 = .ok (.iload_n 0, 1) := by decide +kernel
theorem dJ6_numberOfTrailingZeros_0f7a4_4 : decode cJ6_numberOfTrailingZeros_0f7a4 4 = .ok (.iconst 1, 1) := by decide +kernel
theorem dJ6_numberOfTrailingZeros_0f7a4_5 : decode cJ6_numberOfTrailingZeros_0f7a4 5 = .ok (.isub, 1) := by decide +kernel
theorem dJ6_numberOfTrailingZeros_0f7a4_6 : decode cJ6_numberOfTrailingZeros_0f7a4 6 = .ok (.iand, 1) := by decide +kernel
theorem dJ6_numberOfTrailingZeros_0f7a4_7 : decode cJ6_numberOfTrailingZeros_0f7a4 7 = .ok (.istore_n 0, 1) := by decide +kernel
theorem dJ6_numberOfTrailingZeros_0f7a4_8 : decode cJ6_numberOfTrailingZeros_0f7a4 8 = .ok (.iload_n 0, 1) := by decide +kernel
theorem dJ6_numberOfTrailingZeros_0f7a4_9 : decode cJ6_numberOfTrailingZeros_0f7a4 9 = .ok (.ifCond .gt 8, 3) := by decide +kernel
theorem dJ6_numberOfTrailingZeros_0f7a4_12 : decode cJ6_numberOfTrailingZeros_0f7a4 12 = .ok (.iload_n 0, 1) := by decide +kernel
theorem dJ6_numberOfTrailingZeros_0f7a4_13 : decode cJ6_numberOfTrailingZeros_0f7a4 13 = .ok (.bipush 32, 2) := by decide +kernel
theorem dJ6_numberOfTrailingZeros_0f7a4_15 : decode cJ6_numberOfTrailingZeros_0f7a4 15 = .ok (.iand, 1) := by decide +kernel
theorem dJ6_numberOfTrailingZeros_0f7a4_16 : decode cJ6_numberOfTrailingZeros_0f7a4 16 = .ok (.ireturn, 1) := by decide +kernel
theorem dJ6_numberOfTrailingZeros_0f7a4_17 : decode cJ6_numberOfTrailingZeros_0f7a4 17 = .ok (.iconst 1, 1) := by decide +kernel
theorem dJ6_numberOfTrailingZeros_0f7a4_18 : decode cJ6_numberOfTrailingZeros_0f7a4 18 = .ok (.istore_n 1, 1) := by decide +kernel
theorem dJ6_numberOfTrailingZeros_0f7a4_19 : decode cJ6_numberOfTrailingZeros_0f7a4 19 = .ok (.iload_n 0, 1) := by decide +kernel
theorem dJ6_numberOfTrailingZeros_0f7a4_20 : decode cJ6_numberOfTrailingZeros_0f7a4 20 = .ok (.ldc_w 264, 3) := by decide +kernel
theorem dJ6_numberOfTrailingZeros_0f7a4_23 : decode cJ6_numberOfTrailingZeros_0f7a4 23 = .ok (.if_icmp .le 11, 3) := by decide +kernel
theorem dJ6_numberOfTrailingZeros_0f7a4_26 : decode cJ6_numberOfTrailingZeros_0f7a4 26 = .ok (.iinc 1 16, 3) := by decide +kernel
theorem dJ6_numberOfTrailingZeros_0f7a4_29 : decode cJ6_numberOfTrailingZeros_0f7a4 29 = .ok (.iload_n 0, 1) := by decide +kernel
theorem dJ6_numberOfTrailingZeros_0f7a4_30 : decode cJ6_numberOfTrailingZeros_0f7a4 30 = .ok (.bipush 16, 2) := by decide +kernel
theorem dJ6_numberOfTrailingZeros_0f7a4_32 : decode cJ6_numberOfTrailingZeros_0f7a4 32 = .ok (.iushr, 1) := by decide +kernel
theorem dJ6_numberOfTrailingZeros_0f7a4_33 : decode cJ6_numberOfTrailingZeros_0f7a4 33 = .ok (.istore_n 0, 1) := by decide +kernel
theorem dJ6_numberOfTrailingZeros_0f7a4_34 : decode cJ6_numberOfTrailingZeros_0f7a4 34 = .ok (.iload_n 0, 1) := by decide +kernel
theorem dJ6_numberOfTrailingZeros_0f7a4_35 : decode cJ6_numberOfTrailingZeros_0f7a4 35 = .ok (.sipush 256, 3) := by decide +kernel
theorem dJ6_numberOfTrailingZeros_0f7a4_38 : decode cJ6_numberOfTrailingZeros_0f7a4 38 = .ok (.if_icmp .le 11, 3) := by decide +kernel
theorem dJ6_numberOfTrailingZeros_0f7a4_41 : decode cJ6_numberOfTrailingZeros_0f7a4 41 = .ok (.iinc 1 8, 3) := by decide +kernel
theorem dJ6_numberOfTrailingZeros_0f7a4_44 : decode cJ6_numberOfTrailingZeros_0f7a4 44 = .ok (.iload_n 0, 1) := by decide +kernel
theorem dJ6_numberOfTrailingZeros_0f7a4_45 : decode cJ6_numberOfTrailingZeros_0f7a4 45 = .ok (.bipush 8, 2) := by decide +kernel
theorem dJ6_numberOfTrailingZeros_0f7a4_47 : decode cJ6_numberOfTrailingZeros_0f7a4 47 = .ok (.iushr, 1) := by decide +kernel
theorem dJ6_numberOfTrailingZeros_0f7a4_48 : decode cJ6_numberOfTrailingZeros_0f7a4 48 = .ok (.istore_n 0, 1) := by decide +kernel
theorem dJ6_numberOfTrailingZeros_0f7a4_49 : decode cJ6_numberOfTrailingZeros_0f7a4 49 = .ok (.iload_n 0, 1) := by decide +kernel
theorem dJ6_numberOfTrailingZeros_0f7a4_50 : decode cJ6_numberOfTrailingZeros_0f7a4 50 = .ok (.bipush 16, 2) := by decide +kernel
theorem dJ6_numberOfTrailingZeros_0f7a4_52 : decode cJ6_numberOfTrailingZeros_0f7a4 52 = .ok (.if_icmp .le 10, 3) := by decide +kernel
theorem dJ6_numberOfTrailingZeros_0f7a4_55 : decode cJ6_numberOfTrailingZeros_0f7a4 55 = .ok (.iinc 1 4, 3) := by decide +kernel
theorem dJ6_numberOfTrailingZeros_0f7a4_58 : decode cJ6_numberOfTrailingZeros_0f7a4 58 = .ok (.iload_n 0, 1) := by decide +kernel
theorem dJ6_numberOfTrailingZeros_0f7a4_59 : decode cJ6_numberOfTrailingZeros_0f7a4 59 = .ok (.iconst 4, 1) := by decide +kernel
theorem dJ6_numberOfTrailingZeros_0f7a4_60 : decode cJ6_numberOfTrailingZeros_0f7a4 60 = .ok (.iushr, 1) := by decide +kernel
theorem dJ6_numberOfTrailingZeros_0f7a4_61 : decode cJ6_numberOfTrailingZeros_0f7a4 61 = .ok (.istore_n 0, 1) := by decide +kernel
theorem dJ6_numberOfTrailingZeros_0f7a4_62 : decode cJ6_numberOfTrailingZeros_0f7a4 62 = .ok (.iload_n 0, 1) := by decide +kernel
theorem dJ6_numberOfTrailingZeros_0f7a4_63 : decode cJ6_numberOfTrailingZeros_0f7a4 63 = .ok (.iconst 4, 1) := by decide +kernel
theorem dJ6_numberOfTrailingZeros_0f7a4_64 : decode cJ6_numberOfTrailingZeros_0f7a4 64 = .ok (.if_icmp .le 10, 3) := by decide +kernel
theorem dJ6_numberOfTrailingZeros_0f7a4_67 : decode cJ6_numberOfTrailingZeros_0f7a4 67 = .ok (.iinc 1 2, 3) := by decide +kernel
theorem dJ6_numberOfTrailingZeros_0f7a4_70 : decode cJ6_numberOfTrailingZeros_0f7a4 70 = .ok (.iload_n 0, 1) := by decide +kernel
theorem dJ6_numberOfTrailingZeros_0f7a4_71 : decode cJ6_numberOfTrailingZeros_0f7a4 71 = .ok (.iconst 2, 1) := by decide +kernel
theorem dJ6_numberOfTrailingZeros_0f7a4_72 : decode cJ6_numberOfTrailingZeros_0f7a4 72 = .ok (.iushr, 1) := by decide +kernel
theorem dJ6_numberOfTrailingZeros_0f7a4_73 : decode cJ6_numberOfTrailingZeros_0f7a4 73 = .ok (.istore_n 0, 1) := by decide +kernel
theorem dJ6_numberOfTrailingZeros_0f7a4_74 : decode cJ6_numberOfTrailingZeros_0f7a4 74 = .ok (.iload_n 1, 1) := by decide +kernel
theorem dJ6_numberOfTrailingZeros_0f7a4_75 : decode cJ6_numberOfTrailingZeros_0f7a4 75 = .ok (.iload_n 0, 1) := by decide +kernel
theorem dJ6_numberOfTrailingZeros_0f7a4_76 : decode cJ6_numberOfTrailingZeros_0f7a4 76 = .ok (.iconst 1, 1) := by decide +kernel
theorem dJ6_numberOfTrailingZeros_0f7a4_77 : decode cJ6_numberOfTrailingZeros_0f7a4 77 = .ok (.iushr, 1) := by decide +kernel
theorem dJ6_numberOfTrailingZeros_0f7a4_78 : decode cJ6_numberOfTrailingZeros_0f7a4 78 = .ok (.iadd, 1) := by decide +kernel
theorem dJ6_numberOfTrailingZeros_0f7a4_79 : decode cJ6_numberOfTrailingZeros_0f7a4 79 = .ok (.ireturn, 1) := by decide +kernel
theorem dJ6_bitCount_0f7a4_0 : decode cJ6_bitCount_0f7a4 0 = .ok (.iload_n 0, 1) := by decide +kernel
theorem dJ6_bitCount_0f7a4_1 : decode cJ6_bitCount_0f7a4 1 = .ok (.iload_n 0, 1) := by decide +kernel
theorem dJ6_bitCount_0f7a4_2 : decode cJ6_bitCount_0f7a4 2 = .ok (.iconst 1, 1) := by decide +kernel
theorem dJ6_bitCount_0f7a4_3 : decode cJ6_bitCount_0f7a4 3 = .ok (.iushr, 1) := by decide +kernel
theorem dJ6_bitCount_0f7a4_4 : decode cJ6_bitCount_0f7a4 4 = .ok (.ldc_w 265, 3) := by decide +kernel
theorem dJ6_bitCount_0f7a4_7 : decode cJ6_bitCount_0f7a4 7 = .ok (.iand, 1) := by decide +kernel
theorem dJ6_bitCount_0f7a4_8 : decode cJ6_bitCount_0f7a4 8 = .ok (.isub, 1) := by decide +kernel
theorem dJ6_bitCount_0f7a4_9 : decode cJ6_bitCount_0f7a4 9 = .ok (.istore_n 0, 1) := by decide +kernel
theorem dJ6_bitCount_0f7a4_10 : decode cJ6_bitCount_0f7a4 10 = .ok (.iload_n 0, 1) := by decide +kernel
theorem dJ6_bitCount_0f7a4_11 : decode cJ6_bitCount_0f7a4 11 = .ok (.ldc_w 266, 3) := by decide +kernel
theorem dJ6_bitCount_0f7a4_14 : decode cJ6_bitCount_0f7a4 14 = .ok (.iand, 1) := by decide +kernel
theorem dJ6_bitCount_0f7a4_15 : decode cJ6_bitCount_0f7a4 15 = .ok (.iload_n 0, 1) := by decide +kernel
theorem dJ6_bitCount_0f7a4_16 : decode cJ6_bitCount_0f7a4 16 = .ok (.iconst 2, 1) := by decide +kernel
theorem dJ6_bitCount_0f7a4_17 : decode cJ6_bitCount_0f7a4 17 = .ok (.iushr, 1) := by decide +kernel
theorem dJ6_bitCount_0f7a4_18 : decode cJ6_bitCount_0f7a4 18 = .ok (.ldc_w 266, 3) := by decide +kernel
theorem dJ6_bitCount_0f7a4_21 : decode cJ6_bitCount_0f7a4 21 = .ok (.iand, 1) := by decide +kernel
theorem dJ6_bitCount_0f7a4_22 : decode cJ6_bitCount_0f7a4 22 = .ok (.iadd, 1) := by decide +kernel
theorem dJ6_bitCount_0f7a4_23 : decode cJ6_bitCount_0f7a4 23 = .ok (.istore_n 0, 1) := by decide +kernel
theorem dJ6_bitCount_0f7a4_24 : decode cJ6_bitCount_0f7a4 24 = .ok (.iload_n 0, 1) := by decide +kernel
theorem dJ6_bitCount_0f7a4_25 : decode cJ6_bitCount_0f7a4 25 = .ok (.iload_n 0, 1) := by decide +kernel
theorem dJ6_bitCount_0f7a4_26 : decode cJ6_bitCount_0f7a4 26 = .ok (.iconst 4, 1) := by decide +kernel
theorem dJ6_bitCount_0f7a4_27 : decode cJ6_bitCount_0f7a4 27 = .ok (.iushr, 1) := by decide +kernel
theorem dJ6_bitCount_0f7a4_28 : decode cJ6_bitCount_0f7a4 28 = .ok (.iadd, 1) := by decide +kernel
theorem dJ6_bitCount_0f7a4_29 : decode cJ6_bitCount_0f7a4 29 = .ok (.ldc_w 267, 3) := by decide +kernel
theorem dJ6_bitCount_0f7a4_32 : decode cJ6_bitCount_0f7a4 32 = .ok (.iand, 1) := by decide +kernel
theorem dJ6_bitCount_0f7a4_33 : decode cJ6_bitCount_0f7a4 33 = .ok (.istore_n 0, 1) := by decide +kernel
theorem dJ6_bitCount_0f7a4_34 : decode cJ6_bitCount_0f7a4 34 = .ok (.iload_n 0, 1) := by decide +kernel
theorem dJ6_bitCount_0f7a4_35 : decode cJ6_bitCount_0f7a4 35 = .ok (.iload_n 0, 1) := by decide +kernel
theorem dJ6_bitCount_0f7a4_36 : decode cJ6_bitCount_0f7a4 36 = .ok (.bipush 8, 2) := by decide +kernel
theorem dJ6_bitCount_0f7a4_38 : decode cJ6_bitCount_0f7a4 38 = .ok (.iushr, 1) := by decide +kernel
theorem dJ6_bitCount_0f7a4_39 : decode cJ6_bitCount_0f7a4 39 = .ok (.iadd, 1) := by decide +kernel
theorem dJ6_bitCount_0f7a4_40 : decode cJ6_bitCount_0f7a4 40 = .ok (.istore_n 0, 1) := by decide +kernel
theorem dJ6_bitCount_0f7a4_41 : decode cJ6_bitCount_0f7a4 41 = .ok (.iload_n 0, 1) := by decide +kernel
theorem dJ6_bitCount_0f7a4_42 : decode cJ6_bitCount_0f7a4 42 = .ok (.iload_n 0, 1) := by decide +kernel
theorem dJ6_bitCount_0f7a4_43 : decode cJ6_bitCount_0f7a4 43 = .ok (.bipush 16, 2) := by decide +kernel
theorem dJ6_bitCount_0f7a4_45 : decode cJ6_bitCount_0f7a4 45 = .ok (.iushr, 1) := by decide +kernel
theorem dJ6_bitCount_0f7a4_46 : decode cJ6_bitCount_0f7a4 46 = .ok (.iadd, 1) := by decide +kernel
theorem dJ6_bitCount_0f7a4_47 : decode cJ6_bitCount_0f7a4 47 = .ok (.istore_n 0, 1) := by decide +kernel
theorem dJ6_bitCount_0f7a4_48 : decode cJ6_bitCount_0f7a4 48 = .ok (.iload_n 0, 1) := by decide +kernel
theorem dJ6_bitCount_0f7a4_49 : decode cJ6_bitCount_0f7a4 49 = .ok (.bipush 63, 2) := by decide +kernel
theorem dJ6_bitCount_0f7a4_51 : decode cJ6_bitCount_0f7a4 51 = .ok (.iand, 1) := by decide +kernel
theorem dJ6_bitCount_0f7a4_52 : decode cJ6_bitCount_0f7a4 52 = .ok (.ireturn, 1) := by decide +kernel
theorem dJ9_max_7cf53_0 : decode cJ9_max_7cf53 0 = .ok (.iload_n 0, 1) := by decide +kernel
theorem dJ9_max_7cf53_1 : decode cJ9_max_7cf53 1 = .ok (.iload_n 1, 1) := by decide +kernel
theorem dJ9_max_7cf53_2 : decode cJ9_max_7cf53 2 = .ok (.if_icmp .lt 7, 3) := by decide +kernel
theorem dJ9_max_7cf53_5 : decode cJ9_max_7cf53 5 = .ok (.iload_n 0, 1) := by decide +kernel
theorem dJ9_max_7cf53_6 : decode cJ9_max_7cf53 6 = .ok (.goto 4, 3) := by decide +kernel
theorem dJ9_max_7cf53_9 : decode cJ9_max_7cf53 9 = .ok (.iload_n 1, 1) := by decide +kernel
theorem dJ9_max_7cf53_10 : decode cJ9_max_7cf53 10 = .ok (.ireturn, 1) := by decide +kernel
theorem dJ9_min_7cf53_0 : decode cJ9_min_7cf53 0 = .ok (.iload_n 0, 1) := by decide +kernel
theorem dJ9_min_7cf53_1 : decode cJ9_min_7cf53 1 = .ok (.iload_n 1, 1) := by decide +kernel
theorem dJ9_min_7cf53_2 : decode cJ9_min_7cf53 2 = .ok (.if_icmp .gt 7, 3) := by decide +kernel
theorem dJ9_min_7cf53_5 : decode cJ9_min_7cf53 5 = .ok (.iload_n 0, 1) := by decide +kernel
theorem dJ9_min_7cf53_6 : decode cJ9_min_7cf53 6 = .ok (.goto 4, 3) := by decide +kernel
theorem dJ9_min_7cf53_9 : decode cJ9_min_7cf53 9 = .ok (.iload_n 1, 1) := by decide +kernel
theorem dJ9_min_7cf53_10 : decode cJ9_min_7cf53 10 = .ok (.ireturn, 1) := by decide +kernel
theorem dJ7_fill_d0a16_0 : decode cJ7_fill_d0a16 0 = .ok (.iconst 0, 1) := by decide +kernel
theorem dJ7_fill_d0a16_1 : decode cJ7_fill_d0a16 1 = .ok (.istore_n 3, 1) := by decide +kernel
theorem dJ7_fill_d0a16_2 : decode cJ7_fill_d0a16 2 = .ok (.aload_n 0, 1) := by decide +kernel
theorem dJ7_fill_d0a16_3 : decode cJ7_fill_d0a16 3 = .ok (.arraylength, 1) := by decide +kernel
theorem dJ7_fill_d0a16_4 : decode cJ7_fill_d0a16 4 = .ok (.istore 4, 2) := by decide +kernel
theorem dJ7_fill_d0a16_6 : decode cJ7_fill_d0a16 6 = .ok (.iload_n 3, 1) := by decide +kernel
theorem dJ7_fill_d0a16_7 : decode cJ7_fill_d0a16 7 = .ok (.iload 4, 2) := by decide +kernel
theorem dJ7_fill_d0a16_9 : decode cJ7_fill_d0a16 9 = .ok (.if_icmp .ge 13, 3) := by decide +kernel
theorem dJ7_fill_d0a16_12 : decode cJ7_fill_d0a16 12 = .ok (.aload_n 0, 1) := by decide +kernel
theorem dJ7_fill_d0a16_13 : decode cJ7_fill_d0a16 13 = .ok (.iload_n 3, 1) := by decide +kernel
theorem dJ7_fill_d0a16_14 : decode cJ7_fill_d0a16 14 = .ok (.lload_n 1, 1) := by decide +kernel
theorem dJ7_fill_d0a16_15 : decode cJ7_fill_d0a16 15 = .ok (.lastore, 1) := by decide +kernel
theorem dJ7_fill_d0a16_16 : decode cJ7_fill_d0a16 16 = .ok (.iinc 3 1, 3) := by decide +kernel
theorem dJ7_fill_d0a16_19 : decode cJ7_fill_d0a16 19 = .ok (.goto (-13), 3) := by decide +kernel
theorem dJ7_fill_d0a16_22 : decode cJ7_fill_d0a16 22 = .ok (.return_, 1) := by decide +kernel
theorem dJ7_fill_53178_0 : decode cJ7_fill_53178 0 = .ok (.iconst 0, 1) := by decide +kernel
theorem dJ7_fill_53178_1 : decode cJ7_fill_53178 1 = .ok (.istore_n 2, 1) := by decide +kernel
theorem dJ7_fill_53178_2 : decode cJ7_fill_53178 2 = .ok (.aload_n 0, 1) := by decide +kernel
theorem dJ7_fill_53178_3 : decode cJ7_fill_53178 3 = .ok (.arraylength, 1) := by decide +kernel
theorem dJ7_fill_53178_4 : decode cJ7_fill_53178 4 = .ok (.istore_n 3, 1) := by decide +kernel
theorem dJ7_fill_53178_5 : decode cJ7_fill_53178 5 = .ok (.iload_n 2, 1) := by decide +kernel
theorem dJ7_fill_53178_6 : decode cJ7_fill_53178 6 = .ok (.iload_n 3, 1) := by decide +kernel
theorem dJ7_fill_53178_7 : decode cJ7_fill_53178 7 = .ok (.if_icmp .ge 13, 3) := by decide +kernel
theorem dJ7_fill_53178_10 : decode cJ7_fill_53178 10 = .ok (.aload_n 0, 1) := by decide +kernel
theorem dJ7_fill_53178_11 : decode cJ7_fill_53178 11 = .ok (.iload_n 2, 1) := by decide +kernel
theorem dJ7_fill_53178_12 : decode cJ7_fill_53178 12 = .ok (.iload_n 1, 1) := by decide +kernel
theorem dJ7_fill_53178_13 : decode cJ7_fill_53178 13 = .ok (.iastore, 1) := by decide +kernel
theorem dJ7_fill_53178_14 : decode cJ7_fill_53178 14 = .ok (.iinc 2 1, 3) := by decide +kernel
theorem dJ7_fill_53178_17 : decode cJ7_fill_53178 17 = .ok (.goto (-12), 3) := by decide +kernel
theorem dJ7_fill_53178_20 : decode cJ7_fill_53178 20 = .ok (.return_, 1) := by decide +kernel
theorem dX0_copyFrom_0 : decode cX0_copyFrom 0 = .ok (.aload_n 0, 1) := by decide +kernel
theorem dX0_copyFrom_1 : decode cX0_copyFrom 1 = .ok (.aload_n 1, 1) := by decide +kernel
theorem dX0_copyFrom_2 : decode cX0_copyFrom 2 = .ok (.getfield 15, 3) := by decide +kernel
theorem dX0_copyFrom_5 : decode cX0_copyFrom 5 = .ok (.putfield 15, 3) := by decide +kernel
theorem dX0_copyFrom_8 : decode cX0_copyFrom 8 = .ok (.aload_n 1, 1) := by decide +kernel
theorem dX0_copyFrom_9 : decode cX0_copyFrom 9 = .ok (.getfield 9, 3) := by decide +kernel
theorem dX0_copyFrom_12 : decode cX0_copyFrom 12 = .ok (.iconst 0, 1) := by decide +kernel
theorem dX0_copyFrom_13 : decode cX0_copyFrom 13 = .ok (.aload_n 0, 1) := by decide +kernel
theorem dX0_copyFrom_14 : decode cX0_copyFrom 14 = .ok (.getfield 9, 3) := by decide +kernel
theorem dX0_copyFrom_17 : decode cX0_copyFrom 17 = .ok (.iconst 0, 1) := by decide +kernel
theorem dX0_copyFrom_18 : decode cX0_copyFrom 18 = .ok (.bipush 12, 2) := by decide +kernel
theorem dX0_copyFrom_20 : decode cX0_copyFrom 20 = .ok (.invokestatic 19, 3) := by decide +kernel
theorem dX0_copyFrom_23 : decode cX0_copyFrom 23 = .ok (.return_, 1) := by decide +kernel
theorem dX0_add_0 : decode cX0_add 0 = .ok (.aload_n 0, 1) := by decide +kernel
theorem dX0_add_1 : decode cX0_add 1 = .ok (.getfield 15, 3) := by decide +kernel
theorem dX0_add_4 : decode cX0_add 4 = .ok (.bipush 12, 2) := by decide +kernel
theorem dX0_add_6 : decode cX0_add 6 = .ok (.if_icmp .ge 23, 3) := by decide +kernel
theorem dX0_add_9 : decode cX0_add 9 = .ok (.aload_n 0, 1) := by decide +kernel
theorem dX0_add_10 : decode cX0_add 10 = .ok (.getfield 9, 3) := by decide +kernel
theorem dX0_add_13 : decode cX0_add 13 = .ok (.aload_n 0, 1) := by decide +kernel
theorem dX0_add_14 : decode cX0_add 14 = .ok (.getfield 15, 3) := by decide +kernel
theorem dX0_add_17 : decode cX0_add 17 = .ok (.iload_n 1, 1) := by decide +kernel
theorem dX0_add_18 : decode cX0_add 18 = .ok (.iastore, 1) := by decide +kernel
theorem dX0_add_19 : decode cX0_add 19 = .ok (.aload_n 0, 1) := by decide +kernel
theorem dX0_add_20 : decode cX0_add 20 = .ok (.dup, 1) := by decide +kernel
theorem dX0_add_21 : decode cX0_add 21 = .ok (.getfield 15, 3) := by decide +kernel
theorem dX0_add_24 : decode cX0_add 24 = .ok (.iconst 1, 1) := by decide +kernel
theorem dX0_add_25 : decode cX0_add 25 = .ok (.iadd, 1) := by decide +kernel
theorem dX0_add_26 : decode cX0_add 26 = .ok (.putfield 15, 3) := by decide +kernel
theorem dX0_add_29 : decode cX0_add 29 = .ok (.return_, 1) := by decide +kernel
theorem dX1_fewestDoors_0 : decode cX1_fewestDoors 0 = .ok (.aload_n 1, 1) := by decide +kernel
theorem dX1_fewestDoors_1 : decode cX1_fewestDoors 1 = .ok (.aload_n 0, 1) := by decide +kernel
theorem dX1_fewestDoors_2 : decode cX1_fewestDoors 2 = .ok (.iload_n 2, 1) := by decide +kernel
theorem dX1_fewestDoors_3 : decode cX1_fewestDoors 3 = .ok (.aload_n 0, 1) := by decide +kernel
theorem dX1_fewestDoors_4 : decode cX1_fewestDoors 4 = .ok (.invokevirtual 9, 3) := by decide +kernel
theorem dX1_fewestDoors_7 : decode cX1_fewestDoors 7 = .ok (.invokevirtual 15, 3) := by decide +kernel
theorem dX1_fewestDoors_10 : decode cX1_fewestDoors 10 = .ok (.ifCond .eq 6, 3) := by decide +kernel
theorem dX1_fewestDoors_13 : decode cX1_fewestDoors 13 = .ok (.bipush (-9), 2) := by decide +kernel
theorem dX1_fewestDoors_15 : decode cX1_fewestDoors 15 = .ok (.ireturn, 1) := by decide +kernel
theorem dX1_fewestDoors_16 : decode cX1_fewestDoors 16 = .ok (.iconst 0, 1) := by decide +kernel
theorem dX1_fewestDoors_17 : decode cX1_fewestDoors 17 = .ok (.istore_n 3, 1) := by decide +kernel
theorem dX1_fewestDoors_18 : decode cX1_fewestDoors 18 = .ok (.iload_n 3, 1) := by decide +kernel
theorem dX1_fewestDoors_19 : decode cX1_fewestDoors 19 = .ok (.aload_n 0, 1) := by decide +kernel
theorem dX1_fewestDoors_20 : decode cX1_fewestDoors 20 = .ok (.getfield 21, 3) := by decide +kernel
theorem dX1_fewestDoors_23 : decode cX1_fewestDoors 23 = .ok (.if_icmp .gt 28, 3) := by decide +kernel
theorem dX1_fewestDoors_26 : decode cX1_fewestDoors 26 = .ok (.aload_n 0, 1) := by decide +kernel
theorem dX1_fewestDoors_27 : decode cX1_fewestDoors 27 = .ok (.aload_n 1, 1) := by decide +kernel
theorem dX1_fewestDoors_28 : decode cX1_fewestDoors 28 = .ok (.iload_n 2, 1) := by decide +kernel
theorem dX1_fewestDoors_29 : decode cX1_fewestDoors 29 = .ok (.iload_n 3, 1) := by decide +kernel
theorem dX1_fewestDoors_30 : decode cX1_fewestDoors 30 = .ok (.invokestatic 25, 3) := by decide +kernel
theorem dX1_fewestDoors_33 : decode cX1_fewestDoors 33 = .ok (.istore 4, 2) := by decide +kernel
theorem dX1_fewestDoors_35 : decode cX1_fewestDoors 35 = .ok (.iload 4, 2) := by decide +kernel
theorem dX1_fewestDoors_37 : decode cX1_fewestDoors 37 = .ok (.bipush (-9), 2) := by decide +kernel
theorem dX1_fewestDoors_39 : decode cX1_fewestDoors 39 = .ok (.if_icmp .eq 6, 3) := by decide +kernel
theorem dX1_fewestDoors_42 : decode cX1_fewestDoors 42 = .ok (.iload 4, 2) := by decide +kernel
theorem dX1_fewestDoors_44 : decode cX1_fewestDoors 44 = .ok (.ireturn, 1) := by decide +kernel
theorem dX1_fewestDoors_45 : decode cX1_fewestDoors 45 = .ok (.iinc 3 1, 3) := by decide +kernel
theorem dX1_fewestDoors_48 : decode cX1_fewestDoors 48 = .ok (.goto (-30), 3) := by decide +kernel
theorem dX1_fewestDoors_51 : decode cX1_fewestDoors 51 = .ok (.bipush (-9), 2) := by decide +kernel
theorem dX1_fewestDoors_53 : decode cX1_fewestDoors 53 = .ok (.ireturn, 1) := by decide +kernel
theorem dX1_leastOfSize_0 : decode cX1_leastOfSize 0 = .ok (.iconst 1, 1) := by decide +kernel
theorem dX1_leastOfSize_1 : decode cX1_leastOfSize 1 = .ok (.iload_n 3, 1) := by decide +kernel
theorem dX1_leastOfSize_2 : decode cX1_leastOfSize 2 = .ok (.ishl, 1) := by decide +kernel
theorem dX1_leastOfSize_3 : decode cX1_leastOfSize 3 = .ok (.iconst 1, 1) := by decide +kernel
theorem dX1_leastOfSize_4 : decode cX1_leastOfSize 4 = .ok (.isub, 1) := by decide +kernel
theorem dX1_leastOfSize_5 : decode cX1_leastOfSize 5 = .ok (.istore 4, 2) := by decide +kernel
theorem dX1_leastOfSize_7 : decode cX1_leastOfSize 7 = .ok (.iconst 1, 1) := by decide +kernel
theorem dX1_leastOfSize_8 : decode cX1_leastOfSize 8 = .ok (.aload_n 0, 1) := by decide +kernel
theorem dX1_leastOfSize_9 : decode cX1_leastOfSize 9 = .ok (.getfield 21, 3) := by decide +kernel
theorem dX1_leastOfSize_12 : decode cX1_leastOfSize 12 = .ok (.ishl, 1) := by decide +kernel
theorem dX1_leastOfSize_13 : decode cX1_leastOfSize 13 = .ok (.istore 5, 2) := by decide +kernel
theorem dX1_leastOfSize_15 : decode cX1_leastOfSize 15 = .ok (.iconst 0, 1) := by decide +kernel
theorem dX1_leastOfSize_16 : decode cX1_leastOfSize 16 = .ok (.istore 6, 2) := by decide +kernel
theorem dX1_leastOfSize_18 : decode cX1_leastOfSize 18 = .ok (.iload 6, 2) := by decide +kernel
theorem dX1_leastOfSize_20 : decode cX1_leastOfSize 20 = .ok (.iload 5, 2) := by decide +kernel
theorem dX1_leastOfSize_22 : decode cX1_leastOfSize 22 = .ok (.if_icmp .ge 39, 3) := by decide +kernel
theorem dX1_leastOfSize_25 : decode cX1_leastOfSize 25 = .ok (.iload 4, 2) := by decide +kernel
theorem dX1_leastOfSize_27 : decode cX1_leastOfSize 27 = .ok (.iload 5, 2) := by decide +kernel
theorem dX1_leastOfSize_29 : decode cX1_leastOfSize 29 = .ok (.if_icmp .ge 32, 3) := by decide +kernel
theorem dX1_leastOfSize_32 : decode cX1_leastOfSize 32 = .ok (.aload_n 1, 1) := by decide +kernel
theorem dX1_leastOfSize_33 : decode cX1_leastOfSize 33 = .ok (.aload_n 0, 1) := by decide +kernel
theorem dX1_leastOfSize_34 : decode cX1_leastOfSize 34 = .ok (.iload_n 2, 1) := by decide +kernel
theorem dX1_leastOfSize_35 : decode cX1_leastOfSize 35 = .ok (.iload 4, 2) := by decide +kernel
theorem dX1_leastOfSize_37 : decode cX1_leastOfSize 37 = .ok (.invokevirtual 15, 3) := by decide +kernel
theorem dX1_leastOfSize_40 : decode cX1_leastOfSize 40 = .ok (.ifCond .ne 6, 3) := by decide +kernel
theorem dX1_leastOfSize_43 : decode cX1_leastOfSize 43 = .ok (.iload 4, 2) := by decide +kernel
theorem dX1_leastOfSize_45 : decode cX1_leastOfSize 45 = .ok (.ireturn, 1) := by decide +kernel
theorem dX1_leastOfSize_46 : decode cX1_leastOfSize 46 = .ok (.iload 4, 2) := by decide +kernel
theorem dX1_leastOfSize_48 : decode cX1_leastOfSize 48 = .ok (.iload 5, 2) := by decide +kernel
theorem dX1_leastOfSize_50 : decode cX1_leastOfSize 50 = .ok (.invokestatic 31, 3) := by decide +kernel
theorem dX1_leastOfSize_53 : decode cX1_leastOfSize 53 = .ok (.istore 4, 2) := by decide +kernel
theorem dX1_leastOfSize_55 : decode cX1_leastOfSize 55 = .ok (.iinc 6 1, 3) := by decide +kernel
theorem dX1_leastOfSize_58 : decode cX1_leastOfSize 58 = .ok (.goto (-40), 3) := by decide +kernel
theorem dX1_leastOfSize_61 : decode cX1_leastOfSize 61 = .ok (.bipush (-9), 2) := by decide +kernel
theorem dX1_leastOfSize_63 : decode cX1_leastOfSize 63 = .ok (.ireturn, 1) := by decide +kernel
theorem dX1_nextOfLikeSize_0 : decode cX1_nextOfLikeSize 0 = .ok (.iload_n 0, 1) := by decide +kernel
theorem dX1_nextOfLikeSize_1 : decode cX1_nextOfLikeSize 1 = .ok (.ifCond .ne 5, 3) := by decide +kernel
theorem dX1_nextOfLikeSize_4 : decode cX1_nextOfLikeSize 4 = .ok (.iload_n 1, 1) := by decide +kernel
theorem dX1_nextOfLikeSize_5 : decode cX1_nextOfLikeSize 5 = .ok (.ireturn, 1) := by decide +kernel
theorem dX1_nextOfLikeSize_6 : decode cX1_nextOfLikeSize 6 = .ok (.iload_n 0, 1) := by decide +kernel
theorem dX1_nextOfLikeSize_7 : decode cX1_nextOfLikeSize 7 = .ok (.iload_n 0, 1) := by decide +kernel
theorem dX1_nextOfLikeSize_8 : decode cX1_nextOfLikeSize 8 = .ok (.ineg, 1) := by decide +kernel
theorem dX1_nextOfLikeSize_9 : decode cX1_nextOfLikeSize 9 = .ok (.iand, 1) := by decide +kernel
theorem dX1_nextOfLikeSize_10 : decode cX1_nextOfLikeSize 10 = .ok (.istore_n 2, 1) := by decide +kernel
theorem dX1_nextOfLikeSize_11 : decode cX1_nextOfLikeSize 11 = .ok (.iload_n 0, 1) := by decide +kernel
theorem dX1_nextOfLikeSize_12 : decode cX1_nextOfLikeSize 12 = .ok (.iload_n 2, 1) := by decide +kernel
theorem dX1_nextOfLikeSize_13 : decode cX1_nextOfLikeSize 13 = .ok (.iadd, 1) := by decide +kernel
theorem dX1_nextOfLikeSize_14 : decode cX1_nextOfLikeSize 14 = .ok (.istore_n 3, 1) := by decide +kernel
theorem dX1_nextOfLikeSize_15 : decode cX1_nextOfLikeSize 15 = .ok (.iload_n 3, 1) := by decide +kernel
theorem dX1_nextOfLikeSize_16 : decode cX1_nextOfLikeSize 16 = .ok (.iload_n 0, 1) := by decide +kernel
theorem dX1_nextOfLikeSize_17 : decode cX1_nextOfLikeSize 17 = .ok (.ixor, 1) := by decide +kernel
theorem dX1_nextOfLikeSize_18 : decode cX1_nextOfLikeSize 18 = .ok (.istore 4, 2) := by decide +kernel
theorem dX1_nextOfLikeSize_20 : decode cX1_nextOfLikeSize 20 = .ok (.iload_n 3, 1) := by decide +kernel
theorem dX1_nextOfLikeSize_21 : decode cX1_nextOfLikeSize 21 = .ok (.iload 4, 2) := by decide +kernel
theorem dX1_nextOfLikeSize_23 : decode cX1_nextOfLikeSize 23 = .ok (.iconst 2, 1) := by decide +kernel
theorem dX1_nextOfLikeSize_24 : decode cX1_nextOfLikeSize 24 = .ok (.iload_n 2, 1) := by decide +kernel
theorem dX1_nextOfLikeSize_25 : decode cX1_nextOfLikeSize 25 = .ok (.invokestatic 35, 3) := by decide +kernel
theorem dX1_nextOfLikeSize_28 : decode cX1_nextOfLikeSize 28 = .ok (.iadd, 1) := by decide +kernel
theorem dX1_nextOfLikeSize_29 : decode cX1_nextOfLikeSize 29 = .ok (.ishr, 1) := by decide +kernel
theorem dX1_nextOfLikeSize_30 : decode cX1_nextOfLikeSize 30 = .ok (.ior, 1) := by decide +kernel
theorem dX1_nextOfLikeSize_31 : decode cX1_nextOfLikeSize 31 = .ok (.ireturn, 1) := by decide +kernel
theorem dX2_fewestDoors_0 : decode cX2_fewestDoors 0 = .ok (.bipush (-9), 2) := by decide +kernel
theorem dX2_fewestDoors_2 : decode cX2_fewestDoors 2 = .ok (.istore_n 3, 1) := by decide +kernel
theorem dX2_fewestDoors_3 : decode cX2_fewestDoors 3 = .ok (.aload_n 1, 1) := by decide +kernel
theorem dX2_fewestDoors_4 : decode cX2_fewestDoors 4 = .ok (.getfield 9, 3) := by decide +kernel
theorem dX2_fewestDoors_7 : decode cX2_fewestDoors 7 = .ok (.bipush 12, 2) := by decide +kernel
theorem dX2_fewestDoors_9 : decode cX2_fewestDoors 9 = .ok (.iadd, 1) := by decide +kernel
theorem dX2_fewestDoors_10 : decode cX2_fewestDoors 10 = .ok (.istore 4, 2) := by decide +kernel
theorem dX2_fewestDoors_12 : decode cX2_fewestDoors 12 = .ok (.aload_n 2, 1) := by decide +kernel
theorem dX2_fewestDoors_13 : decode cX2_fewestDoors 13 = .ok (.getfield 9, 3) := by decide +kernel
theorem dX2_fewestDoors_16 : decode cX2_fewestDoors 16 = .ok (.ineg, 1) := by decide +kernel
theorem dX2_fewestDoors_17 : decode cX2_fewestDoors 17 = .ok (.bipush 12, 2) := by decide +kernel
theorem dX2_fewestDoors_19 : decode cX2_fewestDoors 19 = .ok (.isub, 1) := by decide +kernel
theorem dX2_fewestDoors_20 : decode cX2_fewestDoors 20 = .ok (.istore 5, 2) := by decide +kernel
theorem dX2_fewestDoors_22 : decode cX2_fewestDoors 22 = .ok (.iload 5, 2) := by decide +kernel
theorem dX2_fewestDoors_24 : decode cX2_fewestDoors 24 = .ok (.iload 4, 2) := by decide +kernel
theorem dX2_fewestDoors_26 : decode cX2_fewestDoors 26 = .ok (.if_icmp .gt 77, 3) := by decide +kernel
theorem dX2_fewestDoors_29 : decode cX2_fewestDoors 29 = .ok (.iconst 0, 1) := by decide +kernel
theorem dX2_fewestDoors_30 : decode cX2_fewestDoors 30 = .ok (.iload 5, 2) := by decide +kernel
theorem dX2_fewestDoors_32 : decode cX2_fewestDoors 32 = .ok (.invokestatic 15, 3) := by decide +kernel
theorem dX2_fewestDoors_35 : decode cX2_fewestDoors 35 = .ok (.istore 6, 2) := by decide +kernel
theorem dX2_fewestDoors_37 : decode cX2_fewestDoors 37 = .ok (.aload_n 1, 1) := by decide +kernel
theorem dX2_fewestDoors_38 : decode cX2_fewestDoors 38 = .ok (.getfield 9, 3) := by decide +kernel
theorem dX2_fewestDoors_41 : decode cX2_fewestDoors 41 = .ok (.iload 5, 2) := by decide +kernel
theorem dX2_fewestDoors_43 : decode cX2_fewestDoors 43 = .ok (.aload_n 2, 1) := by decide +kernel
theorem dX2_fewestDoors_44 : decode cX2_fewestDoors 44 = .ok (.getfield 9, 3) := by decide +kernel
theorem dX2_fewestDoors_47 : decode cX2_fewestDoors 47 = .ok (.iadd, 1) := by decide +kernel
theorem dX2_fewestDoors_48 : decode cX2_fewestDoors 48 = .ok (.invokestatic 21, 3) := by decide +kernel
theorem dX2_fewestDoors_51 : decode cX2_fewestDoors 51 = .ok (.istore 7, 2) := by decide +kernel
theorem dX2_fewestDoors_53 : decode cX2_fewestDoors 53 = .ok (.iload_n 3, 1) := by decide +kernel
theorem dX2_fewestDoors_54 : decode cX2_fewestDoors 54 = .ok (.bipush (-9), 2) := by decide +kernel
theorem dX2_fewestDoors_56 : decode cX2_fewestDoors 56 = .ok (.if_icmp .eq 12, 3) := by decide +kernel
theorem dX2_fewestDoors_59 : decode cX2_fewestDoors 59 = .ok (.iload 7, 2) := by decide +kernel
theorem dX2_fewestDoors_61 : decode cX2_fewestDoors 61 = .ok (.iload 6, 2) := by decide +kernel
theorem dX2_fewestDoors_63 : decode cX2_fewestDoors 63 = .ok (.isub, 1) := by decide +kernel
theorem dX2_fewestDoors_64 : decode cX2_fewestDoors 64 = .ok (.iload_n 3, 1) := by decide +kernel
theorem dX2_fewestDoors_65 : decode cX2_fewestDoors 65 = .ok (.if_icmp .ge 7, 3) := by decide +kernel
theorem dX2_fewestDoors_68 : decode cX2_fewestDoors 68 = .ok (.iconst 1, 1) := by decide +kernel
theorem dX2_fewestDoors_69 : decode cX2_fewestDoors 69 = .ok (.goto 4, 3) := by decide +kernel
theorem dX2_fewestDoors_72 : decode cX2_fewestDoors 72 = .ok (.iconst 0, 1) := by decide +kernel
theorem dX2_fewestDoors_73 : decode cX2_fewestDoors 73 = .ok (.istore 8, 2) := by decide +kernel
theorem dX2_fewestDoors_75 : decode cX2_fewestDoors 75 = .ok (.iload 8, 2) := by decide +kernel
theorem dX2_fewestDoors_77 : decode cX2_fewestDoors 77 = .ok (.ifCond .eq 20, 3) := by decide +kernel
theorem dX2_fewestDoors_80 : decode cX2_fewestDoors 80 = .ok (.aload_n 0, 1) := by decide +kernel
theorem dX2_fewestDoors_81 : decode cX2_fewestDoors 81 = .ok (.aload_n 1, 1) := by decide +kernel
theorem dX2_fewestDoors_82 : decode cX2_fewestDoors 82 = .ok (.aload_n 2, 1) := by decide +kernel
theorem dX2_fewestDoors_83 : decode cX2_fewestDoors 83 = .ok (.iload 5, 2) := by decide +kernel
theorem dX2_fewestDoors_85 : decode cX2_fewestDoors 85 = .ok (.invokestatic 24, 3) := by decide +kernel
theorem dX2_fewestDoors_88 : decode cX2_fewestDoors 88 = .ok (.ifCond .eq 9, 3) := by decide +kernel
theorem dX2_fewestDoors_91 : decode cX2_fewestDoors 91 = .ok (.iload 7, 2) := by decide +kernel
theorem dX2_fewestDoors_93 : decode cX2_fewestDoors 93 = .ok (.iload 6, 2) := by decide +kernel
theorem dX2_fewestDoors_95 : decode cX2_fewestDoors 95 = .ok (.isub, 1) := by decide +kernel
theorem dX2_fewestDoors_96 : decode cX2_fewestDoors 96 = .ok (.istore_n 3, 1) := by decide +kernel
theorem dX2_fewestDoors_97 : decode cX2_fewestDoors 97 = .ok (.iinc 5 1, 3) := by decide +kernel
theorem dX2_fewestDoors_100 : decode cX2_fewestDoors 100 = .ok (.goto (-78), 3) := by decide +kernel
theorem dX2_fewestDoors_103 : decode cX2_fewestDoors 103 = .ok (.iload_n 3, 1) := by decide +kernel
theorem dX2_fewestDoors_104 : decode cX2_fewestDoors 104 = .ok (.ireturn, 1) := by decide +kernel
theorem dX2_canSoundBoth_0 : decode cX2_canSoundBoth 0 = .ok (.iconst 0, 1) := by decide +kernel
theorem dX2_canSoundBoth_1 : decode cX2_canSoundBoth 1 = .ok (.iload_n 3, 1) := by decide +kernel
theorem dX2_canSoundBoth_2 : decode cX2_canSoundBoth 2 = .ok (.invokestatic 15, 3) := by decide +kernel
theorem dX2_canSoundBoth_5 : decode cX2_canSoundBoth 5 = .ok (.istore 4, 2) := by decide +kernel
theorem dX2_canSoundBoth_7 : decode cX2_canSoundBoth 7 = .ok (.aload_n 1, 1) := by decide +kernel
theorem dX2_canSoundBoth_8 : decode cX2_canSoundBoth 8 = .ok (.getfield 9, 3) := by decide +kernel
theorem dX2_canSoundBoth_11 : decode cX2_canSoundBoth 11 = .ok (.iload_n 3, 1) := by decide +kernel
theorem dX2_canSoundBoth_12 : decode cX2_canSoundBoth 12 = .ok (.aload_n 2, 1) := by decide +kernel
theorem dX2_canSoundBoth_13 : decode cX2_canSoundBoth 13 = .ok (.getfield 9, 3) := by decide +kernel
theorem dX2_canSoundBoth_16 : decode cX2_canSoundBoth 16 = .ok (.iadd, 1) := by decide +kernel
theorem dX2_canSoundBoth_17 : decode cX2_canSoundBoth 17 = .ok (.invokestatic 21, 3) := by decide +kernel
theorem dX2_canSoundBoth_20 : decode cX2_canSoundBoth 20 = .ok (.istore 5, 2) := by decide +kernel
theorem dX2_canSoundBoth_22 : decode cX2_canSoundBoth 22 = .ok (.aload_n 0, 1) := by decide +kernel
theorem dX2_canSoundBoth_23 : decode cX2_canSoundBoth 23 = .ok (.invokevirtual 30, 3) := by decide +kernel
theorem dX2_canSoundBoth_26 : decode cX2_canSoundBoth 26 = .ok (.istore 6, 2) := by decide +kernel
theorem dX2_canSoundBoth_28 : decode cX2_canSoundBoth 28 = .ok (.iload 4, 2) := by decide +kernel
theorem dX2_canSoundBoth_30 : decode cX2_canSoundBoth 30 = .ok (.istore 7, 2) := by decide +kernel
theorem dX2_canSoundBoth_32 : decode cX2_canSoundBoth 32 = .ok (.iload 7, 2) := by decide +kernel
theorem dX2_canSoundBoth_34 : decode cX2_canSoundBoth 34 = .ok (.iload 5, 2) := by decide +kernel
theorem dX2_canSoundBoth_36 : decode cX2_canSoundBoth 36 = .ok (.if_icmp .ge 51, 3) := by decide +kernel
theorem dX2_canSoundBoth_39 : decode cX2_canSoundBoth 39 = .ok (.iload 6, 2) := by decide +kernel
theorem dX2_canSoundBoth_41 : decode cX2_canSoundBoth 41 = .ok (.ifCond .eq 46, 3) := by decide +kernel
theorem dX2_canSoundBoth_44 : decode cX2_canSoundBoth 44 = .ok (.iload 7, 2) := by decide +kernel
theorem dX2_canSoundBoth_46 : decode cX2_canSoundBoth 46 = .ok (.iload 4, 2) := by decide +kernel
theorem dX2_canSoundBoth_48 : decode cX2_canSoundBoth 48 = .ok (.if_icmp .le 11, 3) := by decide +kernel
theorem dX2_canSoundBoth_51 : decode cX2_canSoundBoth 51 = .ok (.aload_n 0, 1) := by decide +kernel
theorem dX2_canSoundBoth_52 : decode cX2_canSoundBoth 52 = .ok (.iload 6, 2) := by decide +kernel
theorem dX2_canSoundBoth_54 : decode cX2_canSoundBoth 54 = .ok (.invokevirtual 36, 3) := by decide +kernel
theorem dX2_canSoundBoth_57 : decode cX2_canSoundBoth 57 = .ok (.istore 6, 2) := by decide +kernel
theorem dX2_canSoundBoth_59 : decode cX2_canSoundBoth 59 = .ok (.iload 6, 2) := by decide +kernel
theorem dX2_canSoundBoth_61 : decode cX2_canSoundBoth 61 = .ok (.aload_n 1, 1) := by decide +kernel
theorem dX2_canSoundBoth_62 : decode cX2_canSoundBoth 62 = .ok (.aload_n 0, 1) := by decide +kernel
theorem dX2_canSoundBoth_63 : decode cX2_canSoundBoth 63 = .ok (.iload 7, 2) := by decide +kernel
theorem dX2_canSoundBoth_65 : decode cX2_canSoundBoth 65 = .ok (.invokevirtual 40, 3) := by decide +kernel
theorem dX2_canSoundBoth_68 : decode cX2_canSoundBoth 68 = .ok (.aload_n 2, 1) := by decide +kernel
theorem dX2_canSoundBoth_69 : decode cX2_canSoundBoth 69 = .ok (.aload_n 0, 1) := by decide +kernel
theorem dX2_canSoundBoth_70 : decode cX2_canSoundBoth 70 = .ok (.iload 7, 2) := by decide +kernel
theorem dX2_canSoundBoth_72 : decode cX2_canSoundBoth 72 = .ok (.iload_n 3, 1) := by decide +kernel
theorem dX2_canSoundBoth_73 : decode cX2_canSoundBoth 73 = .ok (.isub, 1) := by decide +kernel
theorem dX2_canSoundBoth_74 : decode cX2_canSoundBoth 74 = .ok (.invokevirtual 40, 3) := by decide +kernel
theorem dX2_canSoundBoth_77 : decode cX2_canSoundBoth 77 = .ok (.iand, 1) := by decide +kernel
theorem dX2_canSoundBoth_78 : decode cX2_canSoundBoth 78 = .ok (.iand, 1) := by decide +kernel
theorem dX2_canSoundBoth_79 : decode cX2_canSoundBoth 79 = .ok (.istore 6, 2) := by decide +kernel
theorem dX2_canSoundBoth_81 : decode cX2_canSoundBoth 81 = .ok (.iinc 7 1, 3) := by decide +kernel
theorem dX2_canSoundBoth_84 : decode cX2_canSoundBoth 84 = .ok (.goto (-52), 3) := by decide +kernel
theorem dX2_canSoundBoth_87 : decode cX2_canSoundBoth 87 = .ok (.iload 6, 2) := by decide +kernel
theorem dX2_canSoundBoth_89 : decode cX2_canSoundBoth 89 = .ok (.ifCond .eq 7, 3) := by decide +kernel
theorem dX2_canSoundBoth_92 : decode cX2_canSoundBoth 92 = .ok (.iconst 1, 1) := by decide +kernel
theorem dX2_canSoundBoth_93 : decode cX2_canSoundBoth 93 = .ok (.goto 4, 3) := by decide +kernel
theorem dX2_canSoundBoth_96 : decode cX2_canSoundBoth 96 = .ok (.iconst 0, 1) := by decide +kernel
theorem dX2_canSoundBoth_97 : decode cX2_canSoundBoth 97 = .ok (.ireturn, 1) := by decide +kernel
theorem dX3_countBits_0 : decode cX3_countBits 0 = .ok (.iload_n 2, 1) := by decide +kernel
theorem dX3_countBits_1 : decode cX3_countBits 1 = .ok (.ifCond .ge 5, 3) := by decide +kernel
theorem dX3_countBits_4 : decode cX3_countBits 4 = .ok (.iconst 1, 1) := by decide +kernel
theorem dX3_countBits_5 : decode cX3_countBits 5 = .ok (.ireturn, 1) := by decide +kernel
theorem dX3_countBits_6 : decode cX3_countBits 6 = .ok (.iload_n 3, 1) := by decide +kernel
theorem dX3_countBits_7 : decode cX3_countBits 7 = .ok (.aload_n 1, 1) := by decide +kernel
theorem dX3_countBits_8 : decode cX3_countBits 8 = .ok (.iload_n 2, 1) := by decide +kernel
theorem dX3_countBits_9 : decode cX3_countBits 9 = .ok (.invokevirtual 9, 3) := by decide +kernel
theorem dX3_countBits_12 : decode cX3_countBits 12 = .ok (.iand, 1) := by decide +kernel
theorem dX3_countBits_13 : decode cX3_countBits 13 = .ok (.istore 5, 2) := by decide +kernel
theorem dX3_countBits_15 : decode cX3_countBits 15 = .ok (.iload 4, 2) := by decide +kernel
theorem dX3_countBits_17 : decode cX3_countBits 17 = .ok (.aload_n 1, 1) := by decide +kernel
theorem dX3_countBits_18 : decode cX3_countBits 18 = .ok (.iload_n 2, 1) := by decide +kernel
theorem dX3_countBits_19 : decode cX3_countBits 19 = .ok (.invokevirtual 9, 3) := by decide +kernel
theorem dX3_countBits_22 : decode cX3_countBits 22 = .ok (.iand, 1) := by decide +kernel
theorem dX3_countBits_23 : decode cX3_countBits 23 = .ok (.istore 6, 2) := by decide +kernel
theorem dX3_countBits_25 : decode cX3_countBits 25 = .ok (.iconst 0, 1) := by decide +kernel
theorem dX3_countBits_26 : decode cX3_countBits 26 = .ok (.istore 7, 2) := by decide +kernel
theorem dX3_countBits_28 : decode cX3_countBits 28 = .ok (.iload 5, 2) := by decide +kernel
theorem dX3_countBits_30 : decode cX3_countBits 30 = .ok (.ifCond .eq 24, 3) := by decide +kernel
theorem dX3_countBits_33 : decode cX3_countBits 33 = .ok (.iload 7, 2) := by decide +kernel
theorem dX3_countBits_35 : decode cX3_countBits 35 = .ok (.aload_n 0, 1) := by decide +kernel
theorem dX3_countBits_36 : decode cX3_countBits 36 = .ok (.aload_n 1, 1) := by decide +kernel
theorem dX3_countBits_37 : decode cX3_countBits 37 = .ok (.iload_n 2, 1) := by decide +kernel
theorem dX3_countBits_38 : decode cX3_countBits 38 = .ok (.iconst 1, 1) := by decide +kernel
theorem dX3_countBits_39 : decode cX3_countBits 39 = .ok (.isub, 1) := by decide +kernel
theorem dX3_countBits_40 : decode cX3_countBits 40 = .ok (.aload_n 0, 1) := by decide +kernel
theorem dX3_countBits_41 : decode cX3_countBits 41 = .ok (.iload 5, 2) := by decide +kernel
theorem dX3_countBits_43 : decode cX3_countBits 43 = .ok (.invokevirtual 15, 3) := by decide +kernel
theorem dX3_countBits_46 : decode cX3_countBits 46 = .ok (.iload 4, 2) := by decide +kernel
theorem dX3_countBits_48 : decode cX3_countBits 48 = .ok (.invokestatic 20, 3) := by decide +kernel
theorem dX3_countBits_51 : decode cX3_countBits 51 = .ok (.iadd, 1) := by decide +kernel
theorem dX3_countBits_52 : decode cX3_countBits 52 = .ok (.istore 7, 2) := by decide +kernel
theorem dX3_countBits_54 : decode cX3_countBits 54 = .ok (.iload 6, 2) := by decide +kernel
theorem dX3_countBits_56 : decode cX3_countBits 56 = .ok (.ifCond .eq 23, 3) := by decide +kernel
theorem dX3_countBits_59 : decode cX3_countBits 59 = .ok (.iload 7, 2) := by decide +kernel
theorem dX3_countBits_61 : decode cX3_countBits 61 = .ok (.aload_n 0, 1) := by decide +kernel
theorem dX3_countBits_62 : decode cX3_countBits 62 = .ok (.aload_n 1, 1) := by decide +kernel
theorem dX3_countBits_63 : decode cX3_countBits 63 = .ok (.iload_n 2, 1) := by decide +kernel
theorem dX3_countBits_64 : decode cX3_countBits 64 = .ok (.iconst 1, 1) := by decide +kernel
theorem dX3_countBits_65 : decode cX3_countBits 65 = .ok (.isub, 1) := by decide +kernel
theorem dX3_countBits_66 : decode cX3_countBits 66 = .ok (.iload_n 3, 1) := by decide +kernel
theorem dX3_countBits_67 : decode cX3_countBits 67 = .ok (.aload_n 0, 1) := by decide +kernel
theorem dX3_countBits_68 : decode cX3_countBits 68 = .ok (.iload 6, 2) := by decide +kernel
theorem dX3_countBits_70 : decode cX3_countBits 70 = .ok (.invokevirtual 15, 3) := by decide +kernel
theorem dX3_countBits_73 : decode cX3_countBits 73 = .ok (.invokestatic 20, 3) := by decide +kernel
theorem dX3_countBits_76 : decode cX3_countBits 76 = .ok (.iadd, 1) := by decide +kernel
theorem dX3_countBits_77 : decode cX3_countBits 77 = .ok (.istore 7, 2) := by decide +kernel
theorem dX3_countBits_79 : decode cX3_countBits 79 = .ok (.iload 7, 2) := by decide +kernel
theorem dX3_countBits_81 : decode cX3_countBits 81 = .ok (.ireturn, 1) := by decide +kernel
theorem dX3_leastBits_0 : decode cX3_leastBits 0 = .ok (.iload_n 2, 1) := by decide +kernel
theorem dX3_leastBits_1 : decode cX3_leastBits 1 = .ok (.ifCond .ge 5, 3) := by decide +kernel
theorem dX3_leastBits_4 : decode cX3_leastBits 4 = .ok (.iconst 0, 1) := by decide +kernel
theorem dX3_leastBits_5 : decode cX3_leastBits 5 = .ok (.ireturn, 1) := by decide +kernel
theorem dX3_leastBits_6 : decode cX3_leastBits 6 = .ok (.iload_n 3, 1) := by decide +kernel
theorem dX3_leastBits_7 : decode cX3_leastBits 7 = .ok (.aload_n 1, 1) := by decide +kernel
theorem dX3_leastBits_8 : decode cX3_leastBits 8 = .ok (.iload_n 2, 1) := by decide +kernel
theorem dX3_leastBits_9 : decode cX3_leastBits 9 = .ok (.invokevirtual 9, 3) := by decide +kernel
theorem dX3_leastBits_12 : decode cX3_leastBits 12 = .ok (.iand, 1) := by decide +kernel
theorem dX3_leastBits_13 : decode cX3_leastBits 13 = .ok (.istore 5, 2) := by decide +kernel
theorem dX3_leastBits_15 : decode cX3_leastBits 15 = .ok (.iload 4, 2) := by decide +kernel
theorem dX3_leastBits_17 : decode cX3_leastBits 17 = .ok (.aload_n 1, 1) := by decide +kernel
theorem dX3_leastBits_18 : decode cX3_leastBits 18 = .ok (.iload_n 2, 1) := by decide +kernel
theorem dX3_leastBits_19 : decode cX3_leastBits 19 = .ok (.invokevirtual 9, 3) := by decide +kernel
theorem dX3_leastBits_22 : decode cX3_leastBits 22 = .ok (.iand, 1) := by decide +kernel
theorem dX3_leastBits_23 : decode cX3_leastBits 23 = .ok (.istore 6, 2) := by decide +kernel
theorem dX3_leastBits_25 : decode cX3_leastBits 25 = .ok (.bipush (-9), 2) := by decide +kernel
theorem dX3_leastBits_27 : decode cX3_leastBits 27 = .ok (.istore 7, 2) := by decide +kernel
theorem dX3_leastBits_29 : decode cX3_leastBits 29 = .ok (.iload 5, 2) := by decide +kernel
theorem dX3_leastBits_31 : decode cX3_leastBits 31 = .ok (.ifCond .eq 21, 3) := by decide +kernel
theorem dX3_leastBits_34 : decode cX3_leastBits 34 = .ok (.aload_n 0, 1) := by decide +kernel
theorem dX3_leastBits_35 : decode cX3_leastBits 35 = .ok (.aload_n 1, 1) := by decide +kernel
theorem dX3_leastBits_36 : decode cX3_leastBits 36 = .ok (.iload_n 2, 1) := by decide +kernel
theorem dX3_leastBits_37 : decode cX3_leastBits 37 = .ok (.iconst 1, 1) := by decide +kernel
theorem dX3_leastBits_38 : decode cX3_leastBits 38 = .ok (.isub, 1) := by decide +kernel
theorem dX3_leastBits_39 : decode cX3_leastBits 39 = .ok (.aload_n 0, 1) := by decide +kernel
theorem dX3_leastBits_40 : decode cX3_leastBits 40 = .ok (.iload 5, 2) := by decide +kernel
theorem dX3_leastBits_42 : decode cX3_leastBits 42 = .ok (.invokevirtual 15, 3) := by decide +kernel
theorem dX3_leastBits_45 : decode cX3_leastBits 45 = .ok (.iload 4, 2) := by decide +kernel
theorem dX3_leastBits_47 : decode cX3_leastBits 47 = .ok (.invokestatic 26, 3) := by decide +kernel
theorem dX3_leastBits_50 : decode cX3_leastBits 50 = .ok (.istore 7, 2) := by decide +kernel
theorem dX3_leastBits_52 : decode cX3_leastBits 52 = .ok (.iload 7, 2) := by decide +kernel
theorem dX3_leastBits_54 : decode cX3_leastBits 54 = .ok (.bipush (-9), 2) := by decide +kernel
theorem dX3_leastBits_56 : decode cX3_leastBits 56 = .ok (.if_icmp .ne 44, 3) := by decide +kernel
theorem dX3_leastBits_59 : decode cX3_leastBits 59 = .ok (.iload 6, 2) := by decide +kernel
theorem dX3_leastBits_61 : decode cX3_leastBits 61 = .ok (.ifCond .eq 39, 3) := by decide +kernel
theorem dX3_leastBits_64 : decode cX3_leastBits 64 = .ok (.aload_n 0, 1) := by decide +kernel
theorem dX3_leastBits_65 : decode cX3_leastBits 65 = .ok (.aload_n 1, 1) := by decide +kernel
theorem dX3_leastBits_66 : decode cX3_leastBits 66 = .ok (.iload_n 2, 1) := by decide +kernel
theorem dX3_leastBits_67 : decode cX3_leastBits 67 = .ok (.iconst 1, 1) := by decide +kernel
theorem dX3_leastBits_68 : decode cX3_leastBits 68 = .ok (.isub, 1) := by decide +kernel
theorem dX3_leastBits_69 : decode cX3_leastBits 69 = .ok (.iload_n 3, 1) := by decide +kernel
theorem dX3_leastBits_70 : decode cX3_leastBits 70 = .ok (.aload_n 0, 1) := by decide +kernel
theorem dX3_leastBits_71 : decode cX3_leastBits 71 = .ok (.iload 6, 2) := by decide +kernel
theorem dX3_leastBits_73 : decode cX3_leastBits 73 = .ok (.invokevirtual 15, 3) := by decide +kernel
theorem dX3_leastBits_76 : decode cX3_leastBits 76 = .ok (.invokestatic 26, 3) := by decide +kernel
theorem dX3_leastBits_79 : decode cX3_leastBits 79 = .ok (.istore 7, 2) := by decide +kernel
theorem dX3_leastBits_81 : decode cX3_leastBits 81 = .ok (.iload 7, 2) := by decide +kernel
theorem dX3_leastBits_83 : decode cX3_leastBits 83 = .ok (.bipush (-9), 2) := by decide +kernel
theorem dX3_leastBits_85 : decode cX3_leastBits 85 = .ok (.if_icmp .ne 8, 3) := by decide +kernel
theorem dX3_leastBits_88 : decode cX3_leastBits 88 = .ok (.bipush (-9), 2) := by decide +kernel
theorem dX3_leastBits_90 : decode cX3_leastBits 90 = .ok (.goto 9, 3) := by decide +kernel
theorem dX3_leastBits_93 : decode cX3_leastBits 93 = .ok (.iload 7, 2) := by decide +kernel
theorem dX3_leastBits_95 : decode cX3_leastBits 95 = .ok (.iconst 1, 1) := by decide +kernel
theorem dX3_leastBits_96 : decode cX3_leastBits 96 = .ok (.iload_n 2, 1) := by decide +kernel
theorem dX3_leastBits_97 : decode cX3_leastBits 97 = .ok (.ishl, 1) := by decide +kernel
theorem dX3_leastBits_98 : decode cX3_leastBits 98 = .ok (.ior, 1) := by decide +kernel
theorem dX3_leastBits_99 : decode cX3_leastBits 99 = .ok (.ireturn, 1) := by decide +kernel
theorem dX3_leastBits_100 : decode cX3_leastBits 100 = .ok (.iload 7, 2) := by decide +kernel
theorem dX3_leastBits_102 : decode cX3_leastBits 102 = .ok (.ireturn, 1) := by decide +kernel
theorem dX4_greatestWorth_0 : decode cX4_greatestWorth 0 = .ok (.aload_n 0, 1) := by decide +kernel
theorem dX4_greatestWorth_1 : decode cX4_greatestWorth 1 = .ok (.getfield 9, 3) := by decide +kernel
theorem dX4_greatestWorth_4 : decode cX4_greatestWorth 4 = .ok (.lconst 0, 1) := by decide +kernel
theorem dX4_greatestWorth_5 : decode cX4_greatestWorth 5 = .ok (.invokestatic 15, 3) := by decide +kernel
theorem dX4_greatestWorth_8 : decode cX4_greatestWorth 8 = .ok (.aload_n 1, 1) := by decide +kernel
theorem dX4_greatestWorth_9 : decode cX4_greatestWorth 9 = .ok (.aload_n 2, 1) := by decide +kernel
theorem dX4_greatestWorth_10 : decode cX4_greatestWorth 10 = .ok (.aload_n 0, 1) := by decide +kernel
theorem dX4_greatestWorth_11 : decode cX4_greatestWorth 11 = .ok (.getfield 9, 3) := by decide +kernel
theorem dX4_greatestWorth_14 : decode cX4_greatestWorth 14 = .ok (.iload_n 3, 1) := by decide +kernel
theorem dX4_greatestWorth_15 : decode cX4_greatestWorth 15 = .ok (.aload_n 1, 1) := by decide +kernel
theorem dX4_greatestWorth_16 : decode cX4_greatestWorth 16 = .ok (.iload_n 3, 1) := by decide +kernel
theorem dX4_greatestWorth_17 : decode cX4_greatestWorth 17 = .ok (.invokestatic 21, 3) := by decide +kernel
theorem dX4_greatestWorth_20 : decode cX4_greatestWorth 20 = .ok (.invokestatic 25, 3) := by decide +kernel
theorem dX4_greatestWorth_23 : decode cX4_greatestWorth 23 = .ok (.istore 4, 2) := by decide +kernel
theorem dX4_greatestWorth_25 : decode cX4_greatestWorth 25 = .ok (.iload 4, 2) := by decide +kernel
theorem dX4_greatestWorth_27 : decode cX4_greatestWorth 27 = .ok (.iconst 1, 1) := by decide +kernel
theorem dX4_greatestWorth_28 : decode cX4_greatestWorth 28 = .ok (.if_icmp .ne 8, 3) := by decide +kernel
theorem dX4_greatestWorth_31 : decode cX4_greatestWorth 31 = .ok (.bipush (-9), 2) := by decide +kernel
theorem dX4_greatestWorth_33 : decode cX4_greatestWorth 33 = .ok (.goto 14, 3) := by decide +kernel
theorem dX4_greatestWorth_36 : decode cX4_greatestWorth 36 = .ok (.iload 4, 2) := by decide +kernel
theorem dX4_greatestWorth_38 : decode cX4_greatestWorth 38 = .ok (.iconst 2, 1) := by decide +kernel
theorem dX4_greatestWorth_39 : decode cX4_greatestWorth 39 = .ok (.isub, 1) := by decide +kernel
theorem dX4_greatestWorth_40 : decode cX4_greatestWorth 40 = .ok (.aload_n 2, 1) := by decide +kernel
theorem dX4_greatestWorth_41 : decode cX4_greatestWorth 41 = .ok (.iconst 0, 1) := by decide +kernel
theorem dX4_greatestWorth_42 : decode cX4_greatestWorth 42 = .ok (.iload_n 3, 1) := by decide +kernel
theorem dX4_greatestWorth_43 : decode cX4_greatestWorth 43 = .ok (.invokevirtual 29, 3) := by decide +kernel
theorem dX4_greatestWorth_46 : decode cX4_greatestWorth 46 = .ok (.iadd, 1) := by decide +kernel
theorem dX4_greatestWorth_47 : decode cX4_greatestWorth 47 = .ok (.ireturn, 1) := by decide +kernel
theorem dX4_doorOfBest_0 : decode cX4_doorOfBest 0 = .ok (.aload_n 0, 1) := by decide +kernel
theorem dX4_doorOfBest_1 : decode cX4_doorOfBest 1 = .ok (.getfield 9, 3) := by decide +kernel
theorem dX4_doorOfBest_4 : decode cX4_doorOfBest 4 = .ok (.lconst 0, 1) := by decide +kernel
theorem dX4_doorOfBest_5 : decode cX4_doorOfBest 5 = .ok (.invokestatic 15, 3) := by decide +kernel
theorem dX4_doorOfBest_8 : decode cX4_doorOfBest 8 = .ok (.aload_n 1, 1) := by decide +kernel
theorem dX4_doorOfBest_9 : decode cX4_doorOfBest 9 = .ok (.iload_n 3, 1) := by decide +kernel
theorem dX4_doorOfBest_10 : decode cX4_doorOfBest 10 = .ok (.invokestatic 21, 3) := by decide +kernel
theorem dX4_doorOfBest_13 : decode cX4_doorOfBest 13 = .ok (.istore 5, 2) := by decide +kernel
theorem dX4_doorOfBest_15 : decode cX4_doorOfBest 15 = .ok (.iload 4, 2) := by decide +kernel
theorem dX4_doorOfBest_17 : decode cX4_doorOfBest 17 = .ok (.ifCond .lt 28, 3) := by decide +kernel
theorem dX4_doorOfBest_20 : decode cX4_doorOfBest 20 = .ok (.iload 4, 2) := by decide +kernel
theorem dX4_doorOfBest_22 : decode cX4_doorOfBest 22 = .ok (.aload_n 1, 1) := by decide +kernel
theorem dX4_doorOfBest_23 : decode cX4_doorOfBest 23 = .ok (.getfield 35, 3) := by decide +kernel
theorem dX4_doorOfBest_26 : decode cX4_doorOfBest 26 = .ok (.if_icmp .ge 19, 3) := by decide +kernel
theorem dX4_doorOfBest_29 : decode cX4_doorOfBest 29 = .ok (.aload_n 1, 1) := by decide +kernel
theorem dX4_doorOfBest_30 : decode cX4_doorOfBest 30 = .ok (.aload_n 2, 1) := by decide +kernel
theorem dX4_doorOfBest_31 : decode cX4_doorOfBest 31 = .ok (.aload_n 0, 1) := by decide +kernel
theorem dX4_doorOfBest_32 : decode cX4_doorOfBest 32 = .ok (.getfield 9, 3) := by decide +kernel
theorem dX4_doorOfBest_35 : decode cX4_doorOfBest 35 = .ok (.iload_n 3, 1) := by decide +kernel
theorem dX4_doorOfBest_36 : decode cX4_doorOfBest 36 = .ok (.iload 5, 2) := by decide +kernel
theorem dX4_doorOfBest_38 : decode cX4_doorOfBest 38 = .ok (.invokestatic 25, 3) := by decide +kernel
theorem dX4_doorOfBest_41 : decode cX4_doorOfBest 41 = .ok (.iconst 1, 1) := by decide +kernel
theorem dX4_doorOfBest_42 : decode cX4_doorOfBest 42 = .ok (.if_icmp .ne 6, 3) := by decide +kernel
theorem dX4_doorOfBest_45 : decode cX4_doorOfBest 45 = .ok (.bipush (-9), 2) := by decide +kernel
theorem dX4_doorOfBest_47 : decode cX4_doorOfBest 47 = .ok (.ireturn, 1) := by decide +kernel
theorem dX4_doorOfBest_48 : decode cX4_doorOfBest 48 = .ok (.iload_n 3, 1) := by decide +kernel
theorem dX4_doorOfBest_49 : decode cX4_doorOfBest 49 = .ok (.istore 6, 2) := by decide +kernel
theorem dX4_doorOfBest_51 : decode cX4_doorOfBest 51 = .ok (.iconst 1, 1) := by decide +kernel
theorem dX4_doorOfBest_52 : decode cX4_doorOfBest 52 = .ok (.istore 7, 2) := by decide +kernel
theorem dX4_doorOfBest_54 : decode cX4_doorOfBest 54 = .ok (.iload 7, 2) := by decide +kernel
theorem dX4_doorOfBest_56 : decode cX4_doorOfBest 56 = .ok (.iload 4, 2) := by decide +kernel
theorem dX4_doorOfBest_58 : decode cX4_doorOfBest 58 = .ok (.if_icmp .gt 39, 3) := by decide +kernel
theorem dX4_doorOfBest_61 : decode cX4_doorOfBest 61 = .ok (.iload 6, 2) := by decide +kernel
theorem dX4_doorOfBest_63 : decode cX4_doorOfBest 63 = .ok (.bipush (-9), 2) := by decide +kernel
theorem dX4_doorOfBest_65 : decode cX4_doorOfBest 65 = .ok (.if_icmp .eq 32, 3) := by decide +kernel
theorem dX4_doorOfBest_68 : decode cX4_doorOfBest 68 = .ok (.aload_n 0, 1) := by decide +kernel
theorem dX4_doorOfBest_69 : decode cX4_doorOfBest 69 = .ok (.aload_n 1, 1) := by decide +kernel
theorem dX4_doorOfBest_70 : decode cX4_doorOfBest 70 = .ok (.aload_n 2, 1) := by decide +kernel
theorem dX4_doorOfBest_71 : decode cX4_doorOfBest 71 = .ok (.iload 6, 2) := by decide +kernel
theorem dX4_doorOfBest_73 : decode cX4_doorOfBest 73 = .ok (.iload 5, 2) := by decide +kernel
theorem dX4_doorOfBest_75 : decode cX4_doorOfBest 75 = .ok (.invokevirtual 41, 3) := by decide +kernel
theorem dX4_doorOfBest_78 : decode cX4_doorOfBest 78 = .ok (.istore 6, 2) := by decide +kernel
theorem dX4_doorOfBest_80 : decode cX4_doorOfBest 80 = .ok (.iload 5, 2) := by decide +kernel
theorem dX4_doorOfBest_82 : decode cX4_doorOfBest 82 = .ok (.iconst 1, 1) := by decide +kernel
theorem dX4_doorOfBest_83 : decode cX4_doorOfBest 83 = .ok (.iload 6, 2) := by decide +kernel
theorem dX4_doorOfBest_85 : decode cX4_doorOfBest 85 = .ok (.ishl, 1) := by decide +kernel
theorem dX4_doorOfBest_86 : decode cX4_doorOfBest 86 = .ok (.iconst (-1), 1) := by decide +kernel
theorem dX4_doorOfBest_87 : decode cX4_doorOfBest 87 = .ok (.ixor, 1) := by decide +kernel
theorem dX4_doorOfBest_88 : decode cX4_doorOfBest 88 = .ok (.iand, 1) := by decide +kernel
theorem dX4_doorOfBest_89 : decode cX4_doorOfBest 89 = .ok (.istore 5, 2) := by decide +kernel
theorem dX4_doorOfBest_91 : decode cX4_doorOfBest 91 = .ok (.iinc 7 1, 3) := by decide +kernel
theorem dX4_doorOfBest_94 : decode cX4_doorOfBest 94 = .ok (.goto (-40), 3) := by decide +kernel
theorem dX4_doorOfBest_97 : decode cX4_doorOfBest 97 = .ok (.iload 6, 2) := by decide +kernel
theorem dX4_doorOfBest_99 : decode cX4_doorOfBest 99 = .ok (.ireturn, 1) := by decide +kernel
theorem dX4_othersThan_0 : decode cX4_othersThan 0 = .ok (.aload_n 0, 1) := by decide +kernel
theorem dX4_othersThan_1 : decode cX4_othersThan 1 = .ok (.invokevirtual 45, 3) := by decide +kernel
theorem dX4_othersThan_4 : decode cX4_othersThan 4 = .ok (.iconst 1, 1) := by decide +kernel
theorem dX4_othersThan_5 : decode cX4_othersThan 5 = .ok (.iload_n 1, 1) := by decide +kernel
theorem dX4_othersThan_6 : decode cX4_othersThan 6 = .ok (.ishl, 1) := by decide +kernel
theorem dX4_othersThan_7 : decode cX4_othersThan 7 = .ok (.iconst (-1), 1) := by decide +kernel
theorem dX4_othersThan_8 : decode cX4_othersThan 8 = .ok (.ixor, 1) := by decide +kernel
theorem dX4_othersThan_9 : decode cX4_othersThan 9 = .ok (.iand, 1) := by decide +kernel
theorem dX4_othersThan_10 : decode cX4_othersThan 10 = .ok (.ireturn, 1) := by decide +kernel
theorem dX4_nextOfBest_0 : decode cX4_nextOfBest 0 = .ok (.aload_n 1, 1) := by decide +kernel
theorem dX4_nextOfBest_1 : decode cX4_nextOfBest 1 = .ok (.aload_n 2, 1) := by decide +kernel
theorem dX4_nextOfBest_2 : decode cX4_nextOfBest 2 = .ok (.aload_n 0, 1) := by decide +kernel
theorem dX4_nextOfBest_3 : decode cX4_nextOfBest 3 = .ok (.getfield 9, 3) := by decide +kernel
theorem dX4_nextOfBest_6 : decode cX4_nextOfBest 6 = .ok (.iload_n 3, 1) := by decide +kernel
theorem dX4_nextOfBest_7 : decode cX4_nextOfBest 7 = .ok (.iload 4, 2) := by decide +kernel
theorem dX4_nextOfBest_9 : decode cX4_nextOfBest 9 = .ok (.invokestatic 25, 3) := by decide +kernel
theorem dX4_nextOfBest_12 : decode cX4_nextOfBest 12 = .ok (.istore 5, 2) := by decide +kernel
theorem dX4_nextOfBest_14 : decode cX4_nextOfBest 14 = .ok (.aload_n 1, 1) := by decide +kernel
theorem dX4_nextOfBest_15 : decode cX4_nextOfBest 15 = .ok (.iload_n 3, 1) := by decide +kernel
theorem dX4_nextOfBest_16 : decode cX4_nextOfBest 16 = .ok (.invokevirtual 49, 3) := by decide +kernel
theorem dX4_nextOfBest_19 : decode cX4_nextOfBest 19 = .ok (.iload 4, 2) := by decide +kernel
theorem dX4_nextOfBest_21 : decode cX4_nextOfBest 21 = .ok (.iand, 1) := by decide +kernel
theorem dX4_nextOfBest_22 : decode cX4_nextOfBest 22 = .ok (.istore 6, 2) := by decide +kernel
theorem dX4_nextOfBest_24 : decode cX4_nextOfBest 24 = .ok (.iconst 0, 1) := by decide +kernel
theorem dX4_nextOfBest_25 : decode cX4_nextOfBest 25 = .ok (.istore 7, 2) := by decide +kernel
theorem dX4_nextOfBest_27 : decode cX4_nextOfBest 27 = .ok (.iload 7, 2) := by decide +kernel
theorem dX4_nextOfBest_29 : decode cX4_nextOfBest 29 = .ok (.aload_n 1, 1) := by decide +kernel
theorem dX4_nextOfBest_30 : decode cX4_nextOfBest 30 = .ok (.getfield 35, 3) := by decide +kernel
theorem dX4_nextOfBest_33 : decode cX4_nextOfBest 33 = .ok (.if_icmp .ge 40, 3) := by decide +kernel
theorem dX4_nextOfBest_36 : decode cX4_nextOfBest 36 = .ok (.iload 6, 2) := by decide +kernel
theorem dX4_nextOfBest_38 : decode cX4_nextOfBest 38 = .ok (.iload 7, 2) := by decide +kernel
theorem dX4_nextOfBest_40 : decode cX4_nextOfBest 40 = .ok (.invokestatic 53, 3) := by decide +kernel
theorem dX4_nextOfBest_43 : decode cX4_nextOfBest 43 = .ok (.ifCond .eq 24, 3) := by decide +kernel
theorem dX4_nextOfBest_46 : decode cX4_nextOfBest 46 = .ok (.aload_n 1, 1) := by decide +kernel
theorem dX4_nextOfBest_47 : decode cX4_nextOfBest 47 = .ok (.aload_n 2, 1) := by decide +kernel
theorem dX4_nextOfBest_48 : decode cX4_nextOfBest 48 = .ok (.aload_n 0, 1) := by decide +kernel
theorem dX4_nextOfBest_49 : decode cX4_nextOfBest 49 = .ok (.getfield 9, 3) := by decide +kernel
theorem dX4_nextOfBest_52 : decode cX4_nextOfBest 52 = .ok (.iload 7, 2) := by decide +kernel
theorem dX4_nextOfBest_54 : decode cX4_nextOfBest 54 = .ok (.iload 4, 2) := by decide +kernel
theorem dX4_nextOfBest_56 : decode cX4_nextOfBest 56 = .ok (.invokestatic 57, 3) := by decide +kernel
theorem dX4_nextOfBest_59 : decode cX4_nextOfBest 59 = .ok (.iload 5, 2) := by decide +kernel
theorem dX4_nextOfBest_61 : decode cX4_nextOfBest 61 = .ok (.if_icmp .ne 6, 3) := by decide +kernel
theorem dX4_nextOfBest_64 : decode cX4_nextOfBest 64 = .ok (.iload 7, 2) := by decide +kernel
theorem dX4_nextOfBest_66 : decode cX4_nextOfBest 66 = .ok (.ireturn, 1) := by decide +kernel
theorem dX4_nextOfBest_67 : decode cX4_nextOfBest 67 = .ok (.iinc 7 1, 3) := by decide +kernel
theorem dX4_nextOfBest_70 : decode cX4_nextOfBest 70 = .ok (.goto (-43), 3) := by decide +kernel
theorem dX4_nextOfBest_73 : decode cX4_nextOfBest 73 = .ok (.bipush (-9), 2) := by decide +kernel
theorem dX4_nextOfBest_75 : decode cX4_nextOfBest 75 = .ok (.ireturn, 1) := by decide +kernel
theorem dX4_gainOf_0 : decode cX4_gainOf 0 = .ok (.iload 4, 2) := by decide +kernel
theorem dX4_gainOf_2 : decode cX4_gainOf 2 = .ok (.ifCond .le 10, 3) := by decide +kernel
theorem dX4_gainOf_5 : decode cX4_gainOf 5 = .ok (.iload 4, 2) := by decide +kernel
theorem dX4_gainOf_7 : decode cX4_gainOf 7 = .ok (.aload_n 2, 1) := by decide +kernel
theorem dX4_gainOf_8 : decode cX4_gainOf 8 = .ok (.arraylength, 1) := by decide +kernel
theorem dX4_gainOf_9 : decode cX4_gainOf 9 = .ok (.if_icmp .lt 5, 3) := by decide +kernel
theorem dX4_gainOf_12 : decode cX4_gainOf 12 = .ok (.iconst 2, 1) := by decide +kernel
theorem dX4_gainOf_13 : decode cX4_gainOf 13 = .ok (.ireturn, 1) := by decide +kernel
theorem dX4_gainOf_14 : decode cX4_gainOf 14 = .ok (.iconst 4, 1) := by decide +kernel
theorem dX4_gainOf_15 : decode cX4_gainOf 15 = .ok (.iload_n 3, 1) := by decide +kernel
theorem dX4_gainOf_16 : decode cX4_gainOf 16 = .ok (.imul, 1) := by decide +kernel
theorem dX4_gainOf_17 : decode cX4_gainOf 17 = .ok (.istore 5, 2) := by decide +kernel
theorem dX4_gainOf_19 : decode cX4_gainOf 19 = .ok (.aload_n 2, 1) := by decide +kernel
theorem dX4_gainOf_20 : decode cX4_gainOf 20 = .ok (.iload 4, 2) := by decide +kernel
theorem dX4_gainOf_22 : decode cX4_gainOf 22 = .ok (.laload, 1) := by decide +kernel
theorem dX4_gainOf_23 : decode cX4_gainOf 23 = .ok (.iload 5, 2) := by decide +kernel
theorem dX4_gainOf_25 : decode cX4_gainOf 25 = .ok (.lshr, 1) := by decide +kernel
theorem dX4_gainOf_26 : decode cX4_gainOf 26 = .ok (.l2i, 1) := by decide +kernel
theorem dX4_gainOf_27 : decode cX4_gainOf 27 = .ok (.bipush 15, 2) := by decide +kernel
theorem dX4_gainOf_29 : decode cX4_gainOf 29 = .ok (.iand, 1) := by decide +kernel
theorem dX4_gainOf_30 : decode cX4_gainOf 30 = .ok (.istore 6, 2) := by decide +kernel
theorem dX4_gainOf_32 : decode cX4_gainOf 32 = .ok (.iload 6, 2) := by decide +kernel
theorem dX4_gainOf_34 : decode cX4_gainOf 34 = .ok (.ifCond .eq 6, 3) := by decide +kernel
theorem dX4_gainOf_37 : decode cX4_gainOf 37 = .ok (.iload 6, 2) := by decide +kernel
theorem dX4_gainOf_39 : decode cX4_gainOf 39 = .ok (.ireturn, 1) := by decide +kernel
theorem dX4_gainOf_40 : decode cX4_gainOf 40 = .ok (.iconst 1, 1) := by decide +kernel
theorem dX4_gainOf_41 : decode cX4_gainOf 41 = .ok (.istore 6, 2) := by decide +kernel
theorem dX4_gainOf_43 : decode cX4_gainOf 43 = .ok (.aload_n 0, 1) := by decide +kernel
theorem dX4_gainOf_44 : decode cX4_gainOf 44 = .ok (.iload_n 3, 1) := by decide +kernel
theorem dX4_gainOf_45 : decode cX4_gainOf 45 = .ok (.invokevirtual 49, 3) := by decide +kernel
theorem dX4_gainOf_48 : decode cX4_gainOf 48 = .ok (.iload 4, 2) := by decide +kernel
theorem dX4_gainOf_50 : decode cX4_gainOf 50 = .ok (.iand, 1) := by decide +kernel
theorem dX4_gainOf_51 : decode cX4_gainOf 51 = .ok (.istore 7, 2) := by decide +kernel
theorem dX4_gainOf_53 : decode cX4_gainOf 53 = .ok (.iconst 0, 1) := by decide +kernel
theorem dX4_gainOf_54 : decode cX4_gainOf 54 = .ok (.istore 8, 2) := by decide +kernel
theorem dX4_gainOf_56 : decode cX4_gainOf 56 = .ok (.iload 8, 2) := by decide +kernel
theorem dX4_gainOf_58 : decode cX4_gainOf 58 = .ok (.aload_n 0, 1) := by decide +kernel
theorem dX4_gainOf_59 : decode cX4_gainOf 59 = .ok (.getfield 35, 3) := by decide +kernel
theorem dX4_gainOf_62 : decode cX4_gainOf 62 = .ok (.if_icmp .ge 44, 3) := by decide +kernel
theorem dX4_gainOf_65 : decode cX4_gainOf 65 = .ok (.iload 7, 2) := by decide +kernel
theorem dX4_gainOf_67 : decode cX4_gainOf 67 = .ok (.iload 8, 2) := by decide +kernel
theorem dX4_gainOf_69 : decode cX4_gainOf 69 = .ok (.ishr, 1) := by decide +kernel
theorem dX4_gainOf_70 : decode cX4_gainOf 70 = .ok (.ifCond .eq 36, 3) := by decide +kernel
theorem dX4_gainOf_73 : decode cX4_gainOf 73 = .ok (.iload 7, 2) := by decide +kernel
theorem dX4_gainOf_75 : decode cX4_gainOf 75 = .ok (.iload 8, 2) := by decide +kernel
theorem dX4_gainOf_77 : decode cX4_gainOf 77 = .ok (.invokestatic 53, 3) := by decide +kernel
theorem dX4_gainOf_80 : decode cX4_gainOf 80 = .ok (.ifCond .eq 20, 3) := by decide +kernel
theorem dX4_gainOf_83 : decode cX4_gainOf 83 = .ok (.iload 6, 2) := by decide +kernel
theorem dX4_gainOf_85 : decode cX4_gainOf 85 = .ok (.aload_n 0, 1) := by decide +kernel
theorem dX4_gainOf_86 : decode cX4_gainOf 86 = .ok (.aload_n 1, 1) := by decide +kernel
theorem dX4_gainOf_87 : decode cX4_gainOf 87 = .ok (.aload_n 2, 1) := by decide +kernel
theorem dX4_gainOf_88 : decode cX4_gainOf 88 = .ok (.iload 8, 2) := by decide +kernel
theorem dX4_gainOf_90 : decode cX4_gainOf 90 = .ok (.iload 4, 2) := by decide +kernel
theorem dX4_gainOf_92 : decode cX4_gainOf 92 = .ok (.invokestatic 57, 3) := by decide +kernel
theorem dX4_gainOf_95 : decode cX4_gainOf 95 = .ok (.invokestatic 60, 3) := by decide +kernel
theorem dX4_gainOf_98 : decode cX4_gainOf 98 = .ok (.istore 6, 2) := by decide +kernel
theorem dX4_gainOf_100 : decode cX4_gainOf 100 = .ok (.iinc 8 1, 3) := by decide +kernel
theorem dX4_gainOf_103 : decode cX4_gainOf 103 = .ok (.goto (-47), 3) := by decide +kernel
theorem dX4_gainOf_106 : decode cX4_gainOf 106 = .ok (.aload_n 2, 1) := by decide +kernel
theorem dX4_gainOf_107 : decode cX4_gainOf 107 = .ok (.iload 4, 2) := by decide +kernel
theorem dX4_gainOf_109 : decode cX4_gainOf 109 = .ok (.dup2, 1) := by decide +kernel
theorem dX4_gainOf_110 : decode cX4_gainOf 110 = .ok (.laload, 1) := by decide +kernel
theorem dX4_gainOf_111 : decode cX4_gainOf 111 = .ok (.iload 6, 2) := by decide +kernel
theorem dX4_gainOf_113 : decode cX4_gainOf 113 = .ok (.i2l, 1) := by decide +kernel
theorem dX4_gainOf_114 : decode cX4_gainOf 114 = .ok (.iload 5, 2) := by decide +kernel
theorem dX4_gainOf_116 : decode cX4_gainOf 116 = .ok (.lshl, 1) := by decide +kernel
theorem dX4_gainOf_117 : decode cX4_gainOf 117 = .ok (.lor, 1) := by decide +kernel
theorem dX4_gainOf_118 : decode cX4_gainOf 118 = .ok (.lastore, 1) := by decide +kernel
theorem dX4_gainOf_119 : decode cX4_gainOf 119 = .ok (.iload 6, 2) := by decide +kernel
theorem dX4_gainOf_121 : decode cX4_gainOf 121 = .ok (.ireturn, 1) := by decide +kernel
theorem dX4_gainThrough_0 : decode cX4_gainThrough 0 = .ok (.aload_n 0, 1) := by decide +kernel
theorem dX4_gainThrough_1 : decode cX4_gainThrough 1 = .ok (.aload_n 1, 1) := by decide +kernel
theorem dX4_gainThrough_2 : decode cX4_gainThrough 2 = .ok (.aload_n 2, 1) := by decide +kernel
theorem dX4_gainThrough_3 : decode cX4_gainThrough 3 = .ok (.iload_n 3, 1) := by decide +kernel
theorem dX4_gainThrough_4 : decode cX4_gainThrough 4 = .ok (.iload 4, 2) := by decide +kernel
theorem dX4_gainThrough_6 : decode cX4_gainThrough 6 = .ok (.iconst 1, 1) := by decide +kernel
theorem dX4_gainThrough_7 : decode cX4_gainThrough 7 = .ok (.iload_n 3, 1) := by decide +kernel
theorem dX4_gainThrough_8 : decode cX4_gainThrough 8 = .ok (.ishl, 1) := by decide +kernel
theorem dX4_gainThrough_9 : decode cX4_gainThrough 9 = .ok (.iconst (-1), 1) := by decide +kernel
theorem dX4_gainThrough_10 : decode cX4_gainThrough 10 = .ok (.ixor, 1) := by decide +kernel
theorem dX4_gainThrough_11 : decode cX4_gainThrough 11 = .ok (.iand, 1) := by decide +kernel
theorem dX4_gainThrough_12 : decode cX4_gainThrough 12 = .ok (.invokestatic 25, 3) := by decide +kernel
theorem dX4_gainThrough_15 : decode cX4_gainThrough 15 = .ok (.istore 5, 2) := by decide +kernel
theorem dX4_gainThrough_17 : decode cX4_gainThrough 17 = .ok (.aload_n 0, 1) := by decide +kernel
theorem dX4_gainThrough_18 : decode cX4_gainThrough 18 = .ok (.getfield 35, 3) := by decide +kernel
theorem dX4_gainThrough_21 : decode cX4_gainThrough 21 = .ok (.iload 4, 2) := by decide +kernel
theorem dX4_gainThrough_23 : decode cX4_gainThrough 23 = .ok (.invokestatic 65, 3) := by decide +kernel
theorem dX4_gainThrough_26 : decode cX4_gainThrough 26 = .ok (.isub, 1) := by decide +kernel
theorem dX4_gainThrough_27 : decode cX4_gainThrough 27 = .ok (.istore 6, 2) := by decide +kernel
theorem dX4_gainThrough_29 : decode cX4_gainThrough 29 = .ok (.iload 5, 2) := by decide +kernel
theorem dX4_gainThrough_31 : decode cX4_gainThrough 31 = .ok (.iconst 1, 1) := by decide +kernel
theorem dX4_gainThrough_32 : decode cX4_gainThrough 32 = .ok (.if_icmp .ne 7, 3) := by decide +kernel
theorem dX4_gainThrough_35 : decode cX4_gainThrough 35 = .ok (.iconst 1, 1) := by decide +kernel
theorem dX4_gainThrough_36 : decode cX4_gainThrough 36 = .ok (.goto 13, 3) := by decide +kernel
theorem dX4_gainThrough_39 : decode cX4_gainThrough 39 = .ok (.iload 5, 2) := by decide +kernel
theorem dX4_gainThrough_41 : decode cX4_gainThrough 41 = .ok (.aload_n 1, 1) := by decide +kernel
theorem dX4_gainThrough_42 : decode cX4_gainThrough 42 = .ok (.iload 6, 2) := by decide +kernel
theorem dX4_gainThrough_44 : decode cX4_gainThrough 44 = .ok (.iload_n 3, 1) := by decide +kernel
theorem dX4_gainThrough_45 : decode cX4_gainThrough 45 = .ok (.invokevirtual 29, 3) := by decide +kernel
theorem dX4_gainThrough_48 : decode cX4_gainThrough 48 = .ok (.iadd, 1) := by decide +kernel
theorem dX4_gainThrough_49 : decode cX4_gainThrough 49 = .ok (.ireturn, 1) := by decide +kernel
theorem dX5_copyFrom_0 : decode cX5_copyFrom 0 = .ok (.aload_n 0, 1) := by decide +kernel
theorem dX5_copyFrom_1 : decode cX5_copyFrom 1 = .ok (.getfield 10, 3) := by decide +kernel
theorem dX5_copyFrom_4 : decode cX5_copyFrom 4 = .ok (.aload_n 1, 1) := by decide +kernel
theorem dX5_copyFrom_5 : decode cX5_copyFrom 5 = .ok (.getfield 10, 3) := by decide +kernel
theorem dX5_copyFrom_8 : decode cX5_copyFrom 8 = .ok (.invokevirtual 30, 3) := by decide +kernel
theorem dX5_copyFrom_11 : decode cX5_copyFrom 11 = .ok (.aload_n 0, 1) := by decide +kernel
theorem dX5_copyFrom_12 : decode cX5_copyFrom 12 = .ok (.getfield 19, 3) := by decide +kernel
theorem dX5_copyFrom_15 : decode cX5_copyFrom 15 = .ok (.aload_n 1, 1) := by decide +kernel
theorem dX5_copyFrom_16 : decode cX5_copyFrom 16 = .ok (.getfield 19, 3) := by decide +kernel
theorem dX5_copyFrom_19 : decode cX5_copyFrom 19 = .ok (.invokevirtual 34, 3) := by decide +kernel
theorem dX5_copyFrom_22 : decode cX5_copyFrom 22 = .ok (.aload_n 0, 1) := by decide +kernel
theorem dX5_copyFrom_23 : decode cX5_copyFrom 23 = .ok (.getfield 26, 3) := by decide +kernel
theorem dX5_copyFrom_26 : decode cX5_copyFrom 26 = .ok (.aload_n 1, 1) := by decide +kernel
theorem dX5_copyFrom_27 : decode cX5_copyFrom 27 = .ok (.getfield 26, 3) := by decide +kernel
theorem dX5_copyFrom_30 : decode cX5_copyFrom 30 = .ok (.invokevirtual 37, 3) := by decide +kernel
theorem dX5_copyFrom_33 : decode cX5_copyFrom 33 = .ok (.return_, 1) := by decide +kernel
theorem dX6_takeSong_0 : decode cX6_takeSong 0 = .ok (.aload_n 1, 1) := by decide +kernel
theorem dX6_takeSong_1 : decode cX6_takeSong 1 = .ok (.iload_n 2, 1) := by decide +kernel
theorem dX6_takeSong_2 : decode cX6_takeSong 2 = .ok (.invokevirtual 31, 3) := by decide +kernel
theorem dX6_takeSong_5 : decode cX6_takeSong 5 = .ok (.istore_n 3, 1) := by decide +kernel
theorem dX6_takeSong_6 : decode cX6_takeSong 6 = .ok (.aload_n 0, 1) := by decide +kernel
theorem dX6_takeSong_7 : decode cX6_takeSong 7 = .ok (.iload_n 3, 1) := by decide +kernel
theorem dX6_takeSong_8 : decode cX6_takeSong 8 = .ok (.ifCond .le 11, 3) := by decide +kernel
theorem dX6_takeSong_11 : decode cX6_takeSong 11 = .ok (.iconst 1, 1) := by decide +kernel
theorem dX6_takeSong_12 : decode cX6_takeSong 12 = .ok (.iload_n 3, 1) := by decide +kernel
theorem dX6_takeSong_13 : decode cX6_takeSong 13 = .ok (.iconst 1, 1) := by decide +kernel
theorem dX6_takeSong_14 : decode cX6_takeSong 14 = .ok (.isub, 1) := by decide +kernel
theorem dX6_takeSong_15 : decode cX6_takeSong 15 = .ok (.ishl, 1) := by decide +kernel
theorem dX6_takeSong_16 : decode cX6_takeSong 16 = .ok (.goto 4, 3) := by decide +kernel
theorem dX6_takeSong_19 : decode cX6_takeSong 19 = .ok (.iconst 0, 1) := by decide +kernel
theorem dX6_takeSong_20 : decode cX6_takeSong 20 = .ok (.putfield 37, 3) := by decide +kernel
theorem dX6_takeSong_23 : decode cX6_takeSong 23 = .ok (.iconst 0, 1) := by decide +kernel
theorem dX6_takeSong_24 : decode cX6_takeSong 24 = .ok (.istore 4, 2) := by decide +kernel
theorem dX6_takeSong_26 : decode cX6_takeSong 26 = .ok (.iload 4, 2) := by decide +kernel
theorem dX6_takeSong_28 : decode cX6_takeSong 28 = .ok (.bipush 7, 2) := by decide +kernel
theorem dX6_takeSong_30 : decode cX6_takeSong 30 = .ok (.if_icmp .gt 69, 3) := by decide +kernel
theorem dX6_takeSong_33 : decode cX6_takeSong 33 = .ok (.aload_n 0, 1) := by decide +kernel
theorem dX6_takeSong_34 : decode cX6_takeSong 34 = .ok (.getfield 11, 3) := by decide +kernel
theorem dX6_takeSong_37 : decode cX6_takeSong 37 = .ok (.iload 4, 2) := by decide +kernel
theorem dX6_takeSong_39 : decode cX6_takeSong 39 = .ok (.iconst 0, 1) := by decide +kernel
theorem dX6_takeSong_40 : decode cX6_takeSong 40 = .ok (.iastore, 1) := by decide +kernel
theorem dX6_takeSong_41 : decode cX6_takeSong 41 = .ok (.iconst 0, 1) := by decide +kernel
theorem dX6_takeSong_42 : decode cX6_takeSong 42 = .ok (.istore 5, 2) := by decide +kernel
theorem dX6_takeSong_44 : decode cX6_takeSong 44 = .ok (.iload 5, 2) := by decide +kernel
theorem dX6_takeSong_46 : decode cX6_takeSong 46 = .ok (.iload_n 3, 1) := by decide +kernel
theorem dX6_takeSong_47 : decode cX6_takeSong 47 = .ok (.if_icmp .ge 46, 3) := by decide +kernel
theorem dX6_takeSong_50 : decode cX6_takeSong 50 = .ok (.aload_n 1, 1) := by decide +kernel
theorem dX6_takeSong_51 : decode cX6_takeSong 51 = .ok (.iload_n 2, 1) := by decide +kernel
theorem dX6_takeSong_52 : decode cX6_takeSong 52 = .ok (.iload 5, 2) := by decide +kernel
theorem dX6_takeSong_54 : decode cX6_takeSong 54 = .ok (.invokevirtual 41, 3) := by decide +kernel
theorem dX6_takeSong_57 : decode cX6_takeSong 57 = .ok (.istore 6, 2) := by decide +kernel
theorem dX6_takeSong_59 : decode cX6_takeSong 59 = .ok (.iload 6, 2) := by decide +kernel
theorem dX6_takeSong_61 : decode cX6_takeSong 61 = .ok (.bipush 8, 2) := by decide +kernel
theorem dX6_takeSong_63 : decode cX6_takeSong 63 = .ok (.if_icmp .eq 10, 3) := by decide +kernel
theorem dX6_takeSong_66 : decode cX6_takeSong 66 = .ok (.iload 6, 2) := by decide +kernel
theorem dX6_takeSong_68 : decode cX6_takeSong 68 = .ok (.iload 4, 2) := by decide +kernel
theorem dX6_takeSong_70 : decode cX6_takeSong 70 = .ok (.if_icmp .ne 17, 3) := by decide +kernel
theorem dX6_takeSong_73 : decode cX6_takeSong 73 = .ok (.aload_n 0, 1) := by decide +kernel
theorem dX6_takeSong_74 : decode cX6_takeSong 74 = .ok (.getfield 11, 3) := by decide +kernel
theorem dX6_takeSong_77 : decode cX6_takeSong 77 = .ok (.iload 4, 2) := by decide +kernel
theorem dX6_takeSong_79 : decode cX6_takeSong 79 = .ok (.dup2, 1) := by decide +kernel
theorem dX6_takeSong_80 : decode cX6_takeSong 80 = .ok (.iaload, 1) := by decide +kernel
theorem dX6_takeSong_81 : decode cX6_takeSong 81 = .ok (.iconst 1, 1) := by decide +kernel
theorem dX6_takeSong_82 : decode cX6_takeSong 82 = .ok (.iload 5, 2) := by decide +kernel
theorem dX6_takeSong_84 : decode cX6_takeSong 84 = .ok (.ishl, 1) := by decide +kernel
theorem dX6_takeSong_85 : decode cX6_takeSong 85 = .ok (.ior, 1) := by decide +kernel
theorem dX6_takeSong_86 : decode cX6_takeSong 86 = .ok (.iastore, 1) := by decide +kernel
theorem dX6_takeSong_87 : decode cX6_takeSong 87 = .ok (.iinc 5 1, 3) := by decide +kernel
theorem dX6_takeSong_90 : decode cX6_takeSong 90 = .ok (.goto (-46), 3) := by decide +kernel
theorem dX6_takeSong_93 : decode cX6_takeSong 93 = .ok (.iinc 4 1, 3) := by decide +kernel
theorem dX6_takeSong_96 : decode cX6_takeSong 96 = .ok (.goto (-70), 3) := by decide +kernel
theorem dX6_takeSong_99 : decode cX6_takeSong 99 = .ok (.return_, 1) := by decide +kernel
theorem dX6_stateAt_0 : decode cX6_stateAt 0 = .ok (.iload_n 3, 1) := by decide +kernel
theorem dX6_stateAt_1 : decode cX6_stateAt 1 = .ok (.iconst 1, 1) := by decide +kernel
theorem dX6_stateAt_2 : decode cX6_stateAt 2 = .ok (.ishl, 1) := by decide +kernel
theorem dX6_stateAt_3 : decode cX6_stateAt 3 = .ok (.iconst 1, 1) := by decide +kernel
theorem dX6_stateAt_4 : decode cX6_stateAt 4 = .ok (.ior, 1) := by decide +kernel
theorem dX6_stateAt_5 : decode cX6_stateAt 5 = .ok (.aload_n 0, 1) := by decide +kernel
theorem dX6_stateAt_6 : decode cX6_stateAt 6 = .ok (.getfield 11, 3) := by decide +kernel
theorem dX6_stateAt_9 : decode cX6_stateAt 9 = .ok (.aload_n 1, 1) := by decide +kernel
theorem dX6_stateAt_10 : decode cX6_stateAt 10 = .ok (.getfield 45, 3) := by decide +kernel
theorem dX6_stateAt_13 : decode cX6_stateAt 13 = .ok (.iload_n 2, 1) := by decide +kernel
theorem dX6_stateAt_14 : decode cX6_stateAt 14 = .ok (.iaload, 1) := by decide +kernel
theorem dX6_stateAt_15 : decode cX6_stateAt 15 = .ok (.iaload, 1) := by decide +kernel
theorem dX6_stateAt_16 : decode cX6_stateAt 16 = .ok (.iand, 1) := by decide +kernel
theorem dX6_stateAt_17 : decode cX6_stateAt 17 = .ok (.istore 4, 2) := by decide +kernel
theorem dX6_stateAt_19 : decode cX6_stateAt 19 = .ok (.iload 4, 2) := by decide +kernel
theorem dX6_stateAt_21 : decode cX6_stateAt 21 = .ok (.aload_n 0, 1) := by decide +kernel
theorem dX6_stateAt_22 : decode cX6_stateAt 22 = .ok (.getfield 37, 3) := by decide +kernel
theorem dX6_stateAt_25 : decode cX6_stateAt 25 = .ok (.iand, 1) := by decide +kernel
theorem dX6_stateAt_26 : decode cX6_stateAt 26 = .ok (.ifCond .ne 14, 3) := by decide +kernel
theorem dX6_stateAt_29 : decode cX6_stateAt 29 = .ok (.iload 4, 2) := by decide +kernel
theorem dX6_stateAt_31 : decode cX6_stateAt 31 = .ok (.bipush 32, 2) := by decide +kernel
theorem dX6_stateAt_33 : decode cX6_stateAt 33 = .ok (.if_icmp .ge 7, 3) := by decide +kernel
theorem dX6_stateAt_36 : decode cX6_stateAt 36 = .ok (.iconst 1, 1) := by decide +kernel
theorem dX6_stateAt_37 : decode cX6_stateAt 37 = .ok (.goto 4, 3) := by decide +kernel
theorem dX6_stateAt_40 : decode cX6_stateAt 40 = .ok (.iconst 0, 1) := by decide +kernel
theorem dX6_stateAt_41 : decode cX6_stateAt 41 = .ok (.istore 5, 2) := by decide +kernel
theorem dX6_stateAt_43 : decode cX6_stateAt 43 = .ok (.iload 5, 2) := by decide +kernel
theorem dX6_stateAt_45 : decode cX6_stateAt 45 = .ok (.ifCond .eq 13, 3) := by decide +kernel
theorem dX6_stateAt_48 : decode cX6_stateAt 48 = .ok (.iload_n 2, 1) := by decide +kernel
theorem dX6_stateAt_49 : decode cX6_stateAt 49 = .ok (.bipush 32, 2) := by decide +kernel
theorem dX6_stateAt_51 : decode cX6_stateAt 51 = .ok (.imul, 1) := by decide +kernel
theorem dX6_stateAt_52 : decode cX6_stateAt 52 = .ok (.iload 4, 2) := by decide +kernel
theorem dX6_stateAt_54 : decode cX6_stateAt 54 = .ok (.iadd, 1) := by decide +kernel
theorem dX6_stateAt_55 : decode cX6_stateAt 55 = .ok (.goto 5, 3) := by decide +kernel
theorem dX6_stateAt_58 : decode cX6_stateAt 58 = .ok (.bipush (-9), 2) := by decide +kernel
theorem dX6_stateAt_60 : decode cX6_stateAt 60 = .ok (.ireturn, 1) := by decide +kernel
theorem dX6_findWay_0 : decode cX6_findWay 0 = .ok (.aload_n 0, 1) := by decide +kernel
theorem dX6_findWay_1 : decode cX6_findWay 1 = .ok (.getfield 15, 3) := by decide +kernel
theorem dX6_findWay_4 : decode cX6_findWay 4 = .ok (.iconst 0, 1) := by decide +kernel
theorem dX6_findWay_5 : decode cX6_findWay 5 = .ok (.invokestatic 48, 3) := by decide +kernel
theorem dX6_findWay_8 : decode cX6_findWay 8 = .ok (.aload_n 0, 1) := by decide +kernel
theorem dX6_findWay_9 : decode cX6_findWay 9 = .ok (.iconst 0, 1) := by decide +kernel
theorem dX6_findWay_10 : decode cX6_findWay 10 = .ok (.putfield 54, 3) := by decide +kernel
theorem dX6_findWay_13 : decode cX6_findWay 13 = .ok (.aload_n 0, 1) := by decide +kernel
theorem dX6_findWay_14 : decode cX6_findWay 14 = .ok (.aload_n 0, 1) := by decide +kernel
theorem dX6_findWay_15 : decode cX6_findWay 15 = .ok (.aload_n 1, 1) := by decide +kernel
theorem dX6_findWay_16 : decode cX6_findWay 16 = .ok (.iload_n 2, 1) := by decide +kernel
theorem dX6_findWay_17 : decode cX6_findWay 17 = .ok (.iconst 0, 1) := by decide +kernel
theorem dX6_findWay_18 : decode cX6_findWay 18 = .ok (.invokevirtual 57, 3) := by decide +kernel
theorem dX6_findWay_21 : decode cX6_findWay 21 = .ok (.bipush (-9), 2) := by decide +kernel
theorem dX6_findWay_23 : decode cX6_findWay 23 = .ok (.invokevirtual 61, 3) := by decide +kernel
theorem dX6_findWay_26 : decode cX6_findWay 26 = .ok (.iconst 0, 1) := by decide +kernel
theorem dX6_findWay_27 : decode cX6_findWay 27 = .ok (.istore 4, 2) := by decide +kernel
theorem dX6_findWay_29 : decode cX6_findWay 29 = .ok (.iload 4, 2) := by decide +kernel
theorem dX6_findWay_31 : decode cX6_findWay 31 = .ok (.aload_n 0, 1) := by decide +kernel
theorem dX6_findWay_32 : decode cX6_findWay 32 = .ok (.getfield 54, 3) := by decide +kernel
theorem dX6_findWay_35 : decode cX6_findWay 35 = .ok (.if_icmp .ge 45, 3) := by decide +kernel
theorem dX6_findWay_38 : decode cX6_findWay 38 = .ok (.iload 4, 2) := by decide +kernel
theorem dX6_findWay_40 : decode cX6_findWay 40 = .ok (.sipush 384, 3) := by decide +kernel
theorem dX6_findWay_43 : decode cX6_findWay 43 = .ok (.if_icmp .ge 37, 3) := by decide +kernel
theorem dX6_findWay_46 : decode cX6_findWay 46 = .ok (.aload_n 0, 1) := by decide +kernel
theorem dX6_findWay_47 : decode cX6_findWay 47 = .ok (.getfield 18, 3) := by decide +kernel
theorem dX6_findWay_50 : decode cX6_findWay 50 = .ok (.iload 4, 2) := by decide +kernel
theorem dX6_findWay_52 : decode cX6_findWay 52 = .ok (.iaload, 1) := by decide +kernel
theorem dX6_findWay_53 : decode cX6_findWay 53 = .ok (.bipush 32, 2) := by decide +kernel
theorem dX6_findWay_55 : decode cX6_findWay 55 = .ok (.idiv, 1) := by decide +kernel
theorem dX6_findWay_56 : decode cX6_findWay 56 = .ok (.istore 5, 2) := by decide +kernel
theorem dX6_findWay_58 : decode cX6_findWay 58 = .ok (.iload 5, 2) := by decide +kernel
theorem dX6_findWay_60 : decode cX6_findWay 60 = .ok (.iload_n 3, 1) := by decide +kernel
theorem dX6_findWay_61 : decode cX6_findWay 61 = .ok (.if_icmp .ne 6, 3) := by decide +kernel
theorem dX6_findWay_64 : decode cX6_findWay 64 = .ok (.iload 4, 2) := by decide +kernel
theorem dX6_findWay_66 : decode cX6_findWay 66 = .ok (.ireturn, 1) := by decide +kernel
theorem dX6_findWay_67 : decode cX6_findWay 67 = .ok (.aload_n 0, 1) := by decide +kernel
theorem dX6_findWay_68 : decode cX6_findWay 68 = .ok (.aload_n 1, 1) := by decide +kernel
theorem dX6_findWay_69 : decode cX6_findWay 69 = .ok (.iload 4, 2) := by decide +kernel
theorem dX6_findWay_71 : decode cX6_findWay 71 = .ok (.invokevirtual 65, 3) := by decide +kernel
theorem dX6_findWay_74 : decode cX6_findWay 74 = .ok (.iinc 4 1, 3) := by decide +kernel
theorem dX6_findWay_77 : decode cX6_findWay 77 = .ok (.goto (-48), 3) := by decide +kernel
theorem dX6_findWay_80 : decode cX6_findWay 80 = .ok (.bipush (-9), 2) := by decide +kernel
theorem dX6_findWay_82 : decode cX6_findWay 82 = .ok (.ireturn, 1) := by decide +kernel
theorem dX6_enqueueAround_0 : decode cX6_enqueueAround 0 = .ok (.aload_n 1, 1) := by decide +kernel
theorem dX6_enqueueAround_1 : decode cX6_enqueueAround 1 = .ok (.aload_n 0, 1) := by decide +kernel
theorem dX6_enqueueAround_2 : decode cX6_enqueueAround 2 = .ok (.getfield 18, 3) := by decide +kernel
theorem dX6_enqueueAround_5 : decode cX6_enqueueAround 5 = .ok (.iload_n 2, 1) := by decide +kernel
theorem dX6_enqueueAround_6 : decode cX6_enqueueAround 6 = .ok (.iaload, 1) := by decide +kernel
theorem dX6_enqueueAround_7 : decode cX6_enqueueAround 7 = .ok (.bipush 32, 2) := by decide +kernel
theorem dX6_enqueueAround_9 : decode cX6_enqueueAround 9 = .ok (.idiv, 1) := by decide +kernel
theorem dX6_enqueueAround_10 : decode cX6_enqueueAround 10 = .ok (.invokevirtual 69, 3) := by decide +kernel
theorem dX6_enqueueAround_13 : decode cX6_enqueueAround 13 = .ok (.istore_n 3, 1) := by decide +kernel
theorem dX6_enqueueAround_14 : decode cX6_enqueueAround 14 = .ok (.iconst 0, 1) := by decide +kernel
theorem dX6_enqueueAround_15 : decode cX6_enqueueAround 15 = .ok (.istore 4, 2) := by decide +kernel
theorem dX6_enqueueAround_17 : decode cX6_enqueueAround 17 = .ok (.iload 4, 2) := by decide +kernel
theorem dX6_enqueueAround_19 : decode cX6_enqueueAround 19 = .ok (.aload_n 1, 1) := by decide +kernel
theorem dX6_enqueueAround_20 : decode cX6_enqueueAround 20 = .ok (.getfield 72, 3) := by decide +kernel
theorem dX6_enqueueAround_23 : decode cX6_enqueueAround 23 = .ok (.if_icmp .ge 39, 3) := by decide +kernel
theorem dX6_enqueueAround_26 : decode cX6_enqueueAround 26 = .ok (.iload_n 3, 1) := by decide +kernel
theorem dX6_enqueueAround_27 : decode cX6_enqueueAround 27 = .ok (.iload 4, 2) := by decide +kernel
theorem dX6_enqueueAround_29 : decode cX6_enqueueAround 29 = .ok (.invokestatic 75, 3) := by decide +kernel
theorem dX6_enqueueAround_32 : decode cX6_enqueueAround 32 = .ok (.ifCond .eq 24, 3) := by decide +kernel
theorem dX6_enqueueAround_35 : decode cX6_enqueueAround 35 = .ok (.aload_n 0, 1) := by decide +kernel
theorem dX6_enqueueAround_36 : decode cX6_enqueueAround 36 = .ok (.aload_n 0, 1) := by decide +kernel
theorem dX6_enqueueAround_37 : decode cX6_enqueueAround 37 = .ok (.aload_n 1, 1) := by decide +kernel
theorem dX6_enqueueAround_38 : decode cX6_enqueueAround 38 = .ok (.iload 4, 2) := by decide +kernel
theorem dX6_enqueueAround_40 : decode cX6_enqueueAround 40 = .ok (.aload_n 0, 1) := by decide +kernel
theorem dX6_enqueueAround_41 : decode cX6_enqueueAround 41 = .ok (.getfield 18, 3) := by decide +kernel
theorem dX6_enqueueAround_44 : decode cX6_enqueueAround 44 = .ok (.iload_n 2, 1) := by decide +kernel
theorem dX6_enqueueAround_45 : decode cX6_enqueueAround 45 = .ok (.iaload, 1) := by decide +kernel
theorem dX6_enqueueAround_46 : decode cX6_enqueueAround 46 = .ok (.bipush 32, 2) := by decide +kernel
theorem dX6_enqueueAround_48 : decode cX6_enqueueAround 48 = .ok (.irem, 1) := by decide +kernel
theorem dX6_enqueueAround_49 : decode cX6_enqueueAround 49 = .ok (.invokevirtual 57, 3) := by decide +kernel
theorem dX6_enqueueAround_52 : decode cX6_enqueueAround 52 = .ok (.iload_n 2, 1) := by decide +kernel
theorem dX6_enqueueAround_53 : decode cX6_enqueueAround 53 = .ok (.invokevirtual 61, 3) := by decide +kernel
theorem dX6_enqueueAround_56 : decode cX6_enqueueAround 56 = .ok (.iinc 4 1, 3) := by decide +kernel
theorem dX6_enqueueAround_59 : decode cX6_enqueueAround 59 = .ok (.goto (-42), 3) := by decide +kernel
theorem dX6_enqueueAround_62 : decode cX6_enqueueAround 62 = .ok (.return_, 1) := by decide +kernel
theorem dX6_enqueue_0 : decode cX6_enqueue 0 = .ok (.iload_n 1, 1) := by decide +kernel
theorem dX6_enqueue_1 : decode cX6_enqueue 1 = .ok (.bipush (-9), 2) := by decide +kernel
theorem dX6_enqueue_3 : decode cX6_enqueue 3 = .ok (.if_icmp .eq 13, 3) := by decide +kernel
theorem dX6_enqueue_6 : decode cX6_enqueue 6 = .ok (.aload_n 0, 1) := by decide +kernel
theorem dX6_enqueue_7 : decode cX6_enqueue 7 = .ok (.getfield 54, 3) := by decide +kernel
theorem dX6_enqueue_10 : decode cX6_enqueue 10 = .ok (.sipush 384, 3) := by decide +kernel
theorem dX6_enqueue_13 : decode cX6_enqueue 13 = .ok (.if_icmp .lt 4, 3) := by decide +kernel
theorem dX6_enqueue_16 : decode cX6_enqueue 16 = .ok (.return_, 1) := by decide +kernel
theorem dX6_enqueue_17 : decode cX6_enqueue 17 = .ok (.iload_n 1, 1) := by decide +kernel
theorem dX6_enqueue_18 : decode cX6_enqueue 18 = .ok (.bipush 32, 2) := by decide +kernel
theorem dX6_enqueue_20 : decode cX6_enqueue 20 = .ok (.idiv, 1) := by decide +kernel
theorem dX6_enqueue_21 : decode cX6_enqueue 21 = .ok (.istore_n 3, 1) := by decide +kernel
theorem dX6_enqueue_22 : decode cX6_enqueue 22 = .ok (.iconst 1, 1) := by decide +kernel
theorem dX6_enqueue_23 : decode cX6_enqueue 23 = .ok (.iload_n 1, 1) := by decide +kernel
theorem dX6_enqueue_24 : decode cX6_enqueue 24 = .ok (.bipush 32, 2) := by decide +kernel
theorem dX6_enqueue_26 : decode cX6_enqueue 26 = .ok (.irem, 1) := by decide +kernel
theorem dX6_enqueue_27 : decode cX6_enqueue 27 = .ok (.ishl, 1) := by decide +kernel
theorem dX6_enqueue_28 : decode cX6_enqueue 28 = .ok (.istore 4, 2) := by decide +kernel
theorem dX6_enqueue_30 : decode cX6_enqueue 30 = .ok (.aload_n 0, 1) := by decide +kernel
theorem dX6_enqueue_31 : decode cX6_enqueue 31 = .ok (.getfield 15, 3) := by decide +kernel
theorem dX6_enqueue_34 : decode cX6_enqueue 34 = .ok (.iload_n 3, 1) := by decide +kernel
theorem dX6_enqueue_35 : decode cX6_enqueue 35 = .ok (.iaload, 1) := by decide +kernel
theorem dX6_enqueue_36 : decode cX6_enqueue 36 = .ok (.iload 4, 2) := by decide +kernel
theorem dX6_enqueue_38 : decode cX6_enqueue 38 = .ok (.iand, 1) := by decide +kernel
theorem dX6_enqueue_39 : decode cX6_enqueue 39 = .ok (.ifCond .ne 44, 3) := by decide +kernel
theorem dX6_enqueue_42 : decode cX6_enqueue 42 = .ok (.aload_n 0, 1) := by decide +kernel
theorem dX6_enqueue_43 : decode cX6_enqueue 43 = .ok (.getfield 15, 3) := by decide +kernel
theorem dX6_enqueue_46 : decode cX6_enqueue 46 = .ok (.iload_n 3, 1) := by decide +kernel
theorem dX6_enqueue_47 : decode cX6_enqueue 47 = .ok (.dup2, 1) := by decide +kernel
theorem dX6_enqueue_48 : decode cX6_enqueue 48 = .ok (.iaload, 1) := by decide +kernel
theorem dX6_enqueue_49 : decode cX6_enqueue 49 = .ok (.iload 4, 2) := by decide +kernel
theorem dX6_enqueue_51 : decode cX6_enqueue 51 = .ok (.ior, 1) := by decide +kernel
theorem dX6_enqueue_52 : decode cX6_enqueue 52 = .ok (.iastore, 1) := by decide +kernel
theorem dX6_enqueue_53 : decode cX6_enqueue 53 = .ok (.aload_n 0, 1) := by decide +kernel
theorem dX6_enqueue_54 : decode cX6_enqueue 54 = .ok (.getfield 18, 3) := by decide +kernel
theorem dX6_enqueue_57 : decode cX6_enqueue 57 = .ok (.aload_n 0, 1) := by decide +kernel
theorem dX6_enqueue_58 : decode cX6_enqueue 58 = .ok (.getfield 54, 3) := by decide +kernel
theorem dX6_enqueue_61 : decode cX6_enqueue 61 = .ok (.iload_n 1, 1) := by decide +kernel
theorem dX6_enqueue_62 : decode cX6_enqueue 62 = .ok (.iastore, 1) := by decide +kernel
theorem dX6_enqueue_63 : decode cX6_enqueue 63 = .ok (.aload_n 0, 1) := by decide +kernel
theorem dX6_enqueue_64 : decode cX6_enqueue 64 = .ok (.getfield 21, 3) := by decide +kernel
theorem dX6_enqueue_67 : decode cX6_enqueue 67 = .ok (.aload_n 0, 1) := by decide +kernel
theorem dX6_enqueue_68 : decode cX6_enqueue 68 = .ok (.getfield 54, 3) := by decide +kernel
theorem dX6_enqueue_71 : decode cX6_enqueue 71 = .ok (.iload_n 2, 1) := by decide +kernel
theorem dX6_enqueue_72 : decode cX6_enqueue 72 = .ok (.iastore, 1) := by decide +kernel
theorem dX6_enqueue_73 : decode cX6_enqueue 73 = .ok (.aload_n 0, 1) := by decide +kernel
theorem dX6_enqueue_74 : decode cX6_enqueue 74 = .ok (.dup, 1) := by decide +kernel
theorem dX6_enqueue_75 : decode cX6_enqueue 75 = .ok (.getfield 54, 3) := by decide +kernel
theorem dX6_enqueue_78 : decode cX6_enqueue 78 = .ok (.iconst 1, 1) := by decide +kernel
theorem dX6_enqueue_79 : decode cX6_enqueue 79 = .ok (.iadd, 1) := by decide +kernel
theorem dX6_enqueue_80 : decode cX6_enqueue 80 = .ok (.putfield 54, 3) := by decide +kernel
theorem dX6_enqueue_83 : decode cX6_enqueue 83 = .ok (.return_, 1) := by decide +kernel
theorem dX6_stepsOfWay_0 : decode cX6_stepsOfWay 0 = .ok (.iload_n 1, 1) := by decide +kernel
theorem dX6_stepsOfWay_1 : decode cX6_stepsOfWay 1 = .ok (.bipush (-9), 2) := by decide +kernel
theorem dX6_stepsOfWay_3 : decode cX6_stepsOfWay 3 = .ok (.if_icmp .ne 6, 3) := by decide +kernel
theorem dX6_stepsOfWay_6 : decode cX6_stepsOfWay 6 = .ok (.bipush (-9), 2) := by decide +kernel
theorem dX6_stepsOfWay_8 : decode cX6_stepsOfWay 8 = .ok (.ireturn, 1) := by decide +kernel
theorem dX6_stepsOfWay_9 : decode cX6_stepsOfWay 9 = .ok (.iconst 0, 1) := by decide +kernel
theorem dX6_stepsOfWay_10 : decode cX6_stepsOfWay 10 = .ok (.istore_n 2, 1) := by decide +kernel
theorem dX6_stepsOfWay_11 : decode cX6_stepsOfWay 11 = .ok (.aload_n 0, 1) := by decide +kernel
theorem dX6_stepsOfWay_12 : decode cX6_stepsOfWay 12 = .ok (.getfield 21, 3) := by decide +kernel
theorem dX6_stepsOfWay_15 : decode cX6_stepsOfWay 15 = .ok (.iload_n 1, 1) := by decide +kernel
theorem dX6_stepsOfWay_16 : decode cX6_stepsOfWay 16 = .ok (.iaload, 1) := by decide +kernel
theorem dX6_stepsOfWay_17 : decode cX6_stepsOfWay 17 = .ok (.istore_n 3, 1) := by decide +kernel
theorem dX6_stepsOfWay_18 : decode cX6_stepsOfWay 18 = .ok (.iload_n 3, 1) := by decide +kernel
theorem dX6_stepsOfWay_19 : decode cX6_stepsOfWay 19 = .ok (.ifCond .lt 23, 3) := by decide +kernel
theorem dX6_stepsOfWay_22 : decode cX6_stepsOfWay 22 = .ok (.iload_n 2, 1) := by decide +kernel
theorem dX6_stepsOfWay_23 : decode cX6_stepsOfWay 23 = .ok (.sipush 384, 3) := by decide +kernel
theorem dX6_stepsOfWay_26 : decode cX6_stepsOfWay 26 = .ok (.if_icmp .ge 16, 3) := by decide +kernel
theorem dX6_stepsOfWay_29 : decode cX6_stepsOfWay 29 = .ok (.iinc 2 1, 3) := by decide +kernel
theorem dX6_stepsOfWay_32 : decode cX6_stepsOfWay 32 = .ok (.aload_n 0, 1) := by decide +kernel
theorem dX6_stepsOfWay_33 : decode cX6_stepsOfWay 33 = .ok (.getfield 21, 3) := by decide +kernel
theorem dX6_stepsOfWay_36 : decode cX6_stepsOfWay 36 = .ok (.iload_n 3, 1) := by decide +kernel
theorem dX6_stepsOfWay_37 : decode cX6_stepsOfWay 37 = .ok (.iaload, 1) := by decide +kernel
theorem dX6_stepsOfWay_38 : decode cX6_stepsOfWay 38 = .ok (.istore_n 3, 1) := by decide +kernel
theorem dX6_stepsOfWay_39 : decode cX6_stepsOfWay 39 = .ok (.goto (-21), 3) := by decide +kernel
theorem dX6_stepsOfWay_42 : decode cX6_stepsOfWay 42 = .ok (.iload_n 2, 1) := by decide +kernel
theorem dX6_stepsOfWay_43 : decode cX6_stepsOfWay 43 = .ok (.ireturn, 1) := by decide +kernel
theorem dX6_doorOfWay_0 : decode cX6_doorOfWay 0 = .ok (.aload_n 0, 1) := by decide +kernel
theorem dX6_doorOfWay_1 : decode cX6_doorOfWay 1 = .ok (.iload_n 1, 1) := by decide +kernel
theorem dX6_doorOfWay_2 : decode cX6_doorOfWay 2 = .ok (.invokevirtual 79, 3) := by decide +kernel
theorem dX6_doorOfWay_5 : decode cX6_doorOfWay 5 = .ok (.istore_n 3, 1) := by decide +kernel
theorem dX6_doorOfWay_6 : decode cX6_doorOfWay 6 = .ok (.iload_n 3, 1) := by decide +kernel
theorem dX6_doorOfWay_7 : decode cX6_doorOfWay 7 = .ok (.bipush (-9), 2) := by decide +kernel
theorem dX6_doorOfWay_9 : decode cX6_doorOfWay 9 = .ok (.if_icmp .eq 12, 3) := by decide +kernel
theorem dX6_doorOfWay_12 : decode cX6_doorOfWay 12 = .ok (.iload_n 2, 1) := by decide +kernel
theorem dX6_doorOfWay_13 : decode cX6_doorOfWay 13 = .ok (.ifCond .lt 8, 3) := by decide +kernel
theorem dX6_doorOfWay_16 : decode cX6_doorOfWay 16 = .ok (.iload_n 2, 1) := by decide +kernel
theorem dX6_doorOfWay_17 : decode cX6_doorOfWay 17 = .ok (.iload_n 3, 1) := by decide +kernel
theorem dX6_doorOfWay_18 : decode cX6_doorOfWay 18 = .ok (.if_icmp .le 6, 3) := by decide +kernel
theorem dX6_doorOfWay_21 : decode cX6_doorOfWay 21 = .ok (.bipush (-9), 2) := by decide +kernel
theorem dX6_doorOfWay_23 : decode cX6_doorOfWay 23 = .ok (.ireturn, 1) := by decide +kernel
theorem dX6_doorOfWay_24 : decode cX6_doorOfWay 24 = .ok (.iload_n 1, 1) := by decide +kernel
theorem dX6_doorOfWay_25 : decode cX6_doorOfWay 25 = .ok (.istore 4, 2) := by decide +kernel
theorem dX6_doorOfWay_27 : decode cX6_doorOfWay 27 = .ok (.iload_n 3, 1) := by decide +kernel
theorem dX6_doorOfWay_28 : decode cX6_doorOfWay 28 = .ok (.istore 5, 2) := by decide +kernel
theorem dX6_doorOfWay_30 : decode cX6_doorOfWay 30 = .ok (.iload 5, 2) := by decide +kernel
theorem dX6_doorOfWay_32 : decode cX6_doorOfWay 32 = .ok (.iload_n 2, 1) := by decide +kernel
theorem dX6_doorOfWay_33 : decode cX6_doorOfWay 33 = .ok (.if_icmp .le 23, 3) := by decide +kernel
theorem dX6_doorOfWay_36 : decode cX6_doorOfWay 36 = .ok (.iload 4, 2) := by decide +kernel
theorem dX6_doorOfWay_38 : decode cX6_doorOfWay 38 = .ok (.ifCond .lt 18, 3) := by decide +kernel
theorem dX6_doorOfWay_41 : decode cX6_doorOfWay 41 = .ok (.aload_n 0, 1) := by decide +kernel
theorem dX6_doorOfWay_42 : decode cX6_doorOfWay 42 = .ok (.getfield 21, 3) := by decide +kernel
theorem dX6_doorOfWay_45 : decode cX6_doorOfWay 45 = .ok (.iload 4, 2) := by decide +kernel
theorem dX6_doorOfWay_47 : decode cX6_doorOfWay 47 = .ok (.iaload, 1) := by decide +kernel
theorem dX6_doorOfWay_48 : decode cX6_doorOfWay 48 = .ok (.istore 4, 2) := by decide +kernel
theorem dX6_doorOfWay_50 : decode cX6_doorOfWay 50 = .ok (.iinc 5 (-1), 3) := by decide +kernel
theorem dX6_doorOfWay_53 : decode cX6_doorOfWay 53 = .ok (.goto (-23), 3) := by decide +kernel
theorem dX6_doorOfWay_56 : decode cX6_doorOfWay 56 = .ok (.iload 4, 2) := by decide +kernel
theorem dX6_doorOfWay_58 : decode cX6_doorOfWay 58 = .ok (.ifCond .lt 16, 3) := by decide +kernel
theorem dX6_doorOfWay_61 : decode cX6_doorOfWay 61 = .ok (.aload_n 0, 1) := by decide +kernel
theorem dX6_doorOfWay_62 : decode cX6_doorOfWay 62 = .ok (.getfield 18, 3) := by decide +kernel
theorem dX6_doorOfWay_65 : decode cX6_doorOfWay 65 = .ok (.iload 4, 2) := by decide +kernel
theorem dX6_doorOfWay_67 : decode cX6_doorOfWay 67 = .ok (.iaload, 1) := by decide +kernel
theorem dX6_doorOfWay_68 : decode cX6_doorOfWay 68 = .ok (.bipush 32, 2) := by decide +kernel
theorem dX6_doorOfWay_70 : decode cX6_doorOfWay 70 = .ok (.idiv, 1) := by decide +kernel
theorem dX6_doorOfWay_71 : decode cX6_doorOfWay 71 = .ok (.goto 5, 3) := by decide +kernel
theorem dX6_doorOfWay_74 : decode cX6_doorOfWay 74 = .ok (.bipush (-9), 2) := by decide +kernel
theorem dX6_doorOfWay_76 : decode cX6_doorOfWay 76 = .ok (.ireturn, 1) := by decide +kernel
theorem dX6_countWays_0 : decode cX6_countWays 0 = .ok (.aload_n 0, 1) := by decide +kernel
theorem dX6_countWays_1 : decode cX6_countWays 1 = .ok (.getfield 24, 3) := by decide +kernel
theorem dX6_countWays_4 : decode cX6_countWays 4 = .ok (.lconst 0, 1) := by decide +kernel
theorem dX6_countWays_5 : decode cX6_countWays 5 = .ok (.invokestatic 82, 3) := by decide +kernel
theorem dX6_countWays_8 : decode cX6_countWays 8 = .ok (.aload_n 0, 1) := by decide +kernel
theorem dX6_countWays_9 : decode cX6_countWays 9 = .ok (.aload_n 1, 1) := by decide +kernel
theorem dX6_countWays_10 : decode cX6_countWays 10 = .ok (.iload_n 2, 1) := by decide +kernel
theorem dX6_countWays_11 : decode cX6_countWays 11 = .ok (.iconst 0, 1) := by decide +kernel
theorem dX6_countWays_12 : decode cX6_countWays 12 = .ok (.invokevirtual 57, 3) := by decide +kernel
theorem dX6_countWays_15 : decode cX6_countWays 15 = .ok (.istore 5, 2) := by decide +kernel
theorem dX6_countWays_17 : decode cX6_countWays 17 = .ok (.iload 5, 2) := by decide +kernel
theorem dX6_countWays_19 : decode cX6_countWays 19 = .ok (.bipush (-9), 2) := by decide +kernel
theorem dX6_countWays_21 : decode cX6_countWays 21 = .ok (.if_icmp .ne 5, 3) := by decide +kernel
theorem dX6_countWays_24 : decode cX6_countWays 24 = .ok (.lconst 0, 1) := by decide +kernel
theorem dX6_countWays_25 : decode cX6_countWays 25 = .ok (.lreturn, 1) := by decide +kernel
theorem dX6_countWays_26 : decode cX6_countWays 26 = .ok (.aload_n 0, 1) := by decide +kernel
theorem dX6_countWays_27 : decode cX6_countWays 27 = .ok (.getfield 24, 3) := by decide +kernel
theorem dX6_countWays_30 : decode cX6_countWays 30 = .ok (.iload 5, 2) := by decide +kernel
theorem dX6_countWays_32 : decode cX6_countWays 32 = .ok (.lconst 1, 1) := by decide +kernel
theorem dX6_countWays_33 : decode cX6_countWays 33 = .ok (.lastore, 1) := by decide +kernel
theorem dX6_countWays_34 : decode cX6_countWays 34 = .ok (.iconst 0, 1) := by decide +kernel
theorem dX6_countWays_35 : decode cX6_countWays 35 = .ok (.istore 6, 2) := by decide +kernel
theorem dX6_countWays_37 : decode cX6_countWays 37 = .ok (.iload 6, 2) := by decide +kernel
theorem dX6_countWays_39 : decode cX6_countWays 39 = .ok (.iload 4, 2) := by decide +kernel
theorem dX6_countWays_41 : decode cX6_countWays 41 = .ok (.if_icmp .ge 14, 3) := by decide +kernel
theorem dX6_countWays_44 : decode cX6_countWays 44 = .ok (.aload_n 0, 1) := by decide +kernel
theorem dX6_countWays_45 : decode cX6_countWays 45 = .ok (.aload_n 1, 1) := by decide +kernel
theorem dX6_countWays_46 : decode cX6_countWays 46 = .ok (.invokevirtual 85, 3) := by decide +kernel
theorem dX6_countWays_49 : decode cX6_countWays 49 = .ok (.iinc 6 1, 3) := by decide +kernel
theorem dX6_countWays_52 : decode cX6_countWays 52 = .ok (.goto (-15), 3) := by decide +kernel
theorem dX6_countWays_55 : decode cX6_countWays 55 = .ok (.lconst 0, 1) := by decide +kernel
theorem dX6_countWays_56 : decode cX6_countWays 56 = .ok (.lstore 6, 2) := by decide +kernel
theorem dX6_countWays_58 : decode cX6_countWays 58 = .ok (.iconst 0, 1) := by decide +kernel
theorem dX6_countWays_59 : decode cX6_countWays 59 = .ok (.istore 8, 2) := by decide +kernel
theorem dX6_countWays_61 : decode cX6_countWays 61 = .ok (.iload 8, 2) := by decide +kernel
theorem dX6_countWays_63 : decode cX6_countWays 63 = .ok (.bipush 32, 2) := by decide +kernel
theorem dX6_countWays_65 : decode cX6_countWays 65 = .ok (.if_icmp .ge 26, 3) := by decide +kernel
theorem dX6_countWays_68 : decode cX6_countWays 68 = .ok (.lload 6, 2) := by decide +kernel
theorem dX6_countWays_70 : decode cX6_countWays 70 = .ok (.aload_n 0, 1) := by decide +kernel
theorem dX6_countWays_71 : decode cX6_countWays 71 = .ok (.getfield 24, 3) := by decide +kernel
theorem dX6_countWays_74 : decode cX6_countWays 74 = .ok (.iload_n 3, 1) := by decide +kernel
theorem dX6_countWays_75 : decode cX6_countWays 75 = .ok (.bipush 32, 2) := by decide +kernel
theorem dX6_countWays_77 : decode cX6_countWays 77 = .ok (.imul, 1) := by decide +kernel
theorem dX6_countWays_78 : decode cX6_countWays 78 = .ok (.iload 8, 2) := by decide +kernel
theorem dX6_countWays_80 : decode cX6_countWays 80 = .ok (.iadd, 1) := by decide +kernel
theorem dX6_countWays_81 : decode cX6_countWays 81 = .ok (.laload, 1) := by decide +kernel
theorem dX6_countWays_82 : decode cX6_countWays 82 = .ok (.ladd, 1) := by decide +kernel
theorem dX6_countWays_83 : decode cX6_countWays 83 = .ok (.lstore 6, 2) := by decide +kernel
theorem dX6_countWays_85 : decode cX6_countWays 85 = .ok (.iinc 8 1, 3) := by decide +kernel
theorem dX6_countWays_88 : decode cX6_countWays 88 = .ok (.goto (-27), 3) := by decide +kernel
theorem dX6_countWays_91 : decode cX6_countWays 91 = .ok (.lload 6, 2) := by decide +kernel
theorem dX6_countWays_93 : decode cX6_countWays 93 = .ok (.lreturn, 1) := by decide +kernel
theorem dX6_countStep_0 : decode cX6_countStep 0 = .ok (.aload_n 0, 1) := by decide +kernel
theorem dX6_countStep_1 : decode cX6_countStep 1 = .ok (.getfield 28, 3) := by decide +kernel
theorem dX6_countStep_4 : decode cX6_countStep 4 = .ok (.lconst 0, 1) := by decide +kernel
theorem dX6_countStep_5 : decode cX6_countStep 5 = .ok (.invokestatic 82, 3) := by decide +kernel
theorem dX6_countStep_8 : decode cX6_countStep 8 = .ok (.iconst 0, 1) := by decide +kernel
theorem dX6_countStep_9 : decode cX6_countStep 9 = .ok (.istore_n 2, 1) := by decide +kernel
theorem dX6_countStep_10 : decode cX6_countStep 10 = .ok (.iload_n 2, 1) := by decide +kernel
theorem dX6_countStep_11 : decode cX6_countStep 11 = .ok (.sipush 384, 3) := by decide +kernel
theorem dX6_countStep_14 : decode cX6_countStep 14 = .ok (.if_icmp .ge 26, 3) := by decide +kernel
theorem dX6_countStep_17 : decode cX6_countStep 17 = .ok (.aload_n 0, 1) := by decide +kernel
theorem dX6_countStep_18 : decode cX6_countStep 18 = .ok (.getfield 24, 3) := by decide +kernel
theorem dX6_countStep_21 : decode cX6_countStep 21 = .ok (.iload_n 2, 1) := by decide +kernel
theorem dX6_countStep_22 : decode cX6_countStep 22 = .ok (.laload, 1) := by decide +kernel
theorem dX6_countStep_23 : decode cX6_countStep 23 = .ok (.lconst 0, 1) := by decide +kernel
theorem dX6_countStep_24 : decode cX6_countStep 24 = .ok (.lcmp, 1) := by decide +kernel
theorem dX6_countStep_25 : decode cX6_countStep 25 = .ok (.ifCond .eq 9, 3) := by decide +kernel
theorem dX6_countStep_28 : decode cX6_countStep 28 = .ok (.aload_n 0, 1) := by decide +kernel
theorem dX6_countStep_29 : decode cX6_countStep 29 = .ok (.aload_n 1, 1) := by decide +kernel
theorem dX6_countStep_30 : decode cX6_countStep 30 = .ok (.iload_n 2, 1) := by decide +kernel
theorem dX6_countStep_31 : decode cX6_countStep 31 = .ok (.invokevirtual 89, 3) := by decide +kernel
theorem dX6_countStep_34 : decode cX6_countStep 34 = .ok (.iinc 2 1, 3) := by decide +kernel
theorem dX6_countStep_37 : decode cX6_countStep 37 = .ok (.goto (-27), 3) := by decide +kernel
theorem dX6_countStep_40 : decode cX6_countStep 40 = .ok (.aload_n 0, 1) := by decide +kernel
theorem dX6_countStep_41 : decode cX6_countStep 41 = .ok (.getfield 24, 3) := by decide +kernel
theorem dX6_countStep_44 : decode cX6_countStep 44 = .ok (.astore_n 2, 1) := by decide +kernel
theorem dX6_countStep_45 : decode cX6_countStep 45 = .ok (.aload_n 0, 1) := by decide +kernel
theorem dX6_countStep_46 : decode cX6_countStep 46 = .ok (.aload_n 0, 1) := by decide +kernel
theorem dX6_countStep_47 : decode cX6_countStep 47 = .ok (.getfield 28, 3) := by decide +kernel
theorem dX6_countStep_50 : decode cX6_countStep 50 = .ok (.putfield 24, 3) := by decide +kernel
theorem dX6_countStep_53 : decode cX6_countStep 53 = .ok (.aload_n 0, 1) := by decide +kernel
theorem dX6_countStep_54 : decode cX6_countStep 54 = .ok (.aload_n 2, 1) := by decide +kernel
theorem dX6_countStep_55 : decode cX6_countStep 55 = .ok (.putfield 28, 3) := by decide +kernel
theorem dX6_countStep_58 : decode cX6_countStep 58 = .ok (.return_, 1) := by decide +kernel
theorem dX6_countAround_0 : decode cX6_countAround 0 = .ok (.aload_n 1, 1) := by decide +kernel
theorem dX6_countAround_1 : decode cX6_countAround 1 = .ok (.iload_n 2, 1) := by decide +kernel
theorem dX6_countAround_2 : decode cX6_countAround 2 = .ok (.bipush 32, 2) := by decide +kernel
theorem dX6_countAround_4 : decode cX6_countAround 4 = .ok (.idiv, 1) := by decide +kernel
theorem dX6_countAround_5 : decode cX6_countAround 5 = .ok (.invokevirtual 69, 3) := by decide +kernel
theorem dX6_countAround_8 : decode cX6_countAround 8 = .ok (.istore_n 3, 1) := by decide +kernel
theorem dX6_countAround_9 : decode cX6_countAround 9 = .ok (.iconst 0, 1) := by decide +kernel
theorem dX6_countAround_10 : decode cX6_countAround 10 = .ok (.istore 4, 2) := by decide +kernel
theorem dX6_countAround_12 : decode cX6_countAround 12 = .ok (.iload 4, 2) := by decide +kernel
theorem dX6_countAround_14 : decode cX6_countAround 14 = .ok (.aload_n 1, 1) := by decide +kernel
theorem dX6_countAround_15 : decode cX6_countAround 15 = .ok (.getfield 72, 3) := by decide +kernel
theorem dX6_countAround_18 : decode cX6_countAround 18 = .ok (.if_icmp .ge 59, 3) := by decide +kernel
theorem dX6_countAround_21 : decode cX6_countAround 21 = .ok (.iload_n 3, 1) := by decide +kernel
theorem dX6_countAround_22 : decode cX6_countAround 22 = .ok (.iload 4, 2) := by decide +kernel
theorem dX6_countAround_24 : decode cX6_countAround 24 = .ok (.invokestatic 75, 3) := by decide +kernel
theorem dX6_countAround_27 : decode cX6_countAround 27 = .ok (.ifCond .eq 17, 3) := by decide +kernel
theorem dX6_countAround_30 : decode cX6_countAround 30 = .ok (.aload_n 0, 1) := by decide +kernel
theorem dX6_countAround_31 : decode cX6_countAround 31 = .ok (.aload_n 1, 1) := by decide +kernel
theorem dX6_countAround_32 : decode cX6_countAround 32 = .ok (.iload 4, 2) := by decide +kernel
theorem dX6_countAround_34 : decode cX6_countAround 34 = .ok (.iload_n 2, 1) := by decide +kernel
theorem dX6_countAround_35 : decode cX6_countAround 35 = .ok (.bipush 32, 2) := by decide +kernel
theorem dX6_countAround_37 : decode cX6_countAround 37 = .ok (.irem, 1) := by decide +kernel
theorem dX6_countAround_38 : decode cX6_countAround 38 = .ok (.invokevirtual 57, 3) := by decide +kernel
theorem dX6_countAround_41 : decode cX6_countAround 41 = .ok (.goto 5, 3) := by decide +kernel
theorem dX6_countAround_44 : decode cX6_countAround 44 = .ok (.bipush (-9), 2) := by decide +kernel
theorem dX6_countAround_46 : decode cX6_countAround 46 = .ok (.istore 5, 2) := by decide +kernel
theorem dX6_countAround_48 : decode cX6_countAround 48 = .ok (.iload 5, 2) := by decide +kernel
theorem dX6_countAround_50 : decode cX6_countAround 50 = .ok (.bipush (-9), 2) := by decide +kernel
theorem dX6_countAround_52 : decode cX6_countAround 52 = .ok (.if_icmp .eq 19, 3) := by decide +kernel
theorem dX6_countAround_55 : decode cX6_countAround 55 = .ok (.aload_n 0, 1) := by decide +kernel
theorem dX6_countAround_56 : decode cX6_countAround 56 = .ok (.getfield 28, 3) := by decide +kernel
theorem dX6_countAround_59 : decode cX6_countAround 59 = .ok (.iload 5, 2) := by decide +kernel
theorem dX6_countAround_61 : decode cX6_countAround 61 = .ok (.dup2, 1) := by decide +kernel
theorem dX6_countAround_62 : decode cX6_countAround 62 = .ok (.laload, 1) := by decide +kernel
theorem dX6_countAround_63 : decode cX6_countAround 63 = .ok (.aload_n 0, 1) := by decide +kernel
theorem dX6_countAround_64 : decode cX6_countAround 64 = .ok (.getfield 24, 3) := by decide +kernel
theorem dX6_countAround_67 : decode cX6_countAround 67 = .ok (.iload_n 2, 1) := by decide +kernel
theorem dX6_countAround_68 : decode cX6_countAround 68 = .ok (.laload, 1) := by decide +kernel
theorem dX6_countAround_69 : decode cX6_countAround 69 = .ok (.ladd, 1) := by decide +kernel
theorem dX6_countAround_70 : decode cX6_countAround 70 = .ok (.lastore, 1) := by decide +kernel
theorem dX6_countAround_71 : decode cX6_countAround 71 = .ok (.iinc 4 1, 3) := by decide +kernel
theorem dX6_countAround_74 : decode cX6_countAround 74 = .ok (.goto (-62), 3) := by decide +kernel
theorem dX6_countAround_77 : decode cX6_countAround 77 = .ok (.return_, 1) := by decide +kernel
theorem dX7_append_0 : decode cX7_append 0 = .ok (.iload_n 1, 1) := by decide +kernel
theorem dX7_append_1 : decode cX7_append 1 = .ok (.iconst 1, 1) := by decide +kernel
theorem dX7_append_2 : decode cX7_append 2 = .ok (.isub, 1) := by decide +kernel
theorem dX7_append_3 : decode cX7_append 3 = .ok (.istore 4, 2) := by decide +kernel
theorem dX7_append_5 : decode cX7_append 5 = .ok (.iload 4, 2) := by decide +kernel
theorem dX7_append_7 : decode cX7_append 7 = .ok (.ifCond .lt 46, 3) := by decide +kernel
theorem dX7_append_10 : decode cX7_append 10 = .ok (.aload_n 0, 1) := by decide +kernel
theorem dX7_append_11 : decode cX7_append 11 = .ok (.getfield 15, 3) := by decide +kernel
theorem dX7_append_14 : decode cX7_append 14 = .ok (.bipush 96, 2) := by decide +kernel
theorem dX7_append_16 : decode cX7_append 16 = .ok (.if_icmp .ge 37, 3) := by decide +kernel
theorem dX7_append_19 : decode cX7_append 19 = .ok (.aload_n 0, 1) := by decide +kernel
theorem dX7_append_20 : decode cX7_append 20 = .ok (.getfield 9, 3) := by decide +kernel
theorem dX7_append_23 : decode cX7_append 23 = .ok (.aload_n 0, 1) := by decide +kernel
theorem dX7_append_24 : decode cX7_append 24 = .ok (.getfield 15, 3) := by decide +kernel
theorem dX7_append_27 : decode cX7_append 27 = .ok (.lload_n 2, 1) := by decide +kernel
theorem dX7_append_28 : decode cX7_append 28 = .ok (.bipush 8, 2) := by decide +kernel
theorem dX7_append_30 : decode cX7_append 30 = .ok (.iload 4, 2) := by decide +kernel
theorem dX7_append_32 : decode cX7_append 32 = .ok (.imul, 1) := by decide +kernel
theorem dX7_append_33 : decode cX7_append 33 = .ok (.lshr, 1) := by decide +kernel
theorem dX7_append_34 : decode cX7_append 34 = .ok (.l2i, 1) := by decide +kernel
theorem dX7_append_35 : decode cX7_append 35 = .ok (.i2b, 1) := by decide +kernel
theorem dX7_append_36 : decode cX7_append 36 = .ok (.bastore, 1) := by decide +kernel
theorem dX7_append_37 : decode cX7_append 37 = .ok (.aload_n 0, 1) := by decide +kernel
theorem dX7_append_38 : decode cX7_append 38 = .ok (.dup, 1) := by decide +kernel
theorem dX7_append_39 : decode cX7_append 39 = .ok (.getfield 15, 3) := by decide +kernel
theorem dX7_append_42 : decode cX7_append 42 = .ok (.iconst 1, 1) := by decide +kernel
theorem dX7_append_43 : decode cX7_append 43 = .ok (.iadd, 1) := by decide +kernel
theorem dX7_append_44 : decode cX7_append 44 = .ok (.putfield 15, 3) := by decide +kernel
theorem dX7_append_47 : decode cX7_append 47 = .ok (.iinc 4 (-1), 3) := by decide +kernel
theorem dX7_append_50 : decode cX7_append 50 = .ok (.goto (-45), 3) := by decide +kernel
theorem dX7_append_53 : decode cX7_append 53 = .ok (.return_, 1) := by decide +kernel
theorem dX7_readInto_0 : decode cX7_readInto 0 = .ok (.aload_n 1, 1) := by decide +kernel
theorem dX7_readInto_1 : decode cX7_readInto 1 = .ok (.invokevirtual 19, 3) := by decide +kernel
theorem dX7_readInto_4 : decode cX7_readInto 4 = .ok (.aload_n 0, 1) := by decide +kernel
theorem dX7_readInto_5 : decode cX7_readInto 5 = .ok (.iconst 0, 1) := by decide +kernel
theorem dX7_readInto_6 : decode cX7_readInto 6 = .ok (.putfield 24, 3) := by decide +kernel
theorem dX7_readInto_9 : decode cX7_readInto 9 = .ok (.aload_n 0, 1) := by decide +kernel
theorem dX7_readInto_10 : decode cX7_readInto 10 = .ok (.invokevirtual 27, 3) := by decide +kernel
theorem dX7_readInto_13 : decode cX7_readInto 13 = .ok (.bipush 68, 2) := by decide +kernel
theorem dX7_readInto_15 : decode cX7_readInto 15 = .ok (.if_icmp .eq 8, 3) := by decide +kernel
theorem dX7_readInto_18 : decode cX7_readInto 18 = .ok (.aload_n 0, 1) := by decide +kernel
theorem dX7_readInto_19 : decode cX7_readInto 19 = .ok (.getfield 24, 3) := by decide +kernel
theorem dX7_readInto_22 : decode cX7_readInto 22 = .ok (.ireturn, 1) := by decide +kernel
theorem dX7_readInto_23 : decode cX7_readInto 23 = .ok (.aload_n 0, 1) := by decide +kernel
theorem dX7_readInto_24 : decode cX7_readInto 24 = .ok (.dup, 1) := by decide +kernel
theorem dX7_readInto_25 : decode cX7_readInto 25 = .ok (.getfield 24, 3) := by decide +kernel
theorem dX7_readInto_28 : decode cX7_readInto 28 = .ok (.iconst 1, 1) := by decide +kernel
theorem dX7_readInto_29 : decode cX7_readInto 29 = .ok (.iadd, 1) := by decide +kernel
theorem dX7_readInto_30 : decode cX7_readInto 30 = .ok (.putfield 24, 3) := by decide +kernel
theorem dX7_readInto_33 : decode cX7_readInto 33 = .ok (.aload_n 0, 1) := by decide +kernel
theorem dX7_readInto_34 : decode cX7_readInto 34 = .ok (.aload_n 1, 1) := by decide +kernel
theorem dX7_readInto_35 : decode cX7_readInto 35 = .ok (.invokevirtual 31, 3) := by decide +kernel
theorem dX7_readInto_38 : decode cX7_readInto 38 = .ok (.aload_n 1, 1) := by decide +kernel
theorem dX7_readInto_39 : decode cX7_readInto 39 = .ok (.getfield 35, 3) := by decide +kernel
theorem dX7_readInto_42 : decode cX7_readInto 42 = .ok (.ifCond .ne 8, 3) := by decide +kernel
theorem dX7_readInto_45 : decode cX7_readInto 45 = .ok (.aload_n 0, 1) := by decide +kernel
theorem dX7_readInto_46 : decode cX7_readInto 46 = .ok (.getfield 24, 3) := by decide +kernel
theorem dX7_readInto_49 : decode cX7_readInto 49 = .ok (.ireturn, 1) := by decide +kernel
theorem dX7_readInto_50 : decode cX7_readInto 50 = .ok (.iconst 0, 1) := by decide +kernel
theorem dX7_readInto_51 : decode cX7_readInto 51 = .ok (.istore_n 2, 1) := by decide +kernel
theorem dX7_readInto_52 : decode cX7_readInto 52 = .ok (.iload_n 2, 1) := by decide +kernel
theorem dX7_readInto_53 : decode cX7_readInto 53 = .ok (.bipush 96, 2) := by decide +kernel
theorem dX7_readInto_55 : decode cX7_readInto 55 = .ok (.if_icmp .ge 52, 3) := by decide +kernel
theorem dX7_readInto_58 : decode cX7_readInto 58 = .ok (.aload_n 0, 1) := by decide +kernel
theorem dX7_readInto_59 : decode cX7_readInto 59 = .ok (.getfield 24, 3) := by decide +kernel
theorem dX7_readInto_62 : decode cX7_readInto 62 = .ok (.aload_n 0, 1) := by decide +kernel
theorem dX7_readInto_63 : decode cX7_readInto 63 = .ok (.getfield 15, 3) := by decide +kernel
theorem dX7_readInto_66 : decode cX7_readInto 66 = .ok (.if_icmp .ge 41, 3) := by decide +kernel
theorem dX7_readInto_69 : decode cX7_readInto 69 = .ok (.aload_n 0, 1) := by decide +kernel
theorem dX7_readInto_70 : decode cX7_readInto 70 = .ok (.invokevirtual 27, 3) := by decide +kernel
theorem dX7_readInto_73 : decode cX7_readInto 73 = .ok (.bipush 87, 2) := by decide +kernel
theorem dX7_readInto_75 : decode cX7_readInto 75 = .ok (.if_icmp .ne 11, 3) := by decide +kernel
theorem dX7_readInto_78 : decode cX7_readInto 78 = .ok (.aload_n 0, 1) := by decide +kernel
theorem dX7_readInto_79 : decode cX7_readInto 79 = .ok (.aload_n 1, 1) := by decide +kernel
theorem dX7_readInto_80 : decode cX7_readInto 80 = .ok (.invokevirtual 38, 3) := by decide +kernel
theorem dX7_readInto_83 : decode cX7_readInto 83 = .ok (.goto 8, 3) := by decide +kernel
theorem dX7_readInto_86 : decode cX7_readInto 86 = .ok (.aload_n 0, 1) := by decide +kernel
theorem dX7_readInto_87 : decode cX7_readInto 87 = .ok (.aload_n 1, 1) := by decide +kernel
theorem dX7_readInto_88 : decode cX7_readInto 88 = .ok (.invokevirtual 42, 3) := by decide +kernel
theorem dX7_readInto_91 : decode cX7_readInto 91 = .ok (.istore_n 3, 1) := by decide +kernel
theorem dX7_readInto_92 : decode cX7_readInto 92 = .ok (.iload_n 3, 1) := by decide +kernel
theorem dX7_readInto_93 : decode cX7_readInto 93 = .ok (.ifCond .ne 8, 3) := by decide +kernel
theorem dX7_readInto_96 : decode cX7_readInto 96 = .ok (.aload_n 0, 1) := by decide +kernel
theorem dX7_readInto_97 : decode cX7_readInto 97 = .ok (.getfield 24, 3) := by decide +kernel
theorem dX7_readInto_100 : decode cX7_readInto 100 = .ok (.ireturn, 1) := by decide +kernel
theorem dX7_readInto_101 : decode cX7_readInto 101 = .ok (.iinc 2 1, 3) := by decide +kernel
theorem dX7_readInto_104 : decode cX7_readInto 104 = .ok (.goto (-52), 3) := by decide +kernel
theorem dX7_readInto_107 : decode cX7_readInto 107 = .ok (.bipush (-9), 2) := by decide +kernel
theorem dX7_readInto_109 : decode cX7_readInto 109 = .ok (.ireturn, 1) := by decide +kernel
theorem dX7_readDoors_0 : decode cX7_readDoors 0 = .ok (.iconst 0, 1) := by decide +kernel
theorem dX7_readDoors_1 : decode cX7_readDoors 1 = .ok (.istore_n 2, 1) := by decide +kernel
theorem dX7_readDoors_2 : decode cX7_readDoors 2 = .ok (.iload_n 2, 1) := by decide +kernel
theorem dX7_readDoors_3 : decode cX7_readDoors 3 = .ok (.bipush 12, 2) := by decide +kernel
theorem dX7_readDoors_5 : decode cX7_readDoors 5 = .ok (.if_icmp .ge 36, 3) := by decide +kernel
theorem dX7_readDoors_8 : decode cX7_readDoors 8 = .ok (.aload_n 0, 1) := by decide +kernel
theorem dX7_readDoors_9 : decode cX7_readDoors 9 = .ok (.invokevirtual 45, 3) := by decide +kernel
theorem dX7_readDoors_12 : decode cX7_readDoors 12 = .ok (.bipush (-9), 2) := by decide +kernel
theorem dX7_readDoors_14 : decode cX7_readDoors 14 = .ok (.if_icmp .eq 27, 3) := by decide +kernel
theorem dX7_readDoors_17 : decode cX7_readDoors 17 = .ok (.aload_n 1, 1) := by decide +kernel
theorem dX7_readDoors_18 : decode cX7_readDoors 18 = .ok (.aload_n 0, 1) := by decide +kernel
theorem dX7_readDoors_19 : decode cX7_readDoors 19 = .ok (.invokevirtual 45, 3) := by decide +kernel
theorem dX7_readDoors_22 : decode cX7_readDoors 22 = .ok (.invokevirtual 48, 3) := by decide +kernel
theorem dX7_readDoors_25 : decode cX7_readDoors 25 = .ok (.aload_n 0, 1) := by decide +kernel
theorem dX7_readDoors_26 : decode cX7_readDoors 26 = .ok (.dup, 1) := by decide +kernel
theorem dX7_readDoors_27 : decode cX7_readDoors 27 = .ok (.getfield 24, 3) := by decide +kernel
theorem dX7_readDoors_30 : decode cX7_readDoors 30 = .ok (.iconst 1, 1) := by decide +kernel
theorem dX7_readDoors_31 : decode cX7_readDoors 31 = .ok (.iadd, 1) := by decide +kernel
theorem dX7_readDoors_32 : decode cX7_readDoors 32 = .ok (.putfield 24, 3) := by decide +kernel
theorem dX7_readDoors_35 : decode cX7_readDoors 35 = .ok (.iinc 2 1, 3) := by decide +kernel
theorem dX7_readDoors_38 : decode cX7_readDoors 38 = .ok (.goto (-36), 3) := by decide +kernel
theorem dX7_readDoors_41 : decode cX7_readDoors 41 = .ok (.return_, 1) := by decide +kernel
theorem dX7_readStreet_0 : decode cX7_readStreet 0 = .ok (.aload_n 1, 1) := by decide +kernel
theorem dX7_readStreet_1 : decode cX7_readStreet 1 = .ok (.invokevirtual 52, 3) := by decide +kernel
theorem dX7_readStreet_4 : decode cX7_readStreet 4 = .ok (.ifCond .ne 5, 3) := by decide +kernel
theorem dX7_readStreet_7 : decode cX7_readStreet 7 = .ok (.iconst 0, 1) := by decide +kernel
theorem dX7_readStreet_8 : decode cX7_readStreet 8 = .ok (.ireturn, 1) := by decide +kernel
theorem dX7_readStreet_9 : decode cX7_readStreet 9 = .ok (.aload_n 0, 1) := by decide +kernel
theorem dX7_readStreet_10 : decode cX7_readStreet 10 = .ok (.dup, 1) := by decide +kernel
theorem dX7_readStreet_11 : decode cX7_readStreet 11 = .ok (.getfield 24, 3) := by decide +kernel
theorem dX7_readStreet_14 : decode cX7_readStreet 14 = .ok (.iconst 1, 1) := by decide +kernel
theorem dX7_readStreet_15 : decode cX7_readStreet 15 = .ok (.iadd, 1) := by decide +kernel
theorem dX7_readStreet_16 : decode cX7_readStreet 16 = .ok (.putfield 24, 3) := by decide +kernel
theorem dX7_readStreet_19 : decode cX7_readStreet 19 = .ok (.aload_n 0, 1) := by decide +kernel
theorem dX7_readStreet_20 : decode cX7_readStreet 20 = .ok (.aload_n 1, 1) := by decide +kernel
theorem dX7_readStreet_21 : decode cX7_readStreet 21 = .ok (.invokevirtual 56, 3) := by decide +kernel
theorem dX7_readStreet_24 : decode cX7_readStreet 24 = .ok (.istore_n 2, 1) := by decide +kernel
theorem dX7_readStreet_25 : decode cX7_readStreet 25 = .ok (.iload_n 2, 1) := by decide +kernel
theorem dX7_readStreet_26 : decode cX7_readStreet 26 = .ok (.bipush (-9), 2) := by decide +kernel
theorem dX7_readStreet_28 : decode cX7_readStreet 28 = .ok (.if_icmp .eq 11, 3) := by decide +kernel
theorem dX7_readStreet_31 : decode cX7_readStreet 31 = .ok (.aload_n 1, 1) := by decide +kernel
theorem dX7_readStreet_32 : decode cX7_readStreet 32 = .ok (.iload_n 2, 1) := by decide +kernel
theorem dX7_readStreet_33 : decode cX7_readStreet 33 = .ok (.invokevirtual 60, 3) := by decide +kernel
theorem dX7_readStreet_36 : decode cX7_readStreet 36 = .ok (.ifCond .eq 5, 3) := by decide +kernel
theorem dX7_readStreet_39 : decode cX7_readStreet 39 = .ok (.iconst 0, 1) := by decide +kernel
theorem dX7_readStreet_40 : decode cX7_readStreet 40 = .ok (.ireturn, 1) := by decide +kernel
theorem dX7_readStreet_41 : decode cX7_readStreet 41 = .ok (.aload_n 0, 1) := by decide +kernel
theorem dX7_readStreet_42 : decode cX7_readStreet 42 = .ok (.dup, 1) := by decide +kernel
theorem dX7_readStreet_43 : decode cX7_readStreet 43 = .ok (.getfield 24, 3) := by decide +kernel
theorem dX7_readStreet_46 : decode cX7_readStreet 46 = .ok (.iconst 1, 1) := by decide +kernel
theorem dX7_readStreet_47 : decode cX7_readStreet 47 = .ok (.iadd, 1) := by decide +kernel
theorem dX7_readStreet_48 : decode cX7_readStreet 48 = .ok (.putfield 24, 3) := by decide +kernel
theorem dX7_readStreet_51 : decode cX7_readStreet 51 = .ok (.aload_n 0, 1) := by decide +kernel
theorem dX7_readStreet_52 : decode cX7_readStreet 52 = .ok (.aload_n 1, 1) := by decide +kernel
theorem dX7_readStreet_53 : decode cX7_readStreet 53 = .ok (.invokevirtual 56, 3) := by decide +kernel
theorem dX7_readStreet_56 : decode cX7_readStreet 56 = .ok (.istore_n 3, 1) := by decide +kernel
theorem dX7_readStreet_57 : decode cX7_readStreet 57 = .ok (.iload_n 3, 1) := by decide +kernel
theorem dX7_readStreet_58 : decode cX7_readStreet 58 = .ok (.bipush (-9), 2) := by decide +kernel
theorem dX7_readStreet_60 : decode cX7_readStreet 60 = .ok (.if_icmp .eq 17, 3) := by decide +kernel
theorem dX7_readStreet_63 : decode cX7_readStreet 63 = .ok (.iload_n 3, 1) := by decide +kernel
theorem dX7_readStreet_64 : decode cX7_readStreet 64 = .ok (.iload_n 2, 1) := by decide +kernel
theorem dX7_readStreet_65 : decode cX7_readStreet 65 = .ok (.if_icmp .eq 12, 3) := by decide +kernel
theorem dX7_readStreet_68 : decode cX7_readStreet 68 = .ok (.aload_n 1, 1) := by decide +kernel
theorem dX7_readStreet_69 : decode cX7_readStreet 69 = .ok (.iload_n 2, 1) := by decide +kernel
theorem dX7_readStreet_70 : decode cX7_readStreet 70 = .ok (.iload_n 3, 1) := by decide +kernel
theorem dX7_readStreet_71 : decode cX7_readStreet 71 = .ok (.invokevirtual 64, 3) := by decide +kernel
theorem dX7_readStreet_74 : decode cX7_readStreet 74 = .ok (.ifCond .eq 5, 3) := by decide +kernel
theorem dX7_readStreet_77 : decode cX7_readStreet 77 = .ok (.iconst 0, 1) := by decide +kernel
theorem dX7_readStreet_78 : decode cX7_readStreet 78 = .ok (.ireturn, 1) := by decide +kernel
theorem dX7_readStreet_79 : decode cX7_readStreet 79 = .ok (.aload_n 0, 1) := by decide +kernel
theorem dX7_readStreet_80 : decode cX7_readStreet 80 = .ok (.dup, 1) := by decide +kernel
theorem dX7_readStreet_81 : decode cX7_readStreet 81 = .ok (.getfield 24, 3) := by decide +kernel
theorem dX7_readStreet_84 : decode cX7_readStreet 84 = .ok (.iconst 1, 1) := by decide +kernel
theorem dX7_readStreet_85 : decode cX7_readStreet 85 = .ok (.iadd, 1) := by decide +kernel
theorem dX7_readStreet_86 : decode cX7_readStreet 86 = .ok (.putfield 24, 3) := by decide +kernel
theorem dX7_readStreet_89 : decode cX7_readStreet 89 = .ok (.aload_n 1, 1) := by decide +kernel
theorem dX7_readStreet_90 : decode cX7_readStreet 90 = .ok (.iload_n 2, 1) := by decide +kernel
theorem dX7_readStreet_91 : decode cX7_readStreet 91 = .ok (.iload_n 3, 1) := by decide +kernel
theorem dX7_readStreet_92 : decode cX7_readStreet 92 = .ok (.iconst 1, 1) := by decide +kernel
theorem dX7_readStreet_93 : decode cX7_readStreet 93 = .ok (.invokevirtual 68, 3) := by decide +kernel
theorem dX7_readStreet_96 : decode cX7_readStreet 96 = .ok (.iconst 1, 1) := by decide +kernel
theorem dX7_readStreet_97 : decode cX7_readStreet 97 = .ok (.ireturn, 1) := by decide +kernel
theorem dX7_readSong_0 : decode cX7_readSong 0 = .ok (.aload_n 0, 1) := by decide +kernel
theorem dX7_readSong_1 : decode cX7_readSong 1 = .ok (.invokevirtual 27, 3) := by decide +kernel
theorem dX7_readSong_4 : decode cX7_readSong 4 = .ok (.bipush 83, 2) := by decide +kernel
theorem dX7_readSong_6 : decode cX7_readSong 6 = .ok (.if_icmp .ne 11, 3) := by decide +kernel
theorem dX7_readSong_9 : decode cX7_readSong 9 = .ok (.aload_n 1, 1) := by decide +kernel
theorem dX7_readSong_10 : decode cX7_readSong 10 = .ok (.getfield 72, 3) := by decide +kernel
theorem dX7_readSong_13 : decode cX7_readSong 13 = .ok (.iconst 4, 1) := by decide +kernel
theorem dX7_readSong_14 : decode cX7_readSong 14 = .ok (.if_icmp .lt 5, 3) := by decide +kernel
theorem dX7_readSong_17 : decode cX7_readSong 17 = .ok (.iconst 0, 1) := by decide +kernel
theorem dX7_readSong_18 : decode cX7_readSong 18 = .ok (.ireturn, 1) := by decide +kernel
theorem dX7_readSong_19 : decode cX7_readSong 19 = .ok (.aload_n 0, 1) := by decide +kernel
theorem dX7_readSong_20 : decode cX7_readSong 20 = .ok (.dup, 1) := by decide +kernel
theorem dX7_readSong_21 : decode cX7_readSong 21 = .ok (.getfield 24, 3) := by decide +kernel
theorem dX7_readSong_24 : decode cX7_readSong 24 = .ok (.iconst 1, 1) := by decide +kernel
theorem dX7_readSong_25 : decode cX7_readSong 25 = .ok (.iadd, 1) := by decide +kernel
theorem dX7_readSong_26 : decode cX7_readSong 26 = .ok (.putfield 24, 3) := by decide +kernel
theorem dX7_readSong_29 : decode cX7_readSong 29 = .ok (.aload_n 0, 1) := by decide +kernel
theorem dX7_readSong_30 : decode cX7_readSong 30 = .ok (.invokevirtual 75, 3) := by decide +kernel
theorem dX7_readSong_33 : decode cX7_readSong 33 = .ok (.bipush (-9), 2) := by decide +kernel
theorem dX7_readSong_35 : decode cX7_readSong 35 = .ok (.if_icmp .ne 5, 3) := by decide +kernel
theorem dX7_readSong_38 : decode cX7_readSong 38 = .ok (.iconst 0, 1) := by decide +kernel
theorem dX7_readSong_39 : decode cX7_readSong 39 = .ok (.ireturn, 1) := by decide +kernel
theorem dX7_readSong_40 : decode cX7_readSong 40 = .ok (.aload_n 1, 1) := by decide +kernel
theorem dX7_readSong_41 : decode cX7_readSong 41 = .ok (.invokevirtual 78, 3) := by decide +kernel
theorem dX7_readSong_44 : decode cX7_readSong 44 = .ok (.iconst 0, 1) := by decide +kernel
theorem dX7_readSong_45 : decode cX7_readSong 45 = .ok (.istore_n 2, 1) := by decide +kernel
theorem dX7_readSong_46 : decode cX7_readSong 46 = .ok (.iload_n 2, 1) := by decide +kernel
theorem dX7_readSong_47 : decode cX7_readSong 47 = .ok (.bipush 6, 2) := by decide +kernel
theorem dX7_readSong_49 : decode cX7_readSong 49 = .ok (.if_icmp .ge 36, 3) := by decide +kernel
theorem dX7_readSong_52 : decode cX7_readSong 52 = .ok (.aload_n 0, 1) := by decide +kernel
theorem dX7_readSong_53 : decode cX7_readSong 53 = .ok (.invokevirtual 75, 3) := by decide +kernel
theorem dX7_readSong_56 : decode cX7_readSong 56 = .ok (.bipush (-9), 2) := by decide +kernel
theorem dX7_readSong_58 : decode cX7_readSong 58 = .ok (.if_icmp .eq 27, 3) := by decide +kernel
theorem dX7_readSong_61 : decode cX7_readSong 61 = .ok (.aload_n 1, 1) := by decide +kernel
theorem dX7_readSong_62 : decode cX7_readSong 62 = .ok (.aload_n 0, 1) := by decide +kernel
theorem dX7_readSong_63 : decode cX7_readSong 63 = .ok (.invokevirtual 75, 3) := by decide +kernel
theorem dX7_readSong_66 : decode cX7_readSong 66 = .ok (.invokevirtual 81, 3) := by decide +kernel
theorem dX7_readSong_69 : decode cX7_readSong 69 = .ok (.aload_n 0, 1) := by decide +kernel
theorem dX7_readSong_70 : decode cX7_readSong 70 = .ok (.dup, 1) := by decide +kernel
theorem dX7_readSong_71 : decode cX7_readSong 71 = .ok (.getfield 24, 3) := by decide +kernel
theorem dX7_readSong_74 : decode cX7_readSong 74 = .ok (.iconst 1, 1) := by decide +kernel
theorem dX7_readSong_75 : decode cX7_readSong 75 = .ok (.iadd, 1) := by decide +kernel
theorem dX7_readSong_76 : decode cX7_readSong 76 = .ok (.putfield 24, 3) := by decide +kernel
theorem dX7_readSong_79 : decode cX7_readSong 79 = .ok (.iinc 2 1, 3) := by decide +kernel
theorem dX7_readSong_82 : decode cX7_readSong 82 = .ok (.goto (-36), 3) := by decide +kernel
theorem dX7_readSong_85 : decode cX7_readSong 85 = .ok (.iconst 1, 1) := by decide +kernel
theorem dX7_readSong_86 : decode cX7_readSong 86 = .ok (.ireturn, 1) := by decide +kernel
theorem dX7_byteHere_0 : decode cX7_byteHere 0 = .ok (.aload_n 0, 1) := by decide +kernel
theorem dX7_byteHere_1 : decode cX7_byteHere 1 = .ok (.getfield 24, 3) := by decide +kernel
theorem dX7_byteHere_4 : decode cX7_byteHere 4 = .ok (.ifCond .lt 39, 3) := by decide +kernel
theorem dX7_byteHere_7 : decode cX7_byteHere 7 = .ok (.aload_n 0, 1) := by decide +kernel
theorem dX7_byteHere_8 : decode cX7_byteHere 8 = .ok (.getfield 24, 3) := by decide +kernel
theorem dX7_byteHere_11 : decode cX7_byteHere 11 = .ok (.aload_n 0, 1) := by decide +kernel
theorem dX7_byteHere_12 : decode cX7_byteHere 12 = .ok (.getfield 15, 3) := by decide +kernel
theorem dX7_byteHere_15 : decode cX7_byteHere 15 = .ok (.if_icmp .ge 28, 3) := by decide +kernel
theorem dX7_byteHere_18 : decode cX7_byteHere 18 = .ok (.aload_n 0, 1) := by decide +kernel
theorem dX7_byteHere_19 : decode cX7_byteHere 19 = .ok (.getfield 24, 3) := by decide +kernel
theorem dX7_byteHere_22 : decode cX7_byteHere 22 = .ok (.bipush 96, 2) := by decide +kernel
theorem dX7_byteHere_24 : decode cX7_byteHere 24 = .ok (.if_icmp .ge 19, 3) := by decide +kernel
theorem dX7_byteHere_27 : decode cX7_byteHere 27 = .ok (.aload_n 0, 1) := by decide +kernel
theorem dX7_byteHere_28 : decode cX7_byteHere 28 = .ok (.getfield 9, 3) := by decide +kernel
theorem dX7_byteHere_31 : decode cX7_byteHere 31 = .ok (.aload_n 0, 1) := by decide +kernel
theorem dX7_byteHere_32 : decode cX7_byteHere 32 = .ok (.getfield 24, 3) := by decide +kernel
theorem dX7_byteHere_35 : decode cX7_byteHere 35 = .ok (.baload, 1) := by decide +kernel
theorem dX7_byteHere_36 : decode cX7_byteHere 36 = .ok (.sipush 255, 3) := by decide +kernel
theorem dX7_byteHere_39 : decode cX7_byteHere 39 = .ok (.iand, 1) := by decide +kernel
theorem dX7_byteHere_40 : decode cX7_byteHere 40 = .ok (.goto 5, 3) := by decide +kernel
theorem dX7_byteHere_43 : decode cX7_byteHere 43 = .ok (.bipush (-9), 2) := by decide +kernel
theorem dX7_byteHere_45 : decode cX7_byteHere 45 = .ok (.ireturn, 1) := by decide +kernel
theorem dX7_letterHere_0 : decode cX7_letterHere 0 = .ok (.aload_n 0, 1) := by decide +kernel
theorem dX7_letterHere_1 : decode cX7_letterHere 1 = .ok (.invokevirtual 27, 3) := by decide +kernel
theorem dX7_letterHere_4 : decode cX7_letterHere 4 = .ok (.bipush 97, 2) := by decide +kernel
theorem dX7_letterHere_6 : decode cX7_letterHere 6 = .ok (.isub, 1) := by decide +kernel
theorem dX7_letterHere_7 : decode cX7_letterHere 7 = .ok (.istore_n 1, 1) := by decide +kernel
theorem dX7_letterHere_8 : decode cX7_letterHere 8 = .ok (.iload_n 1, 1) := by decide +kernel
theorem dX7_letterHere_9 : decode cX7_letterHere 9 = .ok (.ifCond .lt 13, 3) := by decide +kernel
theorem dX7_letterHere_12 : decode cX7_letterHere 12 = .ok (.iload_n 1, 1) := by decide +kernel
theorem dX7_letterHere_13 : decode cX7_letterHere 13 = .ok (.bipush 7, 2) := by decide +kernel
theorem dX7_letterHere_15 : decode cX7_letterHere 15 = .ok (.if_icmp .ge 7, 3) := by decide +kernel
theorem dX7_letterHere_18 : decode cX7_letterHere 18 = .ok (.iload_n 1, 1) := by decide +kernel
theorem dX7_letterHere_19 : decode cX7_letterHere 19 = .ok (.goto 5, 3) := by decide +kernel
theorem dX7_letterHere_22 : decode cX7_letterHere 22 = .ok (.bipush (-9), 2) := by decide +kernel
theorem dX7_letterHere_24 : decode cX7_letterHere 24 = .ok (.ireturn, 1) := by decide +kernel
theorem dX7_signHere_0 : decode cX7_signHere 0 = .ok (.aload_n 0, 1) := by decide +kernel
theorem dX7_signHere_1 : decode cX7_signHere 1 = .ok (.invokevirtual 27, 3) := by decide +kernel
theorem dX7_signHere_4 : decode cX7_signHere 4 = .ok (.bipush 46, 2) := by decide +kernel
theorem dX7_signHere_6 : decode cX7_signHere 6 = .ok (.if_icmp .ne 8, 3) := by decide +kernel
theorem dX7_signHere_9 : decode cX7_signHere 9 = .ok (.bipush 8, 2) := by decide +kernel
theorem dX7_signHere_11 : decode cX7_signHere 11 = .ok (.goto 7, 3) := by decide +kernel
theorem dX7_signHere_14 : decode cX7_signHere 14 = .ok (.aload_n 0, 1) := by decide +kernel
theorem dX7_signHere_15 : decode cX7_signHere 15 = .ok (.invokevirtual 45, 3) := by decide +kernel
theorem dX7_signHere_18 : decode cX7_signHere 18 = .ok (.ireturn, 1) := by decide +kernel
theorem dX7_doorHere_0 : decode cX7_doorHere 0 = .ok (.aload_n 0, 1) := by decide +kernel
theorem dX7_doorHere_1 : decode cX7_doorHere 1 = .ok (.invokevirtual 27, 3) := by decide +kernel
theorem dX7_doorHere_4 : decode cX7_doorHere 4 = .ok (.istore_n 2, 1) := by decide +kernel
theorem dX7_doorHere_5 : decode cX7_doorHere 5 = .ok (.iload_n 2, 1) := by decide +kernel
theorem dX7_doorHere_6 : decode cX7_doorHere 6 = .ok (.bipush 48, 2) := by decide +kernel
theorem dX7_doorHere_8 : decode cX7_doorHere 8 = .ok (.if_icmp .lt 16, 3) := by decide +kernel
theorem dX7_doorHere_11 : decode cX7_doorHere 11 = .ok (.iload_n 2, 1) := by decide +kernel
theorem dX7_doorHere_12 : decode cX7_doorHere 12 = .ok (.bipush 57, 2) := by decide +kernel
theorem dX7_doorHere_14 : decode cX7_doorHere 14 = .ok (.if_icmp .gt 10, 3) := by decide +kernel
theorem dX7_doorHere_17 : decode cX7_doorHere 17 = .ok (.iload_n 2, 1) := by decide +kernel
theorem dX7_doorHere_18 : decode cX7_doorHere 18 = .ok (.bipush 48, 2) := by decide +kernel
theorem dX7_doorHere_20 : decode cX7_doorHere 20 = .ok (.isub, 1) := by decide +kernel
theorem dX7_doorHere_21 : decode cX7_doorHere 21 = .ok (.goto 5, 3) := by decide +kernel
theorem dX7_doorHere_24 : decode cX7_doorHere 24 = .ok (.bipush (-9), 2) := by decide +kernel
theorem dX7_doorHere_26 : decode cX7_doorHere 26 = .ok (.istore_n 3, 1) := by decide +kernel
theorem dX7_doorHere_27 : decode cX7_doorHere 27 = .ok (.iload_n 2, 1) := by decide +kernel
theorem dX7_doorHere_28 : decode cX7_doorHere 28 = .ok (.bipush 97, 2) := by decide +kernel
theorem dX7_doorHere_30 : decode cX7_doorHere 30 = .ok (.if_icmp .eq 9, 3) := by decide +kernel
theorem dX7_doorHere_33 : decode cX7_doorHere 33 = .ok (.iload_n 2, 1) := by decide +kernel
theorem dX7_doorHere_34 : decode cX7_doorHere 34 = .ok (.bipush 98, 2) := by decide +kernel
theorem dX7_doorHere_36 : decode cX7_doorHere 36 = .ok (.if_icmp .ne 11, 3) := by decide +kernel
theorem dX7_doorHere_39 : decode cX7_doorHere 39 = .ok (.bipush 10, 2) := by decide +kernel
theorem dX7_doorHere_41 : decode cX7_doorHere 41 = .ok (.iload_n 2, 1) := by decide +kernel
theorem dX7_doorHere_42 : decode cX7_doorHere 42 = .ok (.iadd, 1) := by decide +kernel
theorem dX7_doorHere_43 : decode cX7_doorHere 43 = .ok (.bipush 97, 2) := by decide +kernel
theorem dX7_doorHere_45 : decode cX7_doorHere 45 = .ok (.isub, 1) := by decide +kernel
theorem dX7_doorHere_46 : decode cX7_doorHere 46 = .ok (.istore_n 3, 1) := by decide +kernel
theorem dX7_doorHere_47 : decode cX7_doorHere 47 = .ok (.aload_n 1, 1) := by decide +kernel
theorem dX7_doorHere_48 : decode cX7_doorHere 48 = .ok (.iload_n 3, 1) := by decide +kernel
theorem dX7_doorHere_49 : decode cX7_doorHere 49 = .ok (.invokevirtual 84, 3) := by decide +kernel
theorem dX7_doorHere_52 : decode cX7_doorHere 52 = .ok (.ifCond .eq 7, 3) := by decide +kernel
theorem dX7_doorHere_55 : decode cX7_doorHere 55 = .ok (.iload_n 3, 1) := by decide +kernel
theorem dX7_doorHere_56 : decode cX7_doorHere 56 = .ok (.goto 5, 3) := by decide +kernel
theorem dX7_doorHere_59 : decode cX7_doorHere 59 = .ok (.bipush (-9), 2) := by decide +kernel
theorem dX7_doorHere_61 : decode cX7_doorHere 61 = .ok (.ireturn, 1) := by decide +kernel
theorem dX8_clear_0 : decode cX8_clear 0 = .ok (.aload_n 0, 1) := by decide +kernel
theorem dX8_clear_1 : decode cX8_clear 1 = .ok (.iconst 0, 1) := by decide +kernel
theorem dX8_clear_2 : decode cX8_clear 2 = .ok (.putfield 24, 3) := by decide +kernel
theorem dX8_clear_5 : decode cX8_clear 5 = .ok (.aload_n 0, 1) := by decide +kernel
theorem dX8_clear_6 : decode cX8_clear 6 = .ok (.iconst 0, 1) := by decide +kernel
theorem dX8_clear_7 : decode cX8_clear 7 = .ok (.putfield 28, 3) := by decide +kernel
theorem dX8_clear_10 : decode cX8_clear 10 = .ok (.return_, 1) := by decide +kernel
theorem dX8_copyFrom_0 : decode cX8_copyFrom 0 = .ok (.aload_n 0, 1) := by decide +kernel
theorem dX8_copyFrom_1 : decode cX8_copyFrom 1 = .ok (.aload_n 1, 1) := by decide +kernel
theorem dX8_copyFrom_2 : decode cX8_copyFrom 2 = .ok (.getfield 24, 3) := by decide +kernel
theorem dX8_copyFrom_5 : decode cX8_copyFrom 5 = .ok (.putfield 24, 3) := by decide +kernel
theorem dX8_copyFrom_8 : decode cX8_copyFrom 8 = .ok (.aload_n 0, 1) := by decide +kernel
theorem dX8_copyFrom_9 : decode cX8_copyFrom 9 = .ok (.aload_n 1, 1) := by decide +kernel
theorem dX8_copyFrom_10 : decode cX8_copyFrom 10 = .ok (.getfield 28, 3) := by decide +kernel
theorem dX8_copyFrom_13 : decode cX8_copyFrom 13 = .ok (.putfield 28, 3) := by decide +kernel
theorem dX8_copyFrom_16 : decode cX8_copyFrom 16 = .ok (.aload_n 1, 1) := by decide +kernel
theorem dX8_copyFrom_17 : decode cX8_copyFrom 17 = .ok (.getfield 9, 3) := by decide +kernel
theorem dX8_copyFrom_20 : decode cX8_copyFrom 20 = .ok (.iconst 0, 1) := by decide +kernel
theorem dX8_copyFrom_21 : decode cX8_copyFrom 21 = .ok (.aload_n 0, 1) := by decide +kernel
theorem dX8_copyFrom_22 : decode cX8_copyFrom 22 = .ok (.getfield 9, 3) := by decide +kernel
theorem dX8_copyFrom_25 : decode cX8_copyFrom 25 = .ok (.iconst 0, 1) := by decide +kernel
theorem dX8_copyFrom_26 : decode cX8_copyFrom 26 = .ok (.bipush 12, 2) := by decide +kernel
theorem dX8_copyFrom_28 : decode cX8_copyFrom 28 = .ok (.invokestatic 31, 3) := by decide +kernel
theorem dX8_copyFrom_31 : decode cX8_copyFrom 31 = .ok (.aload_n 1, 1) := by decide +kernel
theorem dX8_copyFrom_32 : decode cX8_copyFrom 32 = .ok (.getfield 15, 3) := by decide +kernel
theorem dX8_copyFrom_35 : decode cX8_copyFrom 35 = .ok (.iconst 0, 1) := by decide +kernel
theorem dX8_copyFrom_36 : decode cX8_copyFrom 36 = .ok (.aload_n 0, 1) := by decide +kernel
theorem dX8_copyFrom_37 : decode cX8_copyFrom 37 = .ok (.getfield 15, 3) := by decide +kernel
theorem dX8_copyFrom_40 : decode cX8_copyFrom 40 = .ok (.iconst 0, 1) := by decide +kernel
theorem dX8_copyFrom_41 : decode cX8_copyFrom 41 = .ok (.bipush 12, 2) := by decide +kernel
theorem dX8_copyFrom_43 : decode cX8_copyFrom 43 = .ok (.invokestatic 31, 3) := by decide +kernel
theorem dX8_copyFrom_46 : decode cX8_copyFrom 46 = .ok (.aload_n 1, 1) := by decide +kernel
theorem dX8_copyFrom_47 : decode cX8_copyFrom 47 = .ok (.getfield 18, 3) := by decide +kernel
theorem dX8_copyFrom_50 : decode cX8_copyFrom 50 = .ok (.iconst 0, 1) := by decide +kernel
theorem dX8_copyFrom_51 : decode cX8_copyFrom 51 = .ok (.aload_n 0, 1) := by decide +kernel
theorem dX8_copyFrom_52 : decode cX8_copyFrom 52 = .ok (.getfield 18, 3) := by decide +kernel
theorem dX8_copyFrom_55 : decode cX8_copyFrom 55 = .ok (.iconst 0, 1) := by decide +kernel
theorem dX8_copyFrom_56 : decode cX8_copyFrom 56 = .ok (.iconst 4, 1) := by decide +kernel
theorem dX8_copyFrom_57 : decode cX8_copyFrom 57 = .ok (.invokestatic 31, 3) := by decide +kernel
theorem dX8_copyFrom_60 : decode cX8_copyFrom 60 = .ok (.aload_n 1, 1) := by decide +kernel
theorem dX8_copyFrom_61 : decode cX8_copyFrom 61 = .ok (.getfield 21, 3) := by decide +kernel
theorem dX8_copyFrom_64 : decode cX8_copyFrom 64 = .ok (.iconst 0, 1) := by decide +kernel
theorem dX8_copyFrom_65 : decode cX8_copyFrom 65 = .ok (.aload_n 0, 1) := by decide +kernel
theorem dX8_copyFrom_66 : decode cX8_copyFrom 66 = .ok (.getfield 21, 3) := by decide +kernel
theorem dX8_copyFrom_69 : decode cX8_copyFrom 69 = .ok (.iconst 0, 1) := by decide +kernel
theorem dX8_copyFrom_70 : decode cX8_copyFrom 70 = .ok (.bipush 24, 2) := by decide +kernel
theorem dX8_copyFrom_72 : decode cX8_copyFrom 72 = .ok (.invokestatic 31, 3) := by decide +kernel
theorem dX8_copyFrom_75 : decode cX8_copyFrom 75 = .ok (.return_, 1) := by decide +kernel
theorem dX8_addDoor_0 : decode cX8_addDoor 0 = .ok (.aload_n 0, 1) := by decide +kernel
theorem dX8_addDoor_1 : decode cX8_addDoor 1 = .ok (.getfield 24, 3) := by decide +kernel
theorem dX8_addDoor_4 : decode cX8_addDoor 4 = .ok (.bipush 12, 2) := by decide +kernel
theorem dX8_addDoor_6 : decode cX8_addDoor 6 = .ok (.if_icmp .ge 33, 3) := by decide +kernel
theorem dX8_addDoor_9 : decode cX8_addDoor 9 = .ok (.aload_n 0, 1) := by decide +kernel
theorem dX8_addDoor_10 : decode cX8_addDoor 10 = .ok (.getfield 9, 3) := by decide +kernel
theorem dX8_addDoor_13 : decode cX8_addDoor 13 = .ok (.aload_n 0, 1) := by decide +kernel
theorem dX8_addDoor_14 : decode cX8_addDoor 14 = .ok (.getfield 24, 3) := by decide +kernel
theorem dX8_addDoor_17 : decode cX8_addDoor 17 = .ok (.iload_n 1, 1) := by decide +kernel
theorem dX8_addDoor_18 : decode cX8_addDoor 18 = .ok (.iastore, 1) := by decide +kernel
theorem dX8_addDoor_19 : decode cX8_addDoor 19 = .ok (.aload_n 0, 1) := by decide +kernel
theorem dX8_addDoor_20 : decode cX8_addDoor 20 = .ok (.getfield 15, 3) := by decide +kernel
theorem dX8_addDoor_23 : decode cX8_addDoor 23 = .ok (.aload_n 0, 1) := by decide +kernel
theorem dX8_addDoor_24 : decode cX8_addDoor 24 = .ok (.getfield 24, 3) := by decide +kernel
theorem dX8_addDoor_27 : decode cX8_addDoor 27 = .ok (.iconst 0, 1) := by decide +kernel
theorem dX8_addDoor_28 : decode cX8_addDoor 28 = .ok (.iastore, 1) := by decide +kernel
theorem dX8_addDoor_29 : decode cX8_addDoor 29 = .ok (.aload_n 0, 1) := by decide +kernel
theorem dX8_addDoor_30 : decode cX8_addDoor 30 = .ok (.dup, 1) := by decide +kernel
theorem dX8_addDoor_31 : decode cX8_addDoor 31 = .ok (.getfield 24, 3) := by decide +kernel
theorem dX8_addDoor_34 : decode cX8_addDoor 34 = .ok (.iconst 1, 1) := by decide +kernel
theorem dX8_addDoor_35 : decode cX8_addDoor 35 = .ok (.iadd, 1) := by decide +kernel
theorem dX8_addDoor_36 : decode cX8_addDoor 36 = .ok (.putfield 24, 3) := by decide +kernel
theorem dX8_addDoor_39 : decode cX8_addDoor 39 = .ok (.return_, 1) := by decide +kernel
theorem dX8_addSong_0 : decode cX8_addSong 0 = .ok (.aload_n 0, 1) := by decide +kernel
theorem dX8_addSong_1 : decode cX8_addSong 1 = .ok (.getfield 28, 3) := by decide +kernel
theorem dX8_addSong_4 : decode cX8_addSong 4 = .ok (.iconst 4, 1) := by decide +kernel
theorem dX8_addSong_5 : decode cX8_addSong 5 = .ok (.if_icmp .ge 23, 3) := by decide +kernel
theorem dX8_addSong_8 : decode cX8_addSong 8 = .ok (.aload_n 0, 1) := by decide +kernel
theorem dX8_addSong_9 : decode cX8_addSong 9 = .ok (.getfield 18, 3) := by decide +kernel
theorem dX8_addSong_12 : decode cX8_addSong 12 = .ok (.aload_n 0, 1) := by decide +kernel
theorem dX8_addSong_13 : decode cX8_addSong 13 = .ok (.getfield 28, 3) := by decide +kernel
theorem dX8_addSong_16 : decode cX8_addSong 16 = .ok (.iconst 0, 1) := by decide +kernel
theorem dX8_addSong_17 : decode cX8_addSong 17 = .ok (.iastore, 1) := by decide +kernel
theorem dX8_addSong_18 : decode cX8_addSong 18 = .ok (.aload_n 0, 1) := by decide +kernel
theorem dX8_addSong_19 : decode cX8_addSong 19 = .ok (.dup, 1) := by decide +kernel
theorem dX8_addSong_20 : decode cX8_addSong 20 = .ok (.getfield 28, 3) := by decide +kernel
theorem dX8_addSong_23 : decode cX8_addSong 23 = .ok (.iconst 1, 1) := by decide +kernel
theorem dX8_addSong_24 : decode cX8_addSong 24 = .ok (.iadd, 1) := by decide +kernel
theorem dX8_addSong_25 : decode cX8_addSong 25 = .ok (.putfield 28, 3) := by decide +kernel
theorem dX8_addSong_28 : decode cX8_addSong 28 = .ok (.return_, 1) := by decide +kernel
theorem dX8_addSign_0 : decode cX8_addSign 0 = .ok (.aload_n 0, 1) := by decide +kernel
theorem dX8_addSign_1 : decode cX8_addSign 1 = .ok (.getfield 28, 3) := by decide +kernel
theorem dX8_addSign_4 : decode cX8_addSign 4 = .ok (.iconst 1, 1) := by decide +kernel
theorem dX8_addSign_5 : decode cX8_addSign 5 = .ok (.isub, 1) := by decide +kernel
theorem dX8_addSign_6 : decode cX8_addSign 6 = .ok (.istore_n 2, 1) := by decide +kernel
theorem dX8_addSign_7 : decode cX8_addSign 7 = .ok (.aload_n 0, 1) := by decide +kernel
theorem dX8_addSign_8 : decode cX8_addSign 8 = .ok (.iload_n 2, 1) := by decide +kernel
theorem dX8_addSign_9 : decode cX8_addSign 9 = .ok (.invokevirtual 37, 3) := by decide +kernel
theorem dX8_addSign_12 : decode cX8_addSign 12 = .ok (.ifCond .eq 41, 3) := by decide +kernel
theorem dX8_addSign_15 : decode cX8_addSign 15 = .ok (.aload_n 0, 1) := by decide +kernel
theorem dX8_addSign_16 : decode cX8_addSign 16 = .ok (.getfield 18, 3) := by decide +kernel
theorem dX8_addSign_19 : decode cX8_addSign 19 = .ok (.iload_n 2, 1) := by decide +kernel
theorem dX8_addSign_20 : decode cX8_addSign 20 = .ok (.iaload, 1) := by decide +kernel
theorem dX8_addSign_21 : decode cX8_addSign 21 = .ok (.bipush 6, 2) := by decide +kernel
theorem dX8_addSign_23 : decode cX8_addSign 23 = .ok (.if_icmp .ge 30, 3) := by decide +kernel
theorem dX8_addSign_26 : decode cX8_addSign 26 = .ok (.aload_n 0, 1) := by decide +kernel
theorem dX8_addSign_27 : decode cX8_addSign 27 = .ok (.getfield 21, 3) := by decide +kernel
theorem dX8_addSign_30 : decode cX8_addSign 30 = .ok (.iload_n 2, 1) := by decide +kernel
theorem dX8_addSign_31 : decode cX8_addSign 31 = .ok (.bipush 6, 2) := by decide +kernel
theorem dX8_addSign_33 : decode cX8_addSign 33 = .ok (.imul, 1) := by decide +kernel
theorem dX8_addSign_34 : decode cX8_addSign 34 = .ok (.aload_n 0, 1) := by decide +kernel
theorem dX8_addSign_35 : decode cX8_addSign 35 = .ok (.getfield 18, 3) := by decide +kernel
theorem dX8_addSign_38 : decode cX8_addSign 38 = .ok (.iload_n 2, 1) := by decide +kernel
theorem dX8_addSign_39 : decode cX8_addSign 39 = .ok (.iaload, 1) := by decide +kernel
theorem dX8_addSign_40 : decode cX8_addSign 40 = .ok (.iadd, 1) := by decide +kernel
theorem dX8_addSign_41 : decode cX8_addSign 41 = .ok (.iload_n 1, 1) := by decide +kernel
theorem dX8_addSign_42 : decode cX8_addSign 42 = .ok (.iastore, 1) := by decide +kernel
theorem dX8_addSign_43 : decode cX8_addSign 43 = .ok (.aload_n 0, 1) := by decide +kernel
theorem dX8_addSign_44 : decode cX8_addSign 44 = .ok (.getfield 18, 3) := by decide +kernel
theorem dX8_addSign_47 : decode cX8_addSign 47 = .ok (.iload_n 2, 1) := by decide +kernel
theorem dX8_addSign_48 : decode cX8_addSign 48 = .ok (.dup2, 1) := by decide +kernel
theorem dX8_addSign_49 : decode cX8_addSign 49 = .ok (.iaload, 1) := by decide +kernel
theorem dX8_addSign_50 : decode cX8_addSign 50 = .ok (.iconst 1, 1) := by decide +kernel
theorem dX8_addSign_51 : decode cX8_addSign 51 = .ok (.iadd, 1) := by decide +kernel
theorem dX8_addSign_52 : decode cX8_addSign 52 = .ok (.iastore, 1) := by decide +kernel
theorem dX8_addSign_53 : decode cX8_addSign 53 = .ok (.return_, 1) := by decide +kernel
theorem dX8_isDoor_0 : decode cX8_isDoor 0 = .ok (.iload_n 1, 1) := by decide +kernel
theorem dX8_isDoor_1 : decode cX8_isDoor 1 = .ok (.ifCond .lt 15, 3) := by decide +kernel
theorem dX8_isDoor_4 : decode cX8_isDoor 4 = .ok (.iload_n 1, 1) := by decide +kernel
theorem dX8_isDoor_5 : decode cX8_isDoor 5 = .ok (.aload_n 0, 1) := by decide +kernel
theorem dX8_isDoor_6 : decode cX8_isDoor 6 = .ok (.getfield 24, 3) := by decide +kernel
theorem dX8_isDoor_9 : decode cX8_isDoor 9 = .ok (.if_icmp .ge 7, 3) := by decide +kernel
theorem dX8_isDoor_12 : decode cX8_isDoor 12 = .ok (.iconst 1, 1) := by decide +kernel
theorem dX8_isDoor_13 : decode cX8_isDoor 13 = .ok (.goto 4, 3) := by decide +kernel
theorem dX8_isDoor_16 : decode cX8_isDoor 16 = .ok (.iconst 0, 1) := by decide +kernel
theorem dX8_isDoor_17 : decode cX8_isDoor 17 = .ok (.ireturn, 1) := by decide +kernel
theorem dX8_isSong_0 : decode cX8_isSong 0 = .ok (.iload_n 1, 1) := by decide +kernel
theorem dX8_isSong_1 : decode cX8_isSong 1 = .ok (.ifCond .lt 15, 3) := by decide +kernel
theorem dX8_isSong_4 : decode cX8_isSong 4 = .ok (.iload_n 1, 1) := by decide +kernel
theorem dX8_isSong_5 : decode cX8_isSong 5 = .ok (.aload_n 0, 1) := by decide +kernel
theorem dX8_isSong_6 : decode cX8_isSong 6 = .ok (.getfield 28, 3) := by decide +kernel
theorem dX8_isSong_9 : decode cX8_isSong 9 = .ok (.if_icmp .ge 7, 3) := by decide +kernel
theorem dX8_isSong_12 : decode cX8_isSong 12 = .ok (.iconst 1, 1) := by decide +kernel
theorem dX8_isSong_13 : decode cX8_isSong 13 = .ok (.goto 4, 3) := by decide +kernel
theorem dX8_isSong_16 : decode cX8_isSong 16 = .ok (.iconst 0, 1) := by decide +kernel
theorem dX8_isSong_17 : decode cX8_isSong 17 = .ok (.ireturn, 1) := by decide +kernel
theorem dX8_allDoors_0 : decode cX8_allDoors 0 = .ok (.iconst 1, 1) := by decide +kernel
theorem dX8_allDoors_1 : decode cX8_allDoors 1 = .ok (.aload_n 0, 1) := by decide +kernel
theorem dX8_allDoors_2 : decode cX8_allDoors 2 = .ok (.getfield 24, 3) := by decide +kernel
theorem dX8_allDoors_5 : decode cX8_allDoors 5 = .ok (.ishl, 1) := by decide +kernel
theorem dX8_allDoors_6 : decode cX8_allDoors 6 = .ok (.iconst 1, 1) := by decide +kernel
theorem dX8_allDoors_7 : decode cX8_allDoors 7 = .ok (.isub, 1) := by decide +kernel
theorem dX8_allDoors_8 : decode cX8_allDoors 8 = .ok (.ireturn, 1) := by decide +kernel
theorem dX8_signOf_0 : decode cX8_signOf 0 = .ok (.aload_n 0, 1) := by decide +kernel
theorem dX8_signOf_1 : decode cX8_signOf 1 = .ok (.iload_n 1, 1) := by decide +kernel
theorem dX8_signOf_2 : decode cX8_signOf 2 = .ok (.invokevirtual 37, 3) := by decide +kernel
theorem dX8_signOf_5 : decode cX8_signOf 5 = .ok (.ifCond .eq 31, 3) := by decide +kernel
theorem dX8_signOf_8 : decode cX8_signOf 8 = .ok (.iload_n 2, 1) := by decide +kernel
theorem dX8_signOf_9 : decode cX8_signOf 9 = .ok (.ifCond .lt 27, 3) := by decide +kernel
theorem dX8_signOf_12 : decode cX8_signOf 12 = .ok (.iload_n 2, 1) := by decide +kernel
theorem dX8_signOf_13 : decode cX8_signOf 13 = .ok (.aload_n 0, 1) := by decide +kernel
theorem dX8_signOf_14 : decode cX8_signOf 14 = .ok (.getfield 18, 3) := by decide +kernel
theorem dX8_signOf_17 : decode cX8_signOf 17 = .ok (.iload_n 1, 1) := by decide +kernel
theorem dX8_signOf_18 : decode cX8_signOf 18 = .ok (.iaload, 1) := by decide +kernel
theorem dX8_signOf_19 : decode cX8_signOf 19 = .ok (.if_icmp .ge 17, 3) := by decide +kernel
theorem dX8_signOf_22 : decode cX8_signOf 22 = .ok (.aload_n 0, 1) := by decide +kernel
theorem dX8_signOf_23 : decode cX8_signOf 23 = .ok (.getfield 21, 3) := by decide +kernel
theorem dX8_signOf_26 : decode cX8_signOf 26 = .ok (.iload_n 1, 1) := by decide +kernel
theorem dX8_signOf_27 : decode cX8_signOf 27 = .ok (.bipush 6, 2) := by decide +kernel
theorem dX8_signOf_29 : decode cX8_signOf 29 = .ok (.imul, 1) := by decide +kernel
theorem dX8_signOf_30 : decode cX8_signOf 30 = .ok (.iload_n 2, 1) := by decide +kernel
theorem dX8_signOf_31 : decode cX8_signOf 31 = .ok (.iadd, 1) := by decide +kernel
theorem dX8_signOf_32 : decode cX8_signOf 32 = .ok (.iaload, 1) := by decide +kernel
theorem dX8_signOf_33 : decode cX8_signOf 33 = .ok (.goto 5, 3) := by decide +kernel
theorem dX8_signOf_36 : decode cX8_signOf 36 = .ok (.bipush (-9), 2) := by decide +kernel
theorem dX8_signOf_38 : decode cX8_signOf 38 = .ok (.ireturn, 1) := by decide +kernel
theorem dX8_lengthOf_0 : decode cX8_lengthOf 0 = .ok (.aload_n 0, 1) := by decide +kernel
theorem dX8_lengthOf_1 : decode cX8_lengthOf 1 = .ok (.iload_n 1, 1) := by decide +kernel
theorem dX8_lengthOf_2 : decode cX8_lengthOf 2 = .ok (.invokevirtual 37, 3) := by decide +kernel
theorem dX8_lengthOf_5 : decode cX8_lengthOf 5 = .ok (.ifCond .eq 12, 3) := by decide +kernel
theorem dX8_lengthOf_8 : decode cX8_lengthOf 8 = .ok (.aload_n 0, 1) := by decide +kernel
theorem dX8_lengthOf_9 : decode cX8_lengthOf 9 = .ok (.getfield 18, 3) := by decide +kernel
theorem dX8_lengthOf_12 : decode cX8_lengthOf 12 = .ok (.iload_n 1, 1) := by decide +kernel
theorem dX8_lengthOf_13 : decode cX8_lengthOf 13 = .ok (.iaload, 1) := by decide +kernel
theorem dX8_lengthOf_14 : decode cX8_lengthOf 14 = .ok (.goto 4, 3) := by decide +kernel
theorem dX8_lengthOf_17 : decode cX8_lengthOf 17 = .ok (.iconst 0, 1) := by decide +kernel
theorem dX8_lengthOf_18 : decode cX8_lengthOf 18 = .ok (.ireturn, 1) := by decide +kernel
theorem dX8_sounds_0 : decode cX8_sounds 0 = .ok (.aload_n 0, 1) := by decide +kernel
theorem dX8_sounds_1 : decode cX8_sounds 1 = .ok (.iload_n 1, 1) := by decide +kernel
theorem dX8_sounds_2 : decode cX8_sounds 2 = .ok (.invokevirtual 41, 3) := by decide +kernel
theorem dX8_sounds_5 : decode cX8_sounds 5 = .ok (.ifCond .eq 23, 3) := by decide +kernel
theorem dX8_sounds_8 : decode cX8_sounds 8 = .ok (.iload_n 2, 1) := by decide +kernel
theorem dX8_sounds_9 : decode cX8_sounds 9 = .ok (.bipush 8, 2) := by decide +kernel
theorem dX8_sounds_11 : decode cX8_sounds 11 = .ok (.if_icmp .eq 13, 3) := by decide +kernel
theorem dX8_sounds_14 : decode cX8_sounds 14 = .ok (.iload_n 2, 1) := by decide +kernel
theorem dX8_sounds_15 : decode cX8_sounds 15 = .ok (.aload_n 0, 1) := by decide +kernel
theorem dX8_sounds_16 : decode cX8_sounds 16 = .ok (.getfield 9, 3) := by decide +kernel
theorem dX8_sounds_19 : decode cX8_sounds 19 = .ok (.iload_n 1, 1) := by decide +kernel
theorem dX8_sounds_20 : decode cX8_sounds 20 = .ok (.iaload, 1) := by decide +kernel
theorem dX8_sounds_21 : decode cX8_sounds 21 = .ok (.if_icmp .ne 7, 3) := by decide +kernel
theorem dX8_sounds_24 : decode cX8_sounds 24 = .ok (.iconst 1, 1) := by decide +kernel
theorem dX8_sounds_25 : decode cX8_sounds 25 = .ok (.goto 4, 3) := by decide +kernel
theorem dX8_sounds_28 : decode cX8_sounds 28 = .ok (.iconst 0, 1) := by decide +kernel
theorem dX8_sounds_29 : decode cX8_sounds 29 = .ok (.ireturn, 1) := by decide +kernel
theorem dX8_doorsThatSound_0 : decode cX8_doorsThatSound 0 = .ok (.iconst 0, 1) := by decide +kernel
theorem dX8_doorsThatSound_1 : decode cX8_doorsThatSound 1 = .ok (.istore_n 2, 1) := by decide +kernel
theorem dX8_doorsThatSound_2 : decode cX8_doorsThatSound 2 = .ok (.iconst 0, 1) := by decide +kernel
theorem dX8_doorsThatSound_3 : decode cX8_doorsThatSound 3 = .ok (.istore_n 3, 1) := by decide +kernel
theorem dX8_doorsThatSound_4 : decode cX8_doorsThatSound 4 = .ok (.iload_n 3, 1) := by decide +kernel
theorem dX8_doorsThatSound_5 : decode cX8_doorsThatSound 5 = .ok (.aload_n 0, 1) := by decide +kernel
theorem dX8_doorsThatSound_6 : decode cX8_doorsThatSound 6 = .ok (.getfield 24, 3) := by decide +kernel
theorem dX8_doorsThatSound_9 : decode cX8_doorsThatSound 9 = .ok (.if_icmp .ge 24, 3) := by decide +kernel
theorem dX8_doorsThatSound_12 : decode cX8_doorsThatSound 12 = .ok (.aload_n 0, 1) := by decide +kernel
theorem dX8_doorsThatSound_13 : decode cX8_doorsThatSound 13 = .ok (.iload_n 3, 1) := by decide +kernel
theorem dX8_doorsThatSound_14 : decode cX8_doorsThatSound 14 = .ok (.iload_n 1, 1) := by decide +kernel
theorem dX8_doorsThatSound_15 : decode cX8_doorsThatSound 15 = .ok (.invokevirtual 44, 3) := by decide +kernel
theorem dX8_doorsThatSound_18 : decode cX8_doorsThatSound 18 = .ok (.ifCond .eq 9, 3) := by decide +kernel
theorem dX8_doorsThatSound_21 : decode cX8_doorsThatSound 21 = .ok (.iload_n 2, 1) := by decide +kernel
theorem dX8_doorsThatSound_22 : decode cX8_doorsThatSound 22 = .ok (.iconst 1, 1) := by decide +kernel
theorem dX8_doorsThatSound_23 : decode cX8_doorsThatSound 23 = .ok (.iload_n 3, 1) := by decide +kernel
theorem dX8_doorsThatSound_24 : decode cX8_doorsThatSound 24 = .ok (.ishl, 1) := by decide +kernel
theorem dX8_doorsThatSound_25 : decode cX8_doorsThatSound 25 = .ok (.ior, 1) := by decide +kernel
theorem dX8_doorsThatSound_26 : decode cX8_doorsThatSound 26 = .ok (.istore_n 2, 1) := by decide +kernel
theorem dX8_doorsThatSound_27 : decode cX8_doorsThatSound 27 = .ok (.iinc 3 1, 3) := by decide +kernel
theorem dX8_doorsThatSound_30 : decode cX8_doorsThatSound 30 = .ok (.goto (-26), 3) := by decide +kernel
theorem dX8_doorsThatSound_33 : decode cX8_doorsThatSound 33 = .ok (.iload_n 2, 1) := by decide +kernel
theorem dX8_doorsThatSound_34 : decode cX8_doorsThatSound 34 = .ok (.ireturn, 1) := by decide +kernel
theorem dX8_isJoined_0 : decode cX8_isJoined 0 = .ok (.aload_n 0, 1) := by decide +kernel
theorem dX8_isJoined_1 : decode cX8_isJoined 1 = .ok (.iload_n 1, 1) := by decide +kernel
theorem dX8_isJoined_2 : decode cX8_isJoined 2 = .ok (.invokevirtual 48, 3) := by decide +kernel
theorem dX8_isJoined_5 : decode cX8_isJoined 5 = .ok (.iload_n 2, 1) := by decide +kernel
theorem dX8_isJoined_6 : decode cX8_isJoined 6 = .ok (.invokestatic 52, 3) := by decide +kernel
theorem dX8_isJoined_9 : decode cX8_isJoined 9 = .ok (.ireturn, 1) := by decide +kernel
theorem dX8_joinedTo_0 : decode cX8_joinedTo 0 = .ok (.aload_n 0, 1) := by decide +kernel
theorem dX8_joinedTo_1 : decode cX8_joinedTo 1 = .ok (.iload_n 1, 1) := by decide +kernel
theorem dX8_joinedTo_2 : decode cX8_joinedTo 2 = .ok (.invokevirtual 41, 3) := by decide +kernel
theorem dX8_joinedTo_5 : decode cX8_joinedTo 5 = .ok (.ifCond .eq 12, 3) := by decide +kernel
theorem dX8_joinedTo_8 : decode cX8_joinedTo 8 = .ok (.aload_n 0, 1) := by decide +kernel
theorem dX8_joinedTo_9 : decode cX8_joinedTo 9 = .ok (.getfield 15, 3) := by decide +kernel
theorem dX8_joinedTo_12 : decode cX8_joinedTo 12 = .ok (.iload_n 1, 1) := by decide +kernel
theorem dX8_joinedTo_13 : decode cX8_joinedTo 13 = .ok (.iaload, 1) := by decide +kernel
theorem dX8_joinedTo_14 : decode cX8_joinedTo 14 = .ok (.goto 4, 3) := by decide +kernel
theorem dX8_joinedTo_17 : decode cX8_joinedTo 17 = .ok (.iconst 0, 1) := by decide +kernel
theorem dX8_joinedTo_18 : decode cX8_joinedTo 18 = .ok (.ireturn, 1) := by decide +kernel
theorem dX8_isJoinedToAll_0 : decode cX8_isJoinedToAll 0 = .ok (.aload_n 0, 1) := by decide +kernel
theorem dX8_isJoinedToAll_1 : decode cX8_isJoinedToAll 1 = .ok (.iload_n 1, 1) := by decide +kernel
theorem dX8_isJoinedToAll_2 : decode cX8_isJoinedToAll 2 = .ok (.invokevirtual 41, 3) := by decide +kernel
theorem dX8_isJoinedToAll_5 : decode cX8_isJoinedToAll 5 = .ok (.ifCond .eq 24, 3) := by decide +kernel
theorem dX8_isJoinedToAll_8 : decode cX8_isJoinedToAll 8 = .ok (.aload_n 0, 1) := by decide +kernel
theorem dX8_isJoinedToAll_9 : decode cX8_isJoinedToAll 9 = .ok (.getfield 15, 3) := by decide +kernel
theorem dX8_isJoinedToAll_12 : decode cX8_isJoinedToAll 12 = .ok (.iload_n 1, 1) := by decide +kernel
theorem dX8_isJoinedToAll_13 : decode cX8_isJoinedToAll 13 = .ok (.iaload, 1) := by decide +kernel
theorem dX8_isJoinedToAll_14 : decode cX8_isJoinedToAll 14 = .ok (.iconst 1, 1) := by decide +kernel
theorem dX8_isJoinedToAll_15 : decode cX8_isJoinedToAll 15 = .ok (.iload_n 1, 1) := by decide +kernel
theorem dX8_isJoinedToAll_16 : decode cX8_isJoinedToAll 16 = .ok (.ishl, 1) := by decide +kernel
theorem dX8_isJoinedToAll_17 : decode cX8_isJoinedToAll 17 = .ok (.ior, 1) := by decide +kernel
theorem dX8_isJoinedToAll_18 : decode cX8_isJoinedToAll 18 = .ok (.aload_n 0, 1) := by decide +kernel
theorem dX8_isJoinedToAll_19 : decode cX8_isJoinedToAll 19 = .ok (.invokevirtual 55, 3) := by decide +kernel
theorem dX8_isJoinedToAll_22 : decode cX8_isJoinedToAll 22 = .ok (.if_icmp .ne 7, 3) := by decide +kernel
theorem dX8_isJoinedToAll_25 : decode cX8_isJoinedToAll 25 = .ok (.iconst 1, 1) := by decide +kernel
theorem dX8_isJoinedToAll_26 : decode cX8_isJoinedToAll 26 = .ok (.goto 4, 3) := by decide +kernel
theorem dX8_isJoinedToAll_29 : decode cX8_isJoinedToAll 29 = .ok (.iconst 0, 1) := by decide +kernel
theorem dX8_isJoinedToAll_30 : decode cX8_isJoinedToAll 30 = .ok (.ireturn, 1) := by decide +kernel
theorem dX8_hasRoomForStreet_0 : decode cX8_hasRoomForStreet 0 = .ok (.iconst 0, 1) := by decide +kernel
theorem dX8_hasRoomForStreet_1 : decode cX8_hasRoomForStreet 1 = .ok (.istore_n 1, 1) := by decide +kernel
theorem dX8_hasRoomForStreet_2 : decode cX8_hasRoomForStreet 2 = .ok (.iload_n 1, 1) := by decide +kernel
theorem dX8_hasRoomForStreet_3 : decode cX8_hasRoomForStreet 3 = .ok (.aload_n 0, 1) := by decide +kernel
theorem dX8_hasRoomForStreet_4 : decode cX8_hasRoomForStreet 4 = .ok (.getfield 24, 3) := by decide +kernel
theorem dX8_hasRoomForStreet_7 : decode cX8_hasRoomForStreet 7 = .ok (.if_icmp .ge 19, 3) := by decide +kernel
theorem dX8_hasRoomForStreet_10 : decode cX8_hasRoomForStreet 10 = .ok (.aload_n 0, 1) := by decide +kernel
theorem dX8_hasRoomForStreet_11 : decode cX8_hasRoomForStreet 11 = .ok (.iload_n 1, 1) := by decide +kernel
theorem dX8_hasRoomForStreet_12 : decode cX8_hasRoomForStreet 12 = .ok (.invokevirtual 59, 3) := by decide +kernel
theorem dX8_hasRoomForStreet_15 : decode cX8_hasRoomForStreet 15 = .ok (.ifCond .ne 5, 3) := by decide +kernel
theorem dX8_hasRoomForStreet_18 : decode cX8_hasRoomForStreet 18 = .ok (.iconst 1, 1) := by decide +kernel
theorem dX8_hasRoomForStreet_19 : decode cX8_hasRoomForStreet 19 = .ok (.ireturn, 1) := by decide +kernel
theorem dX8_hasRoomForStreet_20 : decode cX8_hasRoomForStreet 20 = .ok (.iinc 1 1, 3) := by decide +kernel
theorem dX8_hasRoomForStreet_23 : decode cX8_hasRoomForStreet 23 = .ok (.goto (-21), 3) := by decide +kernel
theorem dX8_hasRoomForStreet_26 : decode cX8_hasRoomForStreet 26 = .ok (.iconst 0, 1) := by decide +kernel
theorem dX8_hasRoomForStreet_27 : decode cX8_hasRoomForStreet 27 = .ok (.ireturn, 1) := by decide +kernel
theorem dX8_join_0 : decode cX8_join 0 = .ok (.aload_n 0, 1) := by decide +kernel
theorem dX8_join_1 : decode cX8_join 1 = .ok (.iload_n 1, 1) := by decide +kernel
theorem dX8_join_2 : decode cX8_join 2 = .ok (.invokevirtual 41, 3) := by decide +kernel
theorem dX8_join_5 : decode cX8_join 5 = .ok (.ifCond .eq 16, 3) := by decide +kernel
theorem dX8_join_8 : decode cX8_join 8 = .ok (.aload_n 0, 1) := by decide +kernel
theorem dX8_join_9 : decode cX8_join 9 = .ok (.iload_n 2, 1) := by decide +kernel
theorem dX8_join_10 : decode cX8_join 10 = .ok (.invokevirtual 41, 3) := by decide +kernel
theorem dX8_join_13 : decode cX8_join 13 = .ok (.ifCond .eq 8, 3) := by decide +kernel
theorem dX8_join_16 : decode cX8_join 16 = .ok (.iload_n 1, 1) := by decide +kernel
theorem dX8_join_17 : decode cX8_join 17 = .ok (.iload_n 2, 1) := by decide +kernel
theorem dX8_join_18 : decode cX8_join 18 = .ok (.if_icmp .ne 4, 3) := by decide +kernel
theorem dX8_join_21 : decode cX8_join 21 = .ok (.return_, 1) := by decide +kernel
theorem dX8_join_22 : decode cX8_join 22 = .ok (.iload_n 3, 1) := by decide +kernel
theorem dX8_join_23 : decode cX8_join 23 = .ok (.ifCond .eq 30, 3) := by decide +kernel
theorem dX8_join_26 : decode cX8_join 26 = .ok (.aload_n 0, 1) := by decide +kernel
theorem dX8_join_27 : decode cX8_join 27 = .ok (.getfield 15, 3) := by decide +kernel
theorem dX8_join_30 : decode cX8_join 30 = .ok (.iload_n 1, 1) := by decide +kernel
theorem dX8_join_31 : decode cX8_join 31 = .ok (.dup2, 1) := by decide +kernel
theorem dX8_join_32 : decode cX8_join 32 = .ok (.iaload, 1) := by decide +kernel
theorem dX8_join_33 : decode cX8_join 33 = .ok (.iconst 1, 1) := by decide +kernel
theorem dX8_join_34 : decode cX8_join 34 = .ok (.iload_n 2, 1) := by decide +kernel
theorem dX8_join_35 : decode cX8_join 35 = .ok (.ishl, 1) := by decide +kernel
theorem dX8_join_36 : decode cX8_join 36 = .ok (.ior, 1) := by decide +kernel
theorem dX8_join_37 : decode cX8_join 37 = .ok (.iastore, 1) := by decide +kernel
theorem dX8_join_38 : decode cX8_join 38 = .ok (.aload_n 0, 1) := by decide +kernel
theorem dX8_join_39 : decode cX8_join 39 = .ok (.getfield 15, 3) := by decide +kernel
theorem dX8_join_42 : decode cX8_join 42 = .ok (.iload_n 2, 1) := by decide +kernel
theorem dX8_join_43 : decode cX8_join 43 = .ok (.dup2, 1) := by decide +kernel
theorem dX8_join_44 : decode cX8_join 44 = .ok (.iaload, 1) := by decide +kernel
theorem dX8_join_45 : decode cX8_join 45 = .ok (.iconst 1, 1) := by decide +kernel
theorem dX8_join_46 : decode cX8_join 46 = .ok (.iload_n 1, 1) := by decide +kernel
theorem dX8_join_47 : decode cX8_join 47 = .ok (.ishl, 1) := by decide +kernel
theorem dX8_join_48 : decode cX8_join 48 = .ok (.ior, 1) := by decide +kernel
theorem dX8_join_49 : decode cX8_join 49 = .ok (.iastore, 1) := by decide +kernel
theorem dX8_join_50 : decode cX8_join 50 = .ok (.goto 31, 3) := by decide +kernel
theorem dX8_join_53 : decode cX8_join 53 = .ok (.aload_n 0, 1) := by decide +kernel
theorem dX8_join_54 : decode cX8_join 54 = .ok (.getfield 15, 3) := by decide +kernel
theorem dX8_join_57 : decode cX8_join 57 = .ok (.iload_n 1, 1) := by decide +kernel
theorem dX8_join_58 : decode cX8_join 58 = .ok (.dup2, 1) := by decide +kernel
theorem dX8_join_59 : decode cX8_join 59 = .ok (.iaload, 1) := by decide +kernel
theorem dX8_join_60 : decode cX8_join 60 = .ok (.iconst 1, 1) := by decide +kernel
theorem dX8_join_61 : decode cX8_join 61 = .ok (.iload_n 2, 1) := by decide +kernel
theorem dX8_join_62 : decode cX8_join 62 = .ok (.ishl, 1) := by decide +kernel
theorem dX8_join_63 : decode cX8_join 63 = .ok (.iconst (-1), 1) := by decide +kernel
theorem dX8_join_64 : decode cX8_join 64 = .ok (.ixor, 1) := by decide +kernel
theorem dX8_join_65 : decode cX8_join 65 = .ok (.iand, 1) := by decide +kernel
theorem dX8_join_66 : decode cX8_join 66 = .ok (.iastore, 1) := by decide +kernel
theorem dX8_join_67 : decode cX8_join 67 = .ok (.aload_n 0, 1) := by decide +kernel
theorem dX8_join_68 : decode cX8_join 68 = .ok (.getfield 15, 3) := by decide +kernel
theorem dX8_join_71 : decode cX8_join 71 = .ok (.iload_n 2, 1) := by decide +kernel
theorem dX8_join_72 : decode cX8_join 72 = .ok (.dup2, 1) := by decide +kernel
theorem dX8_join_73 : decode cX8_join 73 = .ok (.iaload, 1) := by decide +kernel
theorem dX8_join_74 : decode cX8_join 74 = .ok (.iconst 1, 1) := by decide +kernel
theorem dX8_join_75 : decode cX8_join 75 = .ok (.iload_n 1, 1) := by decide +kernel
theorem dX8_join_76 : decode cX8_join 76 = .ok (.ishl, 1) := by decide +kernel
theorem dX8_join_77 : decode cX8_join 77 = .ok (.iconst (-1), 1) := by decide +kernel
theorem dX8_join_78 : decode cX8_join 78 = .ok (.ixor, 1) := by decide +kernel
theorem dX8_join_79 : decode cX8_join 79 = .ok (.iand, 1) := by decide +kernel
theorem dX8_join_80 : decode cX8_join 80 = .ok (.iastore, 1) := by decide +kernel
theorem dX8_join_81 : decode cX8_join 81 = .ok (.return_, 1) := by decide +kernel
theorem dX8_around_0 : decode cX8_around 0 = .ok (.iconst 0, 1) := by decide +kernel
theorem dX8_around_1 : decode cX8_around 1 = .ok (.istore_n 2, 1) := by decide +kernel
theorem dX8_around_2 : decode cX8_around 2 = .ok (.iconst 0, 1) := by decide +kernel
theorem dX8_around_3 : decode cX8_around 3 = .ok (.istore_n 3, 1) := by decide +kernel
theorem dX8_around_4 : decode cX8_around 4 = .ok (.iload_n 3, 1) := by decide +kernel
theorem dX8_around_5 : decode cX8_around 5 = .ok (.aload_n 0, 1) := by decide +kernel
theorem dX8_around_6 : decode cX8_around 6 = .ok (.getfield 24, 3) := by decide +kernel
theorem dX8_around_9 : decode cX8_around 9 = .ok (.if_icmp .ge 32, 3) := by decide +kernel
theorem dX8_around_12 : decode cX8_around 12 = .ok (.iload_n 1, 1) := by decide +kernel
theorem dX8_around_13 : decode cX8_around 13 = .ok (.iload_n 3, 1) := by decide +kernel
theorem dX8_around_14 : decode cX8_around 14 = .ok (.ishr, 1) := by decide +kernel
theorem dX8_around_15 : decode cX8_around 15 = .ok (.ifCond .eq 26, 3) := by decide +kernel
theorem dX8_around_18 : decode cX8_around 18 = .ok (.iload_n 1, 1) := by decide +kernel
theorem dX8_around_19 : decode cX8_around 19 = .ok (.iload_n 3, 1) := by decide +kernel
theorem dX8_around_20 : decode cX8_around 20 = .ok (.invokestatic 52, 3) := by decide +kernel
theorem dX8_around_23 : decode cX8_around 23 = .ok (.ifCond .eq 12, 3) := by decide +kernel
theorem dX8_around_26 : decode cX8_around 26 = .ok (.iload_n 2, 1) := by decide +kernel
theorem dX8_around_27 : decode cX8_around 27 = .ok (.aload_n 0, 1) := by decide +kernel
theorem dX8_around_28 : decode cX8_around 28 = .ok (.getfield 15, 3) := by decide +kernel
theorem dX8_around_31 : decode cX8_around 31 = .ok (.iload_n 3, 1) := by decide +kernel
theorem dX8_around_32 : decode cX8_around 32 = .ok (.iaload, 1) := by decide +kernel
theorem dX8_around_33 : decode cX8_around 33 = .ok (.ior, 1) := by decide +kernel
theorem dX8_around_34 : decode cX8_around 34 = .ok (.istore_n 2, 1) := by decide +kernel
theorem dX8_around_35 : decode cX8_around 35 = .ok (.iinc 3 1, 3) := by decide +kernel
theorem dX8_around_38 : decode cX8_around 38 = .ok (.goto (-34), 3) := by decide +kernel
theorem dX8_around_41 : decode cX8_around 41 = .ok (.iload_n 2, 1) := by decide +kernel
theorem dX8_around_42 : decode cX8_around 42 = .ok (.ireturn, 1) := by decide +kernel
theorem dX8_countStreets_0 : decode cX8_countStreets 0 = .ok (.iconst 0, 1) := by decide +kernel
theorem dX8_countStreets_1 : decode cX8_countStreets 1 = .ok (.istore_n 1, 1) := by decide +kernel
theorem dX8_countStreets_2 : decode cX8_countStreets 2 = .ok (.iconst 0, 1) := by decide +kernel
theorem dX8_countStreets_3 : decode cX8_countStreets 3 = .ok (.istore_n 2, 1) := by decide +kernel
theorem dX8_countStreets_4 : decode cX8_countStreets 4 = .ok (.iload_n 2, 1) := by decide +kernel
theorem dX8_countStreets_5 : decode cX8_countStreets 5 = .ok (.aload_n 0, 1) := by decide +kernel
theorem dX8_countStreets_6 : decode cX8_countStreets 6 = .ok (.getfield 24, 3) := by decide +kernel
theorem dX8_countStreets_9 : decode cX8_countStreets 9 = .ok (.if_icmp .ge 21, 3) := by decide +kernel
theorem dX8_countStreets_12 : decode cX8_countStreets 12 = .ok (.iload_n 1, 1) := by decide +kernel
theorem dX8_countStreets_13 : decode cX8_countStreets 13 = .ok (.aload_n 0, 1) := by decide +kernel
theorem dX8_countStreets_14 : decode cX8_countStreets 14 = .ok (.getfield 15, 3) := by decide +kernel
theorem dX8_countStreets_17 : decode cX8_countStreets 17 = .ok (.iload_n 2, 1) := by decide +kernel
theorem dX8_countStreets_18 : decode cX8_countStreets 18 = .ok (.iaload, 1) := by decide +kernel
theorem dX8_countStreets_19 : decode cX8_countStreets 19 = .ok (.invokestatic 62, 3) := by decide +kernel
theorem dX8_countStreets_22 : decode cX8_countStreets 22 = .ok (.iadd, 1) := by decide +kernel
theorem dX8_countStreets_23 : decode cX8_countStreets 23 = .ok (.istore_n 1, 1) := by decide +kernel
theorem dX8_countStreets_24 : decode cX8_countStreets 24 = .ok (.iinc 2 1, 3) := by decide +kernel
theorem dX8_countStreets_27 : decode cX8_countStreets 27 = .ok (.goto (-23), 3) := by decide +kernel
theorem dX8_countStreets_30 : decode cX8_countStreets 30 = .ok (.iload_n 1, 1) := by decide +kernel
theorem dX8_countStreets_31 : decode cX8_countStreets 31 = .ok (.iconst 1, 1) := by decide +kernel
theorem dX8_countStreets_32 : decode cX8_countStreets 32 = .ok (.ishr, 1) := by decide +kernel
theorem dX8_countStreets_33 : decode cX8_countStreets 33 = .ok (.ireturn, 1) := by decide +kernel
theorem dX8_turnNotes_0 : decode cX8_turnNotes 0 = .ok (.aload_n 0, 1) := by decide +kernel
theorem dX8_turnNotes_1 : decode cX8_turnNotes 1 = .ok (.getfield 24, 3) := by decide +kernel
theorem dX8_turnNotes_4 : decode cX8_turnNotes 4 = .ok (.ifCond .le 17, 3) := by decide +kernel
theorem dX8_turnNotes_7 : decode cX8_turnNotes 7 = .ok (.aload_n 0, 1) := by decide +kernel
theorem dX8_turnNotes_8 : decode cX8_turnNotes 8 = .ok (.getfield 9, 3) := by decide +kernel
theorem dX8_turnNotes_11 : decode cX8_turnNotes 11 = .ok (.aload_n 0, 1) := by decide +kernel
theorem dX8_turnNotes_12 : decode cX8_turnNotes 12 = .ok (.getfield 24, 3) := by decide +kernel
theorem dX8_turnNotes_15 : decode cX8_turnNotes 15 = .ok (.iconst 1, 1) := by decide +kernel
theorem dX8_turnNotes_16 : decode cX8_turnNotes 16 = .ok (.isub, 1) := by decide +kernel
theorem dX8_turnNotes_17 : decode cX8_turnNotes 17 = .ok (.iaload, 1) := by decide +kernel
theorem dX8_turnNotes_18 : decode cX8_turnNotes 18 = .ok (.goto 5, 3) := by decide +kernel
theorem dX8_turnNotes_21 : decode cX8_turnNotes 21 = .ok (.bipush 7, 2) := by decide +kernel
theorem dX8_turnNotes_23 : decode cX8_turnNotes 23 = .ok (.istore_n 1, 1) := by decide +kernel
theorem dX8_turnNotes_24 : decode cX8_turnNotes 24 = .ok (.iconst 0, 1) := by decide +kernel
theorem dX8_turnNotes_25 : decode cX8_turnNotes 25 = .ok (.istore_n 2, 1) := by decide +kernel
theorem dX8_turnNotes_26 : decode cX8_turnNotes 26 = .ok (.iload_n 2, 1) := by decide +kernel
theorem dX8_turnNotes_27 : decode cX8_turnNotes 27 = .ok (.aload_n 0, 1) := by decide +kernel
theorem dX8_turnNotes_28 : decode cX8_turnNotes 28 = .ok (.getfield 24, 3) := by decide +kernel
theorem dX8_turnNotes_31 : decode cX8_turnNotes 31 = .ok (.if_icmp .ge 25, 3) := by decide +kernel
theorem dX8_turnNotes_34 : decode cX8_turnNotes 34 = .ok (.aload_n 0, 1) := by decide +kernel
theorem dX8_turnNotes_35 : decode cX8_turnNotes 35 = .ok (.getfield 9, 3) := by decide +kernel
theorem dX8_turnNotes_38 : decode cX8_turnNotes 38 = .ok (.iload_n 2, 1) := by decide +kernel
theorem dX8_turnNotes_39 : decode cX8_turnNotes 39 = .ok (.iaload, 1) := by decide +kernel
theorem dX8_turnNotes_40 : decode cX8_turnNotes 40 = .ok (.istore_n 3, 1) := by decide +kernel
theorem dX8_turnNotes_41 : decode cX8_turnNotes 41 = .ok (.aload_n 0, 1) := by decide +kernel
theorem dX8_turnNotes_42 : decode cX8_turnNotes 42 = .ok (.getfield 9, 3) := by decide +kernel
theorem dX8_turnNotes_45 : decode cX8_turnNotes 45 = .ok (.iload_n 2, 1) := by decide +kernel
theorem dX8_turnNotes_46 : decode cX8_turnNotes 46 = .ok (.iload_n 1, 1) := by decide +kernel
theorem dX8_turnNotes_47 : decode cX8_turnNotes 47 = .ok (.iastore, 1) := by decide +kernel
theorem dX8_turnNotes_48 : decode cX8_turnNotes 48 = .ok (.iload_n 3, 1) := by decide +kernel
theorem dX8_turnNotes_49 : decode cX8_turnNotes 49 = .ok (.istore_n 1, 1) := by decide +kernel
theorem dX8_turnNotes_50 : decode cX8_turnNotes 50 = .ok (.iinc 2 1, 3) := by decide +kernel
theorem dX8_turnNotes_53 : decode cX8_turnNotes 53 = .ok (.goto (-27), 3) := by decide +kernel
theorem dX8_turnNotes_56 : decode cX8_turnNotes 56 = .ok (.aload_n 0, 1) := by decide +kernel
theorem dX8_turnNotes_57 : decode cX8_turnNotes 57 = .ok (.getfield 9, 3) := by decide +kernel
theorem dX8_turnNotes_60 : decode cX8_turnNotes 60 = .ok (.iconst 0, 1) := by decide +kernel
theorem dX8_turnNotes_61 : decode cX8_turnNotes 61 = .ok (.iaload, 1) := by decide +kernel
theorem dX8_turnNotes_62 : decode cX8_turnNotes 62 = .ok (.ireturn, 1) := by decide +kernel
theorem dX9_takeSong_0 : decode cX9_takeSong 0 = .ok (.aload_n 0, 1) := by decide +kernel
theorem dX9_takeSong_1 : decode cX9_takeSong 1 = .ok (.aload_n 1, 1) := by decide +kernel
theorem dX9_takeSong_2 : decode cX9_takeSong 2 = .ok (.iload_n 2, 1) := by decide +kernel
theorem dX9_takeSong_3 : decode cX9_takeSong 3 = .ok (.invokevirtual 22, 3) := by decide +kernel
theorem dX9_takeSong_6 : decode cX9_takeSong 6 = .ok (.putfield 28, 3) := by decide +kernel
theorem dX9_takeSong_9 : decode cX9_takeSong 9 = .ok (.iconst 0, 1) := by decide +kernel
theorem dX9_takeSong_10 : decode cX9_takeSong 10 = .ok (.istore_n 3, 1) := by decide +kernel
theorem dX9_takeSong_11 : decode cX9_takeSong 11 = .ok (.iload_n 3, 1) := by decide +kernel
theorem dX9_takeSong_12 : decode cX9_takeSong 12 = .ok (.aload_n 0, 1) := by decide +kernel
theorem dX9_takeSong_13 : decode cX9_takeSong 13 = .ok (.getfield 28, 3) := by decide +kernel
theorem dX9_takeSong_16 : decode cX9_takeSong 16 = .ok (.if_icmp .ge 27, 3) := by decide +kernel
theorem dX9_takeSong_19 : decode cX9_takeSong 19 = .ok (.iload_n 3, 1) := by decide +kernel
theorem dX9_takeSong_20 : decode cX9_takeSong 20 = .ok (.bipush 12, 2) := by decide +kernel
theorem dX9_takeSong_22 : decode cX9_takeSong 22 = .ok (.if_icmp .ge 21, 3) := by decide +kernel
theorem dX9_takeSong_25 : decode cX9_takeSong 25 = .ok (.aload_n 0, 1) := by decide +kernel
theorem dX9_takeSong_26 : decode cX9_takeSong 26 = .ok (.aload_n 1, 1) := by decide +kernel
theorem dX9_takeSong_27 : decode cX9_takeSong 27 = .ok (.iload_n 3, 1) := by decide +kernel
theorem dX9_takeSong_28 : decode cX9_takeSong 28 = .ok (.aload_n 1, 1) := by decide +kernel
theorem dX9_takeSong_29 : decode cX9_takeSong 29 = .ok (.iload_n 2, 1) := by decide +kernel
theorem dX9_takeSong_30 : decode cX9_takeSong 30 = .ok (.iload_n 3, 1) := by decide +kernel
theorem dX9_takeSong_31 : decode cX9_takeSong 31 = .ok (.invokevirtual 32, 3) := by decide +kernel
theorem dX9_takeSong_34 : decode cX9_takeSong 34 = .ok (.invokevirtual 36, 3) := by decide +kernel
theorem dX9_takeSong_37 : decode cX9_takeSong 37 = .ok (.iinc 3 1, 3) := by decide +kernel
theorem dX9_takeSong_40 : decode cX9_takeSong 40 = .ok (.goto (-29), 3) := by decide +kernel
theorem dX9_takeSong_43 : decode cX9_takeSong 43 = .ok (.return_, 1) := by decide +kernel
theorem dX9_takeAnthem_0 : decode cX9_takeAnthem 0 = .ok (.aload_n 1, 1) := by decide +kernel
theorem dX9_takeAnthem_1 : decode cX9_takeAnthem 1 = .ok (.iload_n 2, 1) := by decide +kernel
theorem dX9_takeAnthem_2 : decode cX9_takeAnthem 2 = .ok (.invokevirtual 22, 3) := by decide +kernel
theorem dX9_takeAnthem_5 : decode cX9_takeAnthem 5 = .ok (.istore_n 3, 1) := by decide +kernel
theorem dX9_takeAnthem_6 : decode cX9_takeAnthem 6 = .ok (.aload_n 0, 1) := by decide +kernel
theorem dX9_takeAnthem_7 : decode cX9_takeAnthem 7 = .ok (.aload_n 1, 1) := by decide +kernel
theorem dX9_takeAnthem_8 : decode cX9_takeAnthem 8 = .ok (.getfield 40, 3) := by decide +kernel
theorem dX9_takeAnthem_11 : decode cX9_takeAnthem 11 = .ok (.putfield 28, 3) := by decide +kernel
theorem dX9_takeAnthem_14 : decode cX9_takeAnthem 14 = .ok (.iconst 0, 1) := by decide +kernel
theorem dX9_takeAnthem_15 : decode cX9_takeAnthem 15 = .ok (.istore 4, 2) := by decide +kernel
theorem dX9_takeAnthem_17 : decode cX9_takeAnthem 17 = .ok (.iload 4, 2) := by decide +kernel
theorem dX9_takeAnthem_19 : decode cX9_takeAnthem 19 = .ok (.aload_n 0, 1) := by decide +kernel
theorem dX9_takeAnthem_20 : decode cX9_takeAnthem 20 = .ok (.getfield 28, 3) := by decide +kernel
theorem dX9_takeAnthem_23 : decode cX9_takeAnthem 23 = .ok (.if_icmp .ge 41, 3) := by decide +kernel
theorem dX9_takeAnthem_26 : decode cX9_takeAnthem 26 = .ok (.iload 4, 2) := by decide +kernel
theorem dX9_takeAnthem_28 : decode cX9_takeAnthem 28 = .ok (.bipush 12, 2) := by decide +kernel
theorem dX9_takeAnthem_30 : decode cX9_takeAnthem 30 = .ok (.if_icmp .ge 34, 3) := by decide +kernel
theorem dX9_takeAnthem_33 : decode cX9_takeAnthem 33 = .ok (.aload_n 0, 1) := by decide +kernel
theorem dX9_takeAnthem_34 : decode cX9_takeAnthem 34 = .ok (.aload_n 1, 1) := by decide +kernel
theorem dX9_takeAnthem_35 : decode cX9_takeAnthem 35 = .ok (.iload 4, 2) := by decide +kernel
theorem dX9_takeAnthem_37 : decode cX9_takeAnthem 37 = .ok (.iload_n 3, 1) := by decide +kernel
theorem dX9_takeAnthem_38 : decode cX9_takeAnthem 38 = .ok (.ifCond .le 15, 3) := by decide +kernel
theorem dX9_takeAnthem_41 : decode cX9_takeAnthem 41 = .ok (.aload_n 1, 1) := by decide +kernel
theorem dX9_takeAnthem_42 : decode cX9_takeAnthem 42 = .ok (.iload_n 2, 1) := by decide +kernel
theorem dX9_takeAnthem_43 : decode cX9_takeAnthem 43 = .ok (.iload 4, 2) := by decide +kernel
theorem dX9_takeAnthem_45 : decode cX9_takeAnthem 45 = .ok (.iload_n 3, 1) := by decide +kernel
theorem dX9_takeAnthem_46 : decode cX9_takeAnthem 46 = .ok (.irem, 1) := by decide +kernel
theorem dX9_takeAnthem_47 : decode cX9_takeAnthem 47 = .ok (.invokevirtual 32, 3) := by decide +kernel
theorem dX9_takeAnthem_50 : decode cX9_takeAnthem 50 = .ok (.goto 5, 3) := by decide +kernel
theorem dX9_takeAnthem_53 : decode cX9_takeAnthem 53 = .ok (.bipush (-9), 2) := by decide +kernel
theorem dX9_takeAnthem_55 : decode cX9_takeAnthem 55 = .ok (.invokevirtual 36, 3) := by decide +kernel
theorem dX9_takeAnthem_58 : decode cX9_takeAnthem 58 = .ok (.iinc 4 1, 3) := by decide +kernel
theorem dX9_takeAnthem_61 : decode cX9_takeAnthem 61 = .ok (.goto (-44), 3) := by decide +kernel
theorem dX9_takeAnthem_64 : decode cX9_takeAnthem 64 = .ok (.return_, 1) := by decide +kernel
theorem dX9_takeHeard_0 : decode cX9_takeHeard 0 = .ok (.aload_n 0, 1) := by decide +kernel
theorem dX9_takeHeard_1 : decode cX9_takeHeard 1 = .ok (.aload_n 2, 1) := by decide +kernel
theorem dX9_takeHeard_2 : decode cX9_takeHeard 2 = .ok (.getfield 43, 3) := by decide +kernel
theorem dX9_takeHeard_5 : decode cX9_takeHeard 5 = .ok (.putfield 28, 3) := by decide +kernel
theorem dX9_takeHeard_8 : decode cX9_takeHeard 8 = .ok (.iconst 0, 1) := by decide +kernel
theorem dX9_takeHeard_9 : decode cX9_takeHeard 9 = .ok (.istore_n 3, 1) := by decide +kernel
theorem dX9_takeHeard_10 : decode cX9_takeHeard 10 = .ok (.iload_n 3, 1) := by decide +kernel
theorem dX9_takeHeard_11 : decode cX9_takeHeard 11 = .ok (.aload_n 0, 1) := by decide +kernel
theorem dX9_takeHeard_12 : decode cX9_takeHeard 12 = .ok (.getfield 28, 3) := by decide +kernel
theorem dX9_takeHeard_15 : decode cX9_takeHeard 15 = .ok (.if_icmp .ge 27, 3) := by decide +kernel
theorem dX9_takeHeard_18 : decode cX9_takeHeard 18 = .ok (.iload_n 3, 1) := by decide +kernel
theorem dX9_takeHeard_19 : decode cX9_takeHeard 19 = .ok (.bipush 12, 2) := by decide +kernel
theorem dX9_takeHeard_21 : decode cX9_takeHeard 21 = .ok (.if_icmp .ge 21, 3) := by decide +kernel
theorem dX9_takeHeard_24 : decode cX9_takeHeard 24 = .ok (.aload_n 0, 1) := by decide +kernel
theorem dX9_takeHeard_25 : decode cX9_takeHeard 25 = .ok (.aload_n 1, 1) := by decide +kernel
theorem dX9_takeHeard_26 : decode cX9_takeHeard 26 = .ok (.iload_n 3, 1) := by decide +kernel
theorem dX9_takeHeard_27 : decode cX9_takeHeard 27 = .ok (.aload_n 2, 1) := by decide +kernel
theorem dX9_takeHeard_28 : decode cX9_takeHeard 28 = .ok (.getfield 46, 3) := by decide +kernel
theorem dX9_takeHeard_31 : decode cX9_takeHeard 31 = .ok (.iload_n 3, 1) := by decide +kernel
theorem dX9_takeHeard_32 : decode cX9_takeHeard 32 = .ok (.iaload, 1) := by decide +kernel
theorem dX9_takeHeard_33 : decode cX9_takeHeard 33 = .ok (.invokevirtual 36, 3) := by decide +kernel
theorem dX9_takeHeard_36 : decode cX9_takeHeard 36 = .ok (.iinc 3 1, 3) := by decide +kernel
theorem dX9_takeHeard_39 : decode cX9_takeHeard 39 = .ok (.goto (-29), 3) := by decide +kernel
theorem dX9_takeHeard_42 : decode cX9_takeHeard 42 = .ok (.return_, 1) := by decide +kernel
theorem dX9_take_0 : decode cX9_take 0 = .ok (.aload_n 0, 1) := by decide +kernel
theorem dX9_take_1 : decode cX9_take 1 = .ok (.getfield 11, 3) := by decide +kernel
theorem dX9_take_4 : decode cX9_take 4 = .ok (.iload_n 2, 1) := by decide +kernel
theorem dX9_take_5 : decode cX9_take 5 = .ok (.aload_n 1, 1) := by decide +kernel
theorem dX9_take_6 : decode cX9_take 6 = .ok (.iload_n 3, 1) := by decide +kernel
theorem dX9_take_7 : decode cX9_take 7 = .ok (.invokevirtual 49, 3) := by decide +kernel
theorem dX9_take_10 : decode cX9_take 10 = .ok (.iastore, 1) := by decide +kernel
theorem dX9_take_11 : decode cX9_take 11 = .ok (.aload_n 0, 1) := by decide +kernel
theorem dX9_take_12 : decode cX9_take 12 = .ok (.getfield 15, 3) := by decide +kernel
theorem dX9_take_15 : decode cX9_take 15 = .ok (.iload_n 2, 1) := by decide +kernel
theorem dX9_take_16 : decode cX9_take 16 = .ok (.iload_n 3, 1) := by decide +kernel
theorem dX9_take_17 : decode cX9_take 17 = .ok (.bipush 8, 2) := by decide +kernel
theorem dX9_take_19 : decode cX9_take 19 = .ok (.if_icmp .ne 7, 3) := by decide +kernel
theorem dX9_take_22 : decode cX9_take 22 = .ok (.iconst 0, 1) := by decide +kernel
theorem dX9_take_23 : decode cX9_take 23 = .ok (.goto 7, 3) := by decide +kernel
theorem dX9_take_26 : decode cX9_take 26 = .ok (.aload_n 1, 1) := by decide +kernel
theorem dX9_take_27 : decode cX9_take 27 = .ok (.invokevirtual 52, 3) := by decide +kernel
theorem dX9_take_30 : decode cX9_take 30 = .ok (.iastore, 1) := by decide +kernel
theorem dX9_take_31 : decode cX9_take 31 = .ok (.return_, 1) := by decide +kernel
theorem dX9_fitsAt_0 : decode cX9_fitsAt 0 = .ok (.iload_n 1, 1) := by decide +kernel
theorem dX9_fitsAt_1 : decode cX9_fitsAt 1 = .ok (.ifCond .lt 26, 3) := by decide +kernel
theorem dX9_fitsAt_4 : decode cX9_fitsAt 4 = .ok (.iload_n 1, 1) := by decide +kernel
theorem dX9_fitsAt_5 : decode cX9_fitsAt 5 = .ok (.aload_n 0, 1) := by decide +kernel
theorem dX9_fitsAt_6 : decode cX9_fitsAt 6 = .ok (.getfield 28, 3) := by decide +kernel
theorem dX9_fitsAt_9 : decode cX9_fitsAt 9 = .ok (.if_icmp .ge 18, 3) := by decide +kernel
theorem dX9_fitsAt_12 : decode cX9_fitsAt 12 = .ok (.iload_n 1, 1) := by decide +kernel
theorem dX9_fitsAt_13 : decode cX9_fitsAt 13 = .ok (.bipush 12, 2) := by decide +kernel
theorem dX9_fitsAt_15 : decode cX9_fitsAt 15 = .ok (.if_icmp .ge 12, 3) := by decide +kernel
theorem dX9_fitsAt_18 : decode cX9_fitsAt 18 = .ok (.aload_n 0, 1) := by decide +kernel
theorem dX9_fitsAt_19 : decode cX9_fitsAt 19 = .ok (.getfield 11, 3) := by decide +kernel
theorem dX9_fitsAt_22 : decode cX9_fitsAt 22 = .ok (.iload_n 1, 1) := by decide +kernel
theorem dX9_fitsAt_23 : decode cX9_fitsAt 23 = .ok (.iaload, 1) := by decide +kernel
theorem dX9_fitsAt_24 : decode cX9_fitsAt 24 = .ok (.goto 4, 3) := by decide +kernel
theorem dX9_fitsAt_27 : decode cX9_fitsAt 27 = .ok (.iconst 0, 1) := by decide +kernel
theorem dX9_fitsAt_28 : decode cX9_fitsAt 28 = .ok (.ireturn, 1) := by decide +kernel
theorem dX9_worthAt_0 : decode cX9_worthAt 0 = .ok (.aload_n 0, 1) := by decide +kernel
theorem dX9_worthAt_1 : decode cX9_worthAt 1 = .ok (.iload_n 1, 1) := by decide +kernel
theorem dX9_worthAt_2 : decode cX9_worthAt 2 = .ok (.invokevirtual 56, 3) := by decide +kernel
theorem dX9_worthAt_5 : decode cX9_worthAt 5 = .ok (.iload_n 2, 1) := by decide +kernel
theorem dX9_worthAt_6 : decode cX9_worthAt 6 = .ok (.ishr, 1) := by decide +kernel
theorem dX9_worthAt_7 : decode cX9_worthAt 7 = .ok (.iconst 1, 1) := by decide +kernel
theorem dX9_worthAt_8 : decode cX9_worthAt 8 = .ok (.iand, 1) := by decide +kernel
theorem dX9_worthAt_9 : decode cX9_worthAt 9 = .ok (.ireturn, 1) := by decide +kernel
theorem dX9_fitsOrAny_0 : decode cX9_fitsOrAny 0 = .ok (.iload_n 2, 1) := by decide +kernel
theorem dX9_fitsOrAny_1 : decode cX9_fitsOrAny 1 = .ok (.ifCond .lt 19, 3) := by decide +kernel
theorem dX9_fitsOrAny_4 : decode cX9_fitsOrAny 4 = .ok (.iload_n 2, 1) := by decide +kernel
theorem dX9_fitsOrAny_5 : decode cX9_fitsOrAny 5 = .ok (.aload_n 0, 1) := by decide +kernel
theorem dX9_fitsOrAny_6 : decode cX9_fitsOrAny 6 = .ok (.getfield 28, 3) := by decide +kernel
theorem dX9_fitsOrAny_9 : decode cX9_fitsOrAny 9 = .ok (.if_icmp .ge 11, 3) := by decide +kernel
theorem dX9_fitsOrAny_12 : decode cX9_fitsOrAny 12 = .ok (.aload_n 0, 1) := by decide +kernel
theorem dX9_fitsOrAny_13 : decode cX9_fitsOrAny 13 = .ok (.iload_n 2, 1) := by decide +kernel
theorem dX9_fitsOrAny_14 : decode cX9_fitsOrAny 14 = .ok (.invokevirtual 56, 3) := by decide +kernel
theorem dX9_fitsOrAny_17 : decode cX9_fitsOrAny 17 = .ok (.goto 7, 3) := by decide +kernel
theorem dX9_fitsOrAny_20 : decode cX9_fitsOrAny 20 = .ok (.aload_n 1, 1) := by decide +kernel
theorem dX9_fitsOrAny_21 : decode cX9_fitsOrAny 21 = .ok (.invokevirtual 52, 3) := by decide +kernel
theorem dX9_fitsOrAny_24 : decode cX9_fitsOrAny 24 = .ok (.ireturn, 1) := by decide +kernel
theorem dX9_reachedAt_0 : decode cX9_reachedAt 0 = .ok (.aload_n 0, 1) := by decide +kernel
theorem dX9_reachedAt_1 : decode cX9_reachedAt 1 = .ok (.iconst 0, 1) := by decide +kernel
theorem dX9_reachedAt_2 : decode cX9_reachedAt 2 = .ok (.invokevirtual 56, 3) := by decide +kernel
theorem dX9_reachedAt_5 : decode cX9_reachedAt 5 = .ok (.istore_n 3, 1) := by decide +kernel
theorem dX9_reachedAt_6 : decode cX9_reachedAt 6 = .ok (.iconst 1, 1) := by decide +kernel
theorem dX9_reachedAt_7 : decode cX9_reachedAt 7 = .ok (.istore 4, 2) := by decide +kernel
theorem dX9_reachedAt_9 : decode cX9_reachedAt 9 = .ok (.iload 4, 2) := by decide +kernel
theorem dX9_reachedAt_11 : decode cX9_reachedAt 11 = .ok (.iload_n 2, 1) := by decide +kernel
theorem dX9_reachedAt_12 : decode cX9_reachedAt 12 = .ok (.if_icmp .gt 31, 3) := by decide +kernel
theorem dX9_reachedAt_15 : decode cX9_reachedAt 15 = .ok (.iload 4, 2) := by decide +kernel
theorem dX9_reachedAt_17 : decode cX9_reachedAt 17 = .ok (.aload_n 0, 1) := by decide +kernel
theorem dX9_reachedAt_18 : decode cX9_reachedAt 18 = .ok (.getfield 28, 3) := by decide +kernel
theorem dX9_reachedAt_21 : decode cX9_reachedAt 21 = .ok (.if_icmp .ge 22, 3) := by decide +kernel
theorem dX9_reachedAt_24 : decode cX9_reachedAt 24 = .ok (.aload_n 1, 1) := by decide +kernel
theorem dX9_reachedAt_25 : decode cX9_reachedAt 25 = .ok (.iload_n 3, 1) := by decide +kernel
theorem dX9_reachedAt_26 : decode cX9_reachedAt 26 = .ok (.invokevirtual 59, 3) := by decide +kernel
theorem dX9_reachedAt_29 : decode cX9_reachedAt 29 = .ok (.aload_n 0, 1) := by decide +kernel
theorem dX9_reachedAt_30 : decode cX9_reachedAt 30 = .ok (.iload 4, 2) := by decide +kernel
theorem dX9_reachedAt_32 : decode cX9_reachedAt 32 = .ok (.invokevirtual 56, 3) := by decide +kernel
theorem dX9_reachedAt_35 : decode cX9_reachedAt 35 = .ok (.iand, 1) := by decide +kernel
theorem dX9_reachedAt_36 : decode cX9_reachedAt 36 = .ok (.istore_n 3, 1) := by decide +kernel
theorem dX9_reachedAt_37 : decode cX9_reachedAt 37 = .ok (.iinc 4 1, 3) := by decide +kernel
theorem dX9_reachedAt_40 : decode cX9_reachedAt 40 = .ok (.goto (-31), 3) := by decide +kernel
theorem dX9_reachedAt_43 : decode cX9_reachedAt 43 = .ok (.iload_n 3, 1) := by decide +kernel
theorem dX9_reachedAt_44 : decode cX9_reachedAt 44 = .ok (.ireturn, 1) := by decide +kernel
theorem dX9_openAt_0 : decode cX9_openAt 0 = .ok (.aload_n 0, 1) := by decide +kernel
theorem dX9_openAt_1 : decode cX9_openAt 1 = .ok (.aload_n 0, 1) := by decide +kernel
theorem dX9_openAt_2 : decode cX9_openAt 2 = .ok (.getfield 28, 3) := by decide +kernel
theorem dX9_openAt_5 : decode cX9_openAt 5 = .ok (.iconst 1, 1) := by decide +kernel
theorem dX9_openAt_6 : decode cX9_openAt 6 = .ok (.isub, 1) := by decide +kernel
theorem dX9_openAt_7 : decode cX9_openAt 7 = .ok (.invokevirtual 56, 3) := by decide +kernel
theorem dX9_openAt_10 : decode cX9_openAt 10 = .ok (.istore_n 3, 1) := by decide +kernel
theorem dX9_openAt_11 : decode cX9_openAt 11 = .ok (.aload_n 0, 1) := by decide +kernel
theorem dX9_openAt_12 : decode cX9_openAt 12 = .ok (.getfield 28, 3) := by decide +kernel
theorem dX9_openAt_15 : decode cX9_openAt 15 = .ok (.iconst 2, 1) := by decide +kernel
theorem dX9_openAt_16 : decode cX9_openAt 16 = .ok (.isub, 1) := by decide +kernel
theorem dX9_openAt_17 : decode cX9_openAt 17 = .ok (.istore 4, 2) := by decide +kernel
theorem dX9_openAt_19 : decode cX9_openAt 19 = .ok (.iload 4, 2) := by decide +kernel
theorem dX9_openAt_21 : decode cX9_openAt 21 = .ok (.iload_n 2, 1) := by decide +kernel
theorem dX9_openAt_22 : decode cX9_openAt 22 = .ok (.if_icmp .lt 27, 3) := by decide +kernel
theorem dX9_openAt_25 : decode cX9_openAt 25 = .ok (.iload 4, 2) := by decide +kernel
theorem dX9_openAt_27 : decode cX9_openAt 27 = .ok (.ifCond .lt 22, 3) := by decide +kernel
theorem dX9_openAt_30 : decode cX9_openAt 30 = .ok (.aload_n 1, 1) := by decide +kernel
theorem dX9_openAt_31 : decode cX9_openAt 31 = .ok (.iload_n 3, 1) := by decide +kernel
theorem dX9_openAt_32 : decode cX9_openAt 32 = .ok (.invokevirtual 59, 3) := by decide +kernel
theorem dX9_openAt_35 : decode cX9_openAt 35 = .ok (.aload_n 0, 1) := by decide +kernel
theorem dX9_openAt_36 : decode cX9_openAt 36 = .ok (.iload 4, 2) := by decide +kernel
theorem dX9_openAt_38 : decode cX9_openAt 38 = .ok (.invokevirtual 56, 3) := by decide +kernel
theorem dX9_openAt_41 : decode cX9_openAt 41 = .ok (.iand, 1) := by decide +kernel
theorem dX9_openAt_42 : decode cX9_openAt 42 = .ok (.istore_n 3, 1) := by decide +kernel
theorem dX9_openAt_43 : decode cX9_openAt 43 = .ok (.iinc 4 (-1), 3) := by decide +kernel
theorem dX9_openAt_46 : decode cX9_openAt 46 = .ok (.goto (-27), 3) := by decide +kernel
theorem dX9_openAt_49 : decode cX9_openAt 49 = .ok (.iload_n 3, 1) := by decide +kernel
theorem dX9_openAt_50 : decode cX9_openAt 50 = .ok (.ireturn, 1) := by decide +kernel
theorem dX9_doorOfFirst_0 : decode cX9_doorOfFirst 0 = .ok (.iload_n 2, 1) := by decide +kernel
theorem dX9_doorOfFirst_1 : decode cX9_doorOfFirst 1 = .ok (.ifCond .lt 11, 3) := by decide +kernel
theorem dX9_doorOfFirst_4 : decode cX9_doorOfFirst 4 = .ok (.iload_n 2, 1) := by decide +kernel
theorem dX9_doorOfFirst_5 : decode cX9_doorOfFirst 5 = .ok (.aload_n 0, 1) := by decide +kernel
theorem dX9_doorOfFirst_6 : decode cX9_doorOfFirst 6 = .ok (.getfield 28, 3) := by decide +kernel
theorem dX9_doorOfFirst_9 : decode cX9_doorOfFirst 9 = .ok (.if_icmp .lt 6, 3) := by decide +kernel
theorem dX9_doorOfFirst_12 : decode cX9_doorOfFirst 12 = .ok (.bipush (-9), 2) := by decide +kernel
theorem dX9_doorOfFirst_14 : decode cX9_doorOfFirst 14 = .ok (.ireturn, 1) := by decide +kernel
theorem dX9_doorOfFirst_15 : decode cX9_doorOfFirst 15 = .ok (.aload_n 0, 1) := by decide +kernel
theorem dX9_doorOfFirst_16 : decode cX9_doorOfFirst 16 = .ok (.aload_n 1, 1) := by decide +kernel
theorem dX9_doorOfFirst_17 : decode cX9_doorOfFirst 17 = .ok (.iconst 0, 1) := by decide +kernel
theorem dX9_doorOfFirst_18 : decode cX9_doorOfFirst 18 = .ok (.invokevirtual 62, 3) := by decide +kernel
theorem dX9_doorOfFirst_21 : decode cX9_doorOfFirst 21 = .ok (.invokestatic 66, 3) := by decide +kernel
theorem dX9_doorOfFirst_24 : decode cX9_doorOfFirst 24 = .ok (.istore_n 3, 1) := by decide +kernel
theorem dX9_doorOfFirst_25 : decode cX9_doorOfFirst 25 = .ok (.iconst 1, 1) := by decide +kernel
theorem dX9_doorOfFirst_26 : decode cX9_doorOfFirst 26 = .ok (.istore 4, 2) := by decide +kernel
theorem dX9_doorOfFirst_28 : decode cX9_doorOfFirst 28 = .ok (.iload 4, 2) := by decide +kernel
theorem dX9_doorOfFirst_30 : decode cX9_doorOfFirst 30 = .ok (.iload_n 2, 1) := by decide +kernel
theorem dX9_doorOfFirst_31 : decode cX9_doorOfFirst 31 = .ok (.if_icmp .gt 41, 3) := by decide +kernel
theorem dX9_doorOfFirst_34 : decode cX9_doorOfFirst 34 = .ok (.iload 4, 2) := by decide +kernel
theorem dX9_doorOfFirst_36 : decode cX9_doorOfFirst 36 = .ok (.aload_n 0, 1) := by decide +kernel
theorem dX9_doorOfFirst_37 : decode cX9_doorOfFirst 37 = .ok (.getfield 28, 3) := by decide +kernel
theorem dX9_doorOfFirst_40 : decode cX9_doorOfFirst 40 = .ok (.if_icmp .ge 32, 3) := by decide +kernel
theorem dX9_doorOfFirst_43 : decode cX9_doorOfFirst 43 = .ok (.iload_n 3, 1) := by decide +kernel
theorem dX9_doorOfFirst_44 : decode cX9_doorOfFirst 44 = .ok (.bipush (-9), 2) := by decide +kernel
theorem dX9_doorOfFirst_46 : decode cX9_doorOfFirst 46 = .ok (.if_icmp .eq 26, 3) := by decide +kernel
theorem dX9_doorOfFirst_49 : decode cX9_doorOfFirst 49 = .ok (.aload_n 0, 1) := by decide +kernel
theorem dX9_doorOfFirst_50 : decode cX9_doorOfFirst 50 = .ok (.aload_n 1, 1) := by decide +kernel
theorem dX9_doorOfFirst_51 : decode cX9_doorOfFirst 51 = .ok (.iload 4, 2) := by decide +kernel
theorem dX9_doorOfFirst_53 : decode cX9_doorOfFirst 53 = .ok (.invokevirtual 62, 3) := by decide +kernel
theorem dX9_doorOfFirst_56 : decode cX9_doorOfFirst 56 = .ok (.aload_n 1, 1) := by decide +kernel
theorem dX9_doorOfFirst_57 : decode cX9_doorOfFirst 57 = .ok (.iload_n 3, 1) := by decide +kernel
theorem dX9_doorOfFirst_58 : decode cX9_doorOfFirst 58 = .ok (.invokevirtual 69, 3) := by decide +kernel
theorem dX9_doorOfFirst_61 : decode cX9_doorOfFirst 61 = .ok (.iand, 1) := by decide +kernel
theorem dX9_doorOfFirst_62 : decode cX9_doorOfFirst 62 = .ok (.invokestatic 66, 3) := by decide +kernel
theorem dX9_doorOfFirst_65 : decode cX9_doorOfFirst 65 = .ok (.istore_n 3, 1) := by decide +kernel
theorem dX9_doorOfFirst_66 : decode cX9_doorOfFirst 66 = .ok (.iinc 4 1, 3) := by decide +kernel
theorem dX9_doorOfFirst_69 : decode cX9_doorOfFirst 69 = .ok (.goto (-41), 3) := by decide +kernel
theorem dX9_doorOfFirst_72 : decode cX9_doorOfFirst 72 = .ok (.iload_n 3, 1) := by decide +kernel
theorem dX9_doorOfFirst_73 : decode cX9_doorOfFirst 73 = .ok (.ireturn, 1) := by decide +kernel
theorem dX9_placesBegun_0 : decode cX9_placesBegun 0 = .ok (.aload_n 1, 1) := by decide +kernel
theorem dX9_placesBegun_1 : decode cX9_placesBegun 1 = .ok (.invokevirtual 52, 3) := by decide +kernel
theorem dX9_placesBegun_4 : decode cX9_placesBegun 4 = .ok (.istore_n 2, 1) := by decide +kernel
theorem dX9_placesBegun_5 : decode cX9_placesBegun 5 = .ok (.iconst 0, 1) := by decide +kernel
theorem dX9_placesBegun_6 : decode cX9_placesBegun 6 = .ok (.istore_n 3, 1) := by decide +kernel
theorem dX9_placesBegun_7 : decode cX9_placesBegun 7 = .ok (.iload_n 3, 1) := by decide +kernel
theorem dX9_placesBegun_8 : decode cX9_placesBegun 8 = .ok (.aload_n 0, 1) := by decide +kernel
theorem dX9_placesBegun_9 : decode cX9_placesBegun 9 = .ok (.getfield 28, 3) := by decide +kernel
theorem dX9_placesBegun_12 : decode cX9_placesBegun 12 = .ok (.if_icmp .ge 29, 3) := by decide +kernel
theorem dX9_placesBegun_15 : decode cX9_placesBegun 15 = .ok (.iload_n 2, 1) := by decide +kernel
theorem dX9_placesBegun_16 : decode cX9_placesBegun 16 = .ok (.aload_n 0, 1) := by decide +kernel
theorem dX9_placesBegun_17 : decode cX9_placesBegun 17 = .ok (.iload_n 3, 1) := by decide +kernel
theorem dX9_placesBegun_18 : decode cX9_placesBegun 18 = .ok (.invokevirtual 56, 3) := by decide +kernel
theorem dX9_placesBegun_21 : decode cX9_placesBegun 21 = .ok (.iand, 1) := by decide +kernel
theorem dX9_placesBegun_22 : decode cX9_placesBegun 22 = .ok (.istore_n 2, 1) := by decide +kernel
theorem dX9_placesBegun_23 : decode cX9_placesBegun 23 = .ok (.iload_n 2, 1) := by decide +kernel
theorem dX9_placesBegun_24 : decode cX9_placesBegun 24 = .ok (.ifCond .ne 5, 3) := by decide +kernel
theorem dX9_placesBegun_27 : decode cX9_placesBegun 27 = .ok (.iload_n 3, 1) := by decide +kernel
theorem dX9_placesBegun_28 : decode cX9_placesBegun 28 = .ok (.ireturn, 1) := by decide +kernel
theorem dX9_placesBegun_29 : decode cX9_placesBegun 29 = .ok (.aload_n 1, 1) := by decide +kernel
theorem dX9_placesBegun_30 : decode cX9_placesBegun 30 = .ok (.iload_n 2, 1) := by decide +kernel
theorem dX9_placesBegun_31 : decode cX9_placesBegun 31 = .ok (.invokevirtual 59, 3) := by decide +kernel
theorem dX9_placesBegun_34 : decode cX9_placesBegun 34 = .ok (.istore_n 2, 1) := by decide +kernel
theorem dX9_placesBegun_35 : decode cX9_placesBegun 35 = .ok (.iinc 3 1, 3) := by decide +kernel
theorem dX9_placesBegun_38 : decode cX9_placesBegun 38 = .ok (.goto (-31), 3) := by decide +kernel
theorem dX9_placesBegun_41 : decode cX9_placesBegun 41 = .ok (.aload_n 0, 1) := by decide +kernel
theorem dX9_placesBegun_42 : decode cX9_placesBegun 42 = .ok (.getfield 28, 3) := by decide +kernel
theorem dX9_placesBegun_45 : decode cX9_placesBegun 45 = .ok (.ireturn, 1) := by decide +kernel
theorem dX9_canBeSung_0 : decode cX9_canBeSung 0 = .ok (.iload_n 2, 1) := by decide +kernel
theorem dX9_canBeSung_1 : decode cX9_canBeSung 1 = .ok (.istore 4, 2) := by decide +kernel
theorem dX9_canBeSung_3 : decode cX9_canBeSung 3 = .ok (.iconst 0, 1) := by decide +kernel
theorem dX9_canBeSung_4 : decode cX9_canBeSung 4 = .ok (.istore 5, 2) := by decide +kernel
theorem dX9_canBeSung_6 : decode cX9_canBeSung 6 = .ok (.iload 5, 2) := by decide +kernel
theorem dX9_canBeSung_8 : decode cX9_canBeSung 8 = .ok (.aload_n 0, 1) := by decide +kernel
theorem dX9_canBeSung_9 : decode cX9_canBeSung 9 = .ok (.getfield 28, 3) := by decide +kernel
theorem dX9_canBeSung_12 : decode cX9_canBeSung 12 = .ok (.if_icmp .ge 55, 3) := by decide +kernel
theorem dX9_canBeSung_15 : decode cX9_canBeSung 15 = .ok (.iload 5, 2) := by decide +kernel
theorem dX9_canBeSung_17 : decode cX9_canBeSung 17 = .ok (.bipush 12, 2) := by decide +kernel
theorem dX9_canBeSung_19 : decode cX9_canBeSung 19 = .ok (.if_icmp .ge 48, 3) := by decide +kernel
theorem dX9_canBeSung_22 : decode cX9_canBeSung 22 = .ok (.iload 4, 2) := by decide +kernel
theorem dX9_canBeSung_24 : decode cX9_canBeSung 24 = .ok (.aload_n 0, 1) := by decide +kernel
theorem dX9_canBeSung_25 : decode cX9_canBeSung 25 = .ok (.getfield 11, 3) := by decide +kernel
theorem dX9_canBeSung_28 : decode cX9_canBeSung 28 = .ok (.iload 5, 2) := by decide +kernel
theorem dX9_canBeSung_30 : decode cX9_canBeSung 30 = .ok (.iaload, 1) := by decide +kernel
theorem dX9_canBeSung_31 : decode cX9_canBeSung 31 = .ok (.aload_n 0, 1) := by decide +kernel
theorem dX9_canBeSung_32 : decode cX9_canBeSung 32 = .ok (.getfield 15, 3) := by decide +kernel
theorem dX9_canBeSung_35 : decode cX9_canBeSung 35 = .ok (.iload 5, 2) := by decide +kernel
theorem dX9_canBeSung_37 : decode cX9_canBeSung 37 = .ok (.iaload, 1) := by decide +kernel
theorem dX9_canBeSung_38 : decode cX9_canBeSung 38 = .ok (.iload_n 3, 1) := by decide +kernel
theorem dX9_canBeSung_39 : decode cX9_canBeSung 39 = .ok (.iand, 1) := by decide +kernel
theorem dX9_canBeSung_40 : decode cX9_canBeSung 40 = .ok (.iconst (-1), 1) := by decide +kernel
theorem dX9_canBeSung_41 : decode cX9_canBeSung 41 = .ok (.ixor, 1) := by decide +kernel
theorem dX9_canBeSung_42 : decode cX9_canBeSung 42 = .ok (.iand, 1) := by decide +kernel
theorem dX9_canBeSung_43 : decode cX9_canBeSung 43 = .ok (.iand, 1) := by decide +kernel
theorem dX9_canBeSung_44 : decode cX9_canBeSung 44 = .ok (.istore 4, 2) := by decide +kernel
theorem dX9_canBeSung_46 : decode cX9_canBeSung 46 = .ok (.iload 4, 2) := by decide +kernel
theorem dX9_canBeSung_48 : decode cX9_canBeSung 48 = .ok (.ifCond .ne 5, 3) := by decide +kernel
theorem dX9_canBeSung_51 : decode cX9_canBeSung 51 = .ok (.iconst 0, 1) := by decide +kernel
theorem dX9_canBeSung_52 : decode cX9_canBeSung 52 = .ok (.ireturn, 1) := by decide +kernel
theorem dX9_canBeSung_53 : decode cX9_canBeSung 53 = .ok (.aload_n 1, 1) := by decide +kernel
theorem dX9_canBeSung_54 : decode cX9_canBeSung 54 = .ok (.iload 4, 2) := by decide +kernel
theorem dX9_canBeSung_56 : decode cX9_canBeSung 56 = .ok (.invokevirtual 59, 3) := by decide +kernel
theorem dX9_canBeSung_59 : decode cX9_canBeSung 59 = .ok (.istore 4, 2) := by decide +kernel
theorem dX9_canBeSung_61 : decode cX9_canBeSung 61 = .ok (.iinc 5 1, 3) := by decide +kernel
theorem dX9_canBeSung_64 : decode cX9_canBeSung 64 = .ok (.goto (-58), 3) := by decide +kernel
theorem dX9_canBeSung_67 : decode cX9_canBeSung 67 = .ok (.iconst 1, 1) := by decide +kernel
theorem dX9_canBeSung_68 : decode cX9_canBeSung 68 = .ok (.ireturn, 1) := by decide +kernel
theorem dX9_countWays_0 : decode cX9_countWays 0 = .ok (.aload_n 0, 1) := by decide +kernel
theorem dX9_countWays_1 : decode cX9_countWays 1 = .ok (.getfield 28, 3) := by decide +kernel
theorem dX9_countWays_4 : decode cX9_countWays 4 = .ok (.ifCond .ne 5, 3) := by decide +kernel
theorem dX9_countWays_7 : decode cX9_countWays 7 = .ok (.lconst 1, 1) := by decide +kernel
theorem dX9_countWays_8 : decode cX9_countWays 8 = .ok (.lreturn, 1) := by decide +kernel
theorem dX9_countWays_9 : decode cX9_countWays 9 = .ok (.iconst 0, 1) := by decide +kernel
theorem dX9_countWays_10 : decode cX9_countWays 10 = .ok (.istore 4, 2) := by decide +kernel
theorem dX9_countWays_12 : decode cX9_countWays 12 = .ok (.iload 4, 2) := by decide +kernel
theorem dX9_countWays_14 : decode cX9_countWays 14 = .ok (.aload_n 1, 1) := by decide +kernel
theorem dX9_countWays_15 : decode cX9_countWays 15 = .ok (.getfield 40, 3) := by decide +kernel
theorem dX9_countWays_18 : decode cX9_countWays 18 = .ok (.if_icmp .ge 36, 3) := by decide +kernel
theorem dX9_countWays_21 : decode cX9_countWays 21 = .ok (.aload_n 0, 1) := by decide +kernel
theorem dX9_countWays_22 : decode cX9_countWays 22 = .ok (.getfield 18, 3) := by decide +kernel
theorem dX9_countWays_25 : decode cX9_countWays 25 = .ok (.iload 4, 2) := by decide +kernel
theorem dX9_countWays_27 : decode cX9_countWays 27 = .ok (.aload_n 0, 1) := by decide +kernel
theorem dX9_countWays_28 : decode cX9_countWays 28 = .ok (.iconst 0, 1) := by decide +kernel
theorem dX9_countWays_29 : decode cX9_countWays 29 = .ok (.invokevirtual 56, 3) := by decide +kernel
theorem dX9_countWays_32 : decode cX9_countWays 32 = .ok (.iload_n 2, 1) := by decide +kernel
theorem dX9_countWays_33 : decode cX9_countWays 33 = .ok (.iand, 1) := by decide +kernel
theorem dX9_countWays_34 : decode cX9_countWays 34 = .ok (.iload 4, 2) := by decide +kernel
theorem dX9_countWays_36 : decode cX9_countWays 36 = .ok (.invokestatic 72, 3) := by decide +kernel
theorem dX9_countWays_39 : decode cX9_countWays 39 = .ok (.ifCond .eq 7, 3) := by decide +kernel
theorem dX9_countWays_42 : decode cX9_countWays 42 = .ok (.lconst 1, 1) := by decide +kernel
theorem dX9_countWays_43 : decode cX9_countWays 43 = .ok (.goto 4, 3) := by decide +kernel
theorem dX9_countWays_46 : decode cX9_countWays 46 = .ok (.lconst 0, 1) := by decide +kernel
theorem dX9_countWays_47 : decode cX9_countWays 47 = .ok (.lastore, 1) := by decide +kernel
theorem dX9_countWays_48 : decode cX9_countWays 48 = .ok (.iinc 4 1, 3) := by decide +kernel
theorem dX9_countWays_51 : decode cX9_countWays 51 = .ok (.goto (-39), 3) := by decide +kernel
theorem dX9_countWays_54 : decode cX9_countWays 54 = .ok (.iconst 1, 1) := by decide +kernel
theorem dX9_countWays_55 : decode cX9_countWays 55 = .ok (.istore 4, 2) := by decide +kernel
theorem dX9_countWays_57 : decode cX9_countWays 57 = .ok (.iload 4, 2) := by decide +kernel
theorem dX9_countWays_59 : decode cX9_countWays 59 = .ok (.aload_n 0, 1) := by decide +kernel
theorem dX9_countWays_60 : decode cX9_countWays 60 = .ok (.getfield 28, 3) := by decide +kernel
theorem dX9_countWays_63 : decode cX9_countWays 63 = .ok (.if_icmp .ge 23, 3) := by decide +kernel
theorem dX9_countWays_66 : decode cX9_countWays 66 = .ok (.iload 4, 2) := by decide +kernel
theorem dX9_countWays_68 : decode cX9_countWays 68 = .ok (.bipush 12, 2) := by decide +kernel
theorem dX9_countWays_70 : decode cX9_countWays 70 = .ok (.if_icmp .ge 16, 3) := by decide +kernel
theorem dX9_countWays_73 : decode cX9_countWays 73 = .ok (.aload_n 0, 1) := by decide +kernel
theorem dX9_countWays_74 : decode cX9_countWays 74 = .ok (.aload_n 1, 1) := by decide +kernel
theorem dX9_countWays_75 : decode cX9_countWays 75 = .ok (.iload 4, 2) := by decide +kernel
theorem dX9_countWays_77 : decode cX9_countWays 77 = .ok (.invokevirtual 76, 3) := by decide +kernel
theorem dX9_countWays_80 : decode cX9_countWays 80 = .ok (.iinc 4 1, 3) := by decide +kernel
theorem dX9_countWays_83 : decode cX9_countWays 83 = .ok (.goto (-26), 3) := by decide +kernel
theorem dX9_countWays_86 : decode cX9_countWays 86 = .ok (.aload_n 0, 1) := by decide +kernel
theorem dX9_countWays_87 : decode cX9_countWays 87 = .ok (.aload_n 1, 1) := by decide +kernel
theorem dX9_countWays_88 : decode cX9_countWays 88 = .ok (.aload_n 0, 1) := by decide +kernel
theorem dX9_countWays_89 : decode cX9_countWays 89 = .ok (.getfield 28, 3) := by decide +kernel
theorem dX9_countWays_92 : decode cX9_countWays 92 = .ok (.iconst 1, 1) := by decide +kernel
theorem dX9_countWays_93 : decode cX9_countWays 93 = .ok (.isub, 1) := by decide +kernel
theorem dX9_countWays_94 : decode cX9_countWays 94 = .ok (.iload_n 3, 1) := by decide +kernel
theorem dX9_countWays_95 : decode cX9_countWays 95 = .ok (.invokevirtual 80, 3) := by decide +kernel
theorem dX9_countWays_98 : decode cX9_countWays 98 = .ok (.lreturn, 1) := by decide +kernel
theorem dX9_countPlace_0 : decode cX9_countPlace 0 = .ok (.iconst 0, 1) := by decide +kernel
theorem dX9_countPlace_1 : decode cX9_countPlace 1 = .ok (.istore_n 3, 1) := by decide +kernel
theorem dX9_countPlace_2 : decode cX9_countPlace 2 = .ok (.iload_n 3, 1) := by decide +kernel
theorem dX9_countPlace_3 : decode cX9_countPlace 3 = .ok (.aload_n 1, 1) := by decide +kernel
theorem dX9_countPlace_4 : decode cX9_countPlace 4 = .ok (.getfield 40, 3) := by decide +kernel
theorem dX9_countPlace_7 : decode cX9_countPlace 7 = .ok (.if_icmp .ge 53, 3) := by decide +kernel
theorem dX9_countPlace_10 : decode cX9_countPlace 10 = .ok (.aload_n 0, 1) := by decide +kernel
theorem dX9_countPlace_11 : decode cX9_countPlace 11 = .ok (.iload_n 2, 1) := by decide +kernel
theorem dX9_countPlace_12 : decode cX9_countPlace 12 = .ok (.invokevirtual 56, 3) := by decide +kernel
theorem dX9_countPlace_15 : decode cX9_countPlace 15 = .ok (.iload_n 3, 1) := by decide +kernel
theorem dX9_countPlace_16 : decode cX9_countPlace 16 = .ok (.invokestatic 72, 3) := by decide +kernel
theorem dX9_countPlace_19 : decode cX9_countPlace 19 = .ok (.istore 4, 2) := by decide +kernel
theorem dX9_countPlace_21 : decode cX9_countPlace 21 = .ok (.aload_n 0, 1) := by decide +kernel
theorem dX9_countPlace_22 : decode cX9_countPlace 22 = .ok (.getfield 18, 3) := by decide +kernel
theorem dX9_countPlace_25 : decode cX9_countPlace 25 = .ok (.iload_n 2, 1) := by decide +kernel
theorem dX9_countPlace_26 : decode cX9_countPlace 26 = .ok (.bipush 12, 2) := by decide +kernel
theorem dX9_countPlace_28 : decode cX9_countPlace 28 = .ok (.imul, 1) := by decide +kernel
theorem dX9_countPlace_29 : decode cX9_countPlace 29 = .ok (.iload_n 3, 1) := by decide +kernel
theorem dX9_countPlace_30 : decode cX9_countPlace 30 = .ok (.iadd, 1) := by decide +kernel
theorem dX9_countPlace_31 : decode cX9_countPlace 31 = .ok (.iload 4, 2) := by decide +kernel
theorem dX9_countPlace_33 : decode cX9_countPlace 33 = .ok (.ifCond .eq 19, 3) := by decide +kernel
theorem dX9_countPlace_36 : decode cX9_countPlace 36 = .ok (.aload_n 0, 1) := by decide +kernel
theorem dX9_countPlace_37 : decode cX9_countPlace 37 = .ok (.aload_n 1, 1) := by decide +kernel
theorem dX9_countPlace_38 : decode cX9_countPlace 38 = .ok (.iload_n 2, 1) := by decide +kernel
theorem dX9_countPlace_39 : decode cX9_countPlace 39 = .ok (.iconst 1, 1) := by decide +kernel
theorem dX9_countPlace_40 : decode cX9_countPlace 40 = .ok (.isub, 1) := by decide +kernel
theorem dX9_countPlace_41 : decode cX9_countPlace 41 = .ok (.aload_n 1, 1) := by decide +kernel
theorem dX9_countPlace_42 : decode cX9_countPlace 42 = .ok (.iload_n 3, 1) := by decide +kernel
theorem dX9_countPlace_43 : decode cX9_countPlace 43 = .ok (.invokevirtual 69, 3) := by decide +kernel
theorem dX9_countPlace_46 : decode cX9_countPlace 46 = .ok (.invokevirtual 80, 3) := by decide +kernel
theorem dX9_countPlace_49 : decode cX9_countPlace 49 = .ok (.goto 4, 3) := by decide +kernel
theorem dX9_countPlace_52 : decode cX9_countPlace 52 = .ok (.lconst 0, 1) := by decide +kernel
theorem dX9_countPlace_53 : decode cX9_countPlace 53 = .ok (.lastore, 1) := by decide +kernel
theorem dX9_countPlace_54 : decode cX9_countPlace 54 = .ok (.iinc 3 1, 3) := by decide +kernel
theorem dX9_countPlace_57 : decode cX9_countPlace 57 = .ok (.goto (-55), 3) := by decide +kernel
theorem dX9_countPlace_60 : decode cX9_countPlace 60 = .ok (.return_, 1) := by decide +kernel
theorem dX9_countedAt_0 : decode cX9_countedAt 0 = .ok (.lconst 0, 1) := by decide +kernel
theorem dX9_countedAt_1 : decode cX9_countedAt 1 = .ok (.lstore 4, 2) := by decide +kernel
theorem dX9_countedAt_3 : decode cX9_countedAt 3 = .ok (.iconst 0, 1) := by decide +kernel
theorem dX9_countedAt_4 : decode cX9_countedAt 4 = .ok (.istore 6, 2) := by decide +kernel
theorem dX9_countedAt_6 : decode cX9_countedAt 6 = .ok (.iload 6, 2) := by decide +kernel
theorem dX9_countedAt_8 : decode cX9_countedAt 8 = .ok (.aload_n 1, 1) := by decide +kernel
theorem dX9_countedAt_9 : decode cX9_countedAt 9 = .ok (.getfield 40, 3) := by decide +kernel
theorem dX9_countedAt_12 : decode cX9_countedAt 12 = .ok (.if_icmp .ge 45, 3) := by decide +kernel
theorem dX9_countedAt_15 : decode cX9_countedAt 15 = .ok (.iload_n 2, 1) := by decide +kernel
theorem dX9_countedAt_16 : decode cX9_countedAt 16 = .ok (.ifCond .lt 41, 3) := by decide +kernel
theorem dX9_countedAt_19 : decode cX9_countedAt 19 = .ok (.iload_n 2, 1) := by decide +kernel
theorem dX9_countedAt_20 : decode cX9_countedAt 20 = .ok (.bipush 12, 2) := by decide +kernel
theorem dX9_countedAt_22 : decode cX9_countedAt 22 = .ok (.if_icmp .ge 35, 3) := by decide +kernel
theorem dX9_countedAt_25 : decode cX9_countedAt 25 = .ok (.iload_n 3, 1) := by decide +kernel
theorem dX9_countedAt_26 : decode cX9_countedAt 26 = .ok (.iload 6, 2) := by decide +kernel
theorem dX9_countedAt_28 : decode cX9_countedAt 28 = .ok (.invokestatic 72, 3) := by decide +kernel
theorem dX9_countedAt_31 : decode cX9_countedAt 31 = .ok (.ifCond .eq 20, 3) := by decide +kernel
theorem dX9_countedAt_34 : decode cX9_countedAt 34 = .ok (.lload 4, 2) := by decide +kernel
theorem dX9_countedAt_36 : decode cX9_countedAt 36 = .ok (.aload_n 0, 1) := by decide +kernel
theorem dX9_countedAt_37 : decode cX9_countedAt 37 = .ok (.getfield 18, 3) := by decide +kernel
theorem dX9_countedAt_40 : decode cX9_countedAt 40 = .ok (.iload_n 2, 1) := by decide +kernel
theorem dX9_countedAt_41 : decode cX9_countedAt 41 = .ok (.bipush 12, 2) := by decide +kernel
theorem dX9_countedAt_43 : decode cX9_countedAt 43 = .ok (.imul, 1) := by decide +kernel
theorem dX9_countedAt_44 : decode cX9_countedAt 44 = .ok (.iload 6, 2) := by decide +kernel
theorem dX9_countedAt_46 : decode cX9_countedAt 46 = .ok (.iadd, 1) := by decide +kernel
theorem dX9_countedAt_47 : decode cX9_countedAt 47 = .ok (.laload, 1) := by decide +kernel
theorem dX9_countedAt_48 : decode cX9_countedAt 48 = .ok (.ladd, 1) := by decide +kernel
theorem dX9_countedAt_49 : decode cX9_countedAt 49 = .ok (.lstore 4, 2) := by decide +kernel
theorem dX9_countedAt_51 : decode cX9_countedAt 51 = .ok (.iinc 6 1, 3) := by decide +kernel
theorem dX9_countedAt_54 : decode cX9_countedAt 54 = .ok (.goto (-48), 3) := by decide +kernel
theorem dX9_countedAt_57 : decode cX9_countedAt 57 = .ok (.lload 4, 2) := by decide +kernel
theorem dX9_countedAt_59 : decode cX9_countedAt 59 = .ok (.lreturn, 1) := by decide +kernel
theorem dX10_copyFrom_0 : decode cX10_copyFrom 0 = .ok (.aload_n 0, 1) := by decide +kernel
theorem dX10_copyFrom_1 : decode cX10_copyFrom 1 = .ok (.aload_n 1, 1) := by decide +kernel
theorem dX10_copyFrom_2 : decode cX10_copyFrom 2 = .ok (.getfield 15, 3) := by decide +kernel
theorem dX10_copyFrom_5 : decode cX10_copyFrom 5 = .ok (.putfield 15, 3) := by decide +kernel
theorem dX10_copyFrom_8 : decode cX10_copyFrom 8 = .ok (.aload_n 1, 1) := by decide +kernel
theorem dX10_copyFrom_9 : decode cX10_copyFrom 9 = .ok (.getfield 9, 3) := by decide +kernel
theorem dX10_copyFrom_12 : decode cX10_copyFrom 12 = .ok (.iconst 0, 1) := by decide +kernel
theorem dX10_copyFrom_13 : decode cX10_copyFrom 13 = .ok (.aload_n 0, 1) := by decide +kernel
theorem dX10_copyFrom_14 : decode cX10_copyFrom 14 = .ok (.getfield 9, 3) := by decide +kernel
theorem dX10_copyFrom_17 : decode cX10_copyFrom 17 = .ok (.iconst 0, 1) := by decide +kernel
theorem dX10_copyFrom_18 : decode cX10_copyFrom 18 = .ok (.bipush 24, 2) := by decide +kernel
theorem dX10_copyFrom_20 : decode cX10_copyFrom 20 = .ok (.invokestatic 19, 3) := by decide +kernel
theorem dX10_copyFrom_23 : decode cX10_copyFrom 23 = .ok (.return_, 1) := by decide +kernel
theorem dX10_add_0 : decode cX10_add 0 = .ok (.aload_n 0, 1) := by decide +kernel
theorem dX10_add_1 : decode cX10_add 1 = .ok (.getfield 15, 3) := by decide +kernel
theorem dX10_add_4 : decode cX10_add 4 = .ok (.bipush 24, 2) := by decide +kernel
theorem dX10_add_6 : decode cX10_add 6 = .ok (.if_icmp .ge 23, 3) := by decide +kernel
theorem dX10_add_9 : decode cX10_add 9 = .ok (.aload_n 0, 1) := by decide +kernel
theorem dX10_add_10 : decode cX10_add 10 = .ok (.getfield 9, 3) := by decide +kernel
theorem dX10_add_13 : decode cX10_add 13 = .ok (.aload_n 0, 1) := by decide +kernel
theorem dX10_add_14 : decode cX10_add 14 = .ok (.getfield 15, 3) := by decide +kernel
theorem dX10_add_17 : decode cX10_add 17 = .ok (.iload_n 1, 1) := by decide +kernel
theorem dX10_add_18 : decode cX10_add 18 = .ok (.iastore, 1) := by decide +kernel
theorem dX10_add_19 : decode cX10_add 19 = .ok (.aload_n 0, 1) := by decide +kernel
theorem dX10_add_20 : decode cX10_add 20 = .ok (.dup, 1) := by decide +kernel
theorem dX10_add_21 : decode cX10_add 21 = .ok (.getfield 15, 3) := by decide +kernel
theorem dX10_add_24 : decode cX10_add 24 = .ok (.iconst 1, 1) := by decide +kernel
theorem dX10_add_25 : decode cX10_add 25 = .ok (.iadd, 1) := by decide +kernel
theorem dX10_add_26 : decode cX10_add 26 = .ok (.putfield 15, 3) := by decide +kernel
theorem dX10_add_29 : decode cX10_add 29 = .ok (.return_, 1) := by decide +kernel
theorem dX10_doorAt_0 : decode cX10_doorAt 0 = .ok (.iload_n 1, 1) := by decide +kernel
theorem dX10_doorAt_1 : decode cX10_doorAt 1 = .ok (.ifCond .lt 20, 3) := by decide +kernel
theorem dX10_doorAt_4 : decode cX10_doorAt 4 = .ok (.iload_n 1, 1) := by decide +kernel
theorem dX10_doorAt_5 : decode cX10_doorAt 5 = .ok (.aload_n 0, 1) := by decide +kernel
theorem dX10_doorAt_6 : decode cX10_doorAt 6 = .ok (.getfield 15, 3) := by decide +kernel
theorem dX10_doorAt_9 : decode cX10_doorAt 9 = .ok (.if_icmp .ge 12, 3) := by decide +kernel
theorem dX10_doorAt_12 : decode cX10_doorAt 12 = .ok (.aload_n 0, 1) := by decide +kernel
theorem dX10_doorAt_13 : decode cX10_doorAt 13 = .ok (.getfield 9, 3) := by decide +kernel
theorem dX10_doorAt_16 : decode cX10_doorAt 16 = .ok (.iload_n 1, 1) := by decide +kernel
theorem dX10_doorAt_17 : decode cX10_doorAt 17 = .ok (.iaload, 1) := by decide +kernel
theorem dX10_doorAt_18 : decode cX10_doorAt 18 = .ok (.goto 5, 3) := by decide +kernel
theorem dX10_doorAt_21 : decode cX10_doorAt 21 = .ok (.bipush (-9), 2) := by decide +kernel
theorem dX10_doorAt_23 : decode cX10_doorAt 23 = .ok (.ireturn, 1) := by decide +kernel
theorem dX10_firstPlaceOf_0 : decode cX10_firstPlaceOf 0 = .ok (.iload_n 2, 1) := by decide +kernel
theorem dX10_firstPlaceOf_1 : decode cX10_firstPlaceOf 1 = .ok (.istore_n 3, 1) := by decide +kernel
theorem dX10_firstPlaceOf_2 : decode cX10_firstPlaceOf 2 = .ok (.iload_n 3, 1) := by decide +kernel
theorem dX10_firstPlaceOf_3 : decode cX10_firstPlaceOf 3 = .ok (.aload_n 0, 1) := by decide +kernel
theorem dX10_firstPlaceOf_4 : decode cX10_firstPlaceOf 4 = .ok (.getfield 15, 3) := by decide +kernel
theorem dX10_firstPlaceOf_7 : decode cX10_firstPlaceOf 7 = .ok (.aload_n 1, 1) := by decide +kernel
theorem dX10_firstPlaceOf_8 : decode cX10_firstPlaceOf 8 = .ok (.getfield 25, 3) := by decide +kernel
theorem dX10_firstPlaceOf_11 : decode cX10_firstPlaceOf 11 = .ok (.isub, 1) := by decide +kernel
theorem dX10_firstPlaceOf_12 : decode cX10_firstPlaceOf 12 = .ok (.if_icmp .gt 20, 3) := by decide +kernel
theorem dX10_firstPlaceOf_15 : decode cX10_firstPlaceOf 15 = .ok (.aload_n 0, 1) := by decide +kernel
theorem dX10_firstPlaceOf_16 : decode cX10_firstPlaceOf 16 = .ok (.aload_n 1, 1) := by decide +kernel
theorem dX10_firstPlaceOf_17 : decode cX10_firstPlaceOf 17 = .ok (.iload_n 3, 1) := by decide +kernel
theorem dX10_firstPlaceOf_18 : decode cX10_firstPlaceOf 18 = .ok (.invokevirtual 28, 3) := by decide +kernel
theorem dX10_firstPlaceOf_21 : decode cX10_firstPlaceOf 21 = .ok (.ifCond .eq 5, 3) := by decide +kernel
theorem dX10_firstPlaceOf_24 : decode cX10_firstPlaceOf 24 = .ok (.iload_n 3, 1) := by decide +kernel
theorem dX10_firstPlaceOf_25 : decode cX10_firstPlaceOf 25 = .ok (.ireturn, 1) := by decide +kernel
theorem dX10_firstPlaceOf_26 : decode cX10_firstPlaceOf 26 = .ok (.iinc 3 1, 3) := by decide +kernel
theorem dX10_firstPlaceOf_29 : decode cX10_firstPlaceOf 29 = .ok (.goto (-27), 3) := by decide +kernel
theorem dX10_firstPlaceOf_32 : decode cX10_firstPlaceOf 32 = .ok (.bipush (-9), 2) := by decide +kernel
theorem dX10_firstPlaceOf_34 : decode cX10_firstPlaceOf 34 = .ok (.ireturn, 1) := by decide +kernel
theorem dX10_isHereThroughout_0 : decode cX10_isHereThroughout 0 = .ok (.iconst 0, 1) := by decide +kernel
theorem dX10_isHereThroughout_1 : decode cX10_isHereThroughout 1 = .ok (.istore_n 3, 1) := by decide +kernel
theorem dX10_isHereThroughout_2 : decode cX10_isHereThroughout 2 = .ok (.iload_n 3, 1) := by decide +kernel
theorem dX10_isHereThroughout_3 : decode cX10_isHereThroughout 3 = .ok (.aload_n 1, 1) := by decide +kernel
theorem dX10_isHereThroughout_4 : decode cX10_isHereThroughout 4 = .ok (.getfield 25, 3) := by decide +kernel
theorem dX10_isHereThroughout_7 : decode cX10_isHereThroughout 7 = .ok (.if_icmp .ge 40, 3) := by decide +kernel
theorem dX10_isHereThroughout_10 : decode cX10_isHereThroughout 10 = .ok (.aload_n 0, 1) := by decide +kernel
theorem dX10_isHereThroughout_11 : decode cX10_isHereThroughout 11 = .ok (.iload_n 2, 1) := by decide +kernel
theorem dX10_isHereThroughout_12 : decode cX10_isHereThroughout 12 = .ok (.iload_n 3, 1) := by decide +kernel
theorem dX10_isHereThroughout_13 : decode cX10_isHereThroughout 13 = .ok (.iadd, 1) := by decide +kernel
theorem dX10_isHereThroughout_14 : decode cX10_isHereThroughout 14 = .ok (.invokevirtual 32, 3) := by decide +kernel
theorem dX10_isHereThroughout_17 : decode cX10_isHereThroughout 17 = .ok (.istore 4, 2) := by decide +kernel
theorem dX10_isHereThroughout_19 : decode cX10_isHereThroughout 19 = .ok (.iload 4, 2) := by decide +kernel
theorem dX10_isHereThroughout_21 : decode cX10_isHereThroughout 21 = .ok (.bipush (-9), 2) := by decide +kernel
theorem dX10_isHereThroughout_23 : decode cX10_isHereThroughout 23 = .ok (.if_icmp .eq 16, 3) := by decide +kernel
theorem dX10_isHereThroughout_26 : decode cX10_isHereThroughout 26 = .ok (.aload_n 1, 1) := by decide +kernel
theorem dX10_isHereThroughout_27 : decode cX10_isHereThroughout 27 = .ok (.iload_n 3, 1) := by decide +kernel
theorem dX10_isHereThroughout_28 : decode cX10_isHereThroughout 28 = .ok (.invokevirtual 36, 3) := by decide +kernel
theorem dX10_isHereThroughout_31 : decode cX10_isHereThroughout 31 = .ok (.iload 4, 2) := by decide +kernel
theorem dX10_isHereThroughout_33 : decode cX10_isHereThroughout 33 = .ok (.invokestatic 39, 3) := by decide +kernel
theorem dX10_isHereThroughout_36 : decode cX10_isHereThroughout 36 = .ok (.ifCond .ne 5, 3) := by decide +kernel
theorem dX10_isHereThroughout_39 : decode cX10_isHereThroughout 39 = .ok (.iconst 0, 1) := by decide +kernel
theorem dX10_isHereThroughout_40 : decode cX10_isHereThroughout 40 = .ok (.ireturn, 1) := by decide +kernel
theorem dX10_isHereThroughout_41 : decode cX10_isHereThroughout 41 = .ok (.iinc 3 1, 3) := by decide +kernel
theorem dX10_isHereThroughout_44 : decode cX10_isHereThroughout 44 = .ok (.goto (-42), 3) := by decide +kernel
theorem dX10_isHereThroughout_47 : decode cX10_isHereThroughout 47 = .ok (.iconst 1, 1) := by decide +kernel
theorem dX10_isHereThroughout_48 : decode cX10_isHereThroughout 48 = .ok (.ireturn, 1) := by decide +kernel
