theorem dJ11_isValidCodePoint_9a6ad_0 : decode cJ11_isValidCodePoint_9a6ad 0 = .ok (.iload_n 0, 1) := by decide +kernel
theorem dJ11_isValidCodePoint_9a6ad_1 : decode cJ11_isValidCodePoint_9a6ad 1 = .ok (.bipush 16, 2) := by decide +kernel
theorem dJ11_isValidCodePoint_9a6ad_3 : decode cJ11_isValidCodePoint_9a6ad 3 = .ok (.iushr, 1) := by decide +kernel
theorem dJ11_isValidCodePoint_9a6ad_4 : decode cJ11_isValidCodePoint_9a6ad 4 = .ok (.istore_n 1, 1) := by decide +kernel
theorem dJ11_isValidCodePoint_9a6ad_5 : decode cJ11_isValidCodePoint_9a6ad 5 = .ok (.iload_n 1, 1) := by decide +kernel
theorem dJ11_isValidCodePoint_9a6ad_6 : decode cJ11_isValidCodePoint_9a6ad 6 = .ok (.bipush 17, 2) := by decide +kernel
theorem dJ11_isValidCodePoint_9a6ad_8 : decode cJ11_isValidCodePoint_9a6ad 8 = .ok (.if_icmp .ge 7, 3) := by decide +kernel
theorem dJ11_isValidCodePoint_9a6ad_11 : decode cJ11_isValidCodePoint_9a6ad 11 = .ok (.iconst 1, 1) := by decide +kernel
theorem dJ11_isValidCodePoint_9a6ad_12 : decode cJ11_isValidCodePoint_9a6ad 12 = .ok (.goto 4, 3) := by decide +kernel
theorem dJ11_isValidCodePoint_9a6ad_15 : decode cJ11_isValidCodePoint_9a6ad 15 = .ok (.iconst 0, 1) := by decide +kernel
theorem dJ11_isValidCodePoint_9a6ad_16 : decode cJ11_isValidCodePoint_9a6ad 16 = .ok (.ireturn, 1) := by decide +kernel
theorem dJ11_highSurrogate_5068e_0 : decode cJ11_highSurrogate_5068e 0 = .ok (.iload_n 0, 1) := by decide +kernel
theorem dJ11_highSurrogate_5068e_1 : decode cJ11_highSurrogate_5068e 1 = .ok (.bipush 10, 2) := by decide +kernel
theorem dJ11_highSurrogate_5068e_3 : decode cJ11_highSurrogate_5068e 3 = .ok (.iushr, 1) := by decide +kernel
theorem dJ11_highSurrogate_5068e_4 : decode cJ11_highSurrogate_5068e 4 = .ok (.ldc 110, 2) := by decide +kernel
theorem dJ11_highSurrogate_5068e_6 : decode cJ11_highSurrogate_5068e 6 = .ok (.iadd, 1) := by decide +kernel
theorem dJ11_highSurrogate_5068e_7 : decode cJ11_highSurrogate_5068e 7 = .ok (.i2c, 1) := by decide +kernel
theorem dJ11_highSurrogate_5068e_8 : decode cJ11_highSurrogate_5068e 8 = .ok (.ireturn, 1) := by decide +kernel
theorem dJ11_lowSurrogate_5068e_0 : decode cJ11_lowSurrogate_5068e 0 = .ok (.iload_n 0, 1) := by decide +kernel
theorem dJ11_lowSurrogate_5068e_1 : decode cJ11_lowSurrogate_5068e 1 = .ok (.sipush 1023, 3) := by decide +kernel
theorem dJ11_lowSurrogate_5068e_4 : decode cJ11_lowSurrogate_5068e 4 = .ok (.iand, 1) := by decide +kernel
theorem dJ11_lowSurrogate_5068e_5 : decode cJ11_lowSurrogate_5068e 5 = .ok (.ldc 76, 2) := by decide +kernel
theorem dJ11_lowSurrogate_5068e_7 : decode cJ11_lowSurrogate_5068e 7 = .ok (.iadd, 1) := by decide +kernel
theorem dJ11_lowSurrogate_5068e_8 : decode cJ11_lowSurrogate_5068e 8 = .ok (.i2c, 1) := by decide +kernel
theorem dJ11_lowSurrogate_5068e_9 : decode cJ11_lowSurrogate_5068e 9 = .ok (.ireturn, 1) := by decide +kernel
theorem dJ6_numberOfTrailingZeros_0f7a4_0 : decode cJ6_numberOfTrailingZeros_0f7a4 0 = .ok (.iload_n 0, 1) := by decide +kernel
theorem dJ6_numberOfTrailingZeros_0f7a4_1 : decode cJ6_numberOfTrailingZeros_0f7a4 1 = .ok (.iconst (-1), 1) := by decide +kernel
theorem dJ6_numberOfTrailingZeros_0f7a4_2 : decode cJ6_numberOfTrailingZeros_0f7a4 2 = .ok (.ixor, 1) := by decide +kernel
theorem dJ6_numberOfTrailingZeros_0f7a4_3 : decode cJ6_numberOfTrailingZeros_0f7a4 3 = .ok (.iload_n 0, 1) := by decide +kernel
theorem dJ6_numberOfTrailingZeros_0f7a4_4 : decode cJ6_numberOfTrailingZeros_0f7a4 4 = .ok (.iconst 1, 1) := by decide +kernel
theorem dJ6_numberOfTrailingZeros_0f7a4_5 : decode cJ6_numberOfTrailingZeros_0f7a4 5 = .ok (.isub, 1) := by decide +kernel
theorem dJ6_numberOfTrailingZeros_0f7a4_6 : decode cJ6_numberOfTrailingZeros_0f7a4 6 = .ok (.iand, 1) := by decide +kernel
theorem dJ6_numberOfTrailingZeros_0f7a4_7 : decode cJ6_numberOfTrailingZeros_0f7a4 7 = .ok (.istore_n 0, 1) := by decide +kernel
theorem dJ6_numberOfTrailingZeros_0f7a4_8 : decode cJ6_numberOfTrailingZeros_0f7a4 8 = .ok (.iload_n 0, 1) := by decide +kernel
theorem dJ6_numberOfTrailingZeros_0f7a4_9 : decode cJ6_numberOfTrailingZeros_0f7a4 9 = .ok (.ifCond .gt 8, 3) := by decide +kernel
theorem dJ6_numberOfTrailingZeros_0f7a4_12 : decode cJ6_numberOfTrailingZeros_0f7a4 12 = .ok (.iload_n 0, 1) := by decide +kernel
theorem dJ6_numberOfTrailingZeros_0f7a4_13 : decode cJ6_numberOfTrailingZeros_0f7a4 13 = .ok (.bipush 32, 2) := by decide +kernel
theorem dJ6_numberOfTrailingZeros_0f7a4_15 : decode cJ6_numberOfTrailingZeros_0f7a4 15 = .ok (.iand, 1) := by decide +kernel
theorem dJ6_numberOfTrailingZeros_0f7a4_16 : decode cJ6_numberOfTrailingZeros_0f7a4 16 = .ok (.ireturn, 1) := by decide +kernel
theorem dJ6_numberOfTrailingZeros_0f7a4_17 : decode cJ6_numberOfTrailingZeros_0f7a4 17 = .ok (.iconst 1, 1) := by decide +kernel
theorem dJ6_numberOfTrailingZeros_0f7a4_18 : decode cJ6_numberOfTrailingZeros_0f7a4 18 = .ok (.istore_n 1, 1) := by decide +kernel
theorem dJ6_numberOfTrailingZeros_0f7a4_19 : decode cJ6_numberOfTrailingZeros_0f7a4 19 = .ok (.iload_n 0, 1) := by decide +kernel
theorem dJ6_numberOfTrailingZeros_0f7a4_20 : decode cJ6_numberOfTrailingZeros_0f7a4 20 = .ok (.ldc_w 264, 3) := by decide +kernel
theorem dJ6_numberOfTrailingZeros_0f7a4_23 : decode cJ6_numberOfTrailingZeros_0f7a4 23 = .ok (.if_icmp .le 11, 3) := by decide +kernel
theorem dJ6_numberOfTrailingZeros_0f7a4_26 : decode cJ6_numberOfTrailingZeros_0f7a4 26 = .ok (.iinc 1 16, 3) := by decide +kernel
theorem dJ6_numberOfTrailingZeros_0f7a4_29 : decode cJ6_numberOfTrailingZeros_0f7a4 29 = .ok (.iload_n 0, 1) := by decide +kernel
theorem dJ6_numberOfTrailingZeros_0f7a4_30 : decode cJ6_numberOfTrailingZeros_0f7a4 30 = .ok (.bipush 16, 2) := by decide +kernel
theorem dJ6_numberOfTrailingZeros_0f7a4_32 : decode cJ6_numberOfTrailingZeros_0f7a4 32 = .ok (.iushr, 1) := by decide +kernel
theorem dJ6_numberOfTrailingZeros_0f7a4_33 : decode cJ6_numberOfTrailingZeros_0f7a4 33 = .ok (.istore_n 0, 1) := by decide +kernel
theorem dJ6_numberOfTrailingZeros_0f7a4_34 : decode cJ6_numberOfTrailingZeros_0f7a4 34 = .ok (.iload_n 0, 1) := by decide +kernel
theorem dJ6_numberOfTrailingZeros_0f7a4_35 : decode cJ6_numberOfTrailingZeros_0f7a4 35 = .ok (.sipush 256, 3) := by decide +kernel
theorem dJ6_numberOfTrailingZeros_0f7a4_38 : decode cJ6_numberOfTrailingZeros_0f7a4 38 = .ok (.if_icmp .le 11, 3) := by decide +kernel
theorem dJ6_numberOfTrailingZeros_0f7a4_41 : decode cJ6_numberOfTrailingZeros_0f7a4 41 = .ok (.iinc 1 8, 3) := by decide +kernel
theorem dJ6_numberOfTrailingZeros_0f7a4_44 : decode cJ6_numberOfTrailingZeros_0f7a4 44 = .ok (.iload_n 0, 1) := by decide +kernel
theorem dJ6_numberOfTrailingZeros_0f7a4_45 : decode cJ6_numberOfTrailingZeros_0f7a4 45 = .ok (.bipush 8, 2) := by decide +kernel
theorem dJ6_numberOfTrailingZeros_0f7a4_47 : decode cJ6_numberOfTrailingZeros_0f7a4 47 = .ok (.iushr, 1) := by decide +kernel
theorem dJ6_numberOfTrailingZeros_0f7a4_48 : decode cJ6_numberOfTrailingZeros_0f7a4 48 = .ok (.istore_n 0, 1) := by decide +kernel
theorem dJ6_numberOfTrailingZeros_0f7a4_49 : decode cJ6_numberOfTrailingZeros_0f7a4 49 = .ok (.iload_n 0, 1) := by decide +kernel
theorem dJ6_numberOfTrailingZeros_0f7a4_50 : decode cJ6_numberOfTrailingZeros_0f7a4 50 = .ok (.bipush 16, 2) := by decide +kernel
theorem dJ6_numberOfTrailingZeros_0f7a4_52 : decode cJ6_numberOfTrailingZeros_0f7a4 52 = .ok (.if_icmp .le 10, 3) := by decide +kernel
theorem dJ6_numberOfTrailingZeros_0f7a4_55 : decode cJ6_numberOfTrailingZeros_0f7a4 55 = .ok (.iinc 1 4, 3) := by decide +kernel
theorem dJ6_numberOfTrailingZeros_0f7a4_58 : decode cJ6_numberOfTrailingZeros_0f7a4 58 = .ok (.iload_n 0, 1) := by decide +kernel
theorem dJ6_numberOfTrailingZeros_0f7a4_59 : decode cJ6_numberOfTrailingZeros_0f7a4 59 = .ok (.iconst 4, 1) := by decide +kernel
theorem dJ6_numberOfTrailingZeros_0f7a4_60 : decode cJ6_numberOfTrailingZeros_0f7a4 60 = .ok (.iushr, 1) := by decide +kernel
theorem dJ6_numberOfTrailingZeros_0f7a4_61 : decode cJ6_numberOfTrailingZeros_0f7a4 61 = .ok (.istore_n 0, 1) := by decide +kernel
theorem dJ6_numberOfTrailingZeros_0f7a4_62 : decode cJ6_numberOfTrailingZeros_0f7a4 62 = .ok (.iload_n 0, 1) := by decide +kernel
theorem dJ6_numberOfTrailingZeros_0f7a4_63 : decode cJ6_numberOfTrailingZeros_0f7a4 63 = .ok (.iconst 4, 1) := by decide +kernel
theorem dJ6_numberOfTrailingZeros_0f7a4_64 : decode cJ6_numberOfTrailingZeros_0f7a4 64 = .ok (.if_icmp .le 10, 3) := by decide +kernel
theorem dJ6_numberOfTrailingZeros_0f7a4_67 : decode cJ6_numberOfTrailingZeros_0f7a4 67 = .ok (.iinc 1 2, 3) := by decide +kernel
theorem dJ6_numberOfTrailingZeros_0f7a4_70 : decode cJ6_numberOfTrailingZeros_0f7a4 70 = .ok (.iload_n 0, 1) := by decide +kernel
theorem dJ6_numberOfTrailingZeros_0f7a4_71 : decode cJ6_numberOfTrailingZeros_0f7a4 71 = .ok (.iconst 2, 1) := by decide +kernel
theorem dJ6_numberOfTrailingZeros_0f7a4_72 : decode cJ6_numberOfTrailingZeros_0f7a4 72 = .ok (.iushr, 1) := by decide +kernel
theorem dJ6_numberOfTrailingZeros_0f7a4_73 : decode cJ6_numberOfTrailingZeros_0f7a4 73 = .ok (.istore_n 0, 1) := by decide +kernel
theorem dJ6_numberOfTrailingZeros_0f7a4_74 : decode cJ6_numberOfTrailingZeros_0f7a4 74 = .ok (.iload_n 1, 1) := by decide +kernel
theorem dJ6_numberOfTrailingZeros_0f7a4_75 : decode cJ6_numberOfTrailingZeros_0f7a4 75 = .ok (.iload_n 0, 1) := by decide +kernel
theorem dJ6_numberOfTrailingZeros_0f7a4_76 : decode cJ6_numberOfTrailingZeros_0f7a4 76 = .ok (.iconst 1, 1) := by decide +kernel
theorem dJ6_numberOfTrailingZeros_0f7a4_77 : decode cJ6_numberOfTrailingZeros_0f7a4 77 = .ok (.iushr, 1) := by decide +kernel
theorem dJ6_numberOfTrailingZeros_0f7a4_78 : decode cJ6_numberOfTrailingZeros_0f7a4 78 = .ok (.iadd, 1) := by decide +kernel
theorem dJ6_numberOfTrailingZeros_0f7a4_79 : decode cJ6_numberOfTrailingZeros_0f7a4 79 = .ok (.ireturn, 1) := by decide +kernel
theorem dJ6_bitCount_0f7a4_0 : decode cJ6_bitCount_0f7a4 0 = .ok (.iload_n 0, 1) := by decide +kernel
theorem dJ6_bitCount_0f7a4_1 : decode cJ6_bitCount_0f7a4 1 = .ok (.iload_n 0, 1) := by decide +kernel
theorem dJ6_bitCount_0f7a4_2 : decode cJ6_bitCount_0f7a4 2 = .ok (.iconst 1, 1) := by decide +kernel
theorem dJ6_bitCount_0f7a4_3 : decode cJ6_bitCount_0f7a4 3 = .ok (.iushr, 1) := by decide +kernel
theorem dJ6_bitCount_0f7a4_4 : decode cJ6_bitCount_0f7a4 4 = .ok (.ldc_w 265, 3) := by decide +kernel
theorem dJ6_bitCount_0f7a4_7 : decode cJ6_bitCount_0f7a4 7 = .ok (.iand, 1) := by decide +kernel
theorem dJ6_bitCount_0f7a4_8 : decode cJ6_bitCount_0f7a4 8 = .ok (.isub, 1) := by decide +kernel
theorem dJ6_bitCount_0f7a4_9 : decode cJ6_bitCount_0f7a4 9 = .ok (.istore_n 0, 1) := by decide +kernel
theorem dJ6_bitCount_0f7a4_10 : decode cJ6_bitCount_0f7a4 10 = .ok (.iload_n 0, 1) := by decide +kernel
theorem dJ6_bitCount_0f7a4_11 : decode cJ6_bitCount_0f7a4 11 = .ok (.ldc_w 266, 3) := by decide +kernel
theorem dJ6_bitCount_0f7a4_14 : decode cJ6_bitCount_0f7a4 14 = .ok (.iand, 1) := by decide +kernel
theorem dJ6_bitCount_0f7a4_15 : decode cJ6_bitCount_0f7a4 15 = .ok (.iload_n 0, 1) := by decide +kernel
theorem dJ6_bitCount_0f7a4_16 : decode cJ6_bitCount_0f7a4 16 = .ok (.iconst 2, 1) := by decide +kernel
theorem dJ6_bitCount_0f7a4_17 : decode cJ6_bitCount_0f7a4 17 = .ok (.iushr, 1) := by decide +kernel
theorem dJ6_bitCount_0f7a4_18 : decode cJ6_bitCount_0f7a4 18 = .ok (.ldc_w 266, 3) := by decide +kernel
theorem dJ6_bitCount_0f7a4_21 : decode cJ6_bitCount_0f7a4 21 = .ok (.iand, 1) := by decide +kernel
theorem dJ6_bitCount_0f7a4_22 : decode cJ6_bitCount_0f7a4 22 = .ok (.iadd, 1) := by decide +kernel
theorem dJ6_bitCount_0f7a4_23 : decode cJ6_bitCount_0f7a4 23 = .ok (.istore_n 0, 1) := by decide +kernel
theorem dJ6_bitCount_0f7a4_24 : decode cJ6_bitCount_0f7a4 24 = .ok (.iload_n 0, 1) := by decide +kernel
theorem dJ6_bitCount_0f7a4_25 : decode cJ6_bitCount_0f7a4 25 = .ok (.iload_n 0, 1) := by decide +kernel
theorem dJ6_bitCount_0f7a4_26 : decode cJ6_bitCount_0f7a4 26 = .ok (.iconst 4, 1) := by decide +kernel
theorem dJ6_bitCount_0f7a4_27 : decode cJ6_bitCount_0f7a4 27 = .ok (.iushr, 1) := by decide +kernel
theorem dJ6_bitCount_0f7a4_28 : decode cJ6_bitCount_0f7a4 28 = .ok (.iadd, 1) := by decide +kernel
theorem dJ6_bitCount_0f7a4_29 : decode cJ6_bitCount_0f7a4 29 = .ok (.ldc_w 267, 3) := by decide +kernel
theorem dJ6_bitCount_0f7a4_32 : decode cJ6_bitCount_0f7a4 32 = .ok (.iand, 1) := by decide +kernel
theorem dJ6_bitCount_0f7a4_33 : decode cJ6_bitCount_0f7a4 33 = .ok (.istore_n 0, 1) := by decide +kernel
theorem dJ6_bitCount_0f7a4_34 : decode cJ6_bitCount_0f7a4 34 = .ok (.iload_n 0, 1) := by decide +kernel
theorem dJ6_bitCount_0f7a4_35 : decode cJ6_bitCount_0f7a4 35 = .ok (.iload_n 0, 1) := by decide +kernel
theorem dJ6_bitCount_0f7a4_36 : decode cJ6_bitCount_0f7a4 36 = .ok (.bipush 8, 2) := by decide +kernel
theorem dJ6_bitCount_0f7a4_38 : decode cJ6_bitCount_0f7a4 38 = .ok (.iushr, 1) := by decide +kernel
theorem dJ6_bitCount_0f7a4_39 : decode cJ6_bitCount_0f7a4 39 = .ok (.iadd, 1) := by decide +kernel
theorem dJ6_bitCount_0f7a4_40 : decode cJ6_bitCount_0f7a4 40 = .ok (.istore_n 0, 1) := by decide +kernel
theorem dJ6_bitCount_0f7a4_41 : decode cJ6_bitCount_0f7a4 41 = .ok (.iload_n 0, 1) := by decide +kernel
theorem dJ6_bitCount_0f7a4_42 : decode cJ6_bitCount_0f7a4 42 = .ok (.iload_n 0, 1) := by decide +kernel
theorem dJ6_bitCount_0f7a4_43 : decode cJ6_bitCount_0f7a4 43 = .ok (.bipush 16, 2) := by decide +kernel
theorem dJ6_bitCount_0f7a4_45 : decode cJ6_bitCount_0f7a4 45 = .ok (.iushr, 1) := by decide +kernel
theorem dJ6_bitCount_0f7a4_46 : decode cJ6_bitCount_0f7a4 46 = .ok (.iadd, 1) := by decide +kernel
theorem dJ6_bitCount_0f7a4_47 : decode cJ6_bitCount_0f7a4 47 = .ok (.istore_n 0, 1) := by decide +kernel
theorem dJ6_bitCount_0f7a4_48 : decode cJ6_bitCount_0f7a4 48 = .ok (.iload_n 0, 1) := by decide +kernel
theorem dJ6_bitCount_0f7a4_49 : decode cJ6_bitCount_0f7a4 49 = .ok (.bipush 63, 2) := by decide +kernel
theorem dJ6_bitCount_0f7a4_51 : decode cJ6_bitCount_0f7a4 51 = .ok (.iand, 1) := by decide +kernel
theorem dJ6_bitCount_0f7a4_52 : decode cJ6_bitCount_0f7a4 52 = .ok (.ireturn, 1) := by decide +kernel
theorem dJ9_abs_0f7a4_0 : decode cJ9_abs_0f7a4 0 = .ok (.iload_n 0, 1) := by decide +kernel
theorem dJ9_abs_0f7a4_1 : decode cJ9_abs_0f7a4 1 = .ok (.ifCond .ge 8, 3) := by decide +kernel
theorem dJ9_abs_0f7a4_4 : decode cJ9_abs_0f7a4 4 = .ok (.iload_n 0, 1) := by decide +kernel
theorem dJ9_abs_0f7a4_5 : decode cJ9_abs_0f7a4 5 = .ok (.ineg, 1) := by decide +kernel
theorem dJ9_abs_0f7a4_6 : decode cJ9_abs_0f7a4 6 = .ok (.goto 4, 3) := by decide +kernel
theorem dJ9_abs_0f7a4_9 : decode cJ9_abs_0f7a4 9 = .ok (.iload_n 0, 1) := by decide +kernel
theorem dJ9_abs_0f7a4_10 : decode cJ9_abs_0f7a4 10 = .ok (.ireturn, 1) := by decide +kernel
theorem dJ9_max_7cf53_0 : decode cJ9_max_7cf53 0 = .ok (.iload_n 0, 1) := by decide +kernel
theorem dJ9_max_7cf53_1 : decode cJ9_max_7cf53 1 = .ok (.iload_n 1, 1) := by decide +kernel
theorem dJ9_max_7cf53_2 : decode cJ9_max_7cf53 2 = .ok (.if_icmp .lt 7, 3) := by decide +kernel
theorem dJ9_max_7cf53_5 : decode cJ9_max_7cf53 5 = .ok (.iload_n 0, 1) := by decide +kernel
theorem dJ9_max_7cf53_6 : decode cJ9_max_7cf53 6 = .ok (.goto 4, 3) := by decide +kernel
theorem dJ9_max_7cf53_9 : decode cJ9_max_7cf53 9 = .ok (.iload_n 1, 1) := by decide +kernel
theorem dJ9_max_7cf53_10 : decode cJ9_max_7cf53 10 = .ok (.ireturn, 1) := by decide +kernel
theorem dJ9_min_7cf53_0 : decode cJ9_min_7cf53 0 = .ok (.iload_n 0, 1) := by decide +kernel
theorem dJ9_min_7cf53_1 : decode cJ9_min_7cf53 1 = .ok (.iload_n 1, 1) := by decide +kernel
theorem dJ9_min_7cf53_2 : decode cJ9_min_7cf53 2 = .ok (.if_icmp .gt 7, 3) := by decide +kernel
theorem dJ9_min_7cf53_5 : decode cJ9_min_7cf53 5 = .ok (.iload_n 0, 1) := by decide +kernel
theorem dJ9_min_7cf53_6 : decode cJ9_min_7cf53 6 = .ok (.goto 4, 3) := by decide +kernel
theorem dJ9_min_7cf53_9 : decode cJ9_min_7cf53 9 = .ok (.iload_n 1, 1) := by decide +kernel
theorem dJ9_min_7cf53_10 : decode cJ9_min_7cf53 10 = .ok (.ireturn, 1) := by decide +kernel
theorem dJ0_length_8abf5_0 : decode cJ0_length_8abf5 0 = .ok (.aload_n 0, 1) := by decide +kernel
theorem dJ0_length_8abf5_1 : decode cJ0_length_8abf5 1 = .ok (.getfield 9, 3) := by decide +kernel
theorem dJ0_length_8abf5_4 : decode cJ0_length_8abf5 4 = .ok (.arraylength, 1) := by decide +kernel
theorem dJ0_length_8abf5_5 : decode cJ0_length_8abf5 5 = .ok (.aload_n 0, 1) := by decide +kernel
theorem dJ0_length_8abf5_6 : decode cJ0_length_8abf5 6 = .ok (.invokevirtual 335, 3) := by decide +kernel
theorem dJ0_length_8abf5_9 : decode cJ0_length_8abf5 9 = .ok (.ishr, 1) := by decide +kernel
theorem dJ0_length_8abf5_10 : decode cJ0_length_8abf5 10 = .ok (.ireturn, 1) := by decide +kernel
theorem dJ0_indexOf_0f7a4_0 : decode cJ0_indexOf_0f7a4 0 = .ok (.aload_n 0, 1) := by decide +kernel
theorem dJ0_indexOf_0f7a4_1 : decode cJ0_indexOf_0f7a4 1 = .ok (.iload_n 1, 1) := by decide +kernel
theorem dJ0_indexOf_0f7a4_2 : decode cJ0_indexOf_0f7a4 2 = .ok (.iconst 0, 1) := by decide +kernel
theorem dJ0_indexOf_0f7a4_3 : decode cJ0_indexOf_0f7a4 3 = .ok (.invokevirtual 633, 3) := by decide +kernel
theorem dJ0_indexOf_0f7a4_6 : decode cJ0_indexOf_0f7a4 6 = .ok (.ireturn, 1) := by decide +kernel
theorem dJ0_indexOf_7cf53_0 : decode cJ0_indexOf_7cf53 0 = .ok (.aload_n 0, 1) := by decide +kernel
theorem dJ0_indexOf_7cf53_1 : decode cJ0_indexOf_7cf53 1 = .ok (.invokevirtual 492, 3) := by decide +kernel
theorem dJ0_indexOf_7cf53_4 : decode cJ0_indexOf_7cf53 4 = .ok (.ifCond .eq 19, 3) := by decide +kernel
theorem dJ0_indexOf_7cf53_7 : decode cJ0_indexOf_7cf53 7 = .ok (.aload_n 0, 1) := by decide +kernel
theorem dJ0_indexOf_7cf53_8 : decode cJ0_indexOf_7cf53 8 = .ok (.getfield 9, 3) := by decide +kernel
theorem dJ0_indexOf_7cf53_11 : decode cJ0_indexOf_7cf53 11 = .ok (.iload_n 1, 1) := by decide +kernel
theorem dJ0_indexOf_7cf53_12 : decode cJ0_indexOf_7cf53 12 = .ok (.iload_n 2, 1) := by decide +kernel
theorem dJ0_indexOf_7cf53_13 : decode cJ0_indexOf_7cf53 13 = .ok (.aload_n 0, 1) := by decide +kernel
theorem dJ0_indexOf_7cf53_14 : decode cJ0_indexOf_7cf53 14 = .ok (.invokevirtual 505, 3) := by decide +kernel
theorem dJ0_indexOf_7cf53_17 : decode cJ0_indexOf_7cf53 17 = .ok (.invokestatic 637, 3) := by decide +kernel
theorem dJ0_indexOf_7cf53_20 : decode cJ0_indexOf_7cf53 20 = .ok (.goto 16, 3) := by decide +kernel
theorem dJ0_indexOf_7cf53_23 : decode cJ0_indexOf_7cf53 23 = .ok (.aload_n 0, 1) := by decide +kernel
theorem dJ0_indexOf_7cf53_24 : decode cJ0_indexOf_7cf53 24 = .ok (.getfield 9, 3) := by decide +kernel
theorem dJ0_indexOf_7cf53_27 : decode cJ0_indexOf_7cf53 27 = .ok (.iload_n 1, 1) := by decide +kernel
theorem dJ0_indexOf_7cf53_28 : decode cJ0_indexOf_7cf53 28 = .ok (.iload_n 2, 1) := by decide +kernel
theorem dJ0_indexOf_7cf53_29 : decode cJ0_indexOf_7cf53 29 = .ok (.aload_n 0, 1) := by decide +kernel
theorem dJ0_indexOf_7cf53_30 : decode cJ0_indexOf_7cf53 30 = .ok (.invokevirtual 505, 3) := by decide +kernel
theorem dJ0_indexOf_7cf53_33 : decode cJ0_indexOf_7cf53 33 = .ok (.invokestatic 640, 3) := by decide +kernel
theorem dJ0_indexOf_7cf53_36 : decode cJ0_indexOf_7cf53 36 = .ok (.ireturn, 1) := by decide +kernel
theorem dJ0_coder_7d493_0 : decode cJ0_coder_7d493 0 = .ok (.getstatic 38, 3) := by decide +kernel
theorem dJ0_coder_7d493_3 : decode cJ0_coder_7d493 3 = .ok (.ifCond .eq 10, 3) := by decide +kernel
theorem dJ0_coder_7d493_6 : decode cJ0_coder_7d493 6 = .ok (.aload_n 0, 1) := by decide +kernel
theorem dJ0_coder_7d493_7 : decode cJ0_coder_7d493 7 = .ok (.getfield 15, 3) := by decide +kernel
theorem dJ0_coder_7d493_10 : decode cJ0_coder_7d493 10 = .ok (.goto 4, 3) := by decide +kernel
theorem dJ0_coder_7d493_13 : decode cJ0_coder_7d493 13 = .ok (.iconst 1, 1) := by decide +kernel
theorem dJ0_coder_7d493_14 : decode cJ0_coder_7d493 14 = .ok (.ireturn, 1) := by decide +kernel
theorem dJ0_isLatin1_aae02_0 : decode cJ0_isLatin1_aae02 0 = .ok (.getstatic 38, 3) := by decide +kernel
theorem dJ0_isLatin1_aae02_3 : decode cJ0_isLatin1_aae02 3 = .ok (.ifCond .eq 14, 3) := by decide +kernel
theorem dJ0_isLatin1_aae02_6 : decode cJ0_isLatin1_aae02 6 = .ok (.aload_n 0, 1) := by decide +kernel
theorem dJ0_isLatin1_aae02_7 : decode cJ0_isLatin1_aae02 7 = .ok (.getfield 15, 3) := by decide +kernel
theorem dJ0_isLatin1_aae02_10 : decode cJ0_isLatin1_aae02 10 = .ok (.ifCond .ne 7, 3) := by decide +kernel
theorem dJ0_isLatin1_aae02_13 : decode cJ0_isLatin1_aae02 13 = .ok (.iconst 1, 1) := by decide +kernel
theorem dJ0_isLatin1_aae02_14 : decode cJ0_isLatin1_aae02 14 = .ok (.goto 4, 3) := by decide +kernel
theorem dJ0_isLatin1_aae02_17 : decode cJ0_isLatin1_aae02 17 = .ok (.iconst 0, 1) := by decide +kernel
theorem dJ0_isLatin1_aae02_18 : decode cJ0_isLatin1_aae02 18 = .ok (.ireturn, 1) := by decide +kernel
theorem dJ0_checkBoundsBeginEnd_23922_0 : decode cJ0_checkBoundsBeginEnd_23922 0 = .ok (.iload_n 0, 1) := by decide +kernel
theorem dJ0_checkBoundsBeginEnd_23922_1 : decode cJ0_checkBoundsBeginEnd_23922 1 = .ok (.iload_n 1, 1) := by decide +kernel
theorem dJ0_checkBoundsBeginEnd_23922_2 : decode cJ0_checkBoundsBeginEnd_23922 2 = .ok (.iload_n 2, 1) := by decide +kernel
theorem dJ0_checkBoundsBeginEnd_23922_3 : decode cJ0_checkBoundsBeginEnd_23922 3 = .ok (.getstatic 1053, 3) := by decide +kernel
theorem dJ0_checkBoundsBeginEnd_23922_6 : decode cJ0_checkBoundsBeginEnd_23922 6 = .ok (.invokestatic 1062, 3) := by decide +kernel
theorem dJ0_checkBoundsBeginEnd_23922_9 : decode cJ0_checkBoundsBeginEnd_23922 9 = .ok (.pop, 1) := by decide +kernel
theorem dJ0_checkBoundsBeginEnd_23922_10 : decode cJ0_checkBoundsBeginEnd_23922 10 = .ok (.return_, 1) := by decide +kernel
theorem dJ1_canEncode_9a6ad_0 : decode cJ1_canEncode_9a6ad 0 = .ok (.iload_n 0, 1) := by decide +kernel
theorem dJ1_canEncode_9a6ad_1 : decode cJ1_canEncode_9a6ad 1 = .ok (.ifCond .lt 14, 3) := by decide +kernel
theorem dJ1_canEncode_9a6ad_4 : decode cJ1_canEncode_9a6ad 4 = .ok (.iload_n 0, 1) := by decide +kernel
theorem dJ1_canEncode_9a6ad_5 : decode cJ1_canEncode_9a6ad 5 = .ok (.sipush 255, 3) := by decide +kernel
theorem dJ1_canEncode_9a6ad_8 : decode cJ1_canEncode_9a6ad 8 = .ok (.if_icmp .gt 7, 3) := by decide +kernel
theorem dJ1_canEncode_9a6ad_11 : decode cJ1_canEncode_9a6ad 11 = .ok (.iconst 1, 1) := by decide +kernel
theorem dJ1_canEncode_9a6ad_12 : decode cJ1_canEncode_9a6ad 12 = .ok (.goto 4, 3) := by decide +kernel
theorem dJ1_canEncode_9a6ad_15 : decode cJ1_canEncode_9a6ad 15 = .ok (.iconst 0, 1) := by decide +kernel
theorem dJ1_canEncode_9a6ad_16 : decode cJ1_canEncode_9a6ad 16 = .ok (.ireturn, 1) := by decide +kernel
theorem dJ1_indexOf_4cfef_0 : decode cJ1_indexOf_4cfef 0 = .ok (.iload_n 1, 1) := by decide +kernel
theorem dJ1_indexOf_4cfef_1 : decode cJ1_indexOf_4cfef 1 = .ok (.invokestatic 88, 3) := by decide +kernel
theorem dJ1_indexOf_4cfef_4 : decode cJ1_indexOf_4cfef 4 = .ok (.ifCond .ne 5, 3) := by decide +kernel
theorem dJ1_indexOf_4cfef_7 : decode cJ1_indexOf_4cfef 7 = .ok (.iconst (-1), 1) := by decide +kernel
theorem dJ1_indexOf_4cfef_8 : decode cJ1_indexOf_4cfef 8 = .ok (.ireturn, 1) := by decide +kernel
theorem dJ1_indexOf_4cfef_9 : decode cJ1_indexOf_4cfef 9 = .ok (.iload_n 2, 1) := by decide +kernel
theorem dJ1_indexOf_4cfef_10 : decode cJ1_indexOf_4cfef 10 = .ok (.iconst 0, 1) := by decide +kernel
theorem dJ1_indexOf_4cfef_11 : decode cJ1_indexOf_4cfef 11 = .ok (.invokestatic 92, 3) := by decide +kernel
theorem dJ1_indexOf_4cfef_14 : decode cJ1_indexOf_4cfef 14 = .ok (.istore_n 2, 1) := by decide +kernel
theorem dJ1_indexOf_4cfef_15 : decode cJ1_indexOf_4cfef 15 = .ok (.iload_n 3, 1) := by decide +kernel
theorem dJ1_indexOf_4cfef_16 : decode cJ1_indexOf_4cfef 16 = .ok (.aload_n 0, 1) := by decide +kernel
theorem dJ1_indexOf_4cfef_17 : decode cJ1_indexOf_4cfef 17 = .ok (.arraylength, 1) := by decide +kernel
theorem dJ1_indexOf_4cfef_18 : decode cJ1_indexOf_4cfef 18 = .ok (.invokestatic 38, 3) := by decide +kernel
theorem dJ1_indexOf_4cfef_21 : decode cJ1_indexOf_4cfef 21 = .ok (.istore_n 3, 1) := by decide +kernel
theorem dJ1_indexOf_4cfef_22 : decode cJ1_indexOf_4cfef 22 = .ok (.iload_n 2, 1) := by decide +kernel
theorem dJ1_indexOf_4cfef_23 : decode cJ1_indexOf_4cfef 23 = .ok (.iload_n 3, 1) := by decide +kernel
theorem dJ1_indexOf_4cfef_24 : decode cJ1_indexOf_4cfef 24 = .ok (.if_icmp .lt 5, 3) := by decide +kernel
theorem dJ1_indexOf_4cfef_27 : decode cJ1_indexOf_4cfef 27 = .ok (.iconst (-1), 1) := by decide +kernel
theorem dJ1_indexOf_4cfef_28 : decode cJ1_indexOf_4cfef 28 = .ok (.ireturn, 1) := by decide +kernel
theorem dJ1_indexOf_4cfef_29 : decode cJ1_indexOf_4cfef 29 = .ok (.aload_n 0, 1) := by decide +kernel
theorem dJ1_indexOf_4cfef_30 : decode cJ1_indexOf_4cfef 30 = .ok (.iload_n 1, 1) := by decide +kernel
theorem dJ1_indexOf_4cfef_31 : decode cJ1_indexOf_4cfef 31 = .ok (.iload_n 2, 1) := by decide +kernel
theorem dJ1_indexOf_4cfef_32 : decode cJ1_indexOf_4cfef 32 = .ok (.iload_n 3, 1) := by decide +kernel
theorem dJ1_indexOf_4cfef_33 : decode cJ1_indexOf_4cfef 33 = .ok (.invokestatic 95, 3) := by decide +kernel
theorem dJ1_indexOf_4cfef_36 : decode cJ1_indexOf_4cfef 36 = .ok (.ireturn, 1) := by decide +kernel
theorem dJ1_indexOfChar_4cfef_0 : decode cJ1_indexOfChar_4cfef 0 = .ok (.iload_n 1, 1) := by decide +kernel
theorem dJ1_indexOfChar_4cfef_1 : decode cJ1_indexOfChar_4cfef 1 = .ok (.i2b, 1) := by decide +kernel
theorem dJ1_indexOfChar_4cfef_2 : decode cJ1_indexOfChar_4cfef 2 = .ok (.istore 4, 2) := by decide +kernel
theorem dJ1_indexOfChar_4cfef_4 : decode cJ1_indexOfChar_4cfef 4 = .ok (.iload_n 2, 1) := by decide +kernel
theorem dJ1_indexOfChar_4cfef_5 : decode cJ1_indexOfChar_4cfef 5 = .ok (.istore 5, 2) := by decide +kernel
theorem dJ1_indexOfChar_4cfef_7 : decode cJ1_indexOfChar_4cfef 7 = .ok (.iload 5, 2) := by decide +kernel
theorem dJ1_indexOfChar_4cfef_9 : decode cJ1_indexOfChar_4cfef 9 = .ok (.iload_n 3, 1) := by decide +kernel
theorem dJ1_indexOfChar_4cfef_10 : decode cJ1_indexOfChar_4cfef 10 = .ok (.if_icmp .ge 21, 3) := by decide +kernel
theorem dJ1_indexOfChar_4cfef_13 : decode cJ1_indexOfChar_4cfef 13 = .ok (.aload_n 0, 1) := by decide +kernel
theorem dJ1_indexOfChar_4cfef_14 : decode cJ1_indexOfChar_4cfef 14 = .ok (.iload 5, 2) := by decide +kernel
theorem dJ1_indexOfChar_4cfef_16 : decode cJ1_indexOfChar_4cfef 16 = .ok (.baload, 1) := by decide +kernel
theorem dJ1_indexOfChar_4cfef_17 : decode cJ1_indexOfChar_4cfef 17 = .ok (.iload 4, 2) := by decide +kernel
theorem dJ1_indexOfChar_4cfef_19 : decode cJ1_indexOfChar_4cfef 19 = .ok (.if_icmp .ne 6, 3) := by decide +kernel
theorem dJ1_indexOfChar_4cfef_22 : decode cJ1_indexOfChar_4cfef 22 = .ok (.iload 5, 2) := by decide +kernel
theorem dJ1_indexOfChar_4cfef_24 : decode cJ1_indexOfChar_4cfef 24 = .ok (.ireturn, 1) := by decide +kernel
theorem dJ1_indexOfChar_4cfef_25 : decode cJ1_indexOfChar_4cfef 25 = .ok (.iinc 5 1, 3) := by decide +kernel
theorem dJ1_indexOfChar_4cfef_28 : decode cJ1_indexOfChar_4cfef 28 = .ok (.goto (-21), 3) := by decide +kernel
theorem dJ1_indexOfChar_4cfef_31 : decode cJ1_indexOfChar_4cfef 31 = .ok (.iconst (-1), 1) := by decide +kernel
theorem dJ1_indexOfChar_4cfef_32 : decode cJ1_indexOfChar_4cfef 32 = .ok (.ireturn, 1) := by decide +kernel
theorem dJ2_getChar_3b067_0 : decode cJ2_getChar_3b067 0 = .ok (.getstatic 44, 3) := by decide +kernel
theorem dJ2_getChar_3b067_3 : decode cJ2_getChar_3b067 3 = .ok (.ifCond .ne 25, 3) := by decide +kernel
theorem dJ2_getChar_3b067_6 : decode cJ2_getChar_3b067 6 = .ok (.iload_n 1, 1) := by decide +kernel
theorem dJ2_getChar_3b067_7 : decode cJ2_getChar_3b067 7 = .ok (.ifCond .lt 11, 3) := by decide +kernel
theorem dJ2_getChar_3b067_10 : decode cJ2_getChar_3b067 10 = .ok (.iload_n 1, 1) := by decide +kernel
theorem dJ2_getChar_3b067_11 : decode cJ2_getChar_3b067 11 = .ok (.aload_n 0, 1) := by decide +kernel
theorem dJ2_getChar_3b067_12 : decode cJ2_getChar_3b067 12 = .ok (.invokestatic 48, 3) := by decide +kernel
theorem dJ2_getChar_3b067_15 : decode cJ2_getChar_3b067 15 = .ok (.if_icmp .lt 13, 3) := by decide +kernel
theorem dJ2_getChar_3b067_18 : decode cJ2_getChar_3b067 18 = .ok (.new 52, 3) := by decide +kernel
theorem dJ2_getChar_3b067_21 : decode cJ2_getChar_3b067 21 = .ok (.dup, 1) := by decide +kernel
theorem dJ2_getChar_3b067_22 : decode cJ2_getChar_3b067 22 = .ok (.ldc 54, 2) := by decide +kernel
theorem dJ2_getChar_3b067_24 : decode cJ2_getChar_3b067 24 = .ok (.invokespecial 56, 3) := by decide +kernel
theorem dJ2_getChar_3b067_27 : decode cJ2_getChar_3b067 27 = .ok (.athrow, 1) := by decide +kernel
theorem dJ2_getChar_3b067_28 : decode cJ2_getChar_3b067 28 = .ok (.iload_n 1, 1) := by decide +kernel
theorem dJ2_getChar_3b067_29 : decode cJ2_getChar_3b067 29 = .ok (.iconst 1, 1) := by decide +kernel
theorem dJ2_getChar_3b067_30 : decode cJ2_getChar_3b067 30 = .ok (.ishl, 1) := by decide +kernel
theorem dJ2_getChar_3b067_31 : decode cJ2_getChar_3b067 31 = .ok (.istore_n 1, 1) := by decide +kernel
theorem dJ2_getChar_3b067_32 : decode cJ2_getChar_3b067 32 = .ok (.aload_n 0, 1) := by decide +kernel
theorem dJ2_getChar_3b067_33 : decode cJ2_getChar_3b067 33 = .ok (.iload_n 1, 1) := by decide +kernel
theorem dJ2_getChar_3b067_34 : decode cJ2_getChar_3b067 34 = .ok (.iinc 1 1, 3) := by decide +kernel
theorem dJ2_getChar_3b067_37 : decode cJ2_getChar_3b067 37 = .ok (.baload, 1) := by decide +kernel
theorem dJ2_getChar_3b067_38 : decode cJ2_getChar_3b067 38 = .ok (.sipush 255, 3) := by decide +kernel
theorem dJ2_getChar_3b067_41 : decode cJ2_getChar_3b067 41 = .ok (.iand, 1) := by decide +kernel
theorem dJ2_getChar_3b067_42 : decode cJ2_getChar_3b067 42 = .ok (.getstatic 59, 3) := by decide +kernel
theorem dJ2_getChar_3b067_45 : decode cJ2_getChar_3b067 45 = .ok (.ishl, 1) := by decide +kernel
theorem dJ2_getChar_3b067_46 : decode cJ2_getChar_3b067 46 = .ok (.aload_n 0, 1) := by decide +kernel
theorem dJ2_getChar_3b067_47 : decode cJ2_getChar_3b067 47 = .ok (.iload_n 1, 1) := by decide +kernel
theorem dJ2_getChar_3b067_48 : decode cJ2_getChar_3b067 48 = .ok (.baload, 1) := by decide +kernel
theorem dJ2_getChar_3b067_49 : decode cJ2_getChar_3b067 49 = .ok (.sipush 255, 3) := by decide +kernel
theorem dJ2_getChar_3b067_52 : decode cJ2_getChar_3b067 52 = .ok (.iand, 1) := by decide +kernel
theorem dJ2_getChar_3b067_53 : decode cJ2_getChar_3b067 53 = .ok (.getstatic 63, 3) := by decide +kernel
theorem dJ2_getChar_3b067_56 : decode cJ2_getChar_3b067 56 = .ok (.ishl, 1) := by decide +kernel
theorem dJ2_getChar_3b067_57 : decode cJ2_getChar_3b067 57 = .ok (.ior, 1) := by decide +kernel
theorem dJ2_getChar_3b067_58 : decode cJ2_getChar_3b067 58 = .ok (.i2c, 1) := by decide +kernel
theorem dJ2_getChar_3b067_59 : decode cJ2_getChar_3b067 59 = .ok (.ireturn, 1) := by decide +kernel
theorem dJ2_length_9d52b_0 : decode cJ2_length_9d52b 0 = .ok (.aload_n 0, 1) := by decide +kernel
theorem dJ2_length_9d52b_1 : decode cJ2_length_9d52b 1 = .ok (.arraylength, 1) := by decide +kernel
theorem dJ2_length_9d52b_2 : decode cJ2_length_9d52b 2 = .ok (.iconst 1, 1) := by decide +kernel
theorem dJ2_length_9d52b_3 : decode cJ2_length_9d52b 3 = .ok (.ishr, 1) := by decide +kernel
theorem dJ2_length_9d52b_4 : decode cJ2_length_9d52b 4 = .ok (.ireturn, 1) := by decide +kernel
theorem dJ2_indexOf_4cfef_0 : decode cJ2_indexOf_4cfef 0 = .ok (.iload_n 2, 1) := by decide +kernel
theorem dJ2_indexOf_4cfef_1 : decode cJ2_indexOf_4cfef 1 = .ok (.iconst 0, 1) := by decide +kernel
theorem dJ2_indexOf_4cfef_2 : decode cJ2_indexOf_4cfef 2 = .ok (.invokestatic 224, 3) := by decide +kernel
theorem dJ2_indexOf_4cfef_5 : decode cJ2_indexOf_4cfef 5 = .ok (.istore_n 2, 1) := by decide +kernel
theorem dJ2_indexOf_4cfef_6 : decode cJ2_indexOf_4cfef 6 = .ok (.iload_n 3, 1) := by decide +kernel
theorem dJ2_indexOf_4cfef_7 : decode cJ2_indexOf_4cfef 7 = .ok (.aload_n 0, 1) := by decide +kernel
theorem dJ2_indexOf_4cfef_8 : decode cJ2_indexOf_4cfef 8 = .ok (.arraylength, 1) := by decide +kernel
theorem dJ2_indexOf_4cfef_9 : decode cJ2_indexOf_4cfef 9 = .ok (.iconst 1, 1) := by decide +kernel
theorem dJ2_indexOf_4cfef_10 : decode cJ2_indexOf_4cfef 10 = .ok (.ishr, 1) := by decide +kernel
theorem dJ2_indexOf_4cfef_11 : decode cJ2_indexOf_4cfef 11 = .ok (.invokestatic 183, 3) := by decide +kernel
theorem dJ2_indexOf_4cfef_14 : decode cJ2_indexOf_4cfef 14 = .ok (.istore_n 3, 1) := by decide +kernel
theorem dJ2_indexOf_4cfef_15 : decode cJ2_indexOf_4cfef 15 = .ok (.iload_n 2, 1) := by decide +kernel
theorem dJ2_indexOf_4cfef_16 : decode cJ2_indexOf_4cfef 16 = .ok (.iload_n 3, 1) := by decide +kernel
theorem dJ2_indexOf_4cfef_17 : decode cJ2_indexOf_4cfef 17 = .ok (.if_icmp .lt 5, 3) := by decide +kernel
theorem dJ2_indexOf_4cfef_20 : decode cJ2_indexOf_4cfef 20 = .ok (.iconst (-1), 1) := by decide +kernel
theorem dJ2_indexOf_4cfef_21 : decode cJ2_indexOf_4cfef 21 = .ok (.ireturn, 1) := by decide +kernel
theorem dJ2_indexOf_4cfef_22 : decode cJ2_indexOf_4cfef 22 = .ok (.iload_n 1, 1) := by decide +kernel
theorem dJ2_indexOf_4cfef_23 : decode cJ2_indexOf_4cfef 23 = .ok (.ldc 227, 2) := by decide +kernel
theorem dJ2_indexOf_4cfef_25 : decode cJ2_indexOf_4cfef 25 = .ok (.if_icmp .ge 11, 3) := by decide +kernel
theorem dJ2_indexOf_4cfef_28 : decode cJ2_indexOf_4cfef 28 = .ok (.aload_n 0, 1) := by decide +kernel
theorem dJ2_indexOf_4cfef_29 : decode cJ2_indexOf_4cfef 29 = .ok (.iload_n 1, 1) := by decide +kernel
theorem dJ2_indexOf_4cfef_30 : decode cJ2_indexOf_4cfef 30 = .ok (.iload_n 2, 1) := by decide +kernel
theorem dJ2_indexOf_4cfef_31 : decode cJ2_indexOf_4cfef 31 = .ok (.iload_n 3, 1) := by decide +kernel
theorem dJ2_indexOf_4cfef_32 : decode cJ2_indexOf_4cfef 32 = .ok (.invokestatic 228, 3) := by decide +kernel
theorem dJ2_indexOf_4cfef_35 : decode cJ2_indexOf_4cfef 35 = .ok (.ireturn, 1) := by decide +kernel
theorem dJ2_indexOf_4cfef_36 : decode cJ2_indexOf_4cfef 36 = .ok (.aload_n 0, 1) := by decide +kernel
theorem dJ2_indexOf_4cfef_37 : decode cJ2_indexOf_4cfef 37 = .ok (.iload_n 1, 1) := by decide +kernel
theorem dJ2_indexOf_4cfef_38 : decode cJ2_indexOf_4cfef 38 = .ok (.iload_n 2, 1) := by decide +kernel
theorem dJ2_indexOf_4cfef_39 : decode cJ2_indexOf_4cfef 39 = .ok (.iload_n 3, 1) := by decide +kernel
theorem dJ2_indexOf_4cfef_40 : decode cJ2_indexOf_4cfef 40 = .ok (.invokestatic 232, 3) := by decide +kernel
theorem dJ2_indexOf_4cfef_43 : decode cJ2_indexOf_4cfef 43 = .ok (.ireturn, 1) := by decide +kernel
theorem dJ2_indexOfChar_4cfef_0 : decode cJ2_indexOfChar_4cfef 0 = .ok (.iload_n 2, 1) := by decide +kernel
theorem dJ2_indexOfChar_4cfef_1 : decode cJ2_indexOfChar_4cfef 1 = .ok (.iload_n 3, 1) := by decide +kernel
theorem dJ2_indexOfChar_4cfef_2 : decode cJ2_indexOfChar_4cfef 2 = .ok (.aload_n 0, 1) := by decide +kernel
theorem dJ2_indexOfChar_4cfef_3 : decode cJ2_indexOfChar_4cfef 3 = .ok (.invokestatic 96, 3) := by decide +kernel
theorem dJ2_indexOfChar_4cfef_6 : decode cJ2_indexOfChar_4cfef 6 = .ok (.aload_n 0, 1) := by decide +kernel
theorem dJ2_indexOfChar_4cfef_7 : decode cJ2_indexOfChar_4cfef 7 = .ok (.iload_n 1, 1) := by decide +kernel
theorem dJ2_indexOfChar_4cfef_8 : decode cJ2_indexOfChar_4cfef 8 = .ok (.iload_n 2, 1) := by decide +kernel
theorem dJ2_indexOfChar_4cfef_9 : decode cJ2_indexOfChar_4cfef 9 = .ok (.iload_n 3, 1) := by decide +kernel
theorem dJ2_indexOfChar_4cfef_10 : decode cJ2_indexOfChar_4cfef 10 = .ok (.invokestatic 244, 3) := by decide +kernel
theorem dJ2_indexOfChar_4cfef_13 : decode cJ2_indexOfChar_4cfef 13 = .ok (.ireturn, 1) := by decide +kernel
theorem dJ2_indexOfCharUnsafe_4cfef_0 : decode cJ2_indexOfCharUnsafe_4cfef 0 = .ok (.iload_n 2, 1) := by decide +kernel
theorem dJ2_indexOfCharUnsafe_4cfef_1 : decode cJ2_indexOfCharUnsafe_4cfef 1 = .ok (.istore 4, 2) := by decide +kernel
theorem dJ2_indexOfCharUnsafe_4cfef_3 : decode cJ2_indexOfCharUnsafe_4cfef 3 = .ok (.iload 4, 2) := by decide +kernel
theorem dJ2_indexOfCharUnsafe_4cfef_5 : decode cJ2_indexOfCharUnsafe_4cfef 5 = .ok (.iload_n 3, 1) := by decide +kernel
theorem dJ2_indexOfCharUnsafe_4cfef_6 : decode cJ2_indexOfCharUnsafe_4cfef 6 = .ok (.if_icmp .ge 22, 3) := by decide +kernel
theorem dJ2_indexOfCharUnsafe_4cfef_9 : decode cJ2_indexOfCharUnsafe_4cfef 9 = .ok (.aload_n 0, 1) := by decide +kernel
theorem dJ2_indexOfCharUnsafe_4cfef_10 : decode cJ2_indexOfCharUnsafe_4cfef 10 = .ok (.iload 4, 2) := by decide +kernel
theorem dJ2_indexOfCharUnsafe_4cfef_12 : decode cJ2_indexOfCharUnsafe_4cfef 12 = .ok (.invokestatic 71, 3) := by decide +kernel
theorem dJ2_indexOfCharUnsafe_4cfef_15 : decode cJ2_indexOfCharUnsafe_4cfef 15 = .ok (.iload_n 1, 1) := by decide +kernel
theorem dJ2_indexOfCharUnsafe_4cfef_16 : decode cJ2_indexOfCharUnsafe_4cfef 16 = .ok (.if_icmp .ne 6, 3) := by decide +kernel
theorem dJ2_indexOfCharUnsafe_4cfef_19 : decode cJ2_indexOfCharUnsafe_4cfef 19 = .ok (.iload 4, 2) := by decide +kernel
theorem dJ2_indexOfCharUnsafe_4cfef_21 : decode cJ2_indexOfCharUnsafe_4cfef 21 = .ok (.ireturn, 1) := by decide +kernel
theorem dJ2_indexOfCharUnsafe_4cfef_22 : decode cJ2_indexOfCharUnsafe_4cfef 22 = .ok (.iinc 4 1, 3) := by decide +kernel
theorem dJ2_indexOfCharUnsafe_4cfef_25 : decode cJ2_indexOfCharUnsafe_4cfef 25 = .ok (.goto (-22), 3) := by decide +kernel
theorem dJ2_indexOfCharUnsafe_4cfef_28 : decode cJ2_indexOfCharUnsafe_4cfef 28 = .ok (.iconst (-1), 1) := by decide +kernel
theorem dJ2_indexOfCharUnsafe_4cfef_29 : decode cJ2_indexOfCharUnsafe_4cfef 29 = .ok (.ireturn, 1) := by decide +kernel
theorem dJ2_indexOfSupplementary_4cfef_0 : decode cJ2_indexOfSupplementary_4cfef 0 = .ok (.iload_n 1, 1) := by decide +kernel
theorem dJ2_indexOfSupplementary_4cfef_1 : decode cJ2_indexOfSupplementary_4cfef 1 = .ok (.invokestatic 164, 3) := by decide +kernel
theorem dJ2_indexOfSupplementary_4cfef_4 : decode cJ2_indexOfSupplementary_4cfef 4 = .ok (.ifCond .eq 65, 3) := by decide +kernel
theorem dJ2_indexOfSupplementary_4cfef_7 : decode cJ2_indexOfSupplementary_4cfef 7 = .ok (.iload_n 1, 1) := by decide +kernel
theorem dJ2_indexOfSupplementary_4cfef_8 : decode cJ2_indexOfSupplementary_4cfef 8 = .ok (.invokestatic 157, 3) := by decide +kernel
theorem dJ2_indexOfSupplementary_4cfef_11 : decode cJ2_indexOfSupplementary_4cfef 11 = .ok (.istore 4, 2) := by decide +kernel
theorem dJ2_indexOfSupplementary_4cfef_13 : decode cJ2_indexOfSupplementary_4cfef 13 = .ok (.iload_n 1, 1) := by decide +kernel
theorem dJ2_indexOfSupplementary_4cfef_14 : decode cJ2_indexOfSupplementary_4cfef 14 = .ok (.invokestatic 161, 3) := by decide +kernel
theorem dJ2_indexOfSupplementary_4cfef_17 : decode cJ2_indexOfSupplementary_4cfef 17 = .ok (.istore 5, 2) := by decide +kernel
theorem dJ2_indexOfSupplementary_4cfef_19 : decode cJ2_indexOfSupplementary_4cfef 19 = .ok (.iload_n 2, 1) := by decide +kernel
theorem dJ2_indexOfSupplementary_4cfef_20 : decode cJ2_indexOfSupplementary_4cfef 20 = .ok (.iload_n 3, 1) := by decide +kernel
theorem dJ2_indexOfSupplementary_4cfef_21 : decode cJ2_indexOfSupplementary_4cfef 21 = .ok (.aload_n 0, 1) := by decide +kernel
theorem dJ2_indexOfSupplementary_4cfef_22 : decode cJ2_indexOfSupplementary_4cfef 22 = .ok (.invokestatic 96, 3) := by decide +kernel
theorem dJ2_indexOfSupplementary_4cfef_25 : decode cJ2_indexOfSupplementary_4cfef 25 = .ok (.iload_n 2, 1) := by decide +kernel
theorem dJ2_indexOfSupplementary_4cfef_26 : decode cJ2_indexOfSupplementary_4cfef 26 = .ok (.istore 6, 2) := by decide +kernel
theorem dJ2_indexOfSupplementary_4cfef_28 : decode cJ2_indexOfSupplementary_4cfef 28 = .ok (.iload 6, 2) := by decide +kernel
theorem dJ2_indexOfSupplementary_4cfef_30 : decode cJ2_indexOfSupplementary_4cfef 30 = .ok (.iload_n 3, 1) := by decide +kernel
theorem dJ2_indexOfSupplementary_4cfef_31 : decode cJ2_indexOfSupplementary_4cfef 31 = .ok (.iconst 1, 1) := by decide +kernel
theorem dJ2_indexOfSupplementary_4cfef_32 : decode cJ2_indexOfSupplementary_4cfef 32 = .ok (.isub, 1) := by decide +kernel
theorem dJ2_indexOfSupplementary_4cfef_33 : decode cJ2_indexOfSupplementary_4cfef 33 = .ok (.if_icmp .ge 36, 3) := by decide +kernel
theorem dJ2_indexOfSupplementary_4cfef_36 : decode cJ2_indexOfSupplementary_4cfef 36 = .ok (.aload_n 0, 1) := by decide +kernel
theorem dJ2_indexOfSupplementary_4cfef_37 : decode cJ2_indexOfSupplementary_4cfef 37 = .ok (.iload 6, 2) := by decide +kernel
theorem dJ2_indexOfSupplementary_4cfef_39 : decode cJ2_indexOfSupplementary_4cfef 39 = .ok (.invokestatic 71, 3) := by decide +kernel
theorem dJ2_indexOfSupplementary_4cfef_42 : decode cJ2_indexOfSupplementary_4cfef 42 = .ok (.iload 4, 2) := by decide +kernel
theorem dJ2_indexOfSupplementary_4cfef_44 : decode cJ2_indexOfSupplementary_4cfef 44 = .ok (.if_icmp .ne 19, 3) := by decide +kernel
theorem dJ2_indexOfSupplementary_4cfef_47 : decode cJ2_indexOfSupplementary_4cfef 47 = .ok (.aload_n 0, 1) := by decide +kernel
theorem dJ2_indexOfSupplementary_4cfef_48 : decode cJ2_indexOfSupplementary_4cfef 48 = .ok (.iload 6, 2) := by decide +kernel
theorem dJ2_indexOfSupplementary_4cfef_50 : decode cJ2_indexOfSupplementary_4cfef 50 = .ok (.iconst 1, 1) := by decide +kernel
theorem dJ2_indexOfSupplementary_4cfef_51 : decode cJ2_indexOfSupplementary_4cfef 51 = .ok (.iadd, 1) := by decide +kernel
theorem dJ2_indexOfSupplementary_4cfef_52 : decode cJ2_indexOfSupplementary_4cfef 52 = .ok (.invokestatic 71, 3) := by decide +kernel
theorem dJ2_indexOfSupplementary_4cfef_55 : decode cJ2_indexOfSupplementary_4cfef 55 = .ok (.iload 5, 2) := by decide +kernel
theorem dJ2_indexOfSupplementary_4cfef_57 : decode cJ2_indexOfSupplementary_4cfef 57 = .ok (.if_icmp .ne 6, 3) := by decide +kernel
theorem dJ2_indexOfSupplementary_4cfef_60 : decode cJ2_indexOfSupplementary_4cfef 60 = .ok (.iload 6, 2) := by decide +kernel
theorem dJ2_indexOfSupplementary_4cfef_62 : decode cJ2_indexOfSupplementary_4cfef 62 = .ok (.ireturn, 1) := by decide +kernel
theorem dJ2_indexOfSupplementary_4cfef_63 : decode cJ2_indexOfSupplementary_4cfef 63 = .ok (.iinc 6 1, 3) := by decide +kernel
theorem dJ2_indexOfSupplementary_4cfef_66 : decode cJ2_indexOfSupplementary_4cfef 66 = .ok (.goto (-38), 3) := by decide +kernel
theorem dJ2_indexOfSupplementary_4cfef_69 : decode cJ2_indexOfSupplementary_4cfef 69 = .ok (.iconst (-1), 1) := by decide +kernel
theorem dJ2_indexOfSupplementary_4cfef_70 : decode cJ2_indexOfSupplementary_4cfef 70 = .ok (.ireturn, 1) := by decide +kernel
theorem dJ2_checkBoundsBeginEnd_d044e_0 : decode cJ2_checkBoundsBeginEnd_d044e 0 = .ok (.iload_n 0, 1) := by decide +kernel
theorem dJ2_checkBoundsBeginEnd_d044e_1 : decode cJ2_checkBoundsBeginEnd_d044e 1 = .ok (.iload_n 1, 1) := by decide +kernel
theorem dJ2_checkBoundsBeginEnd_d044e_2 : decode cJ2_checkBoundsBeginEnd_d044e 2 = .ok (.aload_n 2, 1) := by decide +kernel
theorem dJ2_checkBoundsBeginEnd_d044e_3 : decode cJ2_checkBoundsBeginEnd_d044e 3 = .ok (.invokestatic 48, 3) := by decide +kernel
theorem dJ2_checkBoundsBeginEnd_d044e_6 : decode cJ2_checkBoundsBeginEnd_d044e 6 = .ok (.invokestatic 241, 3) := by decide +kernel
theorem dJ2_checkBoundsBeginEnd_d044e_9 : decode cJ2_checkBoundsBeginEnd_d044e 9 = .ok (.return_, 1) := by decide +kernel
theorem dJ3_checkFromToIndex_8c36e_0 : decode cJ3_checkFromToIndex_8c36e 0 = .ok (.iload_n 0, 1) := by decide +kernel
theorem dJ3_checkFromToIndex_8c36e_1 : decode cJ3_checkFromToIndex_8c36e 1 = .ok (.ifCond .lt 13, 3) := by decide +kernel
theorem dJ3_checkFromToIndex_8c36e_4 : decode cJ3_checkFromToIndex_8c36e 4 = .ok (.iload_n 0, 1) := by decide +kernel
theorem dJ3_checkFromToIndex_8c36e_5 : decode cJ3_checkFromToIndex_8c36e 5 = .ok (.iload_n 1, 1) := by decide +kernel
theorem dJ3_checkFromToIndex_8c36e_6 : decode cJ3_checkFromToIndex_8c36e 6 = .ok (.if_icmp .gt 8, 3) := by decide +kernel
theorem dJ3_checkFromToIndex_8c36e_9 : decode cJ3_checkFromToIndex_8c36e 9 = .ok (.iload_n 1, 1) := by decide +kernel
theorem dJ3_checkFromToIndex_8c36e_10 : decode cJ3_checkFromToIndex_8c36e 10 = .ok (.iload_n 2, 1) := by decide +kernel
theorem dJ3_checkFromToIndex_8c36e_11 : decode cJ3_checkFromToIndex_8c36e 11 = .ok (.if_icmp .le 11, 3) := by decide +kernel
theorem dJ3_checkFromToIndex_8c36e_14 : decode cJ3_checkFromToIndex_8c36e 14 = .ok (.aload_n 3, 1) := by decide +kernel
theorem dJ3_checkFromToIndex_8c36e_15 : decode cJ3_checkFromToIndex_8c36e 15 = .ok (.iload_n 0, 1) := by decide +kernel
theorem dJ3_checkFromToIndex_8c36e_16 : decode cJ3_checkFromToIndex_8c36e 16 = .ok (.iload_n 1, 1) := by decide +kernel
theorem dJ3_checkFromToIndex_8c36e_17 : decode cJ3_checkFromToIndex_8c36e 17 = .ok (.iload_n 2, 1) := by decide +kernel
theorem dJ3_checkFromToIndex_8c36e_18 : decode cJ3_checkFromToIndex_8c36e 18 = .ok (.invokestatic 99, 3) := by decide +kernel
theorem dJ3_checkFromToIndex_8c36e_21 : decode cJ3_checkFromToIndex_8c36e 21 = .ok (.athrow, 1) := by decide +kernel
theorem dJ3_checkFromToIndex_8c36e_22 : decode cJ3_checkFromToIndex_8c36e 22 = .ok (.iload_n 0, 1) := by decide +kernel
theorem dJ3_checkFromToIndex_8c36e_23 : decode cJ3_checkFromToIndex_8c36e 23 = .ok (.ireturn, 1) := by decide +kernel
theorem dX0_init_0 : decode cX0_init 0 = .ok (.aload_n 0, 1) := by decide +kernel
theorem dX0_init_1 : decode cX0_init 1 = .ok (.invokespecial 3, 3) := by decide +kernel
theorem dX0_init_4 : decode cX0_init 4 = .ok (.aload_n 0, 1) := by decide +kernel
theorem dX0_init_5 : decode cX0_init 5 = .ok (.iconst 0, 1) := by decide +kernel
theorem dX0_init_6 : decode cX0_init 6 = .ok (.putfield 9, 3) := by decide +kernel
theorem dX0_init_9 : decode cX0_init 9 = .ok (.aload_n 0, 1) := by decide +kernel
theorem dX0_init_10 : decode cX0_init 10 = .ok (.iconst 0, 1) := by decide +kernel
theorem dX0_init_11 : decode cX0_init 11 = .ok (.putfield 15, 3) := by decide +kernel
theorem dX0_init_14 : decode cX0_init 14 = .ok (.aload_n 0, 1) := by decide +kernel
theorem dX0_init_15 : decode cX0_init 15 = .ok (.iconst (-1), 1) := by decide +kernel
theorem dX0_init_16 : decode cX0_init 16 = .ok (.putfield 18, 3) := by decide +kernel
theorem dX0_init_19 : decode cX0_init 19 = .ok (.aload_n 0, 1) := by decide +kernel
theorem dX0_init_20 : decode cX0_init 20 = .ok (.iconst 0, 1) := by decide +kernel
theorem dX0_init_21 : decode cX0_init 21 = .ok (.putfield 21, 3) := by decide +kernel
theorem dX0_init_24 : decode cX0_init 24 = .ok (.aload_n 0, 1) := by decide +kernel
theorem dX0_init_25 : decode cX0_init 25 = .ok (.aload_n 1, 1) := by decide +kernel
theorem dX0_init_26 : decode cX0_init 26 = .ok (.putfield 24, 3) := by decide +kernel
theorem dX0_init_29 : decode cX0_init 29 = .ok (.return_, 1) := by decide +kernel
theorem dX0_start_0 : decode cX0_start 0 = .ok (.aload_n 0, 1) := by decide +kernel
theorem dX0_start_1 : decode cX0_start 1 = .ok (.iload_n 1, 1) := by decide +kernel
theorem dX0_start_2 : decode cX0_start 2 = .ok (.putfield 9, 3) := by decide +kernel
theorem dX0_start_5 : decode cX0_start 5 = .ok (.aload_n 0, 1) := by decide +kernel
theorem dX0_start_6 : decode cX0_start 6 = .ok (.iconst 0, 1) := by decide +kernel
theorem dX0_start_7 : decode cX0_start 7 = .ok (.putfield 15, 3) := by decide +kernel
theorem dX0_start_10 : decode cX0_start 10 = .ok (.aload_n 0, 1) := by decide +kernel
theorem dX0_start_11 : decode cX0_start 11 = .ok (.aload_n 0, 1) := by decide +kernel
theorem dX0_start_12 : decode cX0_start 12 = .ok (.getfield 24, 3) := by decide +kernel
theorem dX0_start_15 : decode cX0_start 15 = .ok (.iconst 0, 1) := by decide +kernel
theorem dX0_start_16 : decode cX0_start 16 = .ok (.invokevirtual 28, 3) := by decide +kernel
theorem dX0_start_19 : decode cX0_start 19 = .ok (.putfield 18, 3) := by decide +kernel
theorem dX0_start_22 : decode cX0_start 22 = .ok (.aload_n 0, 1) := by decide +kernel
theorem dX0_start_23 : decode cX0_start 23 = .ok (.iconst 0, 1) := by decide +kernel
theorem dX0_start_24 : decode cX0_start 24 = .ok (.putfield 21, 3) := by decide +kernel
theorem dX0_start_27 : decode cX0_start 27 = .ok (.return_, 1) := by decide +kernel
theorem dX0_fine_0 : decode cX0_fine 0 = .ok (.aload_n 0, 1) := by decide +kernel
theorem dX0_fine_1 : decode cX0_fine 1 = .ok (.getfield 21, 3) := by decide +kernel
theorem dX0_fine_4 : decode cX0_fine 4 = .ok (.ifCond .ne 7, 3) := by decide +kernel
theorem dX0_fine_7 : decode cX0_fine 7 = .ok (.iconst 1, 1) := by decide +kernel
theorem dX0_fine_8 : decode cX0_fine 8 = .ok (.goto 4, 3) := by decide +kernel
theorem dX0_fine_11 : decode cX0_fine 11 = .ok (.iconst 0, 1) := by decide +kernel
theorem dX0_fine_12 : decode cX0_fine 12 = .ok (.ireturn, 1) := by decide +kernel
theorem dX0_isDigit_0 : decode cX0_isDigit 0 = .ok (.aload_n 0, 1) := by decide +kernel
theorem dX0_isDigit_1 : decode cX0_isDigit 1 = .ok (.getfield 18, 3) := by decide +kernel
theorem dX0_isDigit_4 : decode cX0_isDigit 4 = .ok (.bipush 48, 2) := by decide +kernel
theorem dX0_isDigit_6 : decode cX0_isDigit 6 = .ok (.if_icmp .lt 16, 3) := by decide +kernel
theorem dX0_isDigit_9 : decode cX0_isDigit 9 = .ok (.aload_n 0, 1) := by decide +kernel
theorem dX0_isDigit_10 : decode cX0_isDigit 10 = .ok (.getfield 18, 3) := by decide +kernel
theorem dX0_isDigit_13 : decode cX0_isDigit 13 = .ok (.bipush 57, 2) := by decide +kernel
theorem dX0_isDigit_15 : decode cX0_isDigit 15 = .ok (.if_icmp .gt 7, 3) := by decide +kernel
theorem dX0_isDigit_18 : decode cX0_isDigit 18 = .ok (.iconst 1, 1) := by decide +kernel
theorem dX0_isDigit_19 : decode cX0_isDigit 19 = .ok (.goto 4, 3) := by decide +kernel
theorem dX0_isDigit_22 : decode cX0_isDigit 22 = .ok (.iconst 0, 1) := by decide +kernel
theorem dX0_isDigit_23 : decode cX0_isDigit 23 = .ok (.ireturn, 1) := by decide +kernel
theorem dX0_step_0 : decode cX0_step 0 = .ok (.aload_n 0, 1) := by decide +kernel
theorem dX0_step_1 : decode cX0_step 1 = .ok (.dup, 1) := by decide +kernel
theorem dX0_step_2 : decode cX0_step 2 = .ok (.getfield 15, 3) := by decide +kernel
theorem dX0_step_5 : decode cX0_step 5 = .ok (.iconst 1, 1) := by decide +kernel
theorem dX0_step_6 : decode cX0_step 6 = .ok (.iadd, 1) := by decide +kernel
theorem dX0_step_7 : decode cX0_step 7 = .ok (.putfield 15, 3) := by decide +kernel
theorem dX0_step_10 : decode cX0_step 10 = .ok (.aload_n 0, 1) := by decide +kernel
theorem dX0_step_11 : decode cX0_step 11 = .ok (.aload_n 0, 1) := by decide +kernel
theorem dX0_step_12 : decode cX0_step 12 = .ok (.getfield 15, 3) := by decide +kernel
theorem dX0_step_15 : decode cX0_step 15 = .ok (.aload_n 0, 1) := by decide +kernel
theorem dX0_step_16 : decode cX0_step 16 = .ok (.getfield 9, 3) := by decide +kernel
theorem dX0_step_19 : decode cX0_step 19 = .ok (.if_icmp .ge 17, 3) := by decide +kernel
theorem dX0_step_22 : decode cX0_step 22 = .ok (.aload_n 0, 1) := by decide +kernel
theorem dX0_step_23 : decode cX0_step 23 = .ok (.getfield 24, 3) := by decide +kernel
theorem dX0_step_26 : decode cX0_step 26 = .ok (.aload_n 0, 1) := by decide +kernel
theorem dX0_step_27 : decode cX0_step 27 = .ok (.getfield 15, 3) := by decide +kernel
theorem dX0_step_30 : decode cX0_step 30 = .ok (.invokevirtual 28, 3) := by decide +kernel
theorem dX0_step_33 : decode cX0_step 33 = .ok (.goto 4, 3) := by decide +kernel
theorem dX0_step_36 : decode cX0_step 36 = .ok (.iconst (-1), 1) := by decide +kernel
theorem dX0_step_37 : decode cX0_step 37 = .ok (.putfield 18, 3) := by decide +kernel
theorem dX0_step_40 : decode cX0_step 40 = .ok (.return_, 1) := by decide +kernel
theorem dX0_fail_0 : decode cX0_fail 0 = .ok (.aload_n 0, 1) := by decide +kernel
theorem dX0_fail_1 : decode cX0_fail 1 = .ok (.getfield 21, 3) := by decide +kernel
theorem dX0_fail_4 : decode cX0_fail 4 = .ok (.ifCond .ne 14, 3) := by decide +kernel
theorem dX0_fail_7 : decode cX0_fail 7 = .ok (.aload_n 0, 1) := by decide +kernel
theorem dX0_fail_8 : decode cX0_fail 8 = .ok (.sipush (-1000), 3) := by decide +kernel
theorem dX0_fail_11 : decode cX0_fail 11 = .ok (.iload_n 1, 1) := by decide +kernel
theorem dX0_fail_12 : decode cX0_fail 12 = .ok (.imul, 1) := by decide +kernel
theorem dX0_fail_13 : decode cX0_fail 13 = .ok (.iload_n 2, 1) := by decide +kernel
theorem dX0_fail_14 : decode cX0_fail 14 = .ok (.isub, 1) := by decide +kernel
theorem dX0_fail_15 : decode cX0_fail 15 = .ok (.putfield 21, 3) := by decide +kernel
theorem dX0_fail_18 : decode cX0_fail 18 = .ok (.return_, 1) := by decide +kernel
theorem dX0_failHere_0 : decode cX0_failHere 0 = .ok (.aload_n 0, 1) := by decide +kernel
theorem dX0_failHere_1 : decode cX0_failHere 1 = .ok (.iload_n 1, 1) := by decide +kernel
theorem dX0_failHere_2 : decode cX0_failHere 2 = .ok (.aload_n 0, 1) := by decide +kernel
theorem dX0_failHere_3 : decode cX0_failHere 3 = .ok (.getfield 15, 3) := by decide +kernel
theorem dX0_failHere_6 : decode cX0_failHere 6 = .ok (.invokevirtual 34, 3) := by decide +kernel
theorem dX0_failHere_9 : decode cX0_failHere 9 = .ok (.return_, 1) := by decide +kernel
theorem dX0_expect_0 : decode cX0_expect 0 = .ok (.aload_n 0, 1) := by decide +kernel
theorem dX0_expect_1 : decode cX0_expect 1 = .ok (.getfield 18, 3) := by decide +kernel
theorem dX0_expect_4 : decode cX0_expect 4 = .ok (.iload_n 1, 1) := by decide +kernel
theorem dX0_expect_5 : decode cX0_expect 5 = .ok (.if_icmp .ne 10, 3) := by decide +kernel
theorem dX0_expect_8 : decode cX0_expect 8 = .ok (.aload_n 0, 1) := by decide +kernel
theorem dX0_expect_9 : decode cX0_expect 9 = .ok (.invokevirtual 38, 3) := by decide +kernel
theorem dX0_expect_12 : decode cX0_expect 12 = .ok (.goto 8, 3) := by decide +kernel
theorem dX0_expect_15 : decode cX0_expect 15 = .ok (.aload_n 0, 1) := by decide +kernel
theorem dX0_expect_16 : decode cX0_expect 16 = .ok (.iconst 1, 1) := by decide +kernel
theorem dX0_expect_17 : decode cX0_expect 17 = .ok (.invokevirtual 41, 3) := by decide +kernel
theorem dX0_expect_20 : decode cX0_expect 20 = .ok (.return_, 1) := by decide +kernel
theorem dX0_passesSemicolon_0 : decode cX0_passesSemicolon 0 = .ok (.aload_n 0, 1) := by decide +kernel
theorem dX0_passesSemicolon_1 : decode cX0_passesSemicolon 1 = .ok (.invokevirtual 45, 3) := by decide +kernel
theorem dX0_passesSemicolon_4 : decode cX0_passesSemicolon 4 = .ok (.ifCond .eq 11, 3) := by decide +kernel
theorem dX0_passesSemicolon_7 : decode cX0_passesSemicolon 7 = .ok (.aload_n 0, 1) := by decide +kernel
theorem dX0_passesSemicolon_8 : decode cX0_passesSemicolon 8 = .ok (.getfield 18, 3) := by decide +kernel
theorem dX0_passesSemicolon_11 : decode cX0_passesSemicolon 11 = .ok (.iconst (-1), 1) := by decide +kernel
theorem dX0_passesSemicolon_12 : decode cX0_passesSemicolon 12 = .ok (.if_icmp .ne 5, 3) := by decide +kernel
theorem dX0_passesSemicolon_15 : decode cX0_passesSemicolon 15 = .ok (.iconst 0, 1) := by decide +kernel
theorem dX0_passesSemicolon_16 : decode cX0_passesSemicolon 16 = .ok (.ireturn, 1) := by decide +kernel
theorem dX0_passesSemicolon_17 : decode cX0_passesSemicolon 17 = .ok (.aload_n 0, 1) := by decide +kernel
theorem dX0_passesSemicolon_18 : decode cX0_passesSemicolon 18 = .ok (.bipush 59, 2) := by decide +kernel
theorem dX0_passesSemicolon_20 : decode cX0_passesSemicolon 20 = .ok (.invokevirtual 49, 3) := by decide +kernel
theorem dX0_passesSemicolon_23 : decode cX0_passesSemicolon 23 = .ok (.aload_n 0, 1) := by decide +kernel
theorem dX0_passesSemicolon_24 : decode cX0_passesSemicolon 24 = .ok (.invokevirtual 45, 3) := by decide +kernel
theorem dX0_passesSemicolon_27 : decode cX0_passesSemicolon 27 = .ok (.ireturn, 1) := by decide +kernel
theorem dX0_readNumber_0 : decode cX0_readNumber 0 = .ok (.aload_n 0, 1) := by decide +kernel
theorem dX0_readNumber_1 : decode cX0_readNumber 1 = .ok (.invokevirtual 52, 3) := by decide +kernel
theorem dX0_readNumber_4 : decode cX0_readNumber 4 = .ok (.ifCond .ne 8, 3) := by decide +kernel
theorem dX0_readNumber_7 : decode cX0_readNumber 7 = .ok (.aload_n 0, 1) := by decide +kernel
theorem dX0_readNumber_8 : decode cX0_readNumber 8 = .ok (.iconst 1, 1) := by decide +kernel
theorem dX0_readNumber_9 : decode cX0_readNumber 9 = .ok (.invokevirtual 41, 3) := by decide +kernel
theorem dX0_readNumber_12 : decode cX0_readNumber 12 = .ok (.iconst 0, 1) := by decide +kernel
theorem dX0_readNumber_13 : decode cX0_readNumber 13 = .ok (.istore_n 2, 1) := by decide +kernel
theorem dX0_readNumber_14 : decode cX0_readNumber 14 = .ok (.iconst 0, 1) := by decide +kernel
theorem dX0_readNumber_15 : decode cX0_readNumber 15 = .ok (.istore_n 3, 1) := by decide +kernel
theorem dX0_readNumber_16 : decode cX0_readNumber 16 = .ok (.iload_n 3, 1) := by decide +kernel
theorem dX0_readNumber_17 : decode cX0_readNumber 17 = .ok (.iload_n 1, 1) := by decide +kernel
theorem dX0_readNumber_18 : decode cX0_readNumber 18 = .ok (.if_icmp .gt 53, 3) := by decide +kernel
theorem dX0_readNumber_21 : decode cX0_readNumber 21 = .ok (.aload_n 0, 1) := by decide +kernel
theorem dX0_readNumber_22 : decode cX0_readNumber 22 = .ok (.invokevirtual 45, 3) := by decide +kernel
theorem dX0_readNumber_25 : decode cX0_readNumber 25 = .ok (.ifCond .eq 46, 3) := by decide +kernel
theorem dX0_readNumber_28 : decode cX0_readNumber 28 = .ok (.aload_n 0, 1) := by decide +kernel
theorem dX0_readNumber_29 : decode cX0_readNumber 29 = .ok (.invokevirtual 52, 3) := by decide +kernel
theorem dX0_readNumber_32 : decode cX0_readNumber 32 = .ok (.ifCond .eq 39, 3) := by decide +kernel
theorem dX0_readNumber_35 : decode cX0_readNumber 35 = .ok (.iload_n 3, 1) := by decide +kernel
theorem dX0_readNumber_36 : decode cX0_readNumber 36 = .ok (.iload_n 1, 1) := by decide +kernel
theorem dX0_readNumber_37 : decode cX0_readNumber 37 = .ok (.if_icmp .ne 11, 3) := by decide +kernel
theorem dX0_readNumber_40 : decode cX0_readNumber 40 = .ok (.aload_n 0, 1) := by decide +kernel
theorem dX0_readNumber_41 : decode cX0_readNumber 41 = .ok (.iconst 2, 1) := by decide +kernel
theorem dX0_readNumber_42 : decode cX0_readNumber 42 = .ok (.invokevirtual 41, 3) := by decide +kernel
theorem dX0_readNumber_45 : decode cX0_readNumber 45 = .ok (.goto 20, 3) := by decide +kernel
theorem dX0_readNumber_48 : decode cX0_readNumber 48 = .ok (.bipush 10, 2) := by decide +kernel
theorem dX0_readNumber_50 : decode cX0_readNumber 50 = .ok (.iload_n 2, 1) := by decide +kernel
theorem dX0_readNumber_51 : decode cX0_readNumber 51 = .ok (.imul, 1) := by decide +kernel
theorem dX0_readNumber_52 : decode cX0_readNumber 52 = .ok (.aload_n 0, 1) := by decide +kernel
theorem dX0_readNumber_53 : decode cX0_readNumber 53 = .ok (.getfield 18, 3) := by decide +kernel
theorem dX0_readNumber_56 : decode cX0_readNumber 56 = .ok (.iadd, 1) := by decide +kernel
theorem dX0_readNumber_57 : decode cX0_readNumber 57 = .ok (.bipush 48, 2) := by decide +kernel
theorem dX0_readNumber_59 : decode cX0_readNumber 59 = .ok (.isub, 1) := by decide +kernel
theorem dX0_readNumber_60 : decode cX0_readNumber 60 = .ok (.istore_n 2, 1) := by decide +kernel
theorem dX0_readNumber_61 : decode cX0_readNumber 61 = .ok (.aload_n 0, 1) := by decide +kernel
theorem dX0_readNumber_62 : decode cX0_readNumber 62 = .ok (.invokevirtual 38, 3) := by decide +kernel
theorem dX0_readNumber_65 : decode cX0_readNumber 65 = .ok (.iinc 3 1, 3) := by decide +kernel
theorem dX0_readNumber_68 : decode cX0_readNumber 68 = .ok (.goto (-52), 3) := by decide +kernel
theorem dX0_readNumber_71 : decode cX0_readNumber 71 = .ok (.iload_n 2, 1) := by decide +kernel
theorem dX0_readNumber_72 : decode cX0_readNumber 72 = .ok (.ireturn, 1) := by decide +kernel
theorem dX1_init_0 : decode cX1_init 0 = .ok (.aload_n 0, 1) := by decide +kernel
theorem dX1_init_1 : decode cX1_init 1 = .ok (.invokespecial 3, 3) := by decide +kernel
theorem dX1_init_4 : decode cX1_init 4 = .ok (.aload_n 0, 1) := by decide +kernel
theorem dX1_init_5 : decode cX1_init 5 = .ok (.bipush 12, 2) := by decide +kernel
theorem dX1_init_7 : decode cX1_init 7 = .ok (.newarray .int, 2) := by decide +kernel
theorem dX1_init_9 : decode cX1_init 9 = .ok (.putfield 11, 3) := by decide +kernel
theorem dX1_init_12 : decode cX1_init 12 = .ok (.aload_n 0, 1) := by decide +kernel
theorem dX1_init_13 : decode cX1_init 13 = .ok (.sipush 256, 3) := by decide +kernel
theorem dX1_init_16 : decode cX1_init 16 = .ok (.newarray .int, 2) := by decide +kernel
theorem dX1_init_18 : decode cX1_init 18 = .ok (.putfield 15, 3) := by decide +kernel
theorem dX1_init_21 : decode cX1_init 21 = .ok (.aload_n 0, 1) := by decide +kernel
theorem dX1_init_22 : decode cX1_init 22 = .ok (.bipush 13, 2) := by decide +kernel
theorem dX1_init_24 : decode cX1_init 24 = .ok (.newarray .long, 2) := by decide +kernel
theorem dX1_init_26 : decode cX1_init 26 = .ok (.putfield 18, 3) := by decide +kernel
theorem dX1_init_29 : decode cX1_init 29 = .ok (.aload_n 0, 1) := by decide +kernel
theorem dX1_init_30 : decode cX1_init 30 = .ok (.aload_n 1, 1) := by decide +kernel
theorem dX1_init_31 : decode cX1_init 31 = .ok (.putfield 22, 3) := by decide +kernel
theorem dX1_init_34 : decode cX1_init 34 = .ok (.return_, 1) := by decide +kernel
theorem dX1_possibleCracks_0 : decode cX1_possibleCracks 0 = .ok (.iconst 0, 1) := by decide +kernel
theorem dX1_possibleCracks_1 : decode cX1_possibleCracks 1 = .ok (.istore_n 2, 1) := by decide +kernel
theorem dX1_possibleCracks_2 : decode cX1_possibleCracks 2 = .ok (.iconst 0, 1) := by decide +kernel
theorem dX1_possibleCracks_3 : decode cX1_possibleCracks 3 = .ok (.istore_n 3, 1) := by decide +kernel
theorem dX1_possibleCracks_4 : decode cX1_possibleCracks 4 = .ok (.iload_n 3, 1) := by decide +kernel
theorem dX1_possibleCracks_5 : decode cX1_possibleCracks 5 = .ok (.bipush 12, 2) := by decide +kernel
theorem dX1_possibleCracks_7 : decode cX1_possibleCracks 7 = .ok (.if_icmp .gt 15, 3) := by decide +kernel
theorem dX1_possibleCracks_10 : decode cX1_possibleCracks 10 = .ok (.iload_n 2, 1) := by decide +kernel
theorem dX1_possibleCracks_11 : decode cX1_possibleCracks 11 = .ok (.iconst 1, 1) := by decide +kernel
theorem dX1_possibleCracks_12 : decode cX1_possibleCracks 12 = .ok (.iload_n 3, 1) := by decide +kernel
theorem dX1_possibleCracks_13 : decode cX1_possibleCracks 13 = .ok (.ishl, 1) := by decide +kernel
theorem dX1_possibleCracks_14 : decode cX1_possibleCracks 14 = .ok (.ior, 1) := by decide +kernel
theorem dX1_possibleCracks_15 : decode cX1_possibleCracks 15 = .ok (.istore_n 2, 1) := by decide +kernel
theorem dX1_possibleCracks_16 : decode cX1_possibleCracks 16 = .ok (.iinc 3 1, 3) := by decide +kernel
theorem dX1_possibleCracks_19 : decode cX1_possibleCracks 19 = .ok (.goto (-15), 3) := by decide +kernel
theorem dX1_possibleCracks_22 : decode cX1_possibleCracks 22 = .ok (.iconst 0, 1) := by decide +kernel
theorem dX1_possibleCracks_23 : decode cX1_possibleCracks 23 = .ok (.istore_n 3, 1) := by decide +kernel
theorem dX1_possibleCracks_24 : decode cX1_possibleCracks 24 = .ok (.iload_n 3, 1) := by decide +kernel
theorem dX1_possibleCracks_25 : decode cX1_possibleCracks 25 = .ok (.iload_n 1, 1) := by decide +kernel
theorem dX1_possibleCracks_26 : decode cX1_possibleCracks 26 = .ok (.if_icmp .ge 78, 3) := by decide +kernel
theorem dX1_possibleCracks_29 : decode cX1_possibleCracks 29 = .ok (.aload_n 0, 1) := by decide +kernel
theorem dX1_possibleCracks_30 : decode cX1_possibleCracks 30 = .ok (.getfield 22, 3) := by decide +kernel
theorem dX1_possibleCracks_33 : decode cX1_possibleCracks 33 = .ok (.iconst 2, 1) := by decide +kernel
theorem dX1_possibleCracks_34 : decode cX1_possibleCracks 34 = .ok (.iload_n 3, 1) := by decide +kernel
theorem dX1_possibleCracks_35 : decode cX1_possibleCracks 35 = .ok (.imul, 1) := by decide +kernel
theorem dX1_possibleCracks_36 : decode cX1_possibleCracks 36 = .ok (.invokevirtual 26, 3) := by decide +kernel
theorem dX1_possibleCracks_39 : decode cX1_possibleCracks 39 = .ok (.istore 4, 2) := by decide +kernel
theorem dX1_possibleCracks_41 : decode cX1_possibleCracks 41 = .ok (.aload_n 0, 1) := by decide +kernel
theorem dX1_possibleCracks_42 : decode cX1_possibleCracks 42 = .ok (.getfield 22, 3) := by decide +kernel
theorem dX1_possibleCracks_45 : decode cX1_possibleCracks 45 = .ok (.iconst 2, 1) := by decide +kernel
theorem dX1_possibleCracks_46 : decode cX1_possibleCracks 46 = .ok (.iload_n 3, 1) := by decide +kernel
theorem dX1_possibleCracks_47 : decode cX1_possibleCracks 47 = .ok (.imul, 1) := by decide +kernel
theorem dX1_possibleCracks_48 : decode cX1_possibleCracks 48 = .ok (.iconst 1, 1) := by decide +kernel
theorem dX1_possibleCracks_49 : decode cX1_possibleCracks 49 = .ok (.iadd, 1) := by decide +kernel
theorem dX1_possibleCracks_50 : decode cX1_possibleCracks 50 = .ok (.invokevirtual 26, 3) := by decide +kernel
theorem dX1_possibleCracks_53 : decode cX1_possibleCracks 53 = .ok (.istore 5, 2) := by decide +kernel
theorem dX1_possibleCracks_55 : decode cX1_possibleCracks 55 = .ok (.iload 4, 2) := by decide +kernel
theorem dX1_possibleCracks_57 : decode cX1_possibleCracks 57 = .ok (.invokestatic 32, 3) := by decide +kernel
theorem dX1_possibleCracks_60 : decode cX1_possibleCracks 60 = .ok (.ifCond .eq 9, 3) := by decide +kernel
theorem dX1_possibleCracks_63 : decode cX1_possibleCracks 63 = .ok (.iload 5, 2) := by decide +kernel
theorem dX1_possibleCracks_65 : decode cX1_possibleCracks 65 = .ok (.iconst 1, 1) := by decide +kernel
theorem dX1_possibleCracks_66 : decode cX1_possibleCracks 66 = .ok (.if_icmp .le 6, 3) := by decide +kernel
theorem dX1_possibleCracks_69 : decode cX1_possibleCracks 69 = .ok (.bipush (-3), 2) := by decide +kernel
theorem dX1_possibleCracks_71 : decode cX1_possibleCracks 71 = .ok (.ireturn, 1) := by decide +kernel
theorem dX1_possibleCracks_72 : decode cX1_possibleCracks 72 = .ok (.iconst 2, 1) := by decide +kernel
theorem dX1_possibleCracks_73 : decode cX1_possibleCracks 73 = .ok (.iload 4, 2) := by decide +kernel
theorem dX1_possibleCracks_75 : decode cX1_possibleCracks 75 = .ok (.ishl, 1) := by decide +kernel
theorem dX1_possibleCracks_76 : decode cX1_possibleCracks 76 = .ok (.iconst 1, 1) := by decide +kernel
theorem dX1_possibleCracks_77 : decode cX1_possibleCracks 77 = .ok (.isub, 1) := by decide +kernel
theorem dX1_possibleCracks_78 : decode cX1_possibleCracks 78 = .ok (.istore 6, 2) := by decide +kernel
theorem dX1_possibleCracks_80 : decode cX1_possibleCracks 80 = .ok (.iload_n 2, 1) := by decide +kernel
theorem dX1_possibleCracks_81 : decode cX1_possibleCracks 81 = .ok (.iload 5, 2) := by decide +kernel
theorem dX1_possibleCracks_83 : decode cX1_possibleCracks 83 = .ok (.iconst 1, 1) := by decide +kernel
theorem dX1_possibleCracks_84 : decode cX1_possibleCracks 84 = .ok (.if_icmp .ne 8, 3) := by decide +kernel
theorem dX1_possibleCracks_87 : decode cX1_possibleCracks 87 = .ok (.iload 6, 2) := by decide +kernel
theorem dX1_possibleCracks_89 : decode cX1_possibleCracks 89 = .ok (.goto 7, 3) := by decide +kernel
theorem dX1_possibleCracks_92 : decode cX1_possibleCracks 92 = .ok (.iload 6, 2) := by decide +kernel
theorem dX1_possibleCracks_94 : decode cX1_possibleCracks 94 = .ok (.iconst (-1), 1) := by decide +kernel
theorem dX1_possibleCracks_95 : decode cX1_possibleCracks 95 = .ok (.ixor, 1) := by decide +kernel
theorem dX1_possibleCracks_96 : decode cX1_possibleCracks 96 = .ok (.iand, 1) := by decide +kernel
theorem dX1_possibleCracks_97 : decode cX1_possibleCracks 97 = .ok (.istore_n 2, 1) := by decide +kernel
theorem dX1_possibleCracks_98 : decode cX1_possibleCracks 98 = .ok (.iinc 3 1, 3) := by decide +kernel
theorem dX1_possibleCracks_101 : decode cX1_possibleCracks 101 = .ok (.goto (-77), 3) := by decide +kernel
theorem dX1_possibleCracks_104 : decode cX1_possibleCracks 104 = .ok (.iload_n 2, 1) := by decide +kernel
theorem dX1_possibleCracks_105 : decode cX1_possibleCracks 105 = .ok (.ireturn, 1) := by decide +kernel
theorem dX1_firstShare_0 : decode cX1_firstShare 0 = .ok (.iconst 0, 1) := by decide +kernel
theorem dX1_firstShare_1 : decode cX1_firstShare 1 = .ok (.istore_n 2, 1) := by decide +kernel
theorem dX1_firstShare_2 : decode cX1_firstShare 2 = .ok (.iconst 0, 1) := by decide +kernel
theorem dX1_firstShare_3 : decode cX1_firstShare 3 = .ok (.istore_n 3, 1) := by decide +kernel
theorem dX1_firstShare_4 : decode cX1_firstShare 4 = .ok (.iload_n 3, 1) := by decide +kernel
theorem dX1_firstShare_5 : decode cX1_firstShare 5 = .ok (.iload_n 1, 1) := by decide +kernel
theorem dX1_firstShare_6 : decode cX1_firstShare 6 = .ok (.if_icmp .ge 38, 3) := by decide +kernel
theorem dX1_firstShare_9 : decode cX1_firstShare 9 = .ok (.iload_n 3, 1) := by decide +kernel
theorem dX1_firstShare_10 : decode cX1_firstShare 10 = .ok (.bipush 12, 2) := by decide +kernel
theorem dX1_firstShare_12 : decode cX1_firstShare 12 = .ok (.if_icmp .ge 32, 3) := by decide +kernel
theorem dX1_firstShare_15 : decode cX1_firstShare 15 = .ok (.aload_n 0, 1) := by decide +kernel
theorem dX1_firstShare_16 : decode cX1_firstShare 16 = .ok (.getfield 11, 3) := by decide +kernel
theorem dX1_firstShare_19 : decode cX1_firstShare 19 = .ok (.iload_n 3, 1) := by decide +kernel
theorem dX1_firstShare_20 : decode cX1_firstShare 20 = .ok (.aload_n 0, 1) := by decide +kernel
theorem dX1_firstShare_21 : decode cX1_firstShare 21 = .ok (.getfield 22, 3) := by decide +kernel
theorem dX1_firstShare_24 : decode cX1_firstShare 24 = .ok (.iload_n 3, 1) := by decide +kernel
theorem dX1_firstShare_25 : decode cX1_firstShare 25 = .ok (.invokevirtual 26, 3) := by decide +kernel
theorem dX1_firstShare_28 : decode cX1_firstShare 28 = .ok (.iastore, 1) := by decide +kernel
theorem dX1_firstShare_29 : decode cX1_firstShare 29 = .ok (.iload_n 2, 1) := by decide +kernel
theorem dX1_firstShare_30 : decode cX1_firstShare 30 = .ok (.aload_n 0, 1) := by decide +kernel
theorem dX1_firstShare_31 : decode cX1_firstShare 31 = .ok (.getfield 11, 3) := by decide +kernel
theorem dX1_firstShare_34 : decode cX1_firstShare 34 = .ok (.iload_n 3, 1) := by decide +kernel
theorem dX1_firstShare_35 : decode cX1_firstShare 35 = .ok (.iaload, 1) := by decide +kernel
theorem dX1_firstShare_36 : decode cX1_firstShare 36 = .ok (.iadd, 1) := by decide +kernel
theorem dX1_firstShare_37 : decode cX1_firstShare 37 = .ok (.istore_n 2, 1) := by decide +kernel
theorem dX1_firstShare_38 : decode cX1_firstShare 38 = .ok (.iinc 3 1, 3) := by decide +kernel
theorem dX1_firstShare_41 : decode cX1_firstShare 41 = .ok (.goto (-37), 3) := by decide +kernel
theorem dX1_firstShare_44 : decode cX1_firstShare 44 = .ok (.iconst 2, 1) := by decide +kernel
theorem dX1_firstShare_45 : decode cX1_firstShare 45 = .ok (.istore_n 3, 1) := by decide +kernel
theorem dX1_firstShare_46 : decode cX1_firstShare 46 = .ok (.iload_n 3, 1) := by decide +kernel
theorem dX1_firstShare_47 : decode cX1_firstShare 47 = .ok (.iload_n 1, 1) := by decide +kernel
theorem dX1_firstShare_48 : decode cX1_firstShare 48 = .ok (.if_icmp .gt 93, 3) := by decide +kernel
theorem dX1_firstShare_51 : decode cX1_firstShare 51 = .ok (.iconst 0, 1) := by decide +kernel
theorem dX1_firstShare_52 : decode cX1_firstShare 52 = .ok (.istore 4, 2) := by decide +kernel
theorem dX1_firstShare_54 : decode cX1_firstShare 54 = .ok (.iload 4, 2) := by decide +kernel
theorem dX1_firstShare_56 : decode cX1_firstShare 56 = .ok (.iload_n 3, 1) := by decide +kernel
theorem dX1_firstShare_57 : decode cX1_firstShare 57 = .ok (.iadd, 1) := by decide +kernel
theorem dX1_firstShare_58 : decode cX1_firstShare 58 = .ok (.iload_n 1, 1) := by decide +kernel
theorem dX1_firstShare_59 : decode cX1_firstShare 59 = .ok (.if_icmp .gt 76, 3) := by decide +kernel
theorem dX1_firstShare_62 : decode cX1_firstShare 62 = .ok (.iload 4, 2) := by decide +kernel
theorem dX1_firstShare_64 : decode cX1_firstShare 64 = .ok (.iconst 1, 1) := by decide +kernel
theorem dX1_firstShare_65 : decode cX1_firstShare 65 = .ok (.iadd, 1) := by decide +kernel
theorem dX1_firstShare_66 : decode cX1_firstShare 66 = .ok (.bipush 12, 2) := by decide +kernel
theorem dX1_firstShare_68 : decode cX1_firstShare 68 = .ok (.if_icmp .ge 67, 3) := by decide +kernel
theorem dX1_firstShare_71 : decode cX1_firstShare 71 = .ok (.aload_n 0, 1) := by decide +kernel
theorem dX1_firstShare_72 : decode cX1_firstShare 72 = .ok (.getfield 22, 3) := by decide +kernel
theorem dX1_firstShare_75 : decode cX1_firstShare 75 = .ok (.iload 4, 2) := by decide +kernel
theorem dX1_firstShare_77 : decode cX1_firstShare 77 = .ok (.invokevirtual 26, 3) := by decide +kernel
theorem dX1_firstShare_80 : decode cX1_firstShare 80 = .ok (.aload_n 0, 1) := by decide +kernel
theorem dX1_firstShare_81 : decode cX1_firstShare 81 = .ok (.getfield 11, 3) := by decide +kernel
theorem dX1_firstShare_84 : decode cX1_firstShare 84 = .ok (.iload 4, 2) := by decide +kernel
theorem dX1_firstShare_86 : decode cX1_firstShare 86 = .ok (.iconst 1, 1) := by decide +kernel
theorem dX1_firstShare_87 : decode cX1_firstShare 87 = .ok (.iadd, 1) := by decide +kernel
theorem dX1_firstShare_88 : decode cX1_firstShare 88 = .ok (.iaload, 1) := by decide +kernel
theorem dX1_firstShare_89 : decode cX1_firstShare 89 = .ok (.isub, 1) := by decide +kernel
theorem dX1_firstShare_90 : decode cX1_firstShare 90 = .ok (.istore 5, 2) := by decide +kernel
theorem dX1_firstShare_92 : decode cX1_firstShare 92 = .ok (.aload_n 0, 1) := by decide +kernel
theorem dX1_firstShare_93 : decode cX1_firstShare 93 = .ok (.getfield 22, 3) := by decide +kernel
theorem dX1_firstShare_96 : decode cX1_firstShare 96 = .ok (.iload 4, 2) := by decide +kernel
theorem dX1_firstShare_98 : decode cX1_firstShare 98 = .ok (.iload_n 3, 1) := by decide +kernel
theorem dX1_firstShare_99 : decode cX1_firstShare 99 = .ok (.iadd, 1) := by decide +kernel
theorem dX1_firstShare_100 : decode cX1_firstShare 100 = .ok (.iconst 1, 1) := by decide +kernel
theorem dX1_firstShare_101 : decode cX1_firstShare 101 = .ok (.isub, 1) := by decide +kernel
theorem dX1_firstShare_102 : decode cX1_firstShare 102 = .ok (.invokevirtual 26, 3) := by decide +kernel
theorem dX1_firstShare_105 : decode cX1_firstShare 105 = .ok (.aload_n 0, 1) := by decide +kernel
theorem dX1_firstShare_106 : decode cX1_firstShare 106 = .ok (.getfield 11, 3) := by decide +kernel
theorem dX1_firstShare_109 : decode cX1_firstShare 109 = .ok (.iload 4, 2) := by decide +kernel
theorem dX1_firstShare_111 : decode cX1_firstShare 111 = .ok (.iaload, 1) := by decide +kernel
theorem dX1_firstShare_112 : decode cX1_firstShare 112 = .ok (.isub, 1) := by decide +kernel
theorem dX1_firstShare_113 : decode cX1_firstShare 113 = .ok (.istore 6, 2) := by decide +kernel
theorem dX1_firstShare_115 : decode cX1_firstShare 115 = .ok (.aload_n 0, 1) := by decide +kernel
theorem dX1_firstShare_116 : decode cX1_firstShare 116 = .ok (.getfield 11, 3) := by decide +kernel
theorem dX1_firstShare_119 : decode cX1_firstShare 119 = .ok (.iload 4, 2) := by decide +kernel
theorem dX1_firstShare_121 : decode cX1_firstShare 121 = .ok (.iload 5, 2) := by decide +kernel
theorem dX1_firstShare_123 : decode cX1_firstShare 123 = .ok (.iload 6, 2) := by decide +kernel
theorem dX1_firstShare_125 : decode cX1_firstShare 125 = .ok (.invokestatic 36, 3) := by decide +kernel
theorem dX1_firstShare_128 : decode cX1_firstShare 128 = .ok (.iastore, 1) := by decide +kernel
theorem dX1_firstShare_129 : decode cX1_firstShare 129 = .ok (.iinc 4 1, 3) := by decide +kernel
theorem dX1_firstShare_132 : decode cX1_firstShare 132 = .ok (.goto (-78), 3) := by decide +kernel
theorem dX1_firstShare_135 : decode cX1_firstShare 135 = .ok (.iinc 3 1, 3) := by decide +kernel
theorem dX1_firstShare_138 : decode cX1_firstShare 138 = .ok (.goto (-92), 3) := by decide +kernel
theorem dX1_firstShare_141 : decode cX1_firstShare 141 = .ok (.iload_n 2, 1) := by decide +kernel
theorem dX1_firstShare_142 : decode cX1_firstShare 142 = .ok (.aload_n 0, 1) := by decide +kernel
theorem dX1_firstShare_143 : decode cX1_firstShare 143 = .ok (.getfield 11, 3) := by decide +kernel
theorem dX1_firstShare_146 : decode cX1_firstShare 146 = .ok (.iconst 0, 1) := by decide +kernel
theorem dX1_firstShare_147 : decode cX1_firstShare 147 = .ok (.iaload, 1) := by decide +kernel
theorem dX1_firstShare_148 : decode cX1_firstShare 148 = .ok (.iadd, 1) := by decide +kernel
theorem dX1_firstShare_149 : decode cX1_firstShare 149 = .ok (.iconst 2, 1) := by decide +kernel
theorem dX1_firstShare_150 : decode cX1_firstShare 150 = .ok (.idiv, 1) := by decide +kernel
theorem dX1_firstShare_151 : decode cX1_firstShare 151 = .ok (.ireturn, 1) := by decide +kernel
theorem dX1_worth_0 : decode cX1_worth 0 = .ok (.aload_n 0, 1) := by decide +kernel
theorem dX1_worth_1 : decode cX1_worth 1 = .ok (.getfield 22, 3) := by decide +kernel
theorem dX1_worth_4 : decode cX1_worth 4 = .ok (.iload_n 1, 1) := by decide +kernel
theorem dX1_worth_5 : decode cX1_worth 5 = .ok (.iload_n 2, 1) := by decide +kernel
theorem dX1_worth_6 : decode cX1_worth 6 = .ok (.imul, 1) := by decide +kernel
theorem dX1_worth_7 : decode cX1_worth 7 = .ok (.iload_n 3, 1) := by decide +kernel
theorem dX1_worth_8 : decode cX1_worth 8 = .ok (.iadd, 1) := by decide +kernel
theorem dX1_worth_9 : decode cX1_worth 9 = .ok (.invokevirtual 26, 3) := by decide +kernel
theorem dX1_worth_12 : decode cX1_worth 12 = .ok (.ireturn, 1) := by decide +kernel
theorem dX1_wouldSwap_0 : decode cX1_wouldSwap 0 = .ok (.aload_n 0, 1) := by decide +kernel
theorem dX1_wouldSwap_1 : decode cX1_wouldSwap 1 = .ok (.iload_n 1, 1) := by decide +kernel
theorem dX1_wouldSwap_2 : decode cX1_wouldSwap 2 = .ok (.iload_n 2, 1) := by decide +kernel
theorem dX1_wouldSwap_3 : decode cX1_wouldSwap 3 = .ok (.iload_n 3, 1) := by decide +kernel
theorem dX1_wouldSwap_4 : decode cX1_wouldSwap 4 = .ok (.invokevirtual 42, 3) := by decide +kernel
theorem dX1_wouldSwap_7 : decode cX1_wouldSwap 7 = .ok (.aload_n 0, 1) := by decide +kernel
theorem dX1_wouldSwap_8 : decode cX1_wouldSwap 8 = .ok (.iload_n 1, 1) := by decide +kernel
theorem dX1_wouldSwap_9 : decode cX1_wouldSwap 9 = .ok (.iload_n 2, 1) := by decide +kernel
theorem dX1_wouldSwap_10 : decode cX1_wouldSwap 10 = .ok (.iload_n 2, 1) := by decide +kernel
theorem dX1_wouldSwap_11 : decode cX1_wouldSwap 11 = .ok (.invokevirtual 42, 3) := by decide +kernel
theorem dX1_wouldSwap_14 : decode cX1_wouldSwap 14 = .ok (.if_icmp .le 24, 3) := by decide +kernel
theorem dX1_wouldSwap_17 : decode cX1_wouldSwap 17 = .ok (.aload_n 0, 1) := by decide +kernel
theorem dX1_wouldSwap_18 : decode cX1_wouldSwap 18 = .ok (.iload_n 1, 1) := by decide +kernel
theorem dX1_wouldSwap_19 : decode cX1_wouldSwap 19 = .ok (.iload_n 3, 1) := by decide +kernel
theorem dX1_wouldSwap_20 : decode cX1_wouldSwap 20 = .ok (.iload_n 2, 1) := by decide +kernel
theorem dX1_wouldSwap_21 : decode cX1_wouldSwap 21 = .ok (.invokevirtual 42, 3) := by decide +kernel
theorem dX1_wouldSwap_24 : decode cX1_wouldSwap 24 = .ok (.aload_n 0, 1) := by decide +kernel
theorem dX1_wouldSwap_25 : decode cX1_wouldSwap 25 = .ok (.iload_n 1, 1) := by decide +kernel
theorem dX1_wouldSwap_26 : decode cX1_wouldSwap 26 = .ok (.iload_n 3, 1) := by decide +kernel
theorem dX1_wouldSwap_27 : decode cX1_wouldSwap 27 = .ok (.iload_n 3, 1) := by decide +kernel
theorem dX1_wouldSwap_28 : decode cX1_wouldSwap 28 = .ok (.invokevirtual 42, 3) := by decide +kernel
theorem dX1_wouldSwap_31 : decode cX1_wouldSwap 31 = .ok (.if_icmp .le 7, 3) := by decide +kernel
theorem dX1_wouldSwap_34 : decode cX1_wouldSwap 34 = .ok (.iconst 1, 1) := by decide +kernel
theorem dX1_wouldSwap_35 : decode cX1_wouldSwap 35 = .ok (.goto 4, 3) := by decide +kernel
theorem dX1_wouldSwap_38 : decode cX1_wouldSwap 38 = .ok (.iconst 0, 1) := by decide +kernel
theorem dX1_wouldSwap_39 : decode cX1_wouldSwap 39 = .ok (.ireturn, 1) := by decide +kernel
theorem dX1_willingTwos_0 : decode cX1_willingTwos 0 = .ok (.iconst 0, 1) := by decide +kernel
theorem dX1_willingTwos_1 : decode cX1_willingTwos 1 = .ok (.istore_n 2, 1) := by decide +kernel
theorem dX1_willingTwos_2 : decode cX1_willingTwos 2 = .ok (.iconst 0, 1) := by decide +kernel
theorem dX1_willingTwos_3 : decode cX1_willingTwos 3 = .ok (.istore_n 3, 1) := by decide +kernel
theorem dX1_willingTwos_4 : decode cX1_willingTwos 4 = .ok (.iload_n 3, 1) := by decide +kernel
theorem dX1_willingTwos_5 : decode cX1_willingTwos 5 = .ok (.iload_n 1, 1) := by decide +kernel
theorem dX1_willingTwos_6 : decode cX1_willingTwos 6 = .ok (.if_icmp .ge 40, 3) := by decide +kernel
theorem dX1_willingTwos_9 : decode cX1_willingTwos 9 = .ok (.iload_n 3, 1) := by decide +kernel
theorem dX1_willingTwos_10 : decode cX1_willingTwos 10 = .ok (.iconst 1, 1) := by decide +kernel
theorem dX1_willingTwos_11 : decode cX1_willingTwos 11 = .ok (.iadd, 1) := by decide +kernel
theorem dX1_willingTwos_12 : decode cX1_willingTwos 12 = .ok (.istore 4, 2) := by decide +kernel
theorem dX1_willingTwos_14 : decode cX1_willingTwos 14 = .ok (.iload 4, 2) := by decide +kernel
theorem dX1_willingTwos_16 : decode cX1_willingTwos 16 = .ok (.iload_n 1, 1) := by decide +kernel
theorem dX1_willingTwos_17 : decode cX1_willingTwos 17 = .ok (.if_icmp .ge 23, 3) := by decide +kernel
theorem dX1_willingTwos_20 : decode cX1_willingTwos 20 = .ok (.aload_n 0, 1) := by decide +kernel
theorem dX1_willingTwos_21 : decode cX1_willingTwos 21 = .ok (.iload_n 1, 1) := by decide +kernel
theorem dX1_willingTwos_22 : decode cX1_willingTwos 22 = .ok (.iload_n 3, 1) := by decide +kernel
theorem dX1_willingTwos_23 : decode cX1_willingTwos 23 = .ok (.iload 4, 2) := by decide +kernel
theorem dX1_willingTwos_25 : decode cX1_willingTwos 25 = .ok (.invokevirtual 46, 3) := by decide +kernel
theorem dX1_willingTwos_28 : decode cX1_willingTwos 28 = .ok (.ifCond .eq 6, 3) := by decide +kernel
theorem dX1_willingTwos_31 : decode cX1_willingTwos 31 = .ok (.iinc 2 1, 3) := by decide +kernel
theorem dX1_willingTwos_34 : decode cX1_willingTwos 34 = .ok (.iinc 4 1, 3) := by decide +kernel
theorem dX1_willingTwos_37 : decode cX1_willingTwos 37 = .ok (.goto (-23), 3) := by decide +kernel
theorem dX1_willingTwos_40 : decode cX1_willingTwos 40 = .ok (.iinc 3 1, 3) := by decide +kernel
theorem dX1_willingTwos_43 : decode cX1_willingTwos 43 = .ok (.goto (-39), 3) := by decide +kernel
theorem dX1_willingTwos_46 : decode cX1_willingTwos 46 = .ok (.iload_n 2, 1) := by decide +kernel
theorem dX1_willingTwos_47 : decode cX1_willingTwos 47 = .ok (.ireturn, 1) := by decide +kernel
theorem dX1_mostSwapsAtOnce_0 : decode cX1_mostSwapsAtOnce 0 = .ok (.aload_n 0, 1) := by decide +kernel
theorem dX1_mostSwapsAtOnce_1 : decode cX1_mostSwapsAtOnce 1 = .ok (.getfield 15, 3) := by decide +kernel
theorem dX1_mostSwapsAtOnce_4 : decode cX1_mostSwapsAtOnce 4 = .ok (.iconst 0, 1) := by decide +kernel
theorem dX1_mostSwapsAtOnce_5 : decode cX1_mostSwapsAtOnce 5 = .ok (.iconst 0, 1) := by decide +kernel
theorem dX1_mostSwapsAtOnce_6 : decode cX1_mostSwapsAtOnce 6 = .ok (.iastore, 1) := by decide +kernel
theorem dX1_mostSwapsAtOnce_7 : decode cX1_mostSwapsAtOnce 7 = .ok (.iconst 1, 1) := by decide +kernel
theorem dX1_mostSwapsAtOnce_8 : decode cX1_mostSwapsAtOnce 8 = .ok (.istore_n 2, 1) := by decide +kernel
theorem dX1_mostSwapsAtOnce_9 : decode cX1_mostSwapsAtOnce 9 = .ok (.iload_n 2, 1) := by decide +kernel
theorem dX1_mostSwapsAtOnce_10 : decode cX1_mostSwapsAtOnce 10 = .ok (.iconst 1, 1) := by decide +kernel
theorem dX1_mostSwapsAtOnce_11 : decode cX1_mostSwapsAtOnce 11 = .ok (.iload_n 1, 1) := by decide +kernel
theorem dX1_mostSwapsAtOnce_12 : decode cX1_mostSwapsAtOnce 12 = .ok (.ishl, 1) := by decide +kernel
theorem dX1_mostSwapsAtOnce_13 : decode cX1_mostSwapsAtOnce 13 = .ok (.if_icmp .ge 109, 3) := by decide +kernel
theorem dX1_mostSwapsAtOnce_16 : decode cX1_mostSwapsAtOnce 16 = .ok (.iload_n 2, 1) := by decide +kernel
theorem dX1_mostSwapsAtOnce_17 : decode cX1_mostSwapsAtOnce 17 = .ok (.sipush 256, 3) := by decide +kernel
theorem dX1_mostSwapsAtOnce_20 : decode cX1_mostSwapsAtOnce 20 = .ok (.if_icmp .ge 102, 3) := by decide +kernel
theorem dX1_mostSwapsAtOnce_23 : decode cX1_mostSwapsAtOnce 23 = .ok (.iload_n 2, 1) := by decide +kernel
theorem dX1_mostSwapsAtOnce_24 : decode cX1_mostSwapsAtOnce 24 = .ok (.invokestatic 50, 3) := by decide +kernel
theorem dX1_mostSwapsAtOnce_27 : decode cX1_mostSwapsAtOnce 27 = .ok (.istore_n 3, 1) := by decide +kernel
theorem dX1_mostSwapsAtOnce_28 : decode cX1_mostSwapsAtOnce 28 = .ok (.iload_n 2, 1) := by decide +kernel
theorem dX1_mostSwapsAtOnce_29 : decode cX1_mostSwapsAtOnce 29 = .ok (.iconst 1, 1) := by decide +kernel
theorem dX1_mostSwapsAtOnce_30 : decode cX1_mostSwapsAtOnce 30 = .ok (.iload_n 3, 1) := by decide +kernel
theorem dX1_mostSwapsAtOnce_31 : decode cX1_mostSwapsAtOnce 31 = .ok (.ishl, 1) := by decide +kernel
theorem dX1_mostSwapsAtOnce_32 : decode cX1_mostSwapsAtOnce 32 = .ok (.iconst (-1), 1) := by decide +kernel
theorem dX1_mostSwapsAtOnce_33 : decode cX1_mostSwapsAtOnce 33 = .ok (.ixor, 1) := by decide +kernel
theorem dX1_mostSwapsAtOnce_34 : decode cX1_mostSwapsAtOnce 34 = .ok (.iand, 1) := by decide +kernel
theorem dX1_mostSwapsAtOnce_35 : decode cX1_mostSwapsAtOnce 35 = .ok (.istore 4, 2) := by decide +kernel
theorem dX1_mostSwapsAtOnce_37 : decode cX1_mostSwapsAtOnce 37 = .ok (.aload_n 0, 1) := by decide +kernel
theorem dX1_mostSwapsAtOnce_38 : decode cX1_mostSwapsAtOnce 38 = .ok (.getfield 15, 3) := by decide +kernel
theorem dX1_mostSwapsAtOnce_41 : decode cX1_mostSwapsAtOnce 41 = .ok (.iload 4, 2) := by decide +kernel
theorem dX1_mostSwapsAtOnce_43 : decode cX1_mostSwapsAtOnce 43 = .ok (.iaload, 1) := by decide +kernel
theorem dX1_mostSwapsAtOnce_44 : decode cX1_mostSwapsAtOnce 44 = .ok (.istore 5, 2) := by decide +kernel
theorem dX1_mostSwapsAtOnce_46 : decode cX1_mostSwapsAtOnce 46 = .ok (.iload_n 3, 1) := by decide +kernel
theorem dX1_mostSwapsAtOnce_47 : decode cX1_mostSwapsAtOnce 47 = .ok (.iconst 1, 1) := by decide +kernel
theorem dX1_mostSwapsAtOnce_48 : decode cX1_mostSwapsAtOnce 48 = .ok (.iadd, 1) := by decide +kernel
theorem dX1_mostSwapsAtOnce_49 : decode cX1_mostSwapsAtOnce 49 = .ok (.istore 6, 2) := by decide +kernel
theorem dX1_mostSwapsAtOnce_51 : decode cX1_mostSwapsAtOnce 51 = .ok (.iload 6, 2) := by decide +kernel
theorem dX1_mostSwapsAtOnce_53 : decode cX1_mostSwapsAtOnce 53 = .ok (.iload_n 1, 1) := by decide +kernel
theorem dX1_mostSwapsAtOnce_54 : decode cX1_mostSwapsAtOnce 54 = .ok (.if_icmp .ge 54, 3) := by decide +kernel
theorem dX1_mostSwapsAtOnce_57 : decode cX1_mostSwapsAtOnce 57 = .ok (.iload 4, 2) := by decide +kernel
theorem dX1_mostSwapsAtOnce_59 : decode cX1_mostSwapsAtOnce 59 = .ok (.iload 6, 2) := by decide +kernel
theorem dX1_mostSwapsAtOnce_61 : decode cX1_mostSwapsAtOnce 61 = .ok (.ishr, 1) := by decide +kernel
theorem dX1_mostSwapsAtOnce_62 : decode cX1_mostSwapsAtOnce 62 = .ok (.iconst 1, 1) := by decide +kernel
theorem dX1_mostSwapsAtOnce_63 : decode cX1_mostSwapsAtOnce 63 = .ok (.iand, 1) := by decide +kernel
theorem dX1_mostSwapsAtOnce_64 : decode cX1_mostSwapsAtOnce 64 = .ok (.iconst 1, 1) := by decide +kernel
theorem dX1_mostSwapsAtOnce_65 : decode cX1_mostSwapsAtOnce 65 = .ok (.if_icmp .ne 37, 3) := by decide +kernel
theorem dX1_mostSwapsAtOnce_68 : decode cX1_mostSwapsAtOnce 68 = .ok (.aload_n 0, 1) := by decide +kernel
theorem dX1_mostSwapsAtOnce_69 : decode cX1_mostSwapsAtOnce 69 = .ok (.iload_n 1, 1) := by decide +kernel
theorem dX1_mostSwapsAtOnce_70 : decode cX1_mostSwapsAtOnce 70 = .ok (.iload_n 3, 1) := by decide +kernel
theorem dX1_mostSwapsAtOnce_71 : decode cX1_mostSwapsAtOnce 71 = .ok (.iload 6, 2) := by decide +kernel
theorem dX1_mostSwapsAtOnce_73 : decode cX1_mostSwapsAtOnce 73 = .ok (.invokevirtual 46, 3) := by decide +kernel
theorem dX1_mostSwapsAtOnce_76 : decode cX1_mostSwapsAtOnce 76 = .ok (.ifCond .eq 26, 3) := by decide +kernel
theorem dX1_mostSwapsAtOnce_79 : decode cX1_mostSwapsAtOnce 79 = .ok (.iload 5, 2) := by decide +kernel
theorem dX1_mostSwapsAtOnce_81 : decode cX1_mostSwapsAtOnce 81 = .ok (.iconst 1, 1) := by decide +kernel
theorem dX1_mostSwapsAtOnce_82 : decode cX1_mostSwapsAtOnce 82 = .ok (.aload_n 0, 1) := by decide +kernel
theorem dX1_mostSwapsAtOnce_83 : decode cX1_mostSwapsAtOnce 83 = .ok (.getfield 15, 3) := by decide +kernel
theorem dX1_mostSwapsAtOnce_86 : decode cX1_mostSwapsAtOnce 86 = .ok (.iload 4, 2) := by decide +kernel
theorem dX1_mostSwapsAtOnce_88 : decode cX1_mostSwapsAtOnce 88 = .ok (.iconst 1, 1) := by decide +kernel
theorem dX1_mostSwapsAtOnce_89 : decode cX1_mostSwapsAtOnce 89 = .ok (.iload 6, 2) := by decide +kernel
theorem dX1_mostSwapsAtOnce_91 : decode cX1_mostSwapsAtOnce 91 = .ok (.ishl, 1) := by decide +kernel
theorem dX1_mostSwapsAtOnce_92 : decode cX1_mostSwapsAtOnce 92 = .ok (.iconst (-1), 1) := by decide +kernel
theorem dX1_mostSwapsAtOnce_93 : decode cX1_mostSwapsAtOnce 93 = .ok (.ixor, 1) := by decide +kernel
theorem dX1_mostSwapsAtOnce_94 : decode cX1_mostSwapsAtOnce 94 = .ok (.iand, 1) := by decide +kernel
theorem dX1_mostSwapsAtOnce_95 : decode cX1_mostSwapsAtOnce 95 = .ok (.iaload, 1) := by decide +kernel
theorem dX1_mostSwapsAtOnce_96 : decode cX1_mostSwapsAtOnce 96 = .ok (.iadd, 1) := by decide +kernel
theorem dX1_mostSwapsAtOnce_97 : decode cX1_mostSwapsAtOnce 97 = .ok (.invokestatic 36, 3) := by decide +kernel
theorem dX1_mostSwapsAtOnce_100 : decode cX1_mostSwapsAtOnce 100 = .ok (.istore 5, 2) := by decide +kernel
theorem dX1_mostSwapsAtOnce_102 : decode cX1_mostSwapsAtOnce 102 = .ok (.iinc 6 1, 3) := by decide +kernel
theorem dX1_mostSwapsAtOnce_105 : decode cX1_mostSwapsAtOnce 105 = .ok (.goto (-54), 3) := by decide +kernel
theorem dX1_mostSwapsAtOnce_108 : decode cX1_mostSwapsAtOnce 108 = .ok (.aload_n 0, 1) := by decide +kernel
theorem dX1_mostSwapsAtOnce_109 : decode cX1_mostSwapsAtOnce 109 = .ok (.getfield 15, 3) := by decide +kernel
theorem dX1_mostSwapsAtOnce_112 : decode cX1_mostSwapsAtOnce 112 = .ok (.iload_n 2, 1) := by decide +kernel
theorem dX1_mostSwapsAtOnce_113 : decode cX1_mostSwapsAtOnce 113 = .ok (.iload 5, 2) := by decide +kernel
theorem dX1_mostSwapsAtOnce_115 : decode cX1_mostSwapsAtOnce 115 = .ok (.iastore, 1) := by decide +kernel
theorem dX1_mostSwapsAtOnce_116 : decode cX1_mostSwapsAtOnce 116 = .ok (.iinc 2 1, 3) := by decide +kernel
theorem dX1_mostSwapsAtOnce_119 : decode cX1_mostSwapsAtOnce 119 = .ok (.goto (-110), 3) := by decide +kernel
theorem dX1_mostSwapsAtOnce_122 : decode cX1_mostSwapsAtOnce 122 = .ok (.iload_n 1, 1) := by decide +kernel
theorem dX1_mostSwapsAtOnce_123 : decode cX1_mostSwapsAtOnce 123 = .ok (.bipush 8, 2) := by decide +kernel
theorem dX1_mostSwapsAtOnce_125 : decode cX1_mostSwapsAtOnce 125 = .ok (.if_icmp .gt 16, 3) := by decide +kernel
theorem dX1_mostSwapsAtOnce_128 : decode cX1_mostSwapsAtOnce 128 = .ok (.aload_n 0, 1) := by decide +kernel
theorem dX1_mostSwapsAtOnce_129 : decode cX1_mostSwapsAtOnce 129 = .ok (.getfield 15, 3) := by decide +kernel
theorem dX1_mostSwapsAtOnce_132 : decode cX1_mostSwapsAtOnce 132 = .ok (.iconst 1, 1) := by decide +kernel
theorem dX1_mostSwapsAtOnce_133 : decode cX1_mostSwapsAtOnce 133 = .ok (.iload_n 1, 1) := by decide +kernel
theorem dX1_mostSwapsAtOnce_134 : decode cX1_mostSwapsAtOnce 134 = .ok (.ishl, 1) := by decide +kernel
theorem dX1_mostSwapsAtOnce_135 : decode cX1_mostSwapsAtOnce 135 = .ok (.iconst 1, 1) := by decide +kernel
theorem dX1_mostSwapsAtOnce_136 : decode cX1_mostSwapsAtOnce 136 = .ok (.isub, 1) := by decide +kernel
theorem dX1_mostSwapsAtOnce_137 : decode cX1_mostSwapsAtOnce 137 = .ok (.iaload, 1) := by decide +kernel
theorem dX1_mostSwapsAtOnce_138 : decode cX1_mostSwapsAtOnce 138 = .ok (.goto 4, 3) := by decide +kernel
theorem dX1_mostSwapsAtOnce_141 : decode cX1_mostSwapsAtOnce 141 = .ok (.iconst 0, 1) := by decide +kernel
theorem dX1_mostSwapsAtOnce_142 : decode cX1_mostSwapsAtOnce 142 = .ok (.ireturn, 1) := by decide +kernel
theorem dX1_sell_0 : decode cX1_sell 0 = .ok (.iconst 1, 1) := by decide +kernel
theorem dX1_sell_1 : decode cX1_sell 1 = .ok (.iload_n 1, 1) := by decide +kernel
theorem dX1_sell_2 : decode cX1_sell 2 = .ok (.ishl, 1) := by decide +kernel
theorem dX1_sell_3 : decode cX1_sell 3 = .ok (.sipush 256, 3) := by decide +kernel
theorem dX1_sell_6 : decode cX1_sell 6 = .ok (.invokestatic 55, 3) := by decide +kernel
theorem dX1_sell_9 : decode cX1_sell 9 = .ok (.iconst 1, 1) := by decide +kernel
theorem dX1_sell_10 : decode cX1_sell 10 = .ok (.isub, 1) := by decide +kernel
theorem dX1_sell_11 : decode cX1_sell 11 = .ok (.istore_n 2, 1) := by decide +kernel
theorem dX1_sell_12 : decode cX1_sell 12 = .ok (.iload_n 2, 1) := by decide +kernel
theorem dX1_sell_13 : decode cX1_sell 13 = .ok (.ifCond .lt 76, 3) := by decide +kernel
theorem dX1_sell_16 : decode cX1_sell 16 = .ok (.iload_n 2, 1) := by decide +kernel
theorem dX1_sell_17 : decode cX1_sell 17 = .ok (.invokestatic 58, 3) := by decide +kernel
theorem dX1_sell_20 : decode cX1_sell 20 = .ok (.istore_n 3, 1) := by decide +kernel
theorem dX1_sell_21 : decode cX1_sell 21 = .ok (.iconst 0, 1) := by decide +kernel
theorem dX1_sell_22 : decode cX1_sell 22 = .ok (.istore 4, 2) := by decide +kernel
theorem dX1_sell_24 : decode cX1_sell 24 = .ok (.iconst 0, 1) := by decide +kernel
theorem dX1_sell_25 : decode cX1_sell 25 = .ok (.istore 5, 2) := by decide +kernel
theorem dX1_sell_27 : decode cX1_sell 27 = .ok (.iload 5, 2) := by decide +kernel
theorem dX1_sell_29 : decode cX1_sell 29 = .ok (.iload_n 1, 1) := by decide +kernel
theorem dX1_sell_30 : decode cX1_sell 30 = .ok (.if_icmp .ge 45, 3) := by decide +kernel
theorem dX1_sell_33 : decode cX1_sell 33 = .ok (.iload_n 2, 1) := by decide +kernel
theorem dX1_sell_34 : decode cX1_sell 34 = .ok (.iload 5, 2) := by decide +kernel
theorem dX1_sell_36 : decode cX1_sell 36 = .ok (.ishr, 1) := by decide +kernel
theorem dX1_sell_37 : decode cX1_sell 37 = .ok (.iconst 1, 1) := by decide +kernel
theorem dX1_sell_38 : decode cX1_sell 38 = .ok (.iand, 1) := by decide +kernel
theorem dX1_sell_39 : decode cX1_sell 39 = .ok (.ifCond .ne 30, 3) := by decide +kernel
theorem dX1_sell_42 : decode cX1_sell 42 = .ok (.iload 4, 2) := by decide +kernel
theorem dX1_sell_44 : decode cX1_sell 44 = .ok (.aload_n 0, 1) := by decide +kernel
theorem dX1_sell_45 : decode cX1_sell 45 = .ok (.iload_n 1, 1) := by decide +kernel
theorem dX1_sell_46 : decode cX1_sell 46 = .ok (.iload_n 3, 1) := by decide +kernel
theorem dX1_sell_47 : decode cX1_sell 47 = .ok (.iload 5, 2) := by decide +kernel
theorem dX1_sell_49 : decode cX1_sell 49 = .ok (.invokevirtual 42, 3) := by decide +kernel
theorem dX1_sell_52 : decode cX1_sell 52 = .ok (.aload_n 0, 1) := by decide +kernel
theorem dX1_sell_53 : decode cX1_sell 53 = .ok (.getfield 15, 3) := by decide +kernel
theorem dX1_sell_56 : decode cX1_sell 56 = .ok (.iload_n 2, 1) := by decide +kernel
theorem dX1_sell_57 : decode cX1_sell 57 = .ok (.iconst 1, 1) := by decide +kernel
theorem dX1_sell_58 : decode cX1_sell 58 = .ok (.iload 5, 2) := by decide +kernel
theorem dX1_sell_60 : decode cX1_sell 60 = .ok (.ishl, 1) := by decide +kernel
theorem dX1_sell_61 : decode cX1_sell 61 = .ok (.ior, 1) := by decide +kernel
theorem dX1_sell_62 : decode cX1_sell 62 = .ok (.iaload, 1) := by decide +kernel
theorem dX1_sell_63 : decode cX1_sell 63 = .ok (.iadd, 1) := by decide +kernel
theorem dX1_sell_64 : decode cX1_sell 64 = .ok (.invokestatic 36, 3) := by decide +kernel
theorem dX1_sell_67 : decode cX1_sell 67 = .ok (.istore 4, 2) := by decide +kernel
theorem dX1_sell_69 : decode cX1_sell 69 = .ok (.iinc 5 1, 3) := by decide +kernel
theorem dX1_sell_72 : decode cX1_sell 72 = .ok (.goto (-45), 3) := by decide +kernel
theorem dX1_sell_75 : decode cX1_sell 75 = .ok (.aload_n 0, 1) := by decide +kernel
theorem dX1_sell_76 : decode cX1_sell 76 = .ok (.getfield 15, 3) := by decide +kernel
theorem dX1_sell_79 : decode cX1_sell 79 = .ok (.iload_n 2, 1) := by decide +kernel
theorem dX1_sell_80 : decode cX1_sell 80 = .ok (.iload 4, 2) := by decide +kernel
theorem dX1_sell_82 : decode cX1_sell 82 = .ok (.iastore, 1) := by decide +kernel
theorem dX1_sell_83 : decode cX1_sell 83 = .ok (.iinc 2 (-1), 3) := by decide +kernel
theorem dX1_sell_86 : decode cX1_sell 86 = .ok (.goto (-74), 3) := by decide +kernel
theorem dX1_sell_89 : decode cX1_sell 89 = .ok (.aload_n 0, 1) := by decide +kernel
theorem dX1_sell_90 : decode cX1_sell 90 = .ok (.getfield 15, 3) := by decide +kernel
theorem dX1_sell_93 : decode cX1_sell 93 = .ok (.iconst 0, 1) := by decide +kernel
theorem dX1_sell_94 : decode cX1_sell 94 = .ok (.iaload, 1) := by decide +kernel
theorem dX1_sell_95 : decode cX1_sell 95 = .ok (.ireturn, 1) := by decide +kernel
theorem dX1_buyerOf_0 : decode cX1_buyerOf 0 = .ok (.iconst 0, 1) := by decide +kernel
theorem dX1_buyerOf_1 : decode cX1_buyerOf 1 = .ok (.istore_n 3, 1) := by decide +kernel
theorem dX1_buyerOf_2 : decode cX1_buyerOf 2 = .ok (.iconst 0, 1) := by decide +kernel
theorem dX1_buyerOf_3 : decode cX1_buyerOf 3 = .ok (.istore 4, 2) := by decide +kernel
theorem dX1_buyerOf_5 : decode cX1_buyerOf 5 = .ok (.iload 4, 2) := by decide +kernel
theorem dX1_buyerOf_7 : decode cX1_buyerOf 7 = .ok (.iload_n 2, 1) := by decide +kernel
theorem dX1_buyerOf_8 : decode cX1_buyerOf 8 = .ok (.if_icmp .ge 35, 3) := by decide +kernel
theorem dX1_buyerOf_11 : decode cX1_buyerOf 11 = .ok (.aload_n 0, 1) := by decide +kernel
theorem dX1_buyerOf_12 : decode cX1_buyerOf 12 = .ok (.iload 4, 2) := by decide +kernel
theorem dX1_buyerOf_14 : decode cX1_buyerOf 14 = .ok (.iload_n 3, 1) := by decide +kernel
theorem dX1_buyerOf_15 : decode cX1_buyerOf 15 = .ok (.iload_n 2, 1) := by decide +kernel
theorem dX1_buyerOf_16 : decode cX1_buyerOf 16 = .ok (.invokevirtual 61, 3) := by decide +kernel
theorem dX1_buyerOf_19 : decode cX1_buyerOf 19 = .ok (.istore 5, 2) := by decide +kernel
theorem dX1_buyerOf_21 : decode cX1_buyerOf 21 = .ok (.iload 5, 2) := by decide +kernel
theorem dX1_buyerOf_23 : decode cX1_buyerOf 23 = .ok (.iload_n 1, 1) := by decide +kernel
theorem dX1_buyerOf_24 : decode cX1_buyerOf 24 = .ok (.if_icmp .ne 6, 3) := by decide +kernel
theorem dX1_buyerOf_27 : decode cX1_buyerOf 27 = .ok (.iload 4, 2) := by decide +kernel
theorem dX1_buyerOf_29 : decode cX1_buyerOf 29 = .ok (.ireturn, 1) := by decide +kernel
theorem dX1_buyerOf_30 : decode cX1_buyerOf 30 = .ok (.iload_n 3, 1) := by decide +kernel
theorem dX1_buyerOf_31 : decode cX1_buyerOf 31 = .ok (.iconst 1, 1) := by decide +kernel
theorem dX1_buyerOf_32 : decode cX1_buyerOf 32 = .ok (.iload 5, 2) := by decide +kernel
theorem dX1_buyerOf_34 : decode cX1_buyerOf 34 = .ok (.ishl, 1) := by decide +kernel
theorem dX1_buyerOf_35 : decode cX1_buyerOf 35 = .ok (.ior, 1) := by decide +kernel
theorem dX1_buyerOf_36 : decode cX1_buyerOf 36 = .ok (.istore_n 3, 1) := by decide +kernel
theorem dX1_buyerOf_37 : decode cX1_buyerOf 37 = .ok (.iinc 4 1, 3) := by decide +kernel
theorem dX1_buyerOf_40 : decode cX1_buyerOf 40 = .ok (.goto (-35), 3) := by decide +kernel
theorem dX1_buyerOf_43 : decode cX1_buyerOf 43 = .ok (.iconst (-1), 1) := by decide +kernel
theorem dX1_buyerOf_44 : decode cX1_buyerOf 44 = .ok (.ireturn, 1) := by decide +kernel
theorem dX1_turnOf_0 : decode cX1_turnOf 0 = .ok (.iconst 0, 1) := by decide +kernel
theorem dX1_turnOf_1 : decode cX1_turnOf 1 = .ok (.istore 4, 2) := by decide +kernel
theorem dX1_turnOf_3 : decode cX1_turnOf 3 = .ok (.iload 4, 2) := by decide +kernel
theorem dX1_turnOf_5 : decode cX1_turnOf 5 = .ok (.iload_n 3, 1) := by decide +kernel
theorem dX1_turnOf_6 : decode cX1_turnOf 6 = .ok (.if_icmp .ge 69, 3) := by decide +kernel
theorem dX1_turnOf_9 : decode cX1_turnOf 9 = .ok (.iload_n 2, 1) := by decide +kernel
theorem dX1_turnOf_10 : decode cX1_turnOf 10 = .ok (.sipush 256, 3) := by decide +kernel
theorem dX1_turnOf_13 : decode cX1_turnOf 13 = .ok (.if_icmp .ge 62, 3) := by decide +kernel
theorem dX1_turnOf_16 : decode cX1_turnOf 16 = .ok (.iload_n 2, 1) := by decide +kernel
theorem dX1_turnOf_17 : decode cX1_turnOf 17 = .ok (.iload 4, 2) := by decide +kernel
theorem dX1_turnOf_19 : decode cX1_turnOf 19 = .ok (.ishr, 1) := by decide +kernel
theorem dX1_turnOf_20 : decode cX1_turnOf 20 = .ok (.iconst 1, 1) := by decide +kernel
theorem dX1_turnOf_21 : decode cX1_turnOf 21 = .ok (.iand, 1) := by decide +kernel
theorem dX1_turnOf_22 : decode cX1_turnOf 22 = .ok (.ifCond .ne 7, 3) := by decide +kernel
theorem dX1_turnOf_25 : decode cX1_turnOf 25 = .ok (.iconst 1, 1) := by decide +kernel
theorem dX1_turnOf_26 : decode cX1_turnOf 26 = .ok (.goto 4, 3) := by decide +kernel
theorem dX1_turnOf_29 : decode cX1_turnOf 29 = .ok (.iconst 0, 1) := by decide +kernel
theorem dX1_turnOf_30 : decode cX1_turnOf 30 = .ok (.istore 5, 2) := by decide +kernel
theorem dX1_turnOf_32 : decode cX1_turnOf 32 = .ok (.iload 5, 2) := by decide +kernel
theorem dX1_turnOf_34 : decode cX1_turnOf 34 = .ok (.ifCond .eq 35, 3) := by decide +kernel
theorem dX1_turnOf_37 : decode cX1_turnOf 37 = .ok (.aload_n 0, 1) := by decide +kernel
theorem dX1_turnOf_38 : decode cX1_turnOf 38 = .ok (.iload_n 3, 1) := by decide +kernel
theorem dX1_turnOf_39 : decode cX1_turnOf 39 = .ok (.iload_n 1, 1) := by decide +kernel
theorem dX1_turnOf_40 : decode cX1_turnOf 40 = .ok (.iload 4, 2) := by decide +kernel
theorem dX1_turnOf_42 : decode cX1_turnOf 42 = .ok (.invokevirtual 42, 3) := by decide +kernel
theorem dX1_turnOf_45 : decode cX1_turnOf 45 = .ok (.aload_n 0, 1) := by decide +kernel
theorem dX1_turnOf_46 : decode cX1_turnOf 46 = .ok (.getfield 15, 3) := by decide +kernel
theorem dX1_turnOf_49 : decode cX1_turnOf 49 = .ok (.iload_n 2, 1) := by decide +kernel
theorem dX1_turnOf_50 : decode cX1_turnOf 50 = .ok (.iconst 1, 1) := by decide +kernel
theorem dX1_turnOf_51 : decode cX1_turnOf 51 = .ok (.iload 4, 2) := by decide +kernel
theorem dX1_turnOf_53 : decode cX1_turnOf 53 = .ok (.ishl, 1) := by decide +kernel
theorem dX1_turnOf_54 : decode cX1_turnOf 54 = .ok (.ior, 1) := by decide +kernel
theorem dX1_turnOf_55 : decode cX1_turnOf 55 = .ok (.iaload, 1) := by decide +kernel
theorem dX1_turnOf_56 : decode cX1_turnOf 56 = .ok (.iadd, 1) := by decide +kernel
theorem dX1_turnOf_57 : decode cX1_turnOf 57 = .ok (.aload_n 0, 1) := by decide +kernel
theorem dX1_turnOf_58 : decode cX1_turnOf 58 = .ok (.getfield 15, 3) := by decide +kernel
theorem dX1_turnOf_61 : decode cX1_turnOf 61 = .ok (.iload_n 2, 1) := by decide +kernel
theorem dX1_turnOf_62 : decode cX1_turnOf 62 = .ok (.iaload, 1) := by decide +kernel
theorem dX1_turnOf_63 : decode cX1_turnOf 63 = .ok (.if_icmp .ne 6, 3) := by decide +kernel
theorem dX1_turnOf_66 : decode cX1_turnOf 66 = .ok (.iload 4, 2) := by decide +kernel
theorem dX1_turnOf_68 : decode cX1_turnOf 68 = .ok (.ireturn, 1) := by decide +kernel
theorem dX1_turnOf_69 : decode cX1_turnOf 69 = .ok (.iinc 4 1, 3) := by decide +kernel
theorem dX1_turnOf_72 : decode cX1_turnOf 72 = .ok (.goto (-69), 3) := by decide +kernel
theorem dX1_turnOf_75 : decode cX1_turnOf 75 = .ok (.iconst 0, 1) := by decide +kernel
theorem dX1_turnOf_76 : decode cX1_turnOf 76 = .ok (.ireturn, 1) := by decide +kernel
theorem dX1_rotasOf_0 : decode cX1_rotasOf 0 = .ok (.iload_n 1, 1) := by decide +kernel
theorem dX1_rotasOf_1 : decode cX1_rotasOf 1 = .ok (.iconst 1, 1) := by decide +kernel
theorem dX1_rotasOf_2 : decode cX1_rotasOf 2 = .ok (.if_icmp .lt 9, 3) := by decide +kernel
theorem dX1_rotasOf_5 : decode cX1_rotasOf 5 = .ok (.iload_n 1, 1) := by decide +kernel
theorem dX1_rotasOf_6 : decode cX1_rotasOf 6 = .ok (.bipush 12, 2) := by decide +kernel
theorem dX1_rotasOf_8 : decode cX1_rotasOf 8 = .ok (.if_icmp .le 7, 3) := by decide +kernel
theorem dX1_rotasOf_11 : decode cX1_rotasOf 11 = .ok (.ldc2_w 64, 3) := by decide +kernel
theorem dX1_rotasOf_14 : decode cX1_rotasOf 14 = .ok (.lreturn, 1) := by decide +kernel
theorem dX1_rotasOf_15 : decode cX1_rotasOf 15 = .ok (.iconst 0, 1) := by decide +kernel
theorem dX1_rotasOf_16 : decode cX1_rotasOf 16 = .ok (.istore_n 2, 1) := by decide +kernel
theorem dX1_rotasOf_17 : decode cX1_rotasOf 17 = .ok (.iload_n 2, 1) := by decide +kernel
theorem dX1_rotasOf_18 : decode cX1_rotasOf 18 = .ok (.bipush 12, 2) := by decide +kernel
theorem dX1_rotasOf_20 : decode cX1_rotasOf 20 = .ok (.if_icmp .gt 26, 3) := by decide +kernel
theorem dX1_rotasOf_23 : decode cX1_rotasOf 23 = .ok (.aload_n 0, 1) := by decide +kernel
theorem dX1_rotasOf_24 : decode cX1_rotasOf 24 = .ok (.getfield 18, 3) := by decide +kernel
theorem dX1_rotasOf_27 : decode cX1_rotasOf 27 = .ok (.iload_n 2, 1) := by decide +kernel
theorem dX1_rotasOf_28 : decode cX1_rotasOf 28 = .ok (.iload_n 2, 1) := by decide +kernel
theorem dX1_rotasOf_29 : decode cX1_rotasOf 29 = .ok (.iconst 1, 1) := by decide +kernel
theorem dX1_rotasOf_30 : decode cX1_rotasOf 30 = .ok (.if_icmp .ne 8, 3) := by decide +kernel
theorem dX1_rotasOf_33 : decode cX1_rotasOf 33 = .ok (.iload_n 1, 1) := by decide +kernel
theorem dX1_rotasOf_34 : decode cX1_rotasOf 34 = .ok (.i2l, 1) := by decide +kernel
theorem dX1_rotasOf_35 : decode cX1_rotasOf 35 = .ok (.goto 4, 3) := by decide +kernel
theorem dX1_rotasOf_38 : decode cX1_rotasOf 38 = .ok (.lconst 0, 1) := by decide +kernel
theorem dX1_rotasOf_39 : decode cX1_rotasOf 39 = .ok (.lastore, 1) := by decide +kernel
theorem dX1_rotasOf_40 : decode cX1_rotasOf 40 = .ok (.iinc 2 1, 3) := by decide +kernel
theorem dX1_rotasOf_43 : decode cX1_rotasOf 43 = .ok (.goto (-26), 3) := by decide +kernel
theorem dX1_rotasOf_46 : decode cX1_rotasOf 46 = .ok (.iconst 1, 1) := by decide +kernel
theorem dX1_rotasOf_47 : decode cX1_rotasOf 47 = .ok (.istore_n 2, 1) := by decide +kernel
theorem dX1_rotasOf_48 : decode cX1_rotasOf 48 = .ok (.iload_n 2, 1) := by decide +kernel
theorem dX1_rotasOf_49 : decode cX1_rotasOf 49 = .ok (.bipush 12, 2) := by decide +kernel
theorem dX1_rotasOf_51 : decode cX1_rotasOf 51 = .ok (.if_icmp .ge 55, 3) := by decide +kernel
theorem dX1_rotasOf_54 : decode cX1_rotasOf 54 = .ok (.iload_n 1, 1) := by decide +kernel
theorem dX1_rotasOf_55 : decode cX1_rotasOf 55 = .ok (.istore_n 3, 1) := by decide +kernel
theorem dX1_rotasOf_56 : decode cX1_rotasOf 56 = .ok (.iload_n 3, 1) := by decide +kernel
theorem dX1_rotasOf_57 : decode cX1_rotasOf 57 = .ok (.iconst 1, 1) := by decide +kernel
theorem dX1_rotasOf_58 : decode cX1_rotasOf 58 = .ok (.if_icmp .lt 42, 3) := by decide +kernel
theorem dX1_rotasOf_61 : decode cX1_rotasOf 61 = .ok (.aload_n 0, 1) := by decide +kernel
theorem dX1_rotasOf_62 : decode cX1_rotasOf 62 = .ok (.getfield 18, 3) := by decide +kernel
theorem dX1_rotasOf_65 : decode cX1_rotasOf 65 = .ok (.iload_n 3, 1) := by decide +kernel
theorem dX1_rotasOf_66 : decode cX1_rotasOf 66 = .ok (.aload_n 0, 1) := by decide +kernel
theorem dX1_rotasOf_67 : decode cX1_rotasOf 67 = .ok (.getfield 18, 3) := by decide +kernel
theorem dX1_rotasOf_70 : decode cX1_rotasOf 70 = .ok (.iload_n 3, 1) := by decide +kernel
theorem dX1_rotasOf_71 : decode cX1_rotasOf 71 = .ok (.laload, 1) := by decide +kernel
theorem dX1_rotasOf_72 : decode cX1_rotasOf 72 = .ok (.iload_n 3, 1) := by decide +kernel
theorem dX1_rotasOf_73 : decode cX1_rotasOf 73 = .ok (.iconst 1, 1) := by decide +kernel
theorem dX1_rotasOf_74 : decode cX1_rotasOf 74 = .ok (.isub, 1) := by decide +kernel
theorem dX1_rotasOf_75 : decode cX1_rotasOf 75 = .ok (.i2l, 1) := by decide +kernel
theorem dX1_rotasOf_76 : decode cX1_rotasOf 76 = .ok (.lmul, 1) := by decide +kernel
theorem dX1_rotasOf_77 : decode cX1_rotasOf 77 = .ok (.aload_n 0, 1) := by decide +kernel
theorem dX1_rotasOf_78 : decode cX1_rotasOf 78 = .ok (.getfield 18, 3) := by decide +kernel
theorem dX1_rotasOf_81 : decode cX1_rotasOf 81 = .ok (.iload_n 3, 1) := by decide +kernel
theorem dX1_rotasOf_82 : decode cX1_rotasOf 82 = .ok (.iconst 1, 1) := by decide +kernel
theorem dX1_rotasOf_83 : decode cX1_rotasOf 83 = .ok (.isub, 1) := by decide +kernel
theorem dX1_rotasOf_84 : decode cX1_rotasOf 84 = .ok (.laload, 1) := by decide +kernel
theorem dX1_rotasOf_85 : decode cX1_rotasOf 85 = .ok (.iload_n 1, 1) := by decide +kernel
theorem dX1_rotasOf_86 : decode cX1_rotasOf 86 = .ok (.iload_n 3, 1) := by decide +kernel
theorem dX1_rotasOf_87 : decode cX1_rotasOf 87 = .ok (.isub, 1) := by decide +kernel
theorem dX1_rotasOf_88 : decode cX1_rotasOf 88 = .ok (.iconst 1, 1) := by decide +kernel
theorem dX1_rotasOf_89 : decode cX1_rotasOf 89 = .ok (.iadd, 1) := by decide +kernel
theorem dX1_rotasOf_90 : decode cX1_rotasOf 90 = .ok (.i2l, 1) := by decide +kernel
theorem dX1_rotasOf_91 : decode cX1_rotasOf 91 = .ok (.lmul, 1) := by decide +kernel
theorem dX1_rotasOf_92 : decode cX1_rotasOf 92 = .ok (.ladd, 1) := by decide +kernel
theorem dX1_rotasOf_93 : decode cX1_rotasOf 93 = .ok (.lastore, 1) := by decide +kernel
theorem dX1_rotasOf_94 : decode cX1_rotasOf 94 = .ok (.iinc 3 (-1), 3) := by decide +kernel
theorem dX1_rotasOf_97 : decode cX1_rotasOf 97 = .ok (.goto (-41), 3) := by decide +kernel
theorem dX1_rotasOf_100 : decode cX1_rotasOf 100 = .ok (.iinc 2 1, 3) := by decide +kernel
theorem dX1_rotasOf_103 : decode cX1_rotasOf 103 = .ok (.goto (-55), 3) := by decide +kernel
theorem dX1_rotasOf_106 : decode cX1_rotasOf 106 = .ok (.aload_n 0, 1) := by decide +kernel
theorem dX1_rotasOf_107 : decode cX1_rotasOf 107 = .ok (.getfield 18, 3) := by decide +kernel
theorem dX1_rotasOf_110 : decode cX1_rotasOf 110 = .ok (.iload_n 1, 1) := by decide +kernel
theorem dX1_rotasOf_111 : decode cX1_rotasOf 111 = .ok (.laload, 1) := by decide +kernel
theorem dX1_rotasOf_112 : decode cX1_rotasOf 112 = .ok (.lreturn, 1) := by decide +kernel
theorem dX1_greatestPane_0 : decode cX1_greatestPane 0 = .ok (.iconst 0, 1) := by decide +kernel
theorem dX1_greatestPane_1 : decode cX1_greatestPane 1 = .ok (.istore_n 3, 1) := by decide +kernel
theorem dX1_greatestPane_2 : decode cX1_greatestPane 2 = .ok (.iconst 0, 1) := by decide +kernel
theorem dX1_greatestPane_3 : decode cX1_greatestPane 3 = .ok (.istore 4, 2) := by decide +kernel
theorem dX1_greatestPane_5 : decode cX1_greatestPane 5 = .ok (.iload 4, 2) := by decide +kernel
theorem dX1_greatestPane_7 : decode cX1_greatestPane 7 = .ok (.iload_n 1, 1) := by decide +kernel
theorem dX1_greatestPane_8 : decode cX1_greatestPane 8 = .ok (.if_icmp .ge 61, 3) := by decide +kernel
theorem dX1_greatestPane_11 : decode cX1_greatestPane 11 = .ok (.iconst 0, 1) := by decide +kernel
theorem dX1_greatestPane_12 : decode cX1_greatestPane 12 = .ok (.istore 5, 2) := by decide +kernel
theorem dX1_greatestPane_14 : decode cX1_greatestPane 14 = .ok (.iload 4, 2) := by decide +kernel
theorem dX1_greatestPane_16 : decode cX1_greatestPane 16 = .ok (.istore 6, 2) := by decide +kernel
theorem dX1_greatestPane_18 : decode cX1_greatestPane 18 = .ok (.iload 6, 2) := by decide +kernel
theorem dX1_greatestPane_20 : decode cX1_greatestPane 20 = .ok (.iload_n 1, 1) := by decide +kernel
theorem dX1_greatestPane_21 : decode cX1_greatestPane 21 = .ok (.if_icmp .ge 42, 3) := by decide +kernel
theorem dX1_greatestPane_24 : decode cX1_greatestPane 24 = .ok (.iload 5, 2) := by decide +kernel
theorem dX1_greatestPane_26 : decode cX1_greatestPane 26 = .ok (.aload_n 0, 1) := by decide +kernel
theorem dX1_greatestPane_27 : decode cX1_greatestPane 27 = .ok (.getfield 22, 3) := by decide +kernel
theorem dX1_greatestPane_30 : decode cX1_greatestPane 30 = .ok (.iload 6, 2) := by decide +kernel
theorem dX1_greatestPane_32 : decode cX1_greatestPane 32 = .ok (.invokevirtual 26, 3) := by decide +kernel
theorem dX1_greatestPane_35 : decode cX1_greatestPane 35 = .ok (.ior, 1) := by decide +kernel
theorem dX1_greatestPane_36 : decode cX1_greatestPane 36 = .ok (.istore 5, 2) := by decide +kernel
theorem dX1_greatestPane_38 : decode cX1_greatestPane 38 = .ok (.iload_n 3, 1) := by decide +kernel
theorem dX1_greatestPane_39 : decode cX1_greatestPane 39 = .ok (.iload 6, 2) := by decide +kernel
theorem dX1_greatestPane_41 : decode cX1_greatestPane 41 = .ok (.iload 4, 2) := by decide +kernel
theorem dX1_greatestPane_43 : decode cX1_greatestPane 43 = .ok (.isub, 1) := by decide +kernel
theorem dX1_greatestPane_44 : decode cX1_greatestPane 44 = .ok (.iconst 1, 1) := by decide +kernel
theorem dX1_greatestPane_45 : decode cX1_greatestPane 45 = .ok (.iadd, 1) := by decide +kernel
theorem dX1_greatestPane_46 : decode cX1_greatestPane 46 = .ok (.iload 5, 2) := by decide +kernel
theorem dX1_greatestPane_48 : decode cX1_greatestPane 48 = .ok (.iload_n 2, 1) := by decide +kernel
theorem dX1_greatestPane_49 : decode cX1_greatestPane 49 = .ok (.invokestatic 66, 3) := by decide +kernel
theorem dX1_greatestPane_52 : decode cX1_greatestPane 52 = .ok (.imul, 1) := by decide +kernel
theorem dX1_greatestPane_53 : decode cX1_greatestPane 53 = .ok (.invokestatic 36, 3) := by decide +kernel
theorem dX1_greatestPane_56 : decode cX1_greatestPane 56 = .ok (.istore_n 3, 1) := by decide +kernel
theorem dX1_greatestPane_57 : decode cX1_greatestPane 57 = .ok (.iinc 6 1, 3) := by decide +kernel
theorem dX1_greatestPane_60 : decode cX1_greatestPane 60 = .ok (.goto (-42), 3) := by decide +kernel
theorem dX1_greatestPane_63 : decode cX1_greatestPane 63 = .ok (.iinc 4 1, 3) := by decide +kernel
theorem dX1_greatestPane_66 : decode cX1_greatestPane 66 = .ok (.goto (-61), 3) := by decide +kernel
theorem dX1_greatestPane_69 : decode cX1_greatestPane 69 = .ok (.iload_n 3, 1) := by decide +kernel
theorem dX1_greatestPane_70 : decode cX1_greatestPane 70 = .ok (.ireturn, 1) := by decide +kernel
theorem dX1_widestClear_0 : decode cX1_widestClear 0 = .ok (.iconst 0, 1) := by decide +kernel
theorem dX1_widestClear_1 : decode cX1_widestClear 1 = .ok (.istore_n 2, 1) := by decide +kernel
theorem dX1_widestClear_2 : decode cX1_widestClear 2 = .ok (.iconst 0, 1) := by decide +kernel
theorem dX1_widestClear_3 : decode cX1_widestClear 3 = .ok (.istore_n 3, 1) := by decide +kernel
theorem dX1_widestClear_4 : decode cX1_widestClear 4 = .ok (.iconst 0, 1) := by decide +kernel
theorem dX1_widestClear_5 : decode cX1_widestClear 5 = .ok (.istore 4, 2) := by decide +kernel
theorem dX1_widestClear_7 : decode cX1_widestClear 7 = .ok (.iload 4, 2) := by decide +kernel
theorem dX1_widestClear_9 : decode cX1_widestClear 9 = .ok (.iload_n 1, 1) := by decide +kernel
theorem dX1_widestClear_10 : decode cX1_widestClear 10 = .ok (.if_icmp .ge 32, 3) := by decide +kernel
theorem dX1_widestClear_13 : decode cX1_widestClear 13 = .ok (.iload_n 0, 1) := by decide +kernel
theorem dX1_widestClear_14 : decode cX1_widestClear 14 = .ok (.iload 4, 2) := by decide +kernel
theorem dX1_widestClear_16 : decode cX1_widestClear 16 = .ok (.ishr, 1) := by decide +kernel
theorem dX1_widestClear_17 : decode cX1_widestClear 17 = .ok (.iconst 1, 1) := by decide +kernel
theorem dX1_widestClear_18 : decode cX1_widestClear 18 = .ok (.iand, 1) := by decide +kernel
theorem dX1_widestClear_19 : decode cX1_widestClear 19 = .ok (.ifCond .ne 9, 3) := by decide +kernel
theorem dX1_widestClear_22 : decode cX1_widestClear 22 = .ok (.iload_n 2, 1) := by decide +kernel
theorem dX1_widestClear_23 : decode cX1_widestClear 23 = .ok (.iconst 1, 1) := by decide +kernel
theorem dX1_widestClear_24 : decode cX1_widestClear 24 = .ok (.iadd, 1) := by decide +kernel
theorem dX1_widestClear_25 : decode cX1_widestClear 25 = .ok (.goto 4, 3) := by decide +kernel
theorem dX1_widestClear_28 : decode cX1_widestClear 28 = .ok (.iconst 0, 1) := by decide +kernel
theorem dX1_widestClear_29 : decode cX1_widestClear 29 = .ok (.istore_n 2, 1) := by decide +kernel
theorem dX1_widestClear_30 : decode cX1_widestClear 30 = .ok (.iload_n 3, 1) := by decide +kernel
theorem dX1_widestClear_31 : decode cX1_widestClear 31 = .ok (.iload_n 2, 1) := by decide +kernel
theorem dX1_widestClear_32 : decode cX1_widestClear 32 = .ok (.invokestatic 36, 3) := by decide +kernel
theorem dX1_widestClear_35 : decode cX1_widestClear 35 = .ok (.istore_n 3, 1) := by decide +kernel
theorem dX1_widestClear_36 : decode cX1_widestClear 36 = .ok (.iinc 4 1, 3) := by decide +kernel
theorem dX1_widestClear_39 : decode cX1_widestClear 39 = .ok (.goto (-32), 3) := by decide +kernel
theorem dX1_widestClear_42 : decode cX1_widestClear 42 = .ok (.iload_n 3, 1) := by decide +kernel
theorem dX1_widestClear_43 : decode cX1_widestClear 43 = .ok (.ireturn, 1) := by decide +kernel
theorem dX1_hadByLettingGo_0 : decode cX1_hadByLettingGo 0 = .ok (.iconst (-1), 1) := by decide +kernel
theorem dX1_hadByLettingGo_1 : decode cX1_hadByLettingGo 1 = .ok (.istore_n 3, 1) := by decide +kernel
theorem dX1_hadByLettingGo_2 : decode cX1_hadByLettingGo 2 = .ok (.iconst 0, 1) := by decide +kernel
theorem dX1_hadByLettingGo_3 : decode cX1_hadByLettingGo 3 = .ok (.istore 4, 2) := by decide +kernel
theorem dX1_hadByLettingGo_5 : decode cX1_hadByLettingGo 5 = .ok (.iload 4, 2) := by decide +kernel
theorem dX1_hadByLettingGo_7 : decode cX1_hadByLettingGo 7 = .ok (.iload_n 2, 1) := by decide +kernel
theorem dX1_hadByLettingGo_8 : decode cX1_hadByLettingGo 8 = .ok (.if_icmp .ge 42, 3) := by decide +kernel
theorem dX1_hadByLettingGo_11 : decode cX1_hadByLettingGo 11 = .ok (.aload_n 0, 1) := by decide +kernel
theorem dX1_hadByLettingGo_12 : decode cX1_hadByLettingGo 12 = .ok (.getfield 22, 3) := by decide +kernel
theorem dX1_hadByLettingGo_15 : decode cX1_hadByLettingGo 15 = .ok (.iload 4, 2) := by decide +kernel
theorem dX1_hadByLettingGo_17 : decode cX1_hadByLettingGo 17 = .ok (.invokevirtual 26, 3) := by decide +kernel
theorem dX1_hadByLettingGo_20 : decode cX1_hadByLettingGo 20 = .ok (.istore 5, 2) := by decide +kernel
theorem dX1_hadByLettingGo_22 : decode cX1_hadByLettingGo 22 = .ok (.iload 4, 2) := by decide +kernel
theorem dX1_hadByLettingGo_24 : decode cX1_hadByLettingGo 24 = .ok (.iload_n 1, 1) := by decide +kernel
theorem dX1_hadByLettingGo_25 : decode cX1_hadByLettingGo 25 = .ok (.if_icmp .lt 12, 3) := by decide +kernel
theorem dX1_hadByLettingGo_28 : decode cX1_hadByLettingGo 28 = .ok (.iload 5, 2) := by decide +kernel
theorem dX1_hadByLettingGo_30 : decode cX1_hadByLettingGo 30 = .ok (.iload_n 3, 1) := by decide +kernel
theorem dX1_hadByLettingGo_31 : decode cX1_hadByLettingGo 31 = .ok (.if_icmp .le 6, 3) := by decide +kernel
theorem dX1_hadByLettingGo_34 : decode cX1_hadByLettingGo 34 = .ok (.iload 5, 2) := by decide +kernel
theorem dX1_hadByLettingGo_36 : decode cX1_hadByLettingGo 36 = .ok (.ireturn, 1) := by decide +kernel
theorem dX1_hadByLettingGo_37 : decode cX1_hadByLettingGo 37 = .ok (.iload_n 3, 1) := by decide +kernel
theorem dX1_hadByLettingGo_38 : decode cX1_hadByLettingGo 38 = .ok (.iload 5, 2) := by decide +kernel
theorem dX1_hadByLettingGo_40 : decode cX1_hadByLettingGo 40 = .ok (.invokestatic 36, 3) := by decide +kernel
theorem dX1_hadByLettingGo_43 : decode cX1_hadByLettingGo 43 = .ok (.istore_n 3, 1) := by decide +kernel
theorem dX1_hadByLettingGo_44 : decode cX1_hadByLettingGo 44 = .ok (.iinc 4 1, 3) := by decide +kernel
theorem dX1_hadByLettingGo_47 : decode cX1_hadByLettingGo 47 = .ok (.goto (-42), 3) := by decide +kernel
theorem dX1_hadByLettingGo_50 : decode cX1_hadByLettingGo 50 = .ok (.aload_n 0, 1) := by decide +kernel
theorem dX1_hadByLettingGo_51 : decode cX1_hadByLettingGo 51 = .ok (.getfield 22, 3) := by decide +kernel
theorem dX1_hadByLettingGo_54 : decode cX1_hadByLettingGo 54 = .ok (.iload_n 2, 1) := by decide +kernel
theorem dX1_hadByLettingGo_55 : decode cX1_hadByLettingGo 55 = .ok (.iconst 1, 1) := by decide +kernel
theorem dX1_hadByLettingGo_56 : decode cX1_hadByLettingGo 56 = .ok (.isub, 1) := by decide +kernel
theorem dX1_hadByLettingGo_57 : decode cX1_hadByLettingGo 57 = .ok (.invokevirtual 26, 3) := by decide +kernel
theorem dX1_hadByLettingGo_60 : decode cX1_hadByLettingGo 60 = .ok (.ireturn, 1) := by decide +kernel
theorem dX1_bestToLetGo_0 : decode cX1_bestToLetGo 0 = .ok (.iconst 0, 1) := by decide +kernel
theorem dX1_bestToLetGo_1 : decode cX1_bestToLetGo 1 = .ok (.istore_n 2, 1) := by decide +kernel
theorem dX1_bestToLetGo_2 : decode cX1_bestToLetGo 2 = .ok (.iconst 1, 1) := by decide +kernel
theorem dX1_bestToLetGo_3 : decode cX1_bestToLetGo 3 = .ok (.istore_n 3, 1) := by decide +kernel
theorem dX1_bestToLetGo_4 : decode cX1_bestToLetGo 4 = .ok (.iload_n 3, 1) := by decide +kernel
theorem dX1_bestToLetGo_5 : decode cX1_bestToLetGo 5 = .ok (.iload_n 1, 1) := by decide +kernel
theorem dX1_bestToLetGo_6 : decode cX1_bestToLetGo 6 = .ok (.if_icmp .ge 26, 3) := by decide +kernel
theorem dX1_bestToLetGo_9 : decode cX1_bestToLetGo 9 = .ok (.aload_n 0, 1) := by decide +kernel
theorem dX1_bestToLetGo_10 : decode cX1_bestToLetGo 10 = .ok (.iload_n 3, 1) := by decide +kernel
theorem dX1_bestToLetGo_11 : decode cX1_bestToLetGo 11 = .ok (.iload_n 1, 1) := by decide +kernel
theorem dX1_bestToLetGo_12 : decode cX1_bestToLetGo 12 = .ok (.invokevirtual 69, 3) := by decide +kernel
theorem dX1_bestToLetGo_15 : decode cX1_bestToLetGo 15 = .ok (.aload_n 0, 1) := by decide +kernel
theorem dX1_bestToLetGo_16 : decode cX1_bestToLetGo 16 = .ok (.iload_n 2, 1) := by decide +kernel
theorem dX1_bestToLetGo_17 : decode cX1_bestToLetGo 17 = .ok (.iload_n 1, 1) := by decide +kernel
theorem dX1_bestToLetGo_18 : decode cX1_bestToLetGo 18 = .ok (.invokevirtual 69, 3) := by decide +kernel
theorem dX1_bestToLetGo_21 : decode cX1_bestToLetGo 21 = .ok (.if_icmp .le 5, 3) := by decide +kernel
theorem dX1_bestToLetGo_24 : decode cX1_bestToLetGo 24 = .ok (.iload_n 3, 1) := by decide +kernel
theorem dX1_bestToLetGo_25 : decode cX1_bestToLetGo 25 = .ok (.istore_n 2, 1) := by decide +kernel
theorem dX1_bestToLetGo_26 : decode cX1_bestToLetGo 26 = .ok (.iinc 3 1, 3) := by decide +kernel
theorem dX1_bestToLetGo_29 : decode cX1_bestToLetGo 29 = .ok (.goto (-25), 3) := by decide +kernel
theorem dX1_bestToLetGo_32 : decode cX1_bestToLetGo 32 = .ok (.iload_n 2, 1) := by decide +kernel
theorem dX1_bestToLetGo_33 : decode cX1_bestToLetGo 33 = .ok (.ireturn, 1) := by decide +kernel
theorem dX2_init_0 : decode cX2_init 0 = .ok (.aload_n 0, 1) := by decide +kernel
theorem dX2_init_1 : decode cX2_init 1 = .ok (.invokespecial 3, 3) := by decide +kernel
theorem dX2_init_4 : decode cX2_init 4 = .ok (.aload_n 0, 1) := by decide +kernel
theorem dX2_init_5 : decode cX2_init 5 = .ok (.bipush 16, 2) := by decide +kernel
theorem dX2_init_7 : decode cX2_init 7 = .ok (.newarray .int, 2) := by decide +kernel
theorem dX2_init_9 : decode cX2_init 9 = .ok (.putfield 11, 3) := by decide +kernel
theorem dX2_init_12 : decode cX2_init 12 = .ok (.aload_n 0, 1) := by decide +kernel
theorem dX2_init_13 : decode cX2_init 13 = .ok (.bipush 16, 2) := by decide +kernel
theorem dX2_init_15 : decode cX2_init 15 = .ok (.newarray .int, 2) := by decide +kernel
theorem dX2_init_17 : decode cX2_init 17 = .ok (.putfield 15, 3) := by decide +kernel
theorem dX2_init_20 : decode cX2_init 20 = .ok (.aload_n 0, 1) := by decide +kernel
theorem dX2_init_21 : decode cX2_init 21 = .ok (.bipush 16, 2) := by decide +kernel
theorem dX2_init_23 : decode cX2_init 23 = .ok (.newarray .int, 2) := by decide +kernel
theorem dX2_init_25 : decode cX2_init 25 = .ok (.putfield 18, 3) := by decide +kernel
theorem dX2_init_28 : decode cX2_init 28 = .ok (.aload_n 0, 1) := by decide +kernel
theorem dX2_init_29 : decode cX2_init 29 = .ok (.sipush 288, 3) := by decide +kernel
theorem dX2_init_32 : decode cX2_init 32 = .ok (.newarray .int, 2) := by decide +kernel
theorem dX2_init_34 : decode cX2_init 34 = .ok (.putfield 21, 3) := by decide +kernel
theorem dX2_init_37 : decode cX2_init 37 = .ok (.aload_n 0, 1) := by decide +kernel
theorem dX2_init_38 : decode cX2_init 38 = .ok (.bipush 9, 2) := by decide +kernel
theorem dX2_init_40 : decode cX2_init 40 = .ok (.newarray .int, 2) := by decide +kernel
theorem dX2_init_42 : decode cX2_init 42 = .ok (.putfield 24, 3) := by decide +kernel
theorem dX2_init_45 : decode cX2_init 45 = .ok (.aload_n 0, 1) := by decide +kernel
theorem dX2_init_46 : decode cX2_init 46 = .ok (.bipush 32, 2) := by decide +kernel
theorem dX2_init_48 : decode cX2_init 48 = .ok (.newarray .int, 2) := by decide +kernel
theorem dX2_init_50 : decode cX2_init 50 = .ok (.putfield 27, 3) := by decide +kernel
theorem dX2_init_53 : decode cX2_init 53 = .ok (.aload_n 0, 1) := by decide +kernel
theorem dX2_init_54 : decode cX2_init 54 = .ok (.iconst 0, 1) := by decide +kernel
theorem dX2_init_55 : decode cX2_init 55 = .ok (.putfield 30, 3) := by decide +kernel
theorem dX2_init_58 : decode cX2_init 58 = .ok (.aload_n 0, 1) := by decide +kernel
theorem dX2_init_59 : decode cX2_init 59 = .ok (.iconst 0, 1) := by decide +kernel
theorem dX2_init_60 : decode cX2_init 60 = .ok (.putfield 34, 3) := by decide +kernel
theorem dX2_init_63 : decode cX2_init 63 = .ok (.aload_n 0, 1) := by decide +kernel
theorem dX2_init_64 : decode cX2_init 64 = .ok (.iconst 0, 1) := by decide +kernel
theorem dX2_init_65 : decode cX2_init 65 = .ok (.putfield 37, 3) := by decide +kernel
theorem dX2_init_68 : decode cX2_init 68 = .ok (.aload_n 0, 1) := by decide +kernel
theorem dX2_init_69 : decode cX2_init 69 = .ok (.iconst 0, 1) := by decide +kernel
theorem dX2_init_70 : decode cX2_init 70 = .ok (.putfield 40, 3) := by decide +kernel
theorem dX2_init_73 : decode cX2_init 73 = .ok (.aload_n 0, 1) := by decide +kernel
theorem dX2_init_74 : decode cX2_init 74 = .ok (.iconst 0, 1) := by decide +kernel
theorem dX2_init_75 : decode cX2_init 75 = .ok (.putfield 44, 3) := by decide +kernel
theorem dX2_init_78 : decode cX2_init 78 = .ok (.return_, 1) := by decide +kernel
theorem dX2_clear_0 : decode cX2_clear 0 = .ok (.aload_n 0, 1) := by decide +kernel
theorem dX2_clear_1 : decode cX2_clear 1 = .ok (.iconst 0, 1) := by decide +kernel
theorem dX2_clear_2 : decode cX2_clear 2 = .ok (.putfield 30, 3) := by decide +kernel
theorem dX2_clear_5 : decode cX2_clear 5 = .ok (.aload_n 0, 1) := by decide +kernel
theorem dX2_clear_6 : decode cX2_clear 6 = .ok (.iconst 0, 1) := by decide +kernel
theorem dX2_clear_7 : decode cX2_clear 7 = .ok (.putfield 34, 3) := by decide +kernel
theorem dX2_clear_10 : decode cX2_clear 10 = .ok (.return_, 1) := by decide +kernel
theorem dX2_addRule_0 : decode cX2_addRule 0 = .ok (.aload_n 0, 1) := by decide +kernel
theorem dX2_addRule_1 : decode cX2_addRule 1 = .ok (.getfield 30, 3) := by decide +kernel
theorem dX2_addRule_4 : decode cX2_addRule 4 = .ok (.bipush 16, 2) := by decide +kernel
theorem dX2_addRule_6 : decode cX2_addRule 6 = .ok (.if_icmp .ge 43, 3) := by decide +kernel
theorem dX2_addRule_9 : decode cX2_addRule 9 = .ok (.aload_n 0, 1) := by decide +kernel
theorem dX2_addRule_10 : decode cX2_addRule 10 = .ok (.getfield 11, 3) := by decide +kernel
theorem dX2_addRule_13 : decode cX2_addRule 13 = .ok (.aload_n 0, 1) := by decide +kernel
theorem dX2_addRule_14 : decode cX2_addRule 14 = .ok (.getfield 30, 3) := by decide +kernel
theorem dX2_addRule_17 : decode cX2_addRule 17 = .ok (.iload_n 1, 1) := by decide +kernel
theorem dX2_addRule_18 : decode cX2_addRule 18 = .ok (.iastore, 1) := by decide +kernel
theorem dX2_addRule_19 : decode cX2_addRule 19 = .ok (.aload_n 0, 1) := by decide +kernel
theorem dX2_addRule_20 : decode cX2_addRule 20 = .ok (.getfield 15, 3) := by decide +kernel
theorem dX2_addRule_23 : decode cX2_addRule 23 = .ok (.aload_n 0, 1) := by decide +kernel
theorem dX2_addRule_24 : decode cX2_addRule 24 = .ok (.getfield 30, 3) := by decide +kernel
theorem dX2_addRule_27 : decode cX2_addRule 27 = .ok (.iload_n 2, 1) := by decide +kernel
theorem dX2_addRule_28 : decode cX2_addRule 28 = .ok (.iastore, 1) := by decide +kernel
theorem dX2_addRule_29 : decode cX2_addRule 29 = .ok (.aload_n 0, 1) := by decide +kernel
theorem dX2_addRule_30 : decode cX2_addRule 30 = .ok (.getfield 18, 3) := by decide +kernel
theorem dX2_addRule_33 : decode cX2_addRule 33 = .ok (.aload_n 0, 1) := by decide +kernel
theorem dX2_addRule_34 : decode cX2_addRule 34 = .ok (.getfield 30, 3) := by decide +kernel
theorem dX2_addRule_37 : decode cX2_addRule 37 = .ok (.iload_n 3, 1) := by decide +kernel
theorem dX2_addRule_38 : decode cX2_addRule 38 = .ok (.iastore, 1) := by decide +kernel
theorem dX2_addRule_39 : decode cX2_addRule 39 = .ok (.aload_n 0, 1) := by decide +kernel
theorem dX2_addRule_40 : decode cX2_addRule 40 = .ok (.dup, 1) := by decide +kernel
theorem dX2_addRule_41 : decode cX2_addRule 41 = .ok (.getfield 30, 3) := by decide +kernel
theorem dX2_addRule_44 : decode cX2_addRule 44 = .ok (.iconst 1, 1) := by decide +kernel
theorem dX2_addRule_45 : decode cX2_addRule 45 = .ok (.iadd, 1) := by decide +kernel
theorem dX2_addRule_46 : decode cX2_addRule 46 = .ok (.putfield 30, 3) := by decide +kernel
theorem dX2_addRule_49 : decode cX2_addRule 49 = .ok (.return_, 1) := by decide +kernel
theorem dX2_addStep_0 : decode cX2_addStep 0 = .ok (.aload_n 0, 1) := by decide +kernel
theorem dX2_addStep_1 : decode cX2_addStep 1 = .ok (.getfield 34, 3) := by decide +kernel
theorem dX2_addStep_4 : decode cX2_addStep 4 = .ok (.istore_n 3, 1) := by decide +kernel
theorem dX2_addStep_5 : decode cX2_addStep 5 = .ok (.aload_n 0, 1) := by decide +kernel
theorem dX2_addStep_6 : decode cX2_addStep 6 = .ok (.getfield 34, 3) := by decide +kernel
theorem dX2_addStep_9 : decode cX2_addStep 9 = .ok (.sipush 288, 3) := by decide +kernel
theorem dX2_addStep_12 : decode cX2_addStep 12 = .ok (.if_icmp .ge 27, 3) := by decide +kernel
theorem dX2_addStep_15 : decode cX2_addStep 15 = .ok (.aload_n 0, 1) := by decide +kernel
theorem dX2_addStep_16 : decode cX2_addStep 16 = .ok (.getfield 21, 3) := by decide +kernel
theorem dX2_addStep_19 : decode cX2_addStep 19 = .ok (.aload_n 0, 1) := by decide +kernel
theorem dX2_addStep_20 : decode cX2_addStep 20 = .ok (.getfield 34, 3) := by decide +kernel
theorem dX2_addStep_23 : decode cX2_addStep 23 = .ok (.iload_n 2, 1) := by decide +kernel
theorem dX2_addStep_24 : decode cX2_addStep 24 = .ok (.iconst 4, 1) := by decide +kernel
theorem dX2_addStep_25 : decode cX2_addStep 25 = .ok (.ishl, 1) := by decide +kernel
theorem dX2_addStep_26 : decode cX2_addStep 26 = .ok (.iload_n 1, 1) := by decide +kernel
theorem dX2_addStep_27 : decode cX2_addStep 27 = .ok (.ior, 1) := by decide +kernel
theorem dX2_addStep_28 : decode cX2_addStep 28 = .ok (.iastore, 1) := by decide +kernel
theorem dX2_addStep_29 : decode cX2_addStep 29 = .ok (.aload_n 0, 1) := by decide +kernel
theorem dX2_addStep_30 : decode cX2_addStep 30 = .ok (.dup, 1) := by decide +kernel
theorem dX2_addStep_31 : decode cX2_addStep 31 = .ok (.getfield 34, 3) := by decide +kernel
theorem dX2_addStep_34 : decode cX2_addStep 34 = .ok (.iconst 1, 1) := by decide +kernel
theorem dX2_addStep_35 : decode cX2_addStep 35 = .ok (.iadd, 1) := by decide +kernel
theorem dX2_addStep_36 : decode cX2_addStep 36 = .ok (.putfield 34, 3) := by decide +kernel
theorem dX2_addStep_39 : decode cX2_addStep 39 = .ok (.iload_n 3, 1) := by decide +kernel
theorem dX2_addStep_40 : decode cX2_addStep 40 = .ok (.ireturn, 1) := by decide +kernel
theorem dX2_aimHere_0 : decode cX2_aimHere 0 = .ok (.iload_n 1, 1) := by decide +kernel
theorem dX2_aimHere_1 : decode cX2_aimHere 1 = .ok (.ifCond .lt 33, 3) := by decide +kernel
theorem dX2_aimHere_4 : decode cX2_aimHere 4 = .ok (.iload_n 1, 1) := by decide +kernel
theorem dX2_aimHere_5 : decode cX2_aimHere 5 = .ok (.aload_n 0, 1) := by decide +kernel
theorem dX2_aimHere_6 : decode cX2_aimHere 6 = .ok (.getfield 34, 3) := by decide +kernel
theorem dX2_aimHere_9 : decode cX2_aimHere 9 = .ok (.if_icmp .ge 25, 3) := by decide +kernel
theorem dX2_aimHere_12 : decode cX2_aimHere 12 = .ok (.aload_n 0, 1) := by decide +kernel
theorem dX2_aimHere_13 : decode cX2_aimHere 13 = .ok (.getfield 21, 3) := by decide +kernel
theorem dX2_aimHere_16 : decode cX2_aimHere 16 = .ok (.iload_n 1, 1) := by decide +kernel
theorem dX2_aimHere_17 : decode cX2_aimHere 17 = .ok (.aload_n 0, 1) := by decide +kernel
theorem dX2_aimHere_18 : decode cX2_aimHere 18 = .ok (.getfield 34, 3) := by decide +kernel
theorem dX2_aimHere_21 : decode cX2_aimHere 21 = .ok (.iconst 4, 1) := by decide +kernel
theorem dX2_aimHere_22 : decode cX2_aimHere 22 = .ok (.ishl, 1) := by decide +kernel
theorem dX2_aimHere_23 : decode cX2_aimHere 23 = .ok (.aload_n 0, 1) := by decide +kernel
theorem dX2_aimHere_24 : decode cX2_aimHere 24 = .ok (.getfield 21, 3) := by decide +kernel
theorem dX2_aimHere_27 : decode cX2_aimHere 27 = .ok (.iload_n 1, 1) := by decide +kernel
theorem dX2_aimHere_28 : decode cX2_aimHere 28 = .ok (.iaload, 1) := by decide +kernel
theorem dX2_aimHere_29 : decode cX2_aimHere 29 = .ok (.bipush 15, 2) := by decide +kernel
theorem dX2_aimHere_31 : decode cX2_aimHere 31 = .ok (.iand, 1) := by decide +kernel
theorem dX2_aimHere_32 : decode cX2_aimHere 32 = .ok (.ior, 1) := by decide +kernel
theorem dX2_aimHere_33 : decode cX2_aimHere 33 = .ok (.iastore, 1) := by decide +kernel
theorem dX2_aimHere_34 : decode cX2_aimHere 34 = .ok (.return_, 1) := by decide +kernel
theorem dX2_setLetter_0 : decode cX2_setLetter 0 = .ok (.iload_n 1, 1) := by decide +kernel
theorem dX2_setLetter_1 : decode cX2_setLetter 1 = .ok (.ifCond .lt 16, 3) := by decide +kernel
theorem dX2_setLetter_4 : decode cX2_setLetter 4 = .ok (.iload_n 1, 1) := by decide +kernel
theorem dX2_setLetter_5 : decode cX2_setLetter 5 = .ok (.bipush 9, 2) := by decide +kernel
theorem dX2_setLetter_7 : decode cX2_setLetter 7 = .ok (.if_icmp .ge 10, 3) := by decide +kernel
theorem dX2_setLetter_10 : decode cX2_setLetter 10 = .ok (.aload_n 0, 1) := by decide +kernel
theorem dX2_setLetter_11 : decode cX2_setLetter 11 = .ok (.getfield 24, 3) := by decide +kernel
theorem dX2_setLetter_14 : decode cX2_setLetter 14 = .ok (.iload_n 1, 1) := by decide +kernel
theorem dX2_setLetter_15 : decode cX2_setLetter 15 = .ok (.iload_n 2, 1) := by decide +kernel
theorem dX2_setLetter_16 : decode cX2_setLetter 16 = .ok (.iastore, 1) := by decide +kernel
theorem dX2_setLetter_17 : decode cX2_setLetter 17 = .ok (.return_, 1) := by decide +kernel
theorem dX2_leavesIt_0 : decode cX2_leavesIt 0 = .ok (.aload_n 0, 1) := by decide +kernel
theorem dX2_leavesIt_1 : decode cX2_leavesIt 1 = .ok (.bipush 120, 2) := by decide +kernel
theorem dX2_leavesIt_3 : decode cX2_leavesIt 3 = .ok (.invokevirtual 47, 3) := by decide +kernel
theorem dX2_leavesIt_6 : decode cX2_leavesIt 6 = .ok (.iconst (-1), 1) := by decide +kernel
theorem dX2_leavesIt_7 : decode cX2_leavesIt 7 = .ok (.if_icmp .eq 7, 3) := by decide +kernel
theorem dX2_leavesIt_10 : decode cX2_leavesIt 10 = .ok (.iconst 1, 1) := by decide +kernel
theorem dX2_leavesIt_11 : decode cX2_leavesIt 11 = .ok (.goto 4, 3) := by decide +kernel
theorem dX2_leavesIt_14 : decode cX2_leavesIt 14 = .ok (.iconst 0, 1) := by decide +kernel
theorem dX2_leavesIt_15 : decode cX2_leavesIt 15 = .ok (.ireturn, 1) := by decide +kernel
theorem dX2_worthOf_0 : decode cX2_worthOf 0 = .ok (.aload_n 0, 1) := by decide +kernel
theorem dX2_worthOf_1 : decode cX2_worthOf 1 = .ok (.iload_n 1, 1) := by decide +kernel
theorem dX2_worthOf_2 : decode cX2_worthOf 2 = .ok (.invokevirtual 47, 3) := by decide +kernel
theorem dX2_worthOf_5 : decode cX2_worthOf 5 = .ok (.istore 4, 2) := by decide +kernel
theorem dX2_worthOf_7 : decode cX2_worthOf 7 = .ok (.iload 4, 2) := by decide +kernel
theorem dX2_worthOf_9 : decode cX2_worthOf 9 = .ok (.iconst (-1), 1) := by decide +kernel
theorem dX2_worthOf_10 : decode cX2_worthOf 10 = .ok (.if_icmp .ne 5, 3) := by decide +kernel
theorem dX2_worthOf_13 : decode cX2_worthOf 13 = .ok (.iload_n 3, 1) := by decide +kernel
theorem dX2_worthOf_14 : decode cX2_worthOf 14 = .ok (.ireturn, 1) := by decide +kernel
theorem dX2_worthOf_15 : decode cX2_worthOf 15 = .ok (.aload_n 0, 1) := by decide +kernel
theorem dX2_worthOf_16 : decode cX2_worthOf 16 = .ok (.aload_n 0, 1) := by decide +kernel
theorem dX2_worthOf_17 : decode cX2_worthOf 17 = .ok (.getfield 15, 3) := by decide +kernel
theorem dX2_worthOf_20 : decode cX2_worthOf 20 = .ok (.iload 4, 2) := by decide +kernel
theorem dX2_worthOf_22 : decode cX2_worthOf 22 = .ok (.iaload, 1) := by decide +kernel
theorem dX2_worthOf_23 : decode cX2_worthOf 23 = .ok (.invokevirtual 51, 3) := by decide +kernel
theorem dX2_worthOf_26 : decode cX2_worthOf 26 = .ok (.aload_n 0, 1) := by decide +kernel
theorem dX2_worthOf_27 : decode cX2_worthOf 27 = .ok (.getfield 44, 3) := by decide +kernel
theorem dX2_worthOf_30 : decode cX2_worthOf 30 = .ok (.ifCond .eq 7, 3) := by decide +kernel
theorem dX2_worthOf_33 : decode cX2_worthOf 33 = .ok (.iconst 0, 1) := by decide +kernel
theorem dX2_worthOf_34 : decode cX2_worthOf 34 = .ok (.goto 17, 3) := by decide +kernel
theorem dX2_worthOf_37 : decode cX2_worthOf 37 = .ok (.iconst 0, 1) := by decide +kernel
theorem dX2_worthOf_38 : decode cX2_worthOf 38 = .ok (.iload_n 2, 1) := by decide +kernel
theorem dX2_worthOf_39 : decode cX2_worthOf 39 = .ok (.aload_n 0, 1) := by decide +kernel
theorem dX2_worthOf_40 : decode cX2_worthOf 40 = .ok (.getfield 27, 3) := by decide +kernel
theorem dX2_worthOf_43 : decode cX2_worthOf 43 = .ok (.iconst 0, 1) := by decide +kernel
theorem dX2_worthOf_44 : decode cX2_worthOf 44 = .ok (.iaload, 1) := by decide +kernel
theorem dX2_worthOf_45 : decode cX2_worthOf 45 = .ok (.invokestatic 55, 3) := by decide +kernel
theorem dX2_worthOf_48 : decode cX2_worthOf 48 = .ok (.invokestatic 61, 3) := by decide +kernel
theorem dX2_worthOf_51 : decode cX2_worthOf 51 = .ok (.ireturn, 1) := by decide +kernel
theorem dX2_firstRule_0 : decode cX2_firstRule 0 = .ok (.iconst 0, 1) := by decide +kernel
theorem dX2_firstRule_1 : decode cX2_firstRule 1 = .ok (.istore_n 2, 1) := by decide +kernel
theorem dX2_firstRule_2 : decode cX2_firstRule 2 = .ok (.iload_n 2, 1) := by decide +kernel
theorem dX2_firstRule_3 : decode cX2_firstRule 3 = .ok (.aload_n 0, 1) := by decide +kernel
theorem dX2_firstRule_4 : decode cX2_firstRule 4 = .ok (.getfield 30, 3) := by decide +kernel
theorem dX2_firstRule_7 : decode cX2_firstRule 7 = .ok (.if_icmp .ge 45, 3) := by decide +kernel
theorem dX2_firstRule_10 : decode cX2_firstRule 10 = .ok (.aload_n 0, 1) := by decide +kernel
theorem dX2_firstRule_11 : decode cX2_firstRule 11 = .ok (.getfield 11, 3) := by decide +kernel
theorem dX2_firstRule_14 : decode cX2_firstRule 14 = .ok (.iload_n 2, 1) := by decide +kernel
theorem dX2_firstRule_15 : decode cX2_firstRule 15 = .ok (.iaload, 1) := by decide +kernel
theorem dX2_firstRule_16 : decode cX2_firstRule 16 = .ok (.iload_n 1, 1) := by decide +kernel
theorem dX2_firstRule_17 : decode cX2_firstRule 17 = .ok (.if_icmp .ne 29, 3) := by decide +kernel
theorem dX2_firstRule_20 : decode cX2_firstRule 20 = .ok (.aload_n 0, 1) := by decide +kernel
theorem dX2_firstRule_21 : decode cX2_firstRule 21 = .ok (.aload_n 0, 1) := by decide +kernel
theorem dX2_firstRule_22 : decode cX2_firstRule 22 = .ok (.getfield 18, 3) := by decide +kernel
theorem dX2_firstRule_25 : decode cX2_firstRule 25 = .ok (.iload_n 2, 1) := by decide +kernel
theorem dX2_firstRule_26 : decode cX2_firstRule 26 = .ok (.iaload, 1) := by decide +kernel
theorem dX2_firstRule_27 : decode cX2_firstRule 27 = .ok (.invokevirtual 51, 3) := by decide +kernel
theorem dX2_firstRule_30 : decode cX2_firstRule 30 = .ok (.aload_n 0, 1) := by decide +kernel
theorem dX2_firstRule_31 : decode cX2_firstRule 31 = .ok (.getfield 40, 3) := by decide +kernel
theorem dX2_firstRule_34 : decode cX2_firstRule 34 = .ok (.ifCond .eq 12, 3) := by decide +kernel
theorem dX2_firstRule_37 : decode cX2_firstRule 37 = .ok (.aload_n 0, 1) := by decide +kernel
theorem dX2_firstRule_38 : decode cX2_firstRule 38 = .ok (.getfield 44, 3) := by decide +kernel
theorem dX2_firstRule_41 : decode cX2_firstRule 41 = .ok (.ifCond .ne 5, 3) := by decide +kernel
theorem dX2_firstRule_44 : decode cX2_firstRule 44 = .ok (.iload_n 2, 1) := by decide +kernel
theorem dX2_firstRule_45 : decode cX2_firstRule 45 = .ok (.ireturn, 1) := by decide +kernel
theorem dX2_firstRule_46 : decode cX2_firstRule 46 = .ok (.iinc 2 1, 3) := by decide +kernel
theorem dX2_firstRule_49 : decode cX2_firstRule 49 = .ok (.goto (-47), 3) := by decide +kernel
theorem dX2_firstRule_52 : decode cX2_firstRule 52 = .ok (.iconst (-1), 1) := by decide +kernel
theorem dX2_firstRule_53 : decode cX2_firstRule 53 = .ok (.ireturn, 1) := by decide +kernel
theorem dX2_work_0 : decode cX2_work 0 = .ok (.aload_n 0, 1) := by decide +kernel
theorem dX2_work_1 : decode cX2_work 1 = .ok (.iconst 0, 1) := by decide +kernel
theorem dX2_work_2 : decode cX2_work 2 = .ok (.putfield 37, 3) := by decide +kernel
theorem dX2_work_5 : decode cX2_work 5 = .ok (.aload_n 0, 1) := by decide +kernel
theorem dX2_work_6 : decode cX2_work 6 = .ok (.iconst 0, 1) := by decide +kernel
theorem dX2_work_7 : decode cX2_work 7 = .ok (.putfield 40, 3) := by decide +kernel
theorem dX2_work_10 : decode cX2_work 10 = .ok (.aload_n 0, 1) := by decide +kernel
theorem dX2_work_11 : decode cX2_work 11 = .ok (.iconst 0, 1) := by decide +kernel
theorem dX2_work_12 : decode cX2_work 12 = .ok (.putfield 44, 3) := by decide +kernel
theorem dX2_work_15 : decode cX2_work 15 = .ok (.iload_n 1, 1) := by decide +kernel
theorem dX2_work_16 : decode cX2_work 16 = .ok (.istore_n 2, 1) := by decide +kernel
theorem dX2_work_17 : decode cX2_work 17 = .ok (.iconst 0, 1) := by decide +kernel
theorem dX2_work_18 : decode cX2_work 18 = .ok (.istore_n 3, 1) := by decide +kernel
theorem dX2_work_19 : decode cX2_work 19 = .ok (.iload_n 3, 1) := by decide +kernel
theorem dX2_work_20 : decode cX2_work 20 = .ok (.sipush 288, 3) := by decide +kernel
theorem dX2_work_23 : decode cX2_work 23 = .ok (.if_icmp .ge 123, 3) := by decide +kernel
theorem dX2_work_26 : decode cX2_work 26 = .ok (.aload_n 0, 1) := by decide +kernel
theorem dX2_work_27 : decode cX2_work 27 = .ok (.getfield 44, 3) := by decide +kernel
theorem dX2_work_30 : decode cX2_work 30 = .ok (.ifCond .ne 116, 3) := by decide +kernel
theorem dX2_work_33 : decode cX2_work 33 = .ok (.iload_n 2, 1) := by decide +kernel
theorem dX2_work_34 : decode cX2_work 34 = .ok (.ifCond .lt 20, 3) := by decide +kernel
theorem dX2_work_37 : decode cX2_work 37 = .ok (.iload_n 2, 1) := by decide +kernel
theorem dX2_work_38 : decode cX2_work 38 = .ok (.aload_n 0, 1) := by decide +kernel
theorem dX2_work_39 : decode cX2_work 39 = .ok (.getfield 34, 3) := by decide +kernel
theorem dX2_work_42 : decode cX2_work 42 = .ok (.if_icmp .ge 12, 3) := by decide +kernel
theorem dX2_work_45 : decode cX2_work 45 = .ok (.aload_n 0, 1) := by decide +kernel
theorem dX2_work_46 : decode cX2_work 46 = .ok (.getfield 21, 3) := by decide +kernel
theorem dX2_work_49 : decode cX2_work 49 = .ok (.iload_n 2, 1) := by decide +kernel
theorem dX2_work_50 : decode cX2_work 50 = .ok (.iaload, 1) := by decide +kernel
theorem dX2_work_51 : decode cX2_work 51 = .ok (.ifCond .ne 4, 3) := by decide +kernel
theorem dX2_work_54 : decode cX2_work 54 = .ok (.return_, 1) := by decide +kernel
theorem dX2_work_55 : decode cX2_work 55 = .ok (.aload_n 0, 1) := by decide +kernel
theorem dX2_work_56 : decode cX2_work 56 = .ok (.getfield 21, 3) := by decide +kernel
theorem dX2_work_59 : decode cX2_work 59 = .ok (.iload_n 2, 1) := by decide +kernel
theorem dX2_work_60 : decode cX2_work 60 = .ok (.iaload, 1) := by decide +kernel
theorem dX2_work_61 : decode cX2_work 61 = .ok (.bipush 15, 2) := by decide +kernel
theorem dX2_work_63 : decode cX2_work 63 = .ok (.iand, 1) := by decide +kernel
theorem dX2_work_64 : decode cX2_work 64 = .ok (.istore 4, 2) := by decide +kernel
theorem dX2_work_66 : decode cX2_work 66 = .ok (.aload_n 0, 1) := by decide +kernel
theorem dX2_work_67 : decode cX2_work 67 = .ok (.getfield 21, 3) := by decide +kernel
theorem dX2_work_70 : decode cX2_work 70 = .ok (.iload_n 2, 1) := by decide +kernel
theorem dX2_work_71 : decode cX2_work 71 = .ok (.iaload, 1) := by decide +kernel
theorem dX2_work_72 : decode cX2_work 72 = .ok (.iconst 4, 1) := by decide +kernel
theorem dX2_work_73 : decode cX2_work 73 = .ok (.ishr, 1) := by decide +kernel
theorem dX2_work_74 : decode cX2_work 74 = .ok (.istore 5, 2) := by decide +kernel
theorem dX2_work_76 : decode cX2_work 76 = .ok (.iload 4, 2) := by decide +kernel
theorem dX2_work_78 : decode cX2_work 78 = .ok (.bipush 12, 2) := by decide +kernel
theorem dX2_work_80 : decode cX2_work 80 = .ok (.if_icmp .ne 10, 3) := by decide +kernel
theorem dX2_work_83 : decode cX2_work 83 = .ok (.aload_n 0, 1) := by decide +kernel
theorem dX2_work_84 : decode cX2_work 84 = .ok (.getfield 40, 3) := by decide +kernel
theorem dX2_work_87 : decode cX2_work 87 = .ok (.ifCond .ne 17, 3) := by decide +kernel
theorem dX2_work_90 : decode cX2_work 90 = .ok (.iload 4, 2) := by decide +kernel
theorem dX2_work_92 : decode cX2_work 92 = .ok (.bipush 13, 2) := by decide +kernel
theorem dX2_work_94 : decode cX2_work 94 = .ok (.if_icmp .ne 14, 3) := by decide +kernel
theorem dX2_work_97 : decode cX2_work 97 = .ok (.aload_n 0, 1) := by decide +kernel
theorem dX2_work_98 : decode cX2_work 98 = .ok (.getfield 40, 3) := by decide +kernel
theorem dX2_work_101 : decode cX2_work 101 = .ok (.ifCond .ne 7, 3) := by decide +kernel
theorem dX2_work_104 : decode cX2_work 104 = .ok (.iconst 1, 1) := by decide +kernel
theorem dX2_work_105 : decode cX2_work 105 = .ok (.goto 4, 3) := by decide +kernel
theorem dX2_work_108 : decode cX2_work 108 = .ok (.iconst 0, 1) := by decide +kernel
theorem dX2_work_109 : decode cX2_work 109 = .ok (.istore 6, 2) := by decide +kernel
theorem dX2_work_111 : decode cX2_work 111 = .ok (.iload 6, 2) := by decide +kernel
theorem dX2_work_113 : decode cX2_work 113 = .ok (.ifCond .eq 8, 3) := by decide +kernel
theorem dX2_work_116 : decode cX2_work 116 = .ok (.iload 5, 2) := by decide +kernel
theorem dX2_work_118 : decode cX2_work 118 = .ok (.goto 6, 3) := by decide +kernel
theorem dX2_work_121 : decode cX2_work 121 = .ok (.iload_n 2, 1) := by decide +kernel
theorem dX2_work_122 : decode cX2_work 122 = .ok (.iconst 1, 1) := by decide +kernel
theorem dX2_work_123 : decode cX2_work 123 = .ok (.iadd, 1) := by decide +kernel
theorem dX2_work_124 : decode cX2_work 124 = .ok (.istore_n 2, 1) := by decide +kernel
theorem dX2_work_125 : decode cX2_work 125 = .ok (.iload 4, 2) := by decide +kernel
theorem dX2_work_127 : decode cX2_work 127 = .ok (.bipush 12, 2) := by decide +kernel
theorem dX2_work_129 : decode cX2_work 129 = .ok (.if_icmp .ge 11, 3) := by decide +kernel
theorem dX2_work_132 : decode cX2_work 132 = .ok (.aload_n 0, 1) := by decide +kernel
theorem dX2_work_133 : decode cX2_work 133 = .ok (.iload 4, 2) := by decide +kernel
theorem dX2_work_135 : decode cX2_work 135 = .ok (.iload 5, 2) := by decide +kernel
theorem dX2_work_137 : decode cX2_work 137 = .ok (.invokevirtual 64, 3) := by decide +kernel
theorem dX2_work_140 : decode cX2_work 140 = .ok (.iinc 3 1, 3) := by decide +kernel
theorem dX2_work_143 : decode cX2_work 143 = .ok (.goto (-124), 3) := by decide +kernel
theorem dX2_work_146 : decode cX2_work 146 = .ok (.return_, 1) := by decide +kernel
theorem dX2_takeStep_0 : decode cX2_takeStep 0 = .ok (.iload_n 1, 1) := by decide +kernel
theorem dX2_takeStep_1 : decode cX2_takeStep 1 = .ok (.bipush 11, 2) := by decide +kernel
theorem dX2_takeStep_3 : decode cX2_takeStep 3 = .ok (.if_icmp .ne 22, 3) := by decide +kernel
theorem dX2_takeStep_6 : decode cX2_takeStep 6 = .ok (.aload_n 0, 1) := by decide +kernel
theorem dX2_takeStep_7 : decode cX2_takeStep 7 = .ok (.aload_n 0, 1) := by decide +kernel
theorem dX2_takeStep_8 : decode cX2_takeStep 8 = .ok (.getfield 40, 3) := by decide +kernel
theorem dX2_takeStep_11 : decode cX2_takeStep 11 = .ok (.ifCond .ne 7, 3) := by decide +kernel
theorem dX2_takeStep_14 : decode cX2_takeStep 14 = .ok (.iconst 1, 1) := by decide +kernel
theorem dX2_takeStep_15 : decode cX2_takeStep 15 = .ok (.goto 4, 3) := by decide +kernel
theorem dX2_takeStep_18 : decode cX2_takeStep 18 = .ok (.iconst 0, 1) := by decide +kernel
theorem dX2_takeStep_19 : decode cX2_takeStep 19 = .ok (.putfield 40, 3) := by decide +kernel
theorem dX2_takeStep_22 : decode cX2_takeStep 22 = .ok (.goto 192, 3) := by decide +kernel
theorem dX2_takeStep_25 : decode cX2_takeStep 25 = .ok (.iload_n 1, 1) := by decide +kernel
theorem dX2_takeStep_26 : decode cX2_takeStep 26 = .ok (.iconst 1, 1) := by decide +kernel
theorem dX2_takeStep_27 : decode cX2_takeStep 27 = .ok (.if_icmp .eq 8, 3) := by decide +kernel
theorem dX2_takeStep_30 : decode cX2_takeStep 30 = .ok (.iload_n 1, 1) := by decide +kernel
theorem dX2_takeStep_31 : decode cX2_takeStep 31 = .ok (.iconst 2, 1) := by decide +kernel
theorem dX2_takeStep_32 : decode cX2_takeStep 32 = .ok (.if_icmp .ne 48, 3) := by decide +kernel
theorem dX2_takeStep_35 : decode cX2_takeStep 35 = .ok (.aload_n 0, 1) := by decide +kernel
theorem dX2_takeStep_36 : decode cX2_takeStep 36 = .ok (.getfield 37, 3) := by decide +kernel
theorem dX2_takeStep_39 : decode cX2_takeStep 39 = .ok (.bipush 32, 2) := by decide +kernel
theorem dX2_takeStep_41 : decode cX2_takeStep 41 = .ok (.if_icmp .ge 173, 3) := by decide +kernel
theorem dX2_takeStep_44 : decode cX2_takeStep 44 = .ok (.aload_n 0, 1) := by decide +kernel
theorem dX2_takeStep_45 : decode cX2_takeStep 45 = .ok (.getfield 27, 3) := by decide +kernel
theorem dX2_takeStep_48 : decode cX2_takeStep 48 = .ok (.aload_n 0, 1) := by decide +kernel
theorem dX2_takeStep_49 : decode cX2_takeStep 49 = .ok (.getfield 37, 3) := by decide +kernel
theorem dX2_takeStep_52 : decode cX2_takeStep 52 = .ok (.iload_n 1, 1) := by decide +kernel
theorem dX2_takeStep_53 : decode cX2_takeStep 53 = .ok (.iconst 1, 1) := by decide +kernel
theorem dX2_takeStep_54 : decode cX2_takeStep 54 = .ok (.if_icmp .ne 7, 3) := by decide +kernel
theorem dX2_takeStep_57 : decode cX2_takeStep 57 = .ok (.iload_n 2, 1) := by decide +kernel
theorem dX2_takeStep_58 : decode cX2_takeStep 58 = .ok (.goto 8, 3) := by decide +kernel
theorem dX2_takeStep_61 : decode cX2_takeStep 61 = .ok (.aload_n 0, 1) := by decide +kernel
theorem dX2_takeStep_62 : decode cX2_takeStep 62 = .ok (.iload_n 2, 1) := by decide +kernel
theorem dX2_takeStep_63 : decode cX2_takeStep 63 = .ok (.invokevirtual 68, 3) := by decide +kernel
theorem dX2_takeStep_66 : decode cX2_takeStep 66 = .ok (.iastore, 1) := by decide +kernel
theorem dX2_takeStep_67 : decode cX2_takeStep 67 = .ok (.aload_n 0, 1) := by decide +kernel
theorem dX2_takeStep_68 : decode cX2_takeStep 68 = .ok (.dup, 1) := by decide +kernel
theorem dX2_takeStep_69 : decode cX2_takeStep 69 = .ok (.getfield 37, 3) := by decide +kernel
theorem dX2_takeStep_72 : decode cX2_takeStep 72 = .ok (.iconst 1, 1) := by decide +kernel
theorem dX2_takeStep_73 : decode cX2_takeStep 73 = .ok (.iadd, 1) := by decide +kernel
theorem dX2_takeStep_74 : decode cX2_takeStep 74 = .ok (.putfield 37, 3) := by decide +kernel
theorem dX2_takeStep_77 : decode cX2_takeStep 77 = .ok (.goto 137, 3) := by decide +kernel
theorem dX2_takeStep_80 : decode cX2_takeStep 80 = .ok (.aload_n 0, 1) := by decide +kernel
theorem dX2_takeStep_81 : decode cX2_takeStep 81 = .ok (.getfield 37, 3) := by decide +kernel
theorem dX2_takeStep_84 : decode cX2_takeStep 84 = .ok (.iconst 2, 1) := by decide +kernel
theorem dX2_takeStep_85 : decode cX2_takeStep 85 = .ok (.if_icmp .lt 129, 3) := by decide +kernel
theorem dX2_takeStep_88 : decode cX2_takeStep 88 = .ok (.aload_n 0, 1) := by decide +kernel
theorem dX2_takeStep_89 : decode cX2_takeStep 89 = .ok (.dup, 1) := by decide +kernel
theorem dX2_takeStep_90 : decode cX2_takeStep 90 = .ok (.getfield 37, 3) := by decide +kernel
theorem dX2_takeStep_93 : decode cX2_takeStep 93 = .ok (.iconst 1, 1) := by decide +kernel
theorem dX2_takeStep_94 : decode cX2_takeStep 94 = .ok (.isub, 1) := by decide +kernel
theorem dX2_takeStep_95 : decode cX2_takeStep 95 = .ok (.putfield 37, 3) := by decide +kernel
theorem dX2_takeStep_98 : decode cX2_takeStep 98 = .ok (.aload_n 0, 1) := by decide +kernel
theorem dX2_takeStep_99 : decode cX2_takeStep 99 = .ok (.getfield 27, 3) := by decide +kernel
theorem dX2_takeStep_102 : decode cX2_takeStep 102 = .ok (.aload_n 0, 1) := by decide +kernel
theorem dX2_takeStep_103 : decode cX2_takeStep 103 = .ok (.getfield 37, 3) := by decide +kernel
theorem dX2_takeStep_106 : decode cX2_takeStep 106 = .ok (.iconst 1, 1) := by decide +kernel
theorem dX2_takeStep_107 : decode cX2_takeStep 107 = .ok (.isub, 1) := by decide +kernel
theorem dX2_takeStep_108 : decode cX2_takeStep 108 = .ok (.iaload, 1) := by decide +kernel
theorem dX2_takeStep_109 : decode cX2_takeStep 109 = .ok (.istore_n 3, 1) := by decide +kernel
theorem dX2_takeStep_110 : decode cX2_takeStep 110 = .ok (.aload_n 0, 1) := by decide +kernel
theorem dX2_takeStep_111 : decode cX2_takeStep 111 = .ok (.getfield 27, 3) := by decide +kernel
theorem dX2_takeStep_114 : decode cX2_takeStep 114 = .ok (.aload_n 0, 1) := by decide +kernel
theorem dX2_takeStep_115 : decode cX2_takeStep 115 = .ok (.getfield 37, 3) := by decide +kernel
theorem dX2_takeStep_118 : decode cX2_takeStep 118 = .ok (.iaload, 1) := by decide +kernel
theorem dX2_takeStep_119 : decode cX2_takeStep 119 = .ok (.istore 4, 2) := by decide +kernel
theorem dX2_takeStep_121 : decode cX2_takeStep 121 = .ok (.iload_n 1, 1) := by decide +kernel
theorem dX2_takeStep_122 : decode cX2_takeStep 122 = .ok (.bipush 8, 2) := by decide +kernel
theorem dX2_takeStep_124 : decode cX2_takeStep 124 = .ok (.if_icmp .ge 25, 3) := by decide +kernel
theorem dX2_takeStep_127 : decode cX2_takeStep 127 = .ok (.aload_n 0, 1) := by decide +kernel
theorem dX2_takeStep_128 : decode cX2_takeStep 128 = .ok (.getfield 27, 3) := by decide +kernel
theorem dX2_takeStep_131 : decode cX2_takeStep 131 = .ok (.aload_n 0, 1) := by decide +kernel
theorem dX2_takeStep_132 : decode cX2_takeStep 132 = .ok (.getfield 37, 3) := by decide +kernel
theorem dX2_takeStep_135 : decode cX2_takeStep 135 = .ok (.iconst 1, 1) := by decide +kernel
theorem dX2_takeStep_136 : decode cX2_takeStep 136 = .ok (.isub, 1) := by decide +kernel
theorem dX2_takeStep_137 : decode cX2_takeStep 137 = .ok (.aload_n 0, 1) := by decide +kernel
theorem dX2_takeStep_138 : decode cX2_takeStep 138 = .ok (.iload_n 1, 1) := by decide +kernel
theorem dX2_takeStep_139 : decode cX2_takeStep 139 = .ok (.iload_n 3, 1) := by decide +kernel
theorem dX2_takeStep_140 : decode cX2_takeStep 140 = .ok (.iload 4, 2) := by decide +kernel
theorem dX2_takeStep_142 : decode cX2_takeStep 142 = .ok (.invokevirtual 71, 3) := by decide +kernel
theorem dX2_takeStep_145 : decode cX2_takeStep 145 = .ok (.iastore, 1) := by decide +kernel
theorem dX2_takeStep_146 : decode cX2_takeStep 146 = .ok (.goto 68, 3) := by decide +kernel
theorem dX2_takeStep_149 : decode cX2_takeStep 149 = .ok (.aload_n 0, 1) := by decide +kernel
theorem dX2_takeStep_150 : decode cX2_takeStep 150 = .ok (.dup, 1) := by decide +kernel
theorem dX2_takeStep_151 : decode cX2_takeStep 151 = .ok (.getfield 37, 3) := by decide +kernel
theorem dX2_takeStep_154 : decode cX2_takeStep 154 = .ok (.iconst 1, 1) := by decide +kernel
theorem dX2_takeStep_155 : decode cX2_takeStep 155 = .ok (.isub, 1) := by decide +kernel
theorem dX2_takeStep_156 : decode cX2_takeStep 156 = .ok (.putfield 37, 3) := by decide +kernel
theorem dX2_takeStep_159 : decode cX2_takeStep 159 = .ok (.aload_n 0, 1) := by decide +kernel
theorem dX2_takeStep_160 : decode cX2_takeStep 160 = .ok (.iload_n 1, 1) := by decide +kernel
theorem dX2_takeStep_161 : decode cX2_takeStep 161 = .ok (.bipush 8, 2) := by decide +kernel
theorem dX2_takeStep_163 : decode cX2_takeStep 163 = .ok (.if_icmp .ne 17, 3) := by decide +kernel
theorem dX2_takeStep_166 : decode cX2_takeStep 166 = .ok (.iload_n 3, 1) := by decide +kernel
theorem dX2_takeStep_167 : decode cX2_takeStep 167 = .ok (.iload 4, 2) := by decide +kernel
theorem dX2_takeStep_169 : decode cX2_takeStep 169 = .ok (.if_icmp .ge 7, 3) := by decide +kernel
theorem dX2_takeStep_172 : decode cX2_takeStep 172 = .ok (.iconst 1, 1) := by decide +kernel
theorem dX2_takeStep_173 : decode cX2_takeStep 173 = .ok (.goto 38, 3) := by decide +kernel
theorem dX2_takeStep_176 : decode cX2_takeStep 176 = .ok (.iconst 0, 1) := by decide +kernel
theorem dX2_takeStep_177 : decode cX2_takeStep 177 = .ok (.goto 34, 3) := by decide +kernel
theorem dX2_takeStep_180 : decode cX2_takeStep 180 = .ok (.iload_n 1, 1) := by decide +kernel
theorem dX2_takeStep_181 : decode cX2_takeStep 181 = .ok (.bipush 9, 2) := by decide +kernel
theorem dX2_takeStep_183 : decode cX2_takeStep 183 = .ok (.if_icmp .ne 17, 3) := by decide +kernel
theorem dX2_takeStep_186 : decode cX2_takeStep 186 = .ok (.iload_n 3, 1) := by decide +kernel
theorem dX2_takeStep_187 : decode cX2_takeStep 187 = .ok (.iload 4, 2) := by decide +kernel
theorem dX2_takeStep_189 : decode cX2_takeStep 189 = .ok (.if_icmp .le 7, 3) := by decide +kernel
theorem dX2_takeStep_192 : decode cX2_takeStep 192 = .ok (.iconst 1, 1) := by decide +kernel
theorem dX2_takeStep_193 : decode cX2_takeStep 193 = .ok (.goto 18, 3) := by decide +kernel
theorem dX2_takeStep_196 : decode cX2_takeStep 196 = .ok (.iconst 0, 1) := by decide +kernel
theorem dX2_takeStep_197 : decode cX2_takeStep 197 = .ok (.goto 14, 3) := by decide +kernel
theorem dX2_takeStep_200 : decode cX2_takeStep 200 = .ok (.iload_n 3, 1) := by decide +kernel
theorem dX2_takeStep_201 : decode cX2_takeStep 201 = .ok (.iload 4, 2) := by decide +kernel
theorem dX2_takeStep_203 : decode cX2_takeStep 203 = .ok (.if_icmp .ne 7, 3) := by decide +kernel
theorem dX2_takeStep_206 : decode cX2_takeStep 206 = .ok (.iconst 1, 1) := by decide +kernel
theorem dX2_takeStep_207 : decode cX2_takeStep 207 = .ok (.goto 4, 3) := by decide +kernel
theorem dX2_takeStep_210 : decode cX2_takeStep 210 = .ok (.iconst 0, 1) := by decide +kernel
theorem dX2_takeStep_211 : decode cX2_takeStep 211 = .ok (.putfield 40, 3) := by decide +kernel
theorem dX2_takeStep_214 : decode cX2_takeStep 214 = .ok (.return_, 1) := by decide +kernel
theorem dX2_letterValue_0 : decode cX2_letterValue 0 = .ok (.iload_n 1, 1) := by decide +kernel
theorem dX2_letterValue_1 : decode cX2_letterValue 1 = .ok (.ifCond .lt 18, 3) := by decide +kernel
theorem dX2_letterValue_4 : decode cX2_letterValue 4 = .ok (.iload_n 1, 1) := by decide +kernel
theorem dX2_letterValue_5 : decode cX2_letterValue 5 = .ok (.bipush 9, 2) := by decide +kernel
theorem dX2_letterValue_7 : decode cX2_letterValue 7 = .ok (.if_icmp .ge 12, 3) := by decide +kernel
theorem dX2_letterValue_10 : decode cX2_letterValue 10 = .ok (.aload_n 0, 1) := by decide +kernel
theorem dX2_letterValue_11 : decode cX2_letterValue 11 = .ok (.getfield 24, 3) := by decide +kernel
theorem dX2_letterValue_14 : decode cX2_letterValue 14 = .ok (.iload_n 1, 1) := by decide +kernel
theorem dX2_letterValue_15 : decode cX2_letterValue 15 = .ok (.iaload, 1) := by decide +kernel
theorem dX2_letterValue_16 : decode cX2_letterValue 16 = .ok (.goto 4, 3) := by decide +kernel
theorem dX2_letterValue_19 : decode cX2_letterValue 19 = .ok (.iconst 0, 1) := by decide +kernel
theorem dX2_letterValue_20 : decode cX2_letterValue 20 = .ok (.ireturn, 1) := by decide +kernel
theorem dX2_reckon_0 : decode cX2_reckon 0 = .ok (.iload_n 1, 1) := by decide +kernel
theorem dX2_reckon_1 : decode cX2_reckon 1 = .ok (.iconst 3, 1) := by decide +kernel
theorem dX2_reckon_2 : decode cX2_reckon 2 = .ok (.if_icmp .ne 7, 3) := by decide +kernel
theorem dX2_reckon_5 : decode cX2_reckon 5 = .ok (.iload_n 2, 1) := by decide +kernel
theorem dX2_reckon_6 : decode cX2_reckon 6 = .ok (.iload_n 3, 1) := by decide +kernel
theorem dX2_reckon_7 : decode cX2_reckon 7 = .ok (.iadd, 1) := by decide +kernel
theorem dX2_reckon_8 : decode cX2_reckon 8 = .ok (.ireturn, 1) := by decide +kernel
theorem dX2_reckon_9 : decode cX2_reckon 9 = .ok (.iload_n 1, 1) := by decide +kernel
theorem dX2_reckon_10 : decode cX2_reckon 10 = .ok (.iconst 4, 1) := by decide +kernel
theorem dX2_reckon_11 : decode cX2_reckon 11 = .ok (.if_icmp .ne 7, 3) := by decide +kernel
theorem dX2_reckon_14 : decode cX2_reckon 14 = .ok (.iload_n 2, 1) := by decide +kernel
theorem dX2_reckon_15 : decode cX2_reckon 15 = .ok (.iload_n 3, 1) := by decide +kernel
theorem dX2_reckon_16 : decode cX2_reckon 16 = .ok (.isub, 1) := by decide +kernel
theorem dX2_reckon_17 : decode cX2_reckon 17 = .ok (.ireturn, 1) := by decide +kernel
theorem dX2_reckon_18 : decode cX2_reckon 18 = .ok (.iload_n 1, 1) := by decide +kernel
theorem dX2_reckon_19 : decode cX2_reckon 19 = .ok (.iconst 5, 1) := by decide +kernel
theorem dX2_reckon_20 : decode cX2_reckon 20 = .ok (.if_icmp .ne 7, 3) := by decide +kernel
theorem dX2_reckon_23 : decode cX2_reckon 23 = .ok (.iload_n 2, 1) := by decide +kernel
theorem dX2_reckon_24 : decode cX2_reckon 24 = .ok (.iload_n 3, 1) := by decide +kernel
theorem dX2_reckon_25 : decode cX2_reckon 25 = .ok (.imul, 1) := by decide +kernel
theorem dX2_reckon_26 : decode cX2_reckon 26 = .ok (.ireturn, 1) := by decide +kernel
theorem dX2_reckon_27 : decode cX2_reckon 27 = .ok (.iload_n 3, 1) := by decide +kernel
theorem dX2_reckon_28 : decode cX2_reckon 28 = .ok (.ifCond .ne 10, 3) := by decide +kernel
theorem dX2_reckon_31 : decode cX2_reckon 31 = .ok (.aload_n 0, 1) := by decide +kernel
theorem dX2_reckon_32 : decode cX2_reckon 32 = .ok (.iconst 1, 1) := by decide +kernel
theorem dX2_reckon_33 : decode cX2_reckon 33 = .ok (.putfield 44, 3) := by decide +kernel
theorem dX2_reckon_36 : decode cX2_reckon 36 = .ok (.iconst 0, 1) := by decide +kernel
theorem dX2_reckon_37 : decode cX2_reckon 37 = .ok (.ireturn, 1) := by decide +kernel
theorem dX2_reckon_38 : decode cX2_reckon 38 = .ok (.iload_n 1, 1) := by decide +kernel
theorem dX2_reckon_39 : decode cX2_reckon 39 = .ok (.bipush 6, 2) := by decide +kernel
theorem dX2_reckon_41 : decode cX2_reckon 41 = .ok (.if_icmp .ne 9, 3) := by decide +kernel
theorem dX2_reckon_44 : decode cX2_reckon 44 = .ok (.iload_n 2, 1) := by decide +kernel
theorem dX2_reckon_45 : decode cX2_reckon 45 = .ok (.iload_n 3, 1) := by decide +kernel
theorem dX2_reckon_46 : decode cX2_reckon 46 = .ok (.idiv, 1) := by decide +kernel
theorem dX2_reckon_47 : decode cX2_reckon 47 = .ok (.goto 6, 3) := by decide +kernel
theorem dX2_reckon_50 : decode cX2_reckon 50 = .ok (.iload_n 2, 1) := by decide +kernel
theorem dX2_reckon_51 : decode cX2_reckon 51 = .ok (.iload_n 3, 1) := by decide +kernel
theorem dX2_reckon_52 : decode cX2_reckon 52 = .ok (.irem, 1) := by decide +kernel
theorem dX2_reckon_53 : decode cX2_reckon 53 = .ok (.ireturn, 1) := by decide +kernel
theorem dX3_init_0 : decode cX3_init 0 = .ok (.aload_n 0, 1) := by decide +kernel
theorem dX3_init_1 : decode cX3_init 1 = .ok (.invokespecial 3, 3) := by decide +kernel
theorem dX3_init_4 : decode cX3_init 4 = .ok (.aload_n 0, 1) := by decide +kernel
theorem dX3_init_5 : decode cX3_init 5 = .ok (.aload_n 1, 1) := by decide +kernel
theorem dX3_init_6 : decode cX3_init 6 = .ok (.putfield 9, 3) := by decide +kernel
theorem dX3_init_9 : decode cX3_init 9 = .ok (.return_, 1) := by decide +kernel
theorem dX3_readLaw_0 : decode cX3_readLaw 0 = .ok (.aload_n 0, 1) := by decide +kernel
theorem dX3_readLaw_1 : decode cX3_readLaw 1 = .ok (.getfield 9, 3) := by decide +kernel
theorem dX3_readLaw_4 : decode cX3_readLaw 4 = .ok (.iload_n 1, 1) := by decide +kernel
theorem dX3_readLaw_5 : decode cX3_readLaw 5 = .ok (.invokevirtual 15, 3) := by decide +kernel
theorem dX3_readLaw_8 : decode cX3_readLaw 8 = .ok (.aload_n 2, 1) := by decide +kernel
theorem dX3_readLaw_9 : decode cX3_readLaw 9 = .ok (.invokevirtual 21, 3) := by decide +kernel
theorem dX3_readLaw_12 : decode cX3_readLaw 12 = .ok (.iconst 0, 1) := by decide +kernel
theorem dX3_readLaw_13 : decode cX3_readLaw 13 = .ok (.istore_n 3, 1) := by decide +kernel
theorem dX3_readLaw_14 : decode cX3_readLaw 14 = .ok (.iconst 1, 1) := by decide +kernel
theorem dX3_readLaw_15 : decode cX3_readLaw 15 = .ok (.istore 4, 2) := by decide +kernel
theorem dX3_readLaw_17 : decode cX3_readLaw 17 = .ok (.iload 4, 2) := by decide +kernel
theorem dX3_readLaw_19 : decode cX3_readLaw 19 = .ok (.ifCond .eq 30, 3) := by decide +kernel
theorem dX3_readLaw_22 : decode cX3_readLaw 22 = .ok (.iload_n 3, 1) := by decide +kernel
theorem dX3_readLaw_23 : decode cX3_readLaw 23 = .ok (.bipush 16, 2) := by decide +kernel
theorem dX3_readLaw_25 : decode cX3_readLaw 25 = .ok (.if_icmp .gt 24, 3) := by decide +kernel
theorem dX3_readLaw_28 : decode cX3_readLaw 28 = .ok (.aload_n 0, 1) := by decide +kernel
theorem dX3_readLaw_29 : decode cX3_readLaw 29 = .ok (.iload_n 3, 1) := by decide +kernel
theorem dX3_readLaw_30 : decode cX3_readLaw 30 = .ok (.aload_n 2, 1) := by decide +kernel
theorem dX3_readLaw_31 : decode cX3_readLaw 31 = .ok (.invokevirtual 26, 3) := by decide +kernel
theorem dX3_readLaw_34 : decode cX3_readLaw 34 = .ok (.iinc 3 1, 3) := by decide +kernel
theorem dX3_readLaw_37 : decode cX3_readLaw 37 = .ok (.aload_n 0, 1) := by decide +kernel
theorem dX3_readLaw_38 : decode cX3_readLaw 38 = .ok (.getfield 9, 3) := by decide +kernel
theorem dX3_readLaw_41 : decode cX3_readLaw 41 = .ok (.invokevirtual 30, 3) := by decide +kernel
theorem dX3_readLaw_44 : decode cX3_readLaw 44 = .ok (.istore 4, 2) := by decide +kernel
theorem dX3_readLaw_46 : decode cX3_readLaw 46 = .ok (.goto (-29), 3) := by decide +kernel
theorem dX3_readLaw_49 : decode cX3_readLaw 49 = .ok (.aload_n 0, 1) := by decide +kernel
theorem dX3_readLaw_50 : decode cX3_readLaw 50 = .ok (.getfield 9, 3) := by decide +kernel
theorem dX3_readLaw_53 : decode cX3_readLaw 53 = .ok (.invokevirtual 34, 3) := by decide +kernel
theorem dX3_readLaw_56 : decode cX3_readLaw 56 = .ok (.ifCond .eq 7, 3) := by decide +kernel
theorem dX3_readLaw_59 : decode cX3_readLaw 59 = .ok (.iload_n 3, 1) := by decide +kernel
theorem dX3_readLaw_60 : decode cX3_readLaw 60 = .ok (.goto 10, 3) := by decide +kernel
theorem dX3_readLaw_63 : decode cX3_readLaw 63 = .ok (.aload_n 0, 1) := by decide +kernel
theorem dX3_readLaw_64 : decode cX3_readLaw 64 = .ok (.getfield 9, 3) := by decide +kernel
theorem dX3_readLaw_67 : decode cX3_readLaw 67 = .ok (.getfield 37, 3) := by decide +kernel
theorem dX3_readLaw_70 : decode cX3_readLaw 70 = .ok (.ireturn, 1) := by decide +kernel
theorem dX3_readRule_0 : decode cX3_readRule 0 = .ok (.aload_n 0, 1) := by decide +kernel
theorem dX3_readRule_1 : decode cX3_readRule 1 = .ok (.getfield 9, 3) := by decide +kernel
theorem dX3_readRule_4 : decode cX3_readRule 4 = .ok (.getfield 41, 3) := by decide +kernel
theorem dX3_readRule_7 : decode cX3_readRule 7 = .ok (.istore_n 3, 1) := by decide +kernel
theorem dX3_readRule_8 : decode cX3_readRule 8 = .ok (.iload_n 3, 1) := by decide +kernel
theorem dX3_readRule_9 : decode cX3_readRule 9 = .ok (.bipush 99, 2) := by decide +kernel
theorem dX3_readRule_11 : decode cX3_readRule 11 = .ok (.if_icmp .eq 24, 3) := by decide +kernel
theorem dX3_readRule_14 : decode cX3_readRule 14 = .ok (.iload_n 3, 1) := by decide +kernel
theorem dX3_readRule_15 : decode cX3_readRule 15 = .ok (.bipush 106, 2) := by decide +kernel
theorem dX3_readRule_17 : decode cX3_readRule 17 = .ok (.if_icmp .eq 18, 3) := by decide +kernel
theorem dX3_readRule_20 : decode cX3_readRule 20 = .ok (.iload_n 3, 1) := by decide +kernel
theorem dX3_readRule_21 : decode cX3_readRule 21 = .ok (.bipush 120, 2) := by decide +kernel
theorem dX3_readRule_23 : decode cX3_readRule 23 = .ok (.if_icmp .eq 12, 3) := by decide +kernel
theorem dX3_readRule_26 : decode cX3_readRule 26 = .ok (.aload_n 0, 1) := by decide +kernel
theorem dX3_readRule_27 : decode cX3_readRule 27 = .ok (.getfield 9, 3) := by decide +kernel
theorem dX3_readRule_30 : decode cX3_readRule 30 = .ok (.iconst 1, 1) := by decide +kernel
theorem dX3_readRule_31 : decode cX3_readRule 31 = .ok (.invokevirtual 44, 3) := by decide +kernel
theorem dX3_readRule_34 : decode cX3_readRule 34 = .ok (.return_, 1) := by decide +kernel
theorem dX3_readRule_35 : decode cX3_readRule 35 = .ok (.iload_n 1, 1) := by decide +kernel
theorem dX3_readRule_36 : decode cX3_readRule 36 = .ok (.bipush 16, 2) := by decide +kernel
theorem dX3_readRule_38 : decode cX3_readRule 38 = .ok (.if_icmp .lt 12, 3) := by decide +kernel
theorem dX3_readRule_41 : decode cX3_readRule 41 = .ok (.aload_n 0, 1) := by decide +kernel
theorem dX3_readRule_42 : decode cX3_readRule 42 = .ok (.getfield 9, 3) := by decide +kernel
theorem dX3_readRule_45 : decode cX3_readRule 45 = .ok (.iconst 4, 1) := by decide +kernel
theorem dX3_readRule_46 : decode cX3_readRule 46 = .ok (.invokevirtual 44, 3) := by decide +kernel
theorem dX3_readRule_49 : decode cX3_readRule 49 = .ok (.return_, 1) := by decide +kernel
theorem dX3_readRule_50 : decode cX3_readRule 50 = .ok (.aload_n 0, 1) := by decide +kernel
theorem dX3_readRule_51 : decode cX3_readRule 51 = .ok (.getfield 9, 3) := by decide +kernel
theorem dX3_readRule_54 : decode cX3_readRule 54 = .ok (.invokevirtual 47, 3) := by decide +kernel
theorem dX3_readRule_57 : decode cX3_readRule 57 = .ok (.aload_n 2, 1) := by decide +kernel
theorem dX3_readRule_58 : decode cX3_readRule 58 = .ok (.getfield 50, 3) := by decide +kernel
theorem dX3_readRule_61 : decode cX3_readRule 61 = .ok (.istore 4, 2) := by decide +kernel
theorem dX3_readRule_63 : decode cX3_readRule 63 = .ok (.iload_n 3, 1) := by decide +kernel
theorem dX3_readRule_64 : decode cX3_readRule 64 = .ok (.bipush 120, 2) := by decide +kernel
theorem dX3_readRule_66 : decode cX3_readRule 66 = .ok (.if_icmp .eq 16, 3) := by decide +kernel
theorem dX3_readRule_69 : decode cX3_readRule 69 = .ok (.aload_n 0, 1) := by decide +kernel
theorem dX3_readRule_70 : decode cX3_readRule 70 = .ok (.aload_n 2, 1) := by decide +kernel
theorem dX3_readRule_71 : decode cX3_readRule 71 = .ok (.iconst 0, 1) := by decide +kernel
theorem dX3_readRule_72 : decode cX3_readRule 72 = .ok (.invokevirtual 53, 3) := by decide +kernel
theorem dX3_readRule_75 : decode cX3_readRule 75 = .ok (.aload_n 2, 1) := by decide +kernel
theorem dX3_readRule_76 : decode cX3_readRule 76 = .ok (.iconst 0, 1) := by decide +kernel
theorem dX3_readRule_77 : decode cX3_readRule 77 = .ok (.iconst 0, 1) := by decide +kernel
theorem dX3_readRule_78 : decode cX3_readRule 78 = .ok (.invokevirtual 57, 3) := by decide +kernel
theorem dX3_readRule_81 : decode cX3_readRule 81 = .ok (.pop, 1) := by decide +kernel
theorem dX3_readRule_82 : decode cX3_readRule 82 = .ok (.aload_n 0, 1) := by decide +kernel
theorem dX3_readRule_83 : decode cX3_readRule 83 = .ok (.getfield 9, 3) := by decide +kernel
theorem dX3_readRule_86 : decode cX3_readRule 86 = .ok (.bipush 40, 2) := by decide +kernel
theorem dX3_readRule_88 : decode cX3_readRule 88 = .ok (.invokevirtual 61, 3) := by decide +kernel
theorem dX3_readRule_91 : decode cX3_readRule 91 = .ok (.aload_n 2, 1) := by decide +kernel
theorem dX3_readRule_92 : decode cX3_readRule 92 = .ok (.getfield 50, 3) := by decide +kernel
theorem dX3_readRule_95 : decode cX3_readRule 95 = .ok (.istore 5, 2) := by decide +kernel
theorem dX3_readRule_97 : decode cX3_readRule 97 = .ok (.aload_n 0, 1) := by decide +kernel
theorem dX3_readRule_98 : decode cX3_readRule 98 = .ok (.aload_n 2, 1) := by decide +kernel
theorem dX3_readRule_99 : decode cX3_readRule 99 = .ok (.iconst 1, 1) := by decide +kernel
theorem dX3_readRule_100 : decode cX3_readRule 100 = .ok (.invokevirtual 64, 3) := by decide +kernel
theorem dX3_readRule_103 : decode cX3_readRule 103 = .ok (.aload_n 0, 1) := by decide +kernel
theorem dX3_readRule_104 : decode cX3_readRule 104 = .ok (.getfield 9, 3) := by decide +kernel
theorem dX3_readRule_107 : decode cX3_readRule 107 = .ok (.bipush 41, 2) := by decide +kernel
theorem dX3_readRule_109 : decode cX3_readRule 109 = .ok (.invokevirtual 61, 3) := by decide +kernel
theorem dX3_readRule_112 : decode cX3_readRule 112 = .ok (.aload_n 2, 1) := by decide +kernel
theorem dX3_readRule_113 : decode cX3_readRule 113 = .ok (.iconst 0, 1) := by decide +kernel
theorem dX3_readRule_114 : decode cX3_readRule 114 = .ok (.iconst 0, 1) := by decide +kernel
theorem dX3_readRule_115 : decode cX3_readRule 115 = .ok (.invokevirtual 57, 3) := by decide +kernel
theorem dX3_readRule_118 : decode cX3_readRule 118 = .ok (.pop, 1) := by decide +kernel
theorem dX3_readRule_119 : decode cX3_readRule 119 = .ok (.aload_n 2, 1) := by decide +kernel
theorem dX3_readRule_120 : decode cX3_readRule 120 = .ok (.iload_n 3, 1) := by decide +kernel
theorem dX3_readRule_121 : decode cX3_readRule 121 = .ok (.iload 4, 2) := by decide +kernel
theorem dX3_readRule_123 : decode cX3_readRule 123 = .ok (.iload 5, 2) := by decide +kernel
theorem dX3_readRule_125 : decode cX3_readRule 125 = .ok (.invokevirtual 67, 3) := by decide +kernel
theorem dX3_readRule_128 : decode cX3_readRule 128 = .ok (.return_, 1) := by decide +kernel
theorem dX3_readChoice_0 : decode cX3_readChoice 0 = .ok (.aload_n 0, 1) := by decide +kernel
theorem dX3_readChoice_1 : decode cX3_readChoice 1 = .ok (.aload_n 1, 1) := by decide +kernel
theorem dX3_readChoice_2 : decode cX3_readChoice 2 = .ok (.iload_n 2, 1) := by decide +kernel
theorem dX3_readChoice_3 : decode cX3_readChoice 3 = .ok (.invokevirtual 71, 3) := by decide +kernel
theorem dX3_readChoice_6 : decode cX3_readChoice 6 = .ok (.iconst 0, 1) := by decide +kernel
theorem dX3_readChoice_7 : decode cX3_readChoice 7 = .ok (.istore_n 3, 1) := by decide +kernel
theorem dX3_readChoice_8 : decode cX3_readChoice 8 = .ok (.iload_n 3, 1) := by decide +kernel
theorem dX3_readChoice_9 : decode cX3_readChoice 9 = .ok (.sipush 240, 3) := by decide +kernel
theorem dX3_readChoice_12 : decode cX3_readChoice 12 = .ok (.if_icmp .ge 59, 3) := by decide +kernel
theorem dX3_readChoice_15 : decode cX3_readChoice 15 = .ok (.aload_n 0, 1) := by decide +kernel
theorem dX3_readChoice_16 : decode cX3_readChoice 16 = .ok (.getfield 9, 3) := by decide +kernel
theorem dX3_readChoice_19 : decode cX3_readChoice 19 = .ok (.invokevirtual 34, 3) := by decide +kernel
theorem dX3_readChoice_22 : decode cX3_readChoice 22 = .ok (.ifCond .eq 49, 3) := by decide +kernel
theorem dX3_readChoice_25 : decode cX3_readChoice 25 = .ok (.aload_n 0, 1) := by decide +kernel
theorem dX3_readChoice_26 : decode cX3_readChoice 26 = .ok (.getfield 9, 3) := by decide +kernel
theorem dX3_readChoice_29 : decode cX3_readChoice 29 = .ok (.getfield 41, 3) := by decide +kernel
theorem dX3_readChoice_32 : decode cX3_readChoice 32 = .ok (.bipush 124, 2) := by decide +kernel
theorem dX3_readChoice_34 : decode cX3_readChoice 34 = .ok (.if_icmp .ne 37, 3) := by decide +kernel
theorem dX3_readChoice_37 : decode cX3_readChoice 37 = .ok (.aload_n 0, 1) := by decide +kernel
theorem dX3_readChoice_38 : decode cX3_readChoice 38 = .ok (.getfield 9, 3) := by decide +kernel
theorem dX3_readChoice_41 : decode cX3_readChoice 41 = .ok (.invokevirtual 47, 3) := by decide +kernel
theorem dX3_readChoice_44 : decode cX3_readChoice 44 = .ok (.aload_n 1, 1) := by decide +kernel
theorem dX3_readChoice_45 : decode cX3_readChoice 45 = .ok (.bipush 12, 2) := by decide +kernel
theorem dX3_readChoice_47 : decode cX3_readChoice 47 = .ok (.iconst 0, 1) := by decide +kernel
theorem dX3_readChoice_48 : decode cX3_readChoice 48 = .ok (.invokevirtual 57, 3) := by decide +kernel
theorem dX3_readChoice_51 : decode cX3_readChoice 51 = .ok (.istore 4, 2) := by decide +kernel
theorem dX3_readChoice_53 : decode cX3_readChoice 53 = .ok (.aload_n 0, 1) := by decide +kernel
theorem dX3_readChoice_54 : decode cX3_readChoice 54 = .ok (.aload_n 1, 1) := by decide +kernel
theorem dX3_readChoice_55 : decode cX3_readChoice 55 = .ok (.iload_n 2, 1) := by decide +kernel
theorem dX3_readChoice_56 : decode cX3_readChoice 56 = .ok (.invokevirtual 71, 3) := by decide +kernel
theorem dX3_readChoice_59 : decode cX3_readChoice 59 = .ok (.aload_n 1, 1) := by decide +kernel
theorem dX3_readChoice_60 : decode cX3_readChoice 60 = .ok (.iload 4, 2) := by decide +kernel
theorem dX3_readChoice_62 : decode cX3_readChoice 62 = .ok (.invokevirtual 74, 3) := by decide +kernel
theorem dX3_readChoice_65 : decode cX3_readChoice 65 = .ok (.iinc 3 1, 3) := by decide +kernel
theorem dX3_readChoice_68 : decode cX3_readChoice 68 = .ok (.goto (-60), 3) := by decide +kernel
theorem dX3_readChoice_71 : decode cX3_readChoice 71 = .ok (.return_, 1) := by decide +kernel
theorem dX3_readPart_0 : decode cX3_readPart 0 = .ok (.aload_n 0, 1) := by decide +kernel
theorem dX3_readPart_1 : decode cX3_readPart 1 = .ok (.aload_n 1, 1) := by decide +kernel
theorem dX3_readPart_2 : decode cX3_readPart 2 = .ok (.iload_n 2, 1) := by decide +kernel
theorem dX3_readPart_3 : decode cX3_readPart 3 = .ok (.invokevirtual 77, 3) := by decide +kernel
theorem dX3_readPart_6 : decode cX3_readPart 6 = .ok (.iconst 0, 1) := by decide +kernel
theorem dX3_readPart_7 : decode cX3_readPart 7 = .ok (.istore_n 3, 1) := by decide +kernel
theorem dX3_readPart_8 : decode cX3_readPart 8 = .ok (.iload_n 3, 1) := by decide +kernel
theorem dX3_readPart_9 : decode cX3_readPart 9 = .ok (.sipush 240, 3) := by decide +kernel
theorem dX3_readPart_12 : decode cX3_readPart 12 = .ok (.if_icmp .ge 59, 3) := by decide +kernel
theorem dX3_readPart_15 : decode cX3_readPart 15 = .ok (.aload_n 0, 1) := by decide +kernel
theorem dX3_readPart_16 : decode cX3_readPart 16 = .ok (.getfield 9, 3) := by decide +kernel
theorem dX3_readPart_19 : decode cX3_readPart 19 = .ok (.invokevirtual 34, 3) := by decide +kernel
theorem dX3_readPart_22 : decode cX3_readPart 22 = .ok (.ifCond .eq 49, 3) := by decide +kernel
theorem dX3_readPart_25 : decode cX3_readPart 25 = .ok (.aload_n 0, 1) := by decide +kernel
theorem dX3_readPart_26 : decode cX3_readPart 26 = .ok (.getfield 9, 3) := by decide +kernel
theorem dX3_readPart_29 : decode cX3_readPart 29 = .ok (.getfield 41, 3) := by decide +kernel
theorem dX3_readPart_32 : decode cX3_readPart 32 = .ok (.bipush 38, 2) := by decide +kernel
theorem dX3_readPart_34 : decode cX3_readPart 34 = .ok (.if_icmp .ne 37, 3) := by decide +kernel
theorem dX3_readPart_37 : decode cX3_readPart 37 = .ok (.aload_n 0, 1) := by decide +kernel
theorem dX3_readPart_38 : decode cX3_readPart 38 = .ok (.getfield 9, 3) := by decide +kernel
theorem dX3_readPart_41 : decode cX3_readPart 41 = .ok (.invokevirtual 47, 3) := by decide +kernel
theorem dX3_readPart_44 : decode cX3_readPart 44 = .ok (.aload_n 1, 1) := by decide +kernel
theorem dX3_readPart_45 : decode cX3_readPart 45 = .ok (.bipush 13, 2) := by decide +kernel
theorem dX3_readPart_47 : decode cX3_readPart 47 = .ok (.iconst 0, 1) := by decide +kernel
theorem dX3_readPart_48 : decode cX3_readPart 48 = .ok (.invokevirtual 57, 3) := by decide +kernel
theorem dX3_readPart_51 : decode cX3_readPart 51 = .ok (.istore 4, 2) := by decide +kernel
theorem dX3_readPart_53 : decode cX3_readPart 53 = .ok (.aload_n 0, 1) := by decide +kernel
theorem dX3_readPart_54 : decode cX3_readPart 54 = .ok (.aload_n 1, 1) := by decide +kernel
theorem dX3_readPart_55 : decode cX3_readPart 55 = .ok (.iload_n 2, 1) := by decide +kernel
theorem dX3_readPart_56 : decode cX3_readPart 56 = .ok (.invokevirtual 77, 3) := by decide +kernel
theorem dX3_readPart_59 : decode cX3_readPart 59 = .ok (.aload_n 1, 1) := by decide +kernel
theorem dX3_readPart_60 : decode cX3_readPart 60 = .ok (.iload 4, 2) := by decide +kernel
theorem dX3_readPart_62 : decode cX3_readPart 62 = .ok (.invokevirtual 74, 3) := by decide +kernel
theorem dX3_readPart_65 : decode cX3_readPart 65 = .ok (.iinc 3 1, 3) := by decide +kernel
theorem dX3_readPart_68 : decode cX3_readPart 68 = .ok (.goto (-60), 3) := by decide +kernel
theorem dX3_readPart_71 : decode cX3_readPart 71 = .ok (.return_, 1) := by decide +kernel
theorem dX3_readTest_0 : decode cX3_readTest 0 = .ok (.aload_n 0, 1) := by decide +kernel
theorem dX3_readTest_1 : decode cX3_readTest 1 = .ok (.getfield 9, 3) := by decide +kernel
theorem dX3_readTest_4 : decode cX3_readTest 4 = .ok (.invokevirtual 34, 3) := by decide +kernel
theorem dX3_readTest_7 : decode cX3_readTest 7 = .ok (.ifCond .ne 4, 3) := by decide +kernel
theorem dX3_readTest_10 : decode cX3_readTest 10 = .ok (.return_, 1) := by decide +kernel
theorem dX3_readTest_11 : decode cX3_readTest 11 = .ok (.aload_n 0, 1) := by decide +kernel
theorem dX3_readTest_12 : decode cX3_readTest 12 = .ok (.getfield 9, 3) := by decide +kernel
theorem dX3_readTest_15 : decode cX3_readTest 15 = .ok (.getfield 41, 3) := by decide +kernel
theorem dX3_readTest_18 : decode cX3_readTest 18 = .ok (.istore_n 3, 1) := by decide +kernel
theorem dX3_readTest_19 : decode cX3_readTest 19 = .ok (.iload_n 3, 1) := by decide +kernel
theorem dX3_readTest_20 : decode cX3_readTest 20 = .ok (.bipush 33, 2) := by decide +kernel
theorem dX3_readTest_22 : decode cX3_readTest 22 = .ok (.if_icmp .ne 30, 3) := by decide +kernel
theorem dX3_readTest_25 : decode cX3_readTest 25 = .ok (.aload_n 0, 1) := by decide +kernel
theorem dX3_readTest_26 : decode cX3_readTest 26 = .ok (.iload_n 2, 1) := by decide +kernel
theorem dX3_readTest_27 : decode cX3_readTest 27 = .ok (.invokevirtual 80, 3) := by decide +kernel
theorem dX3_readTest_30 : decode cX3_readTest 30 = .ok (.ifCond .eq 22, 3) := by decide +kernel
theorem dX3_readTest_33 : decode cX3_readTest 33 = .ok (.aload_n 0, 1) := by decide +kernel
theorem dX3_readTest_34 : decode cX3_readTest 34 = .ok (.aload_n 1, 1) := by decide +kernel
theorem dX3_readTest_35 : decode cX3_readTest 35 = .ok (.iload_n 2, 1) := by decide +kernel
theorem dX3_readTest_36 : decode cX3_readTest 36 = .ok (.iconst 1, 1) := by decide +kernel
theorem dX3_readTest_37 : decode cX3_readTest 37 = .ok (.iadd, 1) := by decide +kernel
theorem dX3_readTest_38 : decode cX3_readTest 38 = .ok (.invokevirtual 77, 3) := by decide +kernel
theorem dX3_readTest_41 : decode cX3_readTest 41 = .ok (.aload_n 1, 1) := by decide +kernel
theorem dX3_readTest_42 : decode cX3_readTest 42 = .ok (.bipush 11, 2) := by decide +kernel
theorem dX3_readTest_44 : decode cX3_readTest 44 = .ok (.iconst 0, 1) := by decide +kernel
theorem dX3_readTest_45 : decode cX3_readTest 45 = .ok (.invokevirtual 57, 3) := by decide +kernel
theorem dX3_readTest_48 : decode cX3_readTest 48 = .ok (.pop, 1) := by decide +kernel
theorem dX3_readTest_49 : decode cX3_readTest 49 = .ok (.goto 103, 3) := by decide +kernel
theorem dX3_readTest_52 : decode cX3_readTest 52 = .ok (.iload_n 3, 1) := by decide +kernel
theorem dX3_readTest_53 : decode cX3_readTest 53 = .ok (.bipush 40, 2) := by decide +kernel
theorem dX3_readTest_55 : decode cX3_readTest 55 = .ok (.if_icmp .ne 31, 3) := by decide +kernel
theorem dX3_readTest_58 : decode cX3_readTest 58 = .ok (.aload_n 0, 1) := by decide +kernel
theorem dX3_readTest_59 : decode cX3_readTest 59 = .ok (.iload_n 2, 1) := by decide +kernel
theorem dX3_readTest_60 : decode cX3_readTest 60 = .ok (.invokevirtual 80, 3) := by decide +kernel
theorem dX3_readTest_63 : decode cX3_readTest 63 = .ok (.ifCond .eq 23, 3) := by decide +kernel
theorem dX3_readTest_66 : decode cX3_readTest 66 = .ok (.aload_n 0, 1) := by decide +kernel
theorem dX3_readTest_67 : decode cX3_readTest 67 = .ok (.aload_n 1, 1) := by decide +kernel
theorem dX3_readTest_68 : decode cX3_readTest 68 = .ok (.iload_n 2, 1) := by decide +kernel
theorem dX3_readTest_69 : decode cX3_readTest 69 = .ok (.iconst 1, 1) := by decide +kernel
theorem dX3_readTest_70 : decode cX3_readTest 70 = .ok (.iadd, 1) := by decide +kernel
theorem dX3_readTest_71 : decode cX3_readTest 71 = .ok (.invokevirtual 64, 3) := by decide +kernel
theorem dX3_readTest_74 : decode cX3_readTest 74 = .ok (.aload_n 0, 1) := by decide +kernel
theorem dX3_readTest_75 : decode cX3_readTest 75 = .ok (.getfield 9, 3) := by decide +kernel
theorem dX3_readTest_78 : decode cX3_readTest 78 = .ok (.bipush 41, 2) := by decide +kernel
theorem dX3_readTest_80 : decode cX3_readTest 80 = .ok (.invokevirtual 61, 3) := by decide +kernel
theorem dX3_readTest_83 : decode cX3_readTest 83 = .ok (.goto 69, 3) := by decide +kernel
theorem dX3_readTest_86 : decode cX3_readTest 86 = .ok (.aload_n 0, 1) := by decide +kernel
theorem dX3_readTest_87 : decode cX3_readTest 87 = .ok (.getfield 9, 3) := by decide +kernel
theorem dX3_readTest_90 : decode cX3_readTest 90 = .ok (.invokevirtual 34, 3) := by decide +kernel
theorem dX3_readTest_93 : decode cX3_readTest 93 = .ok (.ifCond .eq 59, 3) := by decide +kernel
theorem dX3_readTest_96 : decode cX3_readTest 96 = .ok (.aload_n 0, 1) := by decide +kernel
theorem dX3_readTest_97 : decode cX3_readTest 97 = .ok (.aload_n 1, 1) := by decide +kernel
theorem dX3_readTest_98 : decode cX3_readTest 98 = .ok (.iload_n 2, 1) := by decide +kernel
theorem dX3_readTest_99 : decode cX3_readTest 99 = .ok (.invokevirtual 53, 3) := by decide +kernel
theorem dX3_readTest_102 : decode cX3_readTest 102 = .ok (.aload_n 0, 1) := by decide +kernel
theorem dX3_readTest_103 : decode cX3_readTest 103 = .ok (.getfield 9, 3) := by decide +kernel
theorem dX3_readTest_106 : decode cX3_readTest 106 = .ok (.getfield 41, 3) := by decide +kernel
theorem dX3_readTest_109 : decode cX3_readTest 109 = .ok (.invokestatic 84, 3) := by decide +kernel
theorem dX3_readTest_112 : decode cX3_readTest 112 = .ok (.istore 4, 2) := by decide +kernel
theorem dX3_readTest_114 : decode cX3_readTest 114 = .ok (.iload 4, 2) := by decide +kernel
theorem dX3_readTest_116 : decode cX3_readTest 116 = .ok (.iconst (-1), 1) := by decide +kernel
theorem dX3_readTest_117 : decode cX3_readTest 117 = .ok (.if_icmp .ne 14, 3) := by decide +kernel
theorem dX3_readTest_120 : decode cX3_readTest 120 = .ok (.aload_n 0, 1) := by decide +kernel
theorem dX3_readTest_121 : decode cX3_readTest 121 = .ok (.getfield 9, 3) := by decide +kernel
theorem dX3_readTest_124 : decode cX3_readTest 124 = .ok (.iconst 1, 1) := by decide +kernel
theorem dX3_readTest_125 : decode cX3_readTest 125 = .ok (.invokevirtual 44, 3) := by decide +kernel
theorem dX3_readTest_128 : decode cX3_readTest 128 = .ok (.goto 24, 3) := by decide +kernel
theorem dX3_readTest_131 : decode cX3_readTest 131 = .ok (.aload_n 0, 1) := by decide +kernel
theorem dX3_readTest_132 : decode cX3_readTest 132 = .ok (.getfield 9, 3) := by decide +kernel
theorem dX3_readTest_135 : decode cX3_readTest 135 = .ok (.invokevirtual 47, 3) := by decide +kernel
theorem dX3_readTest_138 : decode cX3_readTest 138 = .ok (.aload_n 0, 1) := by decide +kernel
theorem dX3_readTest_139 : decode cX3_readTest 139 = .ok (.aload_n 1, 1) := by decide +kernel
theorem dX3_readTest_140 : decode cX3_readTest 140 = .ok (.iload_n 2, 1) := by decide +kernel
theorem dX3_readTest_141 : decode cX3_readTest 141 = .ok (.invokevirtual 53, 3) := by decide +kernel
theorem dX3_readTest_144 : decode cX3_readTest 144 = .ok (.aload_n 1, 1) := by decide +kernel
theorem dX3_readTest_145 : decode cX3_readTest 145 = .ok (.iload 4, 2) := by decide +kernel
theorem dX3_readTest_147 : decode cX3_readTest 147 = .ok (.iconst 0, 1) := by decide +kernel
theorem dX3_readTest_148 : decode cX3_readTest 148 = .ok (.invokevirtual 57, 3) := by decide +kernel
theorem dX3_readTest_151 : decode cX3_readTest 151 = .ok (.pop, 1) := by decide +kernel
theorem dX3_readTest_152 : decode cX3_readTest 152 = .ok (.return_, 1) := by decide +kernel
theorem dX3_opens_0 : decode cX3_opens 0 = .ok (.iload_n 1, 1) := by decide +kernel
theorem dX3_opens_1 : decode cX3_opens 1 = .ok (.bipush 6, 2) := by decide +kernel
theorem dX3_opens_3 : decode cX3_opens 3 = .ok (.if_icmp .lt 13, 3) := by decide +kernel
theorem dX3_opens_6 : decode cX3_opens 6 = .ok (.aload_n 0, 1) := by decide +kernel
theorem dX3_opens_7 : decode cX3_opens 7 = .ok (.getfield 9, 3) := by decide +kernel
theorem dX3_opens_10 : decode cX3_opens 10 = .ok (.iconst 5, 1) := by decide +kernel
theorem dX3_opens_11 : decode cX3_opens 11 = .ok (.invokevirtual 44, 3) := by decide +kernel
theorem dX3_opens_14 : decode cX3_opens 14 = .ok (.iconst 0, 1) := by decide +kernel
theorem dX3_opens_15 : decode cX3_opens 15 = .ok (.ireturn, 1) := by decide +kernel
theorem dX3_opens_16 : decode cX3_opens 16 = .ok (.aload_n 0, 1) := by decide +kernel
theorem dX3_opens_17 : decode cX3_opens 17 = .ok (.getfield 9, 3) := by decide +kernel
theorem dX3_opens_20 : decode cX3_opens 20 = .ok (.invokevirtual 47, 3) := by decide +kernel
theorem dX3_opens_23 : decode cX3_opens 23 = .ok (.iconst 1, 1) := by decide +kernel
theorem dX3_opens_24 : decode cX3_opens 24 = .ok (.ireturn, 1) := by decide +kernel
theorem dX3_readSum_0 : decode cX3_readSum 0 = .ok (.aload_n 0, 1) := by decide +kernel
theorem dX3_readSum_1 : decode cX3_readSum 1 = .ok (.aload_n 1, 1) := by decide +kernel
theorem dX3_readSum_2 : decode cX3_readSum 2 = .ok (.iload_n 2, 1) := by decide +kernel
theorem dX3_readSum_3 : decode cX3_readSum 3 = .ok (.invokevirtual 88, 3) := by decide +kernel
theorem dX3_readSum_6 : decode cX3_readSum 6 = .ok (.aload_n 0, 1) := by decide +kernel
theorem dX3_readSum_7 : decode cX3_readSum 7 = .ok (.getfield 9, 3) := by decide +kernel
theorem dX3_readSum_10 : decode cX3_readSum 10 = .ok (.getfield 41, 3) := by decide +kernel
theorem dX3_readSum_13 : decode cX3_readSum 13 = .ok (.invokestatic 91, 3) := by decide +kernel
theorem dX3_readSum_16 : decode cX3_readSum 16 = .ok (.istore_n 3, 1) := by decide +kernel
theorem dX3_readSum_17 : decode cX3_readSum 17 = .ok (.iconst 0, 1) := by decide +kernel
theorem dX3_readSum_18 : decode cX3_readSum 18 = .ok (.istore 4, 2) := by decide +kernel
theorem dX3_readSum_20 : decode cX3_readSum 20 = .ok (.iload 4, 2) := by decide +kernel
theorem dX3_readSum_22 : decode cX3_readSum 22 = .ok (.sipush 240, 3) := by decide +kernel
theorem dX3_readSum_25 : decode cX3_readSum 25 = .ok (.if_icmp .ge 55, 3) := by decide +kernel
theorem dX3_readSum_28 : decode cX3_readSum 28 = .ok (.aload_n 0, 1) := by decide +kernel
theorem dX3_readSum_29 : decode cX3_readSum 29 = .ok (.getfield 9, 3) := by decide +kernel
theorem dX3_readSum_32 : decode cX3_readSum 32 = .ok (.invokevirtual 34, 3) := by decide +kernel
theorem dX3_readSum_35 : decode cX3_readSum 35 = .ok (.ifCond .eq 45, 3) := by decide +kernel
theorem dX3_readSum_38 : decode cX3_readSum 38 = .ok (.iload_n 3, 1) := by decide +kernel
theorem dX3_readSum_39 : decode cX3_readSum 39 = .ok (.iconst (-1), 1) := by decide +kernel
theorem dX3_readSum_40 : decode cX3_readSum 40 = .ok (.if_icmp .eq 40, 3) := by decide +kernel
theorem dX3_readSum_43 : decode cX3_readSum 43 = .ok (.aload_n 0, 1) := by decide +kernel
theorem dX3_readSum_44 : decode cX3_readSum 44 = .ok (.getfield 9, 3) := by decide +kernel
theorem dX3_readSum_47 : decode cX3_readSum 47 = .ok (.invokevirtual 47, 3) := by decide +kernel
theorem dX3_readSum_50 : decode cX3_readSum 50 = .ok (.aload_n 0, 1) := by decide +kernel
theorem dX3_readSum_51 : decode cX3_readSum 51 = .ok (.aload_n 1, 1) := by decide +kernel
theorem dX3_readSum_52 : decode cX3_readSum 52 = .ok (.iload_n 2, 1) := by decide +kernel
theorem dX3_readSum_53 : decode cX3_readSum 53 = .ok (.invokevirtual 88, 3) := by decide +kernel
theorem dX3_readSum_56 : decode cX3_readSum 56 = .ok (.aload_n 1, 1) := by decide +kernel
theorem dX3_readSum_57 : decode cX3_readSum 57 = .ok (.iload_n 3, 1) := by decide +kernel
theorem dX3_readSum_58 : decode cX3_readSum 58 = .ok (.iconst 0, 1) := by decide +kernel
theorem dX3_readSum_59 : decode cX3_readSum 59 = .ok (.invokevirtual 57, 3) := by decide +kernel
theorem dX3_readSum_62 : decode cX3_readSum 62 = .ok (.pop, 1) := by decide +kernel
theorem dX3_readSum_63 : decode cX3_readSum 63 = .ok (.aload_n 0, 1) := by decide +kernel
theorem dX3_readSum_64 : decode cX3_readSum 64 = .ok (.getfield 9, 3) := by decide +kernel
theorem dX3_readSum_67 : decode cX3_readSum 67 = .ok (.getfield 41, 3) := by decide +kernel
theorem dX3_readSum_70 : decode cX3_readSum 70 = .ok (.invokestatic 91, 3) := by decide +kernel
theorem dX3_readSum_73 : decode cX3_readSum 73 = .ok (.istore_n 3, 1) := by decide +kernel
theorem dX3_readSum_74 : decode cX3_readSum 74 = .ok (.iinc 4 1, 3) := by decide +kernel
theorem dX3_readSum_77 : decode cX3_readSum 77 = .ok (.goto (-57), 3) := by decide +kernel
theorem dX3_readSum_80 : decode cX3_readSum 80 = .ok (.return_, 1) := by decide +kernel
theorem dX3_readTerm_0 : decode cX3_readTerm 0 = .ok (.aload_n 0, 1) := by decide +kernel
theorem dX3_readTerm_1 : decode cX3_readTerm 1 = .ok (.aload_n 1, 1) := by decide +kernel
theorem dX3_readTerm_2 : decode cX3_readTerm 2 = .ok (.iload_n 2, 1) := by decide +kernel
theorem dX3_readTerm_3 : decode cX3_readTerm 3 = .ok (.invokevirtual 94, 3) := by decide +kernel
theorem dX3_readTerm_6 : decode cX3_readTerm 6 = .ok (.aload_n 0, 1) := by decide +kernel
theorem dX3_readTerm_7 : decode cX3_readTerm 7 = .ok (.getfield 9, 3) := by decide +kernel
theorem dX3_readTerm_10 : decode cX3_readTerm 10 = .ok (.getfield 41, 3) := by decide +kernel
theorem dX3_readTerm_13 : decode cX3_readTerm 13 = .ok (.invokestatic 97, 3) := by decide +kernel
theorem dX3_readTerm_16 : decode cX3_readTerm 16 = .ok (.istore_n 3, 1) := by decide +kernel
theorem dX3_readTerm_17 : decode cX3_readTerm 17 = .ok (.iconst 0, 1) := by decide +kernel
theorem dX3_readTerm_18 : decode cX3_readTerm 18 = .ok (.istore 4, 2) := by decide +kernel
theorem dX3_readTerm_20 : decode cX3_readTerm 20 = .ok (.iload 4, 2) := by decide +kernel
theorem dX3_readTerm_22 : decode cX3_readTerm 22 = .ok (.sipush 240, 3) := by decide +kernel
theorem dX3_readTerm_25 : decode cX3_readTerm 25 = .ok (.if_icmp .ge 55, 3) := by decide +kernel
theorem dX3_readTerm_28 : decode cX3_readTerm 28 = .ok (.aload_n 0, 1) := by decide +kernel
theorem dX3_readTerm_29 : decode cX3_readTerm 29 = .ok (.getfield 9, 3) := by decide +kernel
theorem dX3_readTerm_32 : decode cX3_readTerm 32 = .ok (.invokevirtual 34, 3) := by decide +kernel
theorem dX3_readTerm_35 : decode cX3_readTerm 35 = .ok (.ifCond .eq 45, 3) := by decide +kernel
theorem dX3_readTerm_38 : decode cX3_readTerm 38 = .ok (.iload_n 3, 1) := by decide +kernel
theorem dX3_readTerm_39 : decode cX3_readTerm 39 = .ok (.iconst (-1), 1) := by decide +kernel
theorem dX3_readTerm_40 : decode cX3_readTerm 40 = .ok (.if_icmp .eq 40, 3) := by decide +kernel
theorem dX3_readTerm_43 : decode cX3_readTerm 43 = .ok (.aload_n 0, 1) := by decide +kernel
theorem dX3_readTerm_44 : decode cX3_readTerm 44 = .ok (.getfield 9, 3) := by decide +kernel
theorem dX3_readTerm_47 : decode cX3_readTerm 47 = .ok (.invokevirtual 47, 3) := by decide +kernel
theorem dX3_readTerm_50 : decode cX3_readTerm 50 = .ok (.aload_n 0, 1) := by decide +kernel
theorem dX3_readTerm_51 : decode cX3_readTerm 51 = .ok (.aload_n 1, 1) := by decide +kernel
theorem dX3_readTerm_52 : decode cX3_readTerm 52 = .ok (.iload_n 2, 1) := by decide +kernel
theorem dX3_readTerm_53 : decode cX3_readTerm 53 = .ok (.invokevirtual 94, 3) := by decide +kernel
theorem dX3_readTerm_56 : decode cX3_readTerm 56 = .ok (.aload_n 1, 1) := by decide +kernel
theorem dX3_readTerm_57 : decode cX3_readTerm 57 = .ok (.iload_n 3, 1) := by decide +kernel
theorem dX3_readTerm_58 : decode cX3_readTerm 58 = .ok (.iconst 0, 1) := by decide +kernel
theorem dX3_readTerm_59 : decode cX3_readTerm 59 = .ok (.invokevirtual 57, 3) := by decide +kernel
theorem dX3_readTerm_62 : decode cX3_readTerm 62 = .ok (.pop, 1) := by decide +kernel
theorem dX3_readTerm_63 : decode cX3_readTerm 63 = .ok (.aload_n 0, 1) := by decide +kernel
theorem dX3_readTerm_64 : decode cX3_readTerm 64 = .ok (.getfield 9, 3) := by decide +kernel
theorem dX3_readTerm_67 : decode cX3_readTerm 67 = .ok (.getfield 41, 3) := by decide +kernel
theorem dX3_readTerm_70 : decode cX3_readTerm 70 = .ok (.invokestatic 97, 3) := by decide +kernel
theorem dX3_readTerm_73 : decode cX3_readTerm 73 = .ok (.istore_n 3, 1) := by decide +kernel
theorem dX3_readTerm_74 : decode cX3_readTerm 74 = .ok (.iinc 4 1, 3) := by decide +kernel
theorem dX3_readTerm_77 : decode cX3_readTerm 77 = .ok (.goto (-57), 3) := by decide +kernel
theorem dX3_readTerm_80 : decode cX3_readTerm 80 = .ok (.return_, 1) := by decide +kernel
theorem dX3_readFactor_0 : decode cX3_readFactor 0 = .ok (.aload_n 0, 1) := by decide +kernel
theorem dX3_readFactor_1 : decode cX3_readFactor 1 = .ok (.getfield 9, 3) := by decide +kernel
theorem dX3_readFactor_4 : decode cX3_readFactor 4 = .ok (.invokevirtual 34, 3) := by decide +kernel
theorem dX3_readFactor_7 : decode cX3_readFactor 7 = .ok (.ifCond .ne 4, 3) := by decide +kernel
theorem dX3_readFactor_10 : decode cX3_readFactor 10 = .ok (.return_, 1) := by decide +kernel
theorem dX3_readFactor_11 : decode cX3_readFactor 11 = .ok (.aload_n 0, 1) := by decide +kernel
theorem dX3_readFactor_12 : decode cX3_readFactor 12 = .ok (.getfield 9, 3) := by decide +kernel
theorem dX3_readFactor_15 : decode cX3_readFactor 15 = .ok (.getfield 41, 3) := by decide +kernel
theorem dX3_readFactor_18 : decode cX3_readFactor 18 = .ok (.invokestatic 100, 3) := by decide +kernel
theorem dX3_readFactor_21 : decode cX3_readFactor 21 = .ok (.istore_n 3, 1) := by decide +kernel
theorem dX3_readFactor_22 : decode cX3_readFactor 22 = .ok (.iload_n 3, 1) := by decide +kernel
theorem dX3_readFactor_23 : decode cX3_readFactor 23 = .ok (.iconst (-1), 1) := by decide +kernel
theorem dX3_readFactor_24 : decode cX3_readFactor 24 = .ok (.if_icmp .eq 20, 3) := by decide +kernel
theorem dX3_readFactor_27 : decode cX3_readFactor 27 = .ok (.aload_n 1, 1) := by decide +kernel
theorem dX3_readFactor_28 : decode cX3_readFactor 28 = .ok (.iconst 2, 1) := by decide +kernel
theorem dX3_readFactor_29 : decode cX3_readFactor 29 = .ok (.iload_n 3, 1) := by decide +kernel
theorem dX3_readFactor_30 : decode cX3_readFactor 30 = .ok (.invokevirtual 57, 3) := by decide +kernel
theorem dX3_readFactor_33 : decode cX3_readFactor 33 = .ok (.pop, 1) := by decide +kernel
theorem dX3_readFactor_34 : decode cX3_readFactor 34 = .ok (.aload_n 0, 1) := by decide +kernel
theorem dX3_readFactor_35 : decode cX3_readFactor 35 = .ok (.getfield 9, 3) := by decide +kernel
theorem dX3_readFactor_38 : decode cX3_readFactor 38 = .ok (.invokevirtual 47, 3) := by decide +kernel
theorem dX3_readFactor_41 : decode cX3_readFactor 41 = .ok (.goto 57, 3) := by decide +kernel
theorem dX3_readFactor_44 : decode cX3_readFactor 44 = .ok (.aload_n 0, 1) := by decide +kernel
theorem dX3_readFactor_45 : decode cX3_readFactor 45 = .ok (.getfield 9, 3) := by decide +kernel
theorem dX3_readFactor_48 : decode cX3_readFactor 48 = .ok (.getfield 41, 3) := by decide +kernel
theorem dX3_readFactor_51 : decode cX3_readFactor 51 = .ok (.bipush 91, 2) := by decide +kernel
theorem dX3_readFactor_53 : decode cX3_readFactor 53 = .ok (.if_icmp .eq 20, 3) := by decide +kernel
theorem dX3_readFactor_56 : decode cX3_readFactor 56 = .ok (.aload_n 1, 1) := by decide +kernel
theorem dX3_readFactor_57 : decode cX3_readFactor 57 = .ok (.iconst 1, 1) := by decide +kernel
theorem dX3_readFactor_58 : decode cX3_readFactor 58 = .ok (.aload_n 0, 1) := by decide +kernel
theorem dX3_readFactor_59 : decode cX3_readFactor 59 = .ok (.getfield 9, 3) := by decide +kernel
theorem dX3_readFactor_62 : decode cX3_readFactor 62 = .ok (.iconst 5, 1) := by decide +kernel
theorem dX3_readFactor_63 : decode cX3_readFactor 63 = .ok (.invokevirtual 103, 3) := by decide +kernel
theorem dX3_readFactor_66 : decode cX3_readFactor 66 = .ok (.invokevirtual 57, 3) := by decide +kernel
theorem dX3_readFactor_69 : decode cX3_readFactor 69 = .ok (.pop, 1) := by decide +kernel
theorem dX3_readFactor_70 : decode cX3_readFactor 70 = .ok (.goto 28, 3) := by decide +kernel
theorem dX3_readFactor_73 : decode cX3_readFactor 73 = .ok (.aload_n 0, 1) := by decide +kernel
theorem dX3_readFactor_74 : decode cX3_readFactor 74 = .ok (.iload_n 2, 1) := by decide +kernel
theorem dX3_readFactor_75 : decode cX3_readFactor 75 = .ok (.invokevirtual 80, 3) := by decide +kernel
theorem dX3_readFactor_78 : decode cX3_readFactor 78 = .ok (.ifCond .eq 20, 3) := by decide +kernel
theorem dX3_readFactor_81 : decode cX3_readFactor 81 = .ok (.aload_n 0, 1) := by decide +kernel
theorem dX3_readFactor_82 : decode cX3_readFactor 82 = .ok (.aload_n 1, 1) := by decide +kernel
theorem dX3_readFactor_83 : decode cX3_readFactor 83 = .ok (.iload_n 2, 1) := by decide +kernel
theorem dX3_readFactor_84 : decode cX3_readFactor 84 = .ok (.iconst 1, 1) := by decide +kernel
theorem dX3_readFactor_85 : decode cX3_readFactor 85 = .ok (.iadd, 1) := by decide +kernel
theorem dX3_readFactor_86 : decode cX3_readFactor 86 = .ok (.invokevirtual 53, 3) := by decide +kernel
theorem dX3_readFactor_89 : decode cX3_readFactor 89 = .ok (.aload_n 0, 1) := by decide +kernel
theorem dX3_readFactor_90 : decode cX3_readFactor 90 = .ok (.getfield 9, 3) := by decide +kernel
theorem dX3_readFactor_93 : decode cX3_readFactor 93 = .ok (.bipush 93, 2) := by decide +kernel
theorem dX3_readFactor_95 : decode cX3_readFactor 95 = .ok (.invokevirtual 61, 3) := by decide +kernel
theorem dX3_readFactor_98 : decode cX3_readFactor 98 = .ok (.return_, 1) := by decide +kernel
theorem dX3_comparisonOf_0 : decode cX3_comparisonOf 0 = .ok (.iload_n 0, 1) := by decide +kernel
theorem dX3_comparisonOf_1 : decode cX3_comparisonOf 1 = .ok (.bipush 60, 2) := by decide +kernel
theorem dX3_comparisonOf_3 : decode cX3_comparisonOf 3 = .ok (.if_icmp .ne 8, 3) := by decide +kernel
theorem dX3_comparisonOf_6 : decode cX3_comparisonOf 6 = .ok (.bipush 8, 2) := by decide +kernel
theorem dX3_comparisonOf_8 : decode cX3_comparisonOf 8 = .ok (.goto 26, 3) := by decide +kernel
theorem dX3_comparisonOf_11 : decode cX3_comparisonOf 11 = .ok (.iload_n 0, 1) := by decide +kernel
theorem dX3_comparisonOf_12 : decode cX3_comparisonOf 12 = .ok (.bipush 62, 2) := by decide +kernel
theorem dX3_comparisonOf_14 : decode cX3_comparisonOf 14 = .ok (.if_icmp .ne 8, 3) := by decide +kernel
theorem dX3_comparisonOf_17 : decode cX3_comparisonOf 17 = .ok (.bipush 9, 2) := by decide +kernel
theorem dX3_comparisonOf_19 : decode cX3_comparisonOf 19 = .ok (.goto 15, 3) := by decide +kernel
theorem dX3_comparisonOf_22 : decode cX3_comparisonOf 22 = .ok (.iload_n 0, 1) := by decide +kernel
theorem dX3_comparisonOf_23 : decode cX3_comparisonOf 23 = .ok (.bipush 61, 2) := by decide +kernel
theorem dX3_comparisonOf_25 : decode cX3_comparisonOf 25 = .ok (.if_icmp .ne 8, 3) := by decide +kernel
theorem dX3_comparisonOf_28 : decode cX3_comparisonOf 28 = .ok (.bipush 10, 2) := by decide +kernel
theorem dX3_comparisonOf_30 : decode cX3_comparisonOf 30 = .ok (.goto 4, 3) := by decide +kernel
theorem dX3_comparisonOf_33 : decode cX3_comparisonOf 33 = .ok (.iconst (-1), 1) := by decide +kernel
theorem dX3_comparisonOf_34 : decode cX3_comparisonOf 34 = .ok (.ireturn, 1) := by decide +kernel
theorem dX3_sumOf_0 : decode cX3_sumOf 0 = .ok (.iload_n 0, 1) := by decide +kernel
theorem dX3_sumOf_1 : decode cX3_sumOf 1 = .ok (.bipush 43, 2) := by decide +kernel
theorem dX3_sumOf_3 : decode cX3_sumOf 3 = .ok (.if_icmp .ne 7, 3) := by decide +kernel
theorem dX3_sumOf_6 : decode cX3_sumOf 6 = .ok (.iconst 3, 1) := by decide +kernel
theorem dX3_sumOf_7 : decode cX3_sumOf 7 = .ok (.goto 14, 3) := by decide +kernel
theorem dX3_sumOf_10 : decode cX3_sumOf 10 = .ok (.iload_n 0, 1) := by decide +kernel
theorem dX3_sumOf_11 : decode cX3_sumOf 11 = .ok (.bipush 45, 2) := by decide +kernel
theorem dX3_sumOf_13 : decode cX3_sumOf 13 = .ok (.if_icmp .ne 7, 3) := by decide +kernel
theorem dX3_sumOf_16 : decode cX3_sumOf 16 = .ok (.iconst 4, 1) := by decide +kernel
theorem dX3_sumOf_17 : decode cX3_sumOf 17 = .ok (.goto 4, 3) := by decide +kernel
theorem dX3_sumOf_20 : decode cX3_sumOf 20 = .ok (.iconst (-1), 1) := by decide +kernel
theorem dX3_sumOf_21 : decode cX3_sumOf 21 = .ok (.ireturn, 1) := by decide +kernel
theorem dX3_productOf_0 : decode cX3_productOf 0 = .ok (.iload_n 0, 1) := by decide +kernel
theorem dX3_productOf_1 : decode cX3_productOf 1 = .ok (.bipush 42, 2) := by decide +kernel
theorem dX3_productOf_3 : decode cX3_productOf 3 = .ok (.if_icmp .ne 7, 3) := by decide +kernel
theorem dX3_productOf_6 : decode cX3_productOf 6 = .ok (.iconst 5, 1) := by decide +kernel
theorem dX3_productOf_7 : decode cX3_productOf 7 = .ok (.goto 26, 3) := by decide +kernel
theorem dX3_productOf_10 : decode cX3_productOf 10 = .ok (.iload_n 0, 1) := by decide +kernel
theorem dX3_productOf_11 : decode cX3_productOf 11 = .ok (.bipush 47, 2) := by decide +kernel
theorem dX3_productOf_13 : decode cX3_productOf 13 = .ok (.if_icmp .ne 8, 3) := by decide +kernel
theorem dX3_productOf_16 : decode cX3_productOf 16 = .ok (.bipush 6, 2) := by decide +kernel
theorem dX3_productOf_18 : decode cX3_productOf 18 = .ok (.goto 15, 3) := by decide +kernel
theorem dX3_productOf_21 : decode cX3_productOf 21 = .ok (.iload_n 0, 1) := by decide +kernel
theorem dX3_productOf_22 : decode cX3_productOf 22 = .ok (.bipush 37, 2) := by decide +kernel
theorem dX3_productOf_24 : decode cX3_productOf 24 = .ok (.if_icmp .ne 8, 3) := by decide +kernel
theorem dX3_productOf_27 : decode cX3_productOf 27 = .ok (.bipush 7, 2) := by decide +kernel
theorem dX3_productOf_29 : decode cX3_productOf 29 = .ok (.goto 4, 3) := by decide +kernel
theorem dX3_productOf_32 : decode cX3_productOf 32 = .ok (.iconst (-1), 1) := by decide +kernel
theorem dX3_productOf_33 : decode cX3_productOf 33 = .ok (.ireturn, 1) := by decide +kernel
theorem dX3_letterOf_0 : decode cX3_letterOf 0 = .ok (.iload_n 0, 1) := by decide +kernel
theorem dX3_letterOf_1 : decode cX3_letterOf 1 = .ok (.ifCond .le 13, 3) := by decide +kernel
theorem dX3_letterOf_4 : decode cX3_letterOf 4 = .ok (.ldc 106, 2) := by decide +kernel
theorem dX3_letterOf_6 : decode cX3_letterOf 6 = .ok (.iload_n 0, 1) := by decide +kernel
theorem dX3_letterOf_7 : decode cX3_letterOf 7 = .ok (.i2c, 1) := by decide +kernel
theorem dX3_letterOf_8 : decode cX3_letterOf 8 = .ok (.invokevirtual 108, 3) := by decide +kernel
theorem dX3_letterOf_11 : decode cX3_letterOf 11 = .ok (.goto 4, 3) := by decide +kernel
theorem dX3_letterOf_14 : decode cX3_letterOf 14 = .ok (.iconst (-1), 1) := by decide +kernel
theorem dX3_letterOf_15 : decode cX3_letterOf 15 = .ok (.ireturn, 1) := by decide +kernel
theorem dX4_init_0 : decode cX4_init 0 = .ok (.aload_n 0, 1) := by decide +kernel
theorem dX4_init_1 : decode cX4_init 1 = .ok (.invokespecial 3, 3) := by decide +kernel
theorem dX4_init_4 : decode cX4_init 4 = .ok (.aload_n 0, 1) := by decide +kernel
theorem dX4_init_5 : decode cX4_init 5 = .ok (.bipush 12, 2) := by decide +kernel
theorem dX4_init_7 : decode cX4_init 7 = .ok (.newarray .int, 2) := by decide +kernel
theorem dX4_init_9 : decode cX4_init 9 = .ok (.putfield 9, 3) := by decide +kernel
theorem dX4_init_12 : decode cX4_init 12 = .ok (.iconst 0, 1) := by decide +kernel
theorem dX4_init_13 : decode cX4_init 13 = .ok (.istore_n 1, 1) := by decide +kernel
theorem dX4_init_14 : decode cX4_init 14 = .ok (.iload_n 1, 1) := by decide +kernel
theorem dX4_init_15 : decode cX4_init 15 = .ok (.bipush 12, 2) := by decide +kernel
theorem dX4_init_17 : decode cX4_init 17 = .ok (.if_icmp .ge 16, 3) := by decide +kernel
theorem dX4_init_20 : decode cX4_init 20 = .ok (.aload_n 0, 1) := by decide +kernel
theorem dX4_init_21 : decode cX4_init 21 = .ok (.getfield 9, 3) := by decide +kernel
theorem dX4_init_24 : decode cX4_init 24 = .ok (.iload_n 1, 1) := by decide +kernel
theorem dX4_init_25 : decode cX4_init 25 = .ok (.iconst (-1), 1) := by decide +kernel
theorem dX4_init_26 : decode cX4_init 26 = .ok (.iastore, 1) := by decide +kernel
theorem dX4_init_27 : decode cX4_init 27 = .ok (.iinc 1 1, 3) := by decide +kernel
theorem dX4_init_30 : decode cX4_init 30 = .ok (.goto (-16), 3) := by decide +kernel
theorem dX4_init_33 : decode cX4_init 33 = .ok (.return_, 1) := by decide +kernel
theorem dX4_holder_0 : decode cX4_holder 0 = .ok (.iload_n 1, 1) := by decide +kernel
theorem dX4_holder_1 : decode cX4_holder 1 = .ok (.invokestatic 15, 3) := by decide +kernel
theorem dX4_holder_4 : decode cX4_holder 4 = .ok (.ifCond .eq 12, 3) := by decide +kernel
theorem dX4_holder_7 : decode cX4_holder 7 = .ok (.aload_n 0, 1) := by decide +kernel
theorem dX4_holder_8 : decode cX4_holder 8 = .ok (.getfield 9, 3) := by decide +kernel
theorem dX4_holder_11 : decode cX4_holder 11 = .ok (.iload_n 1, 1) := by decide +kernel
theorem dX4_holder_12 : decode cX4_holder 12 = .ok (.iaload, 1) := by decide +kernel
theorem dX4_holder_13 : decode cX4_holder 13 = .ok (.goto 4, 3) := by decide +kernel
theorem dX4_holder_16 : decode cX4_holder 16 = .ok (.iconst (-1), 1) := by decide +kernel
theorem dX4_holder_17 : decode cX4_holder 17 = .ok (.ireturn, 1) := by decide +kernel
theorem dX4_give_0 : decode cX4_give 0 = .ok (.iload_n 1, 1) := by decide +kernel
theorem dX4_give_1 : decode cX4_give 1 = .ok (.invokestatic 15, 3) := by decide +kernel
theorem dX4_give_4 : decode cX4_give 4 = .ok (.ifCond .eq 10, 3) := by decide +kernel
theorem dX4_give_7 : decode cX4_give 7 = .ok (.aload_n 0, 1) := by decide +kernel
theorem dX4_give_8 : decode cX4_give 8 = .ok (.getfield 9, 3) := by decide +kernel
theorem dX4_give_11 : decode cX4_give 11 = .ok (.iload_n 1, 1) := by decide +kernel
theorem dX4_give_12 : decode cX4_give 12 = .ok (.iload_n 2, 1) := by decide +kernel
theorem dX4_give_13 : decode cX4_give 13 = .ok (.iastore, 1) := by decide +kernel
theorem dX4_give_14 : decode cX4_give 14 = .ok (.return_, 1) := by decide +kernel
theorem dX4_dropStrangers_0 : decode cX4_dropStrangers 0 = .ok (.iconst 0, 1) := by decide +kernel
theorem dX4_dropStrangers_1 : decode cX4_dropStrangers 1 = .ok (.istore_n 2, 1) := by decide +kernel
theorem dX4_dropStrangers_2 : decode cX4_dropStrangers 2 = .ok (.iload_n 2, 1) := by decide +kernel
theorem dX4_dropStrangers_3 : decode cX4_dropStrangers 3 = .ok (.bipush 12, 2) := by decide +kernel
theorem dX4_dropStrangers_5 : decode cX4_dropStrangers 5 = .ok (.if_icmp .ge 29, 3) := by decide +kernel
theorem dX4_dropStrangers_8 : decode cX4_dropStrangers 8 = .ok (.aload_n 1, 1) := by decide +kernel
theorem dX4_dropStrangers_9 : decode cX4_dropStrangers 9 = .ok (.aload_n 0, 1) := by decide +kernel
theorem dX4_dropStrangers_10 : decode cX4_dropStrangers 10 = .ok (.getfield 9, 3) := by decide +kernel
theorem dX4_dropStrangers_13 : decode cX4_dropStrangers 13 = .ok (.iload_n 2, 1) := by decide +kernel
theorem dX4_dropStrangers_14 : decode cX4_dropStrangers 14 = .ok (.iaload, 1) := by decide +kernel
theorem dX4_dropStrangers_15 : decode cX4_dropStrangers 15 = .ok (.invokevirtual 19, 3) := by decide +kernel
theorem dX4_dropStrangers_18 : decode cX4_dropStrangers 18 = .ok (.ifCond .ne 10, 3) := by decide +kernel
theorem dX4_dropStrangers_21 : decode cX4_dropStrangers 21 = .ok (.aload_n 0, 1) := by decide +kernel
theorem dX4_dropStrangers_22 : decode cX4_dropStrangers 22 = .ok (.getfield 9, 3) := by decide +kernel
theorem dX4_dropStrangers_25 : decode cX4_dropStrangers 25 = .ok (.iload_n 2, 1) := by decide +kernel
theorem dX4_dropStrangers_26 : decode cX4_dropStrangers 26 = .ok (.iconst (-1), 1) := by decide +kernel
theorem dX4_dropStrangers_27 : decode cX4_dropStrangers 27 = .ok (.iastore, 1) := by decide +kernel
theorem dX4_dropStrangers_28 : decode cX4_dropStrangers 28 = .ok (.iinc 2 1, 3) := by decide +kernel
theorem dX4_dropStrangers_31 : decode cX4_dropStrangers 31 = .ok (.goto (-29), 3) := by decide +kernel
theorem dX4_dropStrangers_34 : decode cX4_dropStrangers 34 = .ok (.return_, 1) := by decide +kernel
theorem dX4_takenTurns_0 : decode cX4_takenTurns 0 = .ok (.iconst 0, 1) := by decide +kernel
theorem dX4_takenTurns_1 : decode cX4_takenTurns 1 = .ok (.istore_n 1, 1) := by decide +kernel
theorem dX4_takenTurns_2 : decode cX4_takenTurns 2 = .ok (.iconst 0, 1) := by decide +kernel
theorem dX4_takenTurns_3 : decode cX4_takenTurns 3 = .ok (.istore_n 2, 1) := by decide +kernel
theorem dX4_takenTurns_4 : decode cX4_takenTurns 4 = .ok (.iload_n 2, 1) := by decide +kernel
theorem dX4_takenTurns_5 : decode cX4_takenTurns 5 = .ok (.bipush 12, 2) := by decide +kernel
theorem dX4_takenTurns_7 : decode cX4_takenTurns 7 = .ok (.if_icmp .ge 22, 3) := by decide +kernel
theorem dX4_takenTurns_10 : decode cX4_takenTurns 10 = .ok (.aload_n 0, 1) := by decide +kernel
theorem dX4_takenTurns_11 : decode cX4_takenTurns 11 = .ok (.getfield 9, 3) := by decide +kernel
theorem dX4_takenTurns_14 : decode cX4_takenTurns 14 = .ok (.iload_n 2, 1) := by decide +kernel
theorem dX4_takenTurns_15 : decode cX4_takenTurns 15 = .ok (.iaload, 1) := by decide +kernel
theorem dX4_takenTurns_16 : decode cX4_takenTurns 16 = .ok (.iconst (-1), 1) := by decide +kernel
theorem dX4_takenTurns_17 : decode cX4_takenTurns 17 = .ok (.if_icmp .eq 6, 3) := by decide +kernel
theorem dX4_takenTurns_20 : decode cX4_takenTurns 20 = .ok (.iinc 1 1, 3) := by decide +kernel
theorem dX4_takenTurns_23 : decode cX4_takenTurns 23 = .ok (.iinc 2 1, 3) := by decide +kernel
theorem dX4_takenTurns_26 : decode cX4_takenTurns 26 = .ok (.goto (-22), 3) := by decide +kernel
theorem dX4_takenTurns_29 : decode cX4_takenTurns 29 = .ok (.iload_n 1, 1) := by decide +kernel
theorem dX4_takenTurns_30 : decode cX4_takenTurns 30 = .ok (.ireturn, 1) := by decide +kernel
theorem dX4_turnsOf_0 : decode cX4_turnsOf 0 = .ok (.iconst 0, 1) := by decide +kernel
theorem dX4_turnsOf_1 : decode cX4_turnsOf 1 = .ok (.istore_n 2, 1) := by decide +kernel
theorem dX4_turnsOf_2 : decode cX4_turnsOf 2 = .ok (.iconst 0, 1) := by decide +kernel
theorem dX4_turnsOf_3 : decode cX4_turnsOf 3 = .ok (.istore_n 3, 1) := by decide +kernel
theorem dX4_turnsOf_4 : decode cX4_turnsOf 4 = .ok (.iload_n 3, 1) := by decide +kernel
theorem dX4_turnsOf_5 : decode cX4_turnsOf 5 = .ok (.bipush 12, 2) := by decide +kernel
theorem dX4_turnsOf_7 : decode cX4_turnsOf 7 = .ok (.if_icmp .ge 25, 3) := by decide +kernel
theorem dX4_turnsOf_10 : decode cX4_turnsOf 10 = .ok (.aload_n 0, 1) := by decide +kernel
theorem dX4_turnsOf_11 : decode cX4_turnsOf 11 = .ok (.getfield 9, 3) := by decide +kernel
theorem dX4_turnsOf_14 : decode cX4_turnsOf 14 = .ok (.iload_n 3, 1) := by decide +kernel
theorem dX4_turnsOf_15 : decode cX4_turnsOf 15 = .ok (.iaload, 1) := by decide +kernel
theorem dX4_turnsOf_16 : decode cX4_turnsOf 16 = .ok (.iload_n 1, 1) := by decide +kernel
theorem dX4_turnsOf_17 : decode cX4_turnsOf 17 = .ok (.if_icmp .ne 9, 3) := by decide +kernel
theorem dX4_turnsOf_20 : decode cX4_turnsOf 20 = .ok (.iload_n 2, 1) := by decide +kernel
theorem dX4_turnsOf_21 : decode cX4_turnsOf 21 = .ok (.iconst 1, 1) := by decide +kernel
theorem dX4_turnsOf_22 : decode cX4_turnsOf 22 = .ok (.iload_n 3, 1) := by decide +kernel
theorem dX4_turnsOf_23 : decode cX4_turnsOf 23 = .ok (.ishl, 1) := by decide +kernel
theorem dX4_turnsOf_24 : decode cX4_turnsOf 24 = .ok (.ior, 1) := by decide +kernel
theorem dX4_turnsOf_25 : decode cX4_turnsOf 25 = .ok (.istore_n 2, 1) := by decide +kernel
theorem dX4_turnsOf_26 : decode cX4_turnsOf 26 = .ok (.iinc 3 1, 3) := by decide +kernel
theorem dX4_turnsOf_29 : decode cX4_turnsOf 29 = .ok (.goto (-25), 3) := by decide +kernel
theorem dX4_turnsOf_32 : decode cX4_turnsOf 32 = .ok (.iload_n 2, 1) := by decide +kernel
theorem dX4_turnsOf_33 : decode cX4_turnsOf 33 = .ok (.ireturn, 1) := by decide +kernel
theorem dX4_holdersOf_0 : decode cX4_holdersOf 0 = .ok (.iconst 0, 1) := by decide +kernel
theorem dX4_holdersOf_1 : decode cX4_holdersOf 1 = .ok (.istore_n 2, 1) := by decide +kernel
theorem dX4_holdersOf_2 : decode cX4_holdersOf 2 = .ok (.iconst 0, 1) := by decide +kernel
theorem dX4_holdersOf_3 : decode cX4_holdersOf 3 = .ok (.istore_n 3, 1) := by decide +kernel
theorem dX4_holdersOf_4 : decode cX4_holdersOf 4 = .ok (.iload_n 3, 1) := by decide +kernel
theorem dX4_holdersOf_5 : decode cX4_holdersOf 5 = .ok (.bipush 12, 2) := by decide +kernel
theorem dX4_holdersOf_7 : decode cX4_holdersOf 7 = .ok (.if_icmp .ge 39, 3) := by decide +kernel
theorem dX4_holdersOf_10 : decode cX4_holdersOf 10 = .ok (.iload_n 1, 1) := by decide +kernel
theorem dX4_holdersOf_11 : decode cX4_holdersOf 11 = .ok (.iload_n 3, 1) := by decide +kernel
theorem dX4_holdersOf_12 : decode cX4_holdersOf 12 = .ok (.ishr, 1) := by decide +kernel
theorem dX4_holdersOf_13 : decode cX4_holdersOf 13 = .ok (.iconst 1, 1) := by decide +kernel
theorem dX4_holdersOf_14 : decode cX4_holdersOf 14 = .ok (.iand, 1) := by decide +kernel
theorem dX4_holdersOf_15 : decode cX4_holdersOf 15 = .ok (.iconst 1, 1) := by decide +kernel
theorem dX4_holdersOf_16 : decode cX4_holdersOf 16 = .ok (.if_icmp .ne 24, 3) := by decide +kernel
theorem dX4_holdersOf_19 : decode cX4_holdersOf 19 = .ok (.aload_n 0, 1) := by decide +kernel
theorem dX4_holdersOf_20 : decode cX4_holdersOf 20 = .ok (.getfield 9, 3) := by decide +kernel
theorem dX4_holdersOf_23 : decode cX4_holdersOf 23 = .ok (.iload_n 3, 1) := by decide +kernel
theorem dX4_holdersOf_24 : decode cX4_holdersOf 24 = .ok (.iaload, 1) := by decide +kernel
theorem dX4_holdersOf_25 : decode cX4_holdersOf 25 = .ok (.iconst (-1), 1) := by decide +kernel
theorem dX4_holdersOf_26 : decode cX4_holdersOf 26 = .ok (.if_icmp .eq 14, 3) := by decide +kernel
theorem dX4_holdersOf_29 : decode cX4_holdersOf 29 = .ok (.iload_n 2, 1) := by decide +kernel
theorem dX4_holdersOf_30 : decode cX4_holdersOf 30 = .ok (.iconst 1, 1) := by decide +kernel
theorem dX4_holdersOf_31 : decode cX4_holdersOf 31 = .ok (.aload_n 0, 1) := by decide +kernel
theorem dX4_holdersOf_32 : decode cX4_holdersOf 32 = .ok (.getfield 9, 3) := by decide +kernel
theorem dX4_holdersOf_35 : decode cX4_holdersOf 35 = .ok (.iload_n 3, 1) := by decide +kernel
theorem dX4_holdersOf_36 : decode cX4_holdersOf 36 = .ok (.iaload, 1) := by decide +kernel
theorem dX4_holdersOf_37 : decode cX4_holdersOf 37 = .ok (.ishl, 1) := by decide +kernel
theorem dX4_holdersOf_38 : decode cX4_holdersOf 38 = .ok (.ior, 1) := by decide +kernel
theorem dX4_holdersOf_39 : decode cX4_holdersOf 39 = .ok (.istore_n 2, 1) := by decide +kernel
theorem dX4_holdersOf_40 : decode cX4_holdersOf 40 = .ok (.iinc 3 1, 3) := by decide +kernel
theorem dX4_holdersOf_43 : decode cX4_holdersOf 43 = .ok (.goto (-39), 3) := by decide +kernel
theorem dX4_holdersOf_46 : decode cX4_holdersOf 46 = .ok (.iload_n 2, 1) := by decide +kernel
theorem dX4_holdersOf_47 : decode cX4_holdersOf 47 = .ok (.ireturn, 1) := by decide +kernel
theorem dX4_way_0 : decode cX4_way 0 = .ok (.iconst 0, 1) := by decide +kernel
theorem dX4_way_1 : decode cX4_way 1 = .ok (.istore_n 1, 1) := by decide +kernel
theorem dX4_way_2 : decode cX4_way 2 = .ok (.iconst (-1), 1) := by decide +kernel
theorem dX4_way_3 : decode cX4_way 3 = .ok (.istore_n 2, 1) := by decide +kernel
theorem dX4_way_4 : decode cX4_way 4 = .ok (.iconst 0, 1) := by decide +kernel
theorem dX4_way_5 : decode cX4_way 5 = .ok (.istore_n 3, 1) := by decide +kernel
theorem dX4_way_6 : decode cX4_way 6 = .ok (.iload_n 3, 1) := by decide +kernel
theorem dX4_way_7 : decode cX4_way 7 = .ok (.bipush 12, 2) := by decide +kernel
theorem dX4_way_9 : decode cX4_way 9 = .ok (.if_icmp .ge 45, 3) := by decide +kernel
theorem dX4_way_12 : decode cX4_way 12 = .ok (.aload_n 0, 1) := by decide +kernel
theorem dX4_way_13 : decode cX4_way 13 = .ok (.getfield 9, 3) := by decide +kernel
theorem dX4_way_16 : decode cX4_way 16 = .ok (.iload_n 3, 1) := by decide +kernel
theorem dX4_way_17 : decode cX4_way 17 = .ok (.iaload, 1) := by decide +kernel
theorem dX4_way_18 : decode cX4_way 18 = .ok (.istore 4, 2) := by decide +kernel
theorem dX4_way_20 : decode cX4_way 20 = .ok (.iload 4, 2) := by decide +kernel
theorem dX4_way_22 : decode cX4_way 22 = .ok (.iconst (-1), 1) := by decide +kernel
theorem dX4_way_23 : decode cX4_way 23 = .ok (.if_icmp .eq 25, 3) := by decide +kernel
theorem dX4_way_26 : decode cX4_way 26 = .ok (.iload_n 1, 1) := by decide +kernel
theorem dX4_way_27 : decode cX4_way 27 = .ok (.iload_n 2, 1) := by decide +kernel
theorem dX4_way_28 : decode cX4_way 28 = .ok (.iconst (-1), 1) := by decide +kernel
theorem dX4_way_29 : decode cX4_way 29 = .ok (.if_icmp .ne 7, 3) := by decide +kernel
theorem dX4_way_32 : decode cX4_way 32 = .ok (.iconst 0, 1) := by decide +kernel
theorem dX4_way_33 : decode cX4_way 33 = .ok (.goto 10, 3) := by decide +kernel
theorem dX4_way_36 : decode cX4_way 36 = .ok (.iload 4, 2) := by decide +kernel
theorem dX4_way_38 : decode cX4_way 38 = .ok (.iload_n 2, 1) := by decide +kernel
theorem dX4_way_39 : decode cX4_way 39 = .ok (.isub, 1) := by decide +kernel
theorem dX4_way_40 : decode cX4_way 40 = .ok (.invokestatic 24, 3) := by decide +kernel
theorem dX4_way_43 : decode cX4_way 43 = .ok (.iadd, 1) := by decide +kernel
theorem dX4_way_44 : decode cX4_way 44 = .ok (.istore_n 1, 1) := by decide +kernel
theorem dX4_way_45 : decode cX4_way 45 = .ok (.iload 4, 2) := by decide +kernel
theorem dX4_way_47 : decode cX4_way 47 = .ok (.istore_n 2, 1) := by decide +kernel
theorem dX4_way_48 : decode cX4_way 48 = .ok (.iinc 3 1, 3) := by decide +kernel
theorem dX4_way_51 : decode cX4_way 51 = .ok (.goto (-45), 3) := by decide +kernel
theorem dX4_way_54 : decode cX4_way 54 = .ok (.iload_n 1, 1) := by decide +kernel
theorem dX4_way_55 : decode cX4_way 55 = .ok (.ireturn, 1) := by decide +kernel
theorem dX4_wayBack_0 : decode cX4_wayBack 0 = .ok (.iconst (-1), 1) := by decide +kernel
theorem dX4_wayBack_1 : decode cX4_wayBack 1 = .ok (.istore_n 1, 1) := by decide +kernel
theorem dX4_wayBack_2 : decode cX4_wayBack 2 = .ok (.iconst (-1), 1) := by decide +kernel
theorem dX4_wayBack_3 : decode cX4_wayBack 3 = .ok (.istore_n 2, 1) := by decide +kernel
theorem dX4_wayBack_4 : decode cX4_wayBack 4 = .ok (.iconst 0, 1) := by decide +kernel
theorem dX4_wayBack_5 : decode cX4_wayBack 5 = .ok (.istore_n 3, 1) := by decide +kernel
theorem dX4_wayBack_6 : decode cX4_wayBack 6 = .ok (.iload_n 3, 1) := by decide +kernel
theorem dX4_wayBack_7 : decode cX4_wayBack 7 = .ok (.bipush 12, 2) := by decide +kernel
theorem dX4_wayBack_9 : decode cX4_wayBack 9 = .ok (.if_icmp .ge 42, 3) := by decide +kernel
theorem dX4_wayBack_12 : decode cX4_wayBack 12 = .ok (.aload_n 0, 1) := by decide +kernel
theorem dX4_wayBack_13 : decode cX4_wayBack 13 = .ok (.getfield 9, 3) := by decide +kernel
theorem dX4_wayBack_16 : decode cX4_wayBack 16 = .ok (.iload_n 3, 1) := by decide +kernel
theorem dX4_wayBack_17 : decode cX4_wayBack 17 = .ok (.iaload, 1) := by decide +kernel
theorem dX4_wayBack_18 : decode cX4_wayBack 18 = .ok (.iconst (-1), 1) := by decide +kernel
theorem dX4_wayBack_19 : decode cX4_wayBack 19 = .ok (.if_icmp .eq 26, 3) := by decide +kernel
theorem dX4_wayBack_22 : decode cX4_wayBack 22 = .ok (.iload_n 1, 1) := by decide +kernel
theorem dX4_wayBack_23 : decode cX4_wayBack 23 = .ok (.iconst (-1), 1) := by decide +kernel
theorem dX4_wayBack_24 : decode cX4_wayBack 24 = .ok (.if_icmp .ne 12, 3) := by decide +kernel
theorem dX4_wayBack_27 : decode cX4_wayBack 27 = .ok (.aload_n 0, 1) := by decide +kernel
theorem dX4_wayBack_28 : decode cX4_wayBack 28 = .ok (.getfield 9, 3) := by decide +kernel
theorem dX4_wayBack_31 : decode cX4_wayBack 31 = .ok (.iload_n 3, 1) := by decide +kernel
theorem dX4_wayBack_32 : decode cX4_wayBack 32 = .ok (.iaload, 1) := by decide +kernel
theorem dX4_wayBack_33 : decode cX4_wayBack 33 = .ok (.goto 4, 3) := by decide +kernel
theorem dX4_wayBack_36 : decode cX4_wayBack 36 = .ok (.iload_n 1, 1) := by decide +kernel
theorem dX4_wayBack_37 : decode cX4_wayBack 37 = .ok (.istore_n 1, 1) := by decide +kernel
theorem dX4_wayBack_38 : decode cX4_wayBack 38 = .ok (.aload_n 0, 1) := by decide +kernel
theorem dX4_wayBack_39 : decode cX4_wayBack 39 = .ok (.getfield 9, 3) := by decide +kernel
theorem dX4_wayBack_42 : decode cX4_wayBack 42 = .ok (.iload_n 3, 1) := by decide +kernel
theorem dX4_wayBack_43 : decode cX4_wayBack 43 = .ok (.iaload, 1) := by decide +kernel
theorem dX4_wayBack_44 : decode cX4_wayBack 44 = .ok (.istore_n 2, 1) := by decide +kernel
theorem dX4_wayBack_45 : decode cX4_wayBack 45 = .ok (.iinc 3 1, 3) := by decide +kernel
theorem dX4_wayBack_48 : decode cX4_wayBack 48 = .ok (.goto (-42), 3) := by decide +kernel
theorem dX4_wayBack_51 : decode cX4_wayBack 51 = .ok (.iload_n 2, 1) := by decide +kernel
theorem dX4_wayBack_52 : decode cX4_wayBack 52 = .ok (.iload_n 1, 1) := by decide +kernel
theorem dX4_wayBack_53 : decode cX4_wayBack 53 = .ok (.isub, 1) := by decide +kernel
theorem dX4_wayBack_54 : decode cX4_wayBack 54 = .ok (.invokestatic 24, 3) := by decide +kernel
theorem dX4_wayBack_57 : decode cX4_wayBack 57 = .ok (.ireturn, 1) := by decide +kernel
theorem dX4_wayIfSwapped_0 : decode cX4_wayIfSwapped 0 = .ok (.aload_n 0, 1) := by decide +kernel
theorem dX4_wayIfSwapped_1 : decode cX4_wayIfSwapped 1 = .ok (.iload_n 1, 1) := by decide +kernel
theorem dX4_wayIfSwapped_2 : decode cX4_wayIfSwapped 2 = .ok (.iload_n 2, 1) := by decide +kernel
theorem dX4_wayIfSwapped_3 : decode cX4_wayIfSwapped 3 = .ok (.invokevirtual 30, 3) := by decide +kernel
theorem dX4_wayIfSwapped_6 : decode cX4_wayIfSwapped 6 = .ok (.aload_n 0, 1) := by decide +kernel
theorem dX4_wayIfSwapped_7 : decode cX4_wayIfSwapped 7 = .ok (.invokevirtual 34, 3) := by decide +kernel
theorem dX4_wayIfSwapped_10 : decode cX4_wayIfSwapped 10 = .ok (.istore_n 3, 1) := by decide +kernel
theorem dX4_wayIfSwapped_11 : decode cX4_wayIfSwapped 11 = .ok (.aload_n 0, 1) := by decide +kernel
theorem dX4_wayIfSwapped_12 : decode cX4_wayIfSwapped 12 = .ok (.iload_n 1, 1) := by decide +kernel
theorem dX4_wayIfSwapped_13 : decode cX4_wayIfSwapped 13 = .ok (.iload_n 2, 1) := by decide +kernel
theorem dX4_wayIfSwapped_14 : decode cX4_wayIfSwapped 14 = .ok (.invokevirtual 30, 3) := by decide +kernel
theorem dX4_wayIfSwapped_17 : decode cX4_wayIfSwapped 17 = .ok (.iload_n 3, 1) := by decide +kernel
theorem dX4_wayIfSwapped_18 : decode cX4_wayIfSwapped 18 = .ok (.ireturn, 1) := by decide +kernel
theorem dX4_exchange_0 : decode cX4_exchange 0 = .ok (.aload_n 0, 1) := by decide +kernel
theorem dX4_exchange_1 : decode cX4_exchange 1 = .ok (.iload_n 1, 1) := by decide +kernel
theorem dX4_exchange_2 : decode cX4_exchange 2 = .ok (.invokevirtual 38, 3) := by decide +kernel
theorem dX4_exchange_5 : decode cX4_exchange 5 = .ok (.istore_n 3, 1) := by decide +kernel
theorem dX4_exchange_6 : decode cX4_exchange 6 = .ok (.aload_n 0, 1) := by decide +kernel
theorem dX4_exchange_7 : decode cX4_exchange 7 = .ok (.iload_n 1, 1) := by decide +kernel
theorem dX4_exchange_8 : decode cX4_exchange 8 = .ok (.aload_n 0, 1) := by decide +kernel
theorem dX4_exchange_9 : decode cX4_exchange 9 = .ok (.iload_n 2, 1) := by decide +kernel
theorem dX4_exchange_10 : decode cX4_exchange 10 = .ok (.invokevirtual 38, 3) := by decide +kernel
theorem dX4_exchange_13 : decode cX4_exchange 13 = .ok (.invokevirtual 41, 3) := by decide +kernel
theorem dX4_exchange_16 : decode cX4_exchange 16 = .ok (.aload_n 0, 1) := by decide +kernel
theorem dX4_exchange_17 : decode cX4_exchange 17 = .ok (.iload_n 2, 1) := by decide +kernel
theorem dX4_exchange_18 : decode cX4_exchange 18 = .ok (.iload_n 3, 1) := by decide +kernel
theorem dX4_exchange_19 : decode cX4_exchange 19 = .ok (.invokevirtual 41, 3) := by decide +kernel
theorem dX4_exchange_22 : decode cX4_exchange 22 = .ok (.return_, 1) := by decide +kernel
theorem dX4_spreadAmong_0 : decode cX4_spreadAmong 0 = .ok (.iconst 0, 1) := by decide +kernel
theorem dX4_spreadAmong_1 : decode cX4_spreadAmong 1 = .ok (.istore_n 2, 1) := by decide +kernel
theorem dX4_spreadAmong_2 : decode cX4_spreadAmong 2 = .ok (.bipush 12, 2) := by decide +kernel
theorem dX4_spreadAmong_4 : decode cX4_spreadAmong 4 = .ok (.istore_n 3, 1) := by decide +kernel
theorem dX4_spreadAmong_5 : decode cX4_spreadAmong 5 = .ok (.iconst 0, 1) := by decide +kernel
theorem dX4_spreadAmong_6 : decode cX4_spreadAmong 6 = .ok (.istore 4, 2) := by decide +kernel
theorem dX4_spreadAmong_8 : decode cX4_spreadAmong 8 = .ok (.iload 4, 2) := by decide +kernel
theorem dX4_spreadAmong_10 : decode cX4_spreadAmong 10 = .ok (.bipush 16, 2) := by decide +kernel
theorem dX4_spreadAmong_12 : decode cX4_spreadAmong 12 = .ok (.if_icmp .ge 43, 3) := by decide +kernel
theorem dX4_spreadAmong_15 : decode cX4_spreadAmong 15 = .ok (.aload_n 1, 1) := by decide +kernel
theorem dX4_spreadAmong_16 : decode cX4_spreadAmong 16 = .ok (.iload 4, 2) := by decide +kernel
theorem dX4_spreadAmong_18 : decode cX4_spreadAmong 18 = .ok (.invokevirtual 19, 3) := by decide +kernel
theorem dX4_spreadAmong_21 : decode cX4_spreadAmong 21 = .ok (.ifCond .eq 28, 3) := by decide +kernel
theorem dX4_spreadAmong_24 : decode cX4_spreadAmong 24 = .ok (.aload_n 0, 1) := by decide +kernel
theorem dX4_spreadAmong_25 : decode cX4_spreadAmong 25 = .ok (.iload 4, 2) := by decide +kernel
theorem dX4_spreadAmong_27 : decode cX4_spreadAmong 27 = .ok (.invokevirtual 44, 3) := by decide +kernel
theorem dX4_spreadAmong_30 : decode cX4_spreadAmong 30 = .ok (.invokestatic 47, 3) := by decide +kernel
theorem dX4_spreadAmong_33 : decode cX4_spreadAmong 33 = .ok (.istore 5, 2) := by decide +kernel
theorem dX4_spreadAmong_35 : decode cX4_spreadAmong 35 = .ok (.iload_n 2, 1) := by decide +kernel
theorem dX4_spreadAmong_36 : decode cX4_spreadAmong 36 = .ok (.iload 5, 2) := by decide +kernel
theorem dX4_spreadAmong_38 : decode cX4_spreadAmong 38 = .ok (.invokestatic 52, 3) := by decide +kernel
theorem dX4_spreadAmong_41 : decode cX4_spreadAmong 41 = .ok (.istore_n 2, 1) := by decide +kernel
theorem dX4_spreadAmong_42 : decode cX4_spreadAmong 42 = .ok (.iload_n 3, 1) := by decide +kernel
theorem dX4_spreadAmong_43 : decode cX4_spreadAmong 43 = .ok (.iload 5, 2) := by decide +kernel
theorem dX4_spreadAmong_45 : decode cX4_spreadAmong 45 = .ok (.invokestatic 56, 3) := by decide +kernel
theorem dX4_spreadAmong_48 : decode cX4_spreadAmong 48 = .ok (.istore_n 3, 1) := by decide +kernel
theorem dX4_spreadAmong_49 : decode cX4_spreadAmong 49 = .ok (.iinc 4 1, 3) := by decide +kernel
theorem dX4_spreadAmong_52 : decode cX4_spreadAmong 52 = .ok (.goto (-44), 3) := by decide +kernel
theorem dX4_spreadAmong_55 : decode cX4_spreadAmong 55 = .ok (.iload_n 2, 1) := by decide +kernel
theorem dX4_spreadAmong_56 : decode cX4_spreadAmong 56 = .ok (.iload_n 3, 1) := by decide +kernel
theorem dX4_spreadAmong_57 : decode cX4_spreadAmong 57 = .ok (.isub, 1) := by decide +kernel
theorem dX4_spreadAmong_58 : decode cX4_spreadAmong 58 = .ok (.iconst 0, 1) := by decide +kernel
theorem dX4_spreadAmong_59 : decode cX4_spreadAmong 59 = .ok (.invokestatic 52, 3) := by decide +kernel
theorem dX4_spreadAmong_62 : decode cX4_spreadAmong 62 = .ok (.ireturn, 1) := by decide +kernel
theorem dX4_thingsSeen_0 : decode cX4_thingsSeen 0 = .ok (.iconst 0, 1) := by decide +kernel
theorem dX4_thingsSeen_1 : decode cX4_thingsSeen 1 = .ok (.istore_n 2, 1) := by decide +kernel
theorem dX4_thingsSeen_2 : decode cX4_thingsSeen 2 = .ok (.iconst 0, 1) := by decide +kernel
theorem dX4_thingsSeen_3 : decode cX4_thingsSeen 3 = .ok (.istore_n 3, 1) := by decide +kernel
theorem dX4_thingsSeen_4 : decode cX4_thingsSeen 4 = .ok (.iload_n 3, 1) := by decide +kernel
theorem dX4_thingsSeen_5 : decode cX4_thingsSeen 5 = .ok (.bipush 12, 2) := by decide +kernel
theorem dX4_thingsSeen_7 : decode cX4_thingsSeen 7 = .ok (.if_icmp .ge 23, 3) := by decide +kernel
theorem dX4_thingsSeen_10 : decode cX4_thingsSeen 10 = .ok (.iload_n 2, 1) := by decide +kernel
theorem dX4_thingsSeen_11 : decode cX4_thingsSeen 11 = .ok (.aload_n 1, 1) := by decide +kernel
theorem dX4_thingsSeen_12 : decode cX4_thingsSeen 12 = .ok (.aload_n 0, 1) := by decide +kernel
theorem dX4_thingsSeen_13 : decode cX4_thingsSeen 13 = .ok (.getfield 9, 3) := by decide +kernel
theorem dX4_thingsSeen_16 : decode cX4_thingsSeen 16 = .ok (.iload_n 3, 1) := by decide +kernel
theorem dX4_thingsSeen_17 : decode cX4_thingsSeen 17 = .ok (.iaload, 1) := by decide +kernel
theorem dX4_thingsSeen_18 : decode cX4_thingsSeen 18 = .ok (.iload_n 3, 1) := by decide +kernel
theorem dX4_thingsSeen_19 : decode cX4_thingsSeen 19 = .ok (.invokevirtual 59, 3) := by decide +kernel
theorem dX4_thingsSeen_22 : decode cX4_thingsSeen 22 = .ok (.ior, 1) := by decide +kernel
theorem dX4_thingsSeen_23 : decode cX4_thingsSeen 23 = .ok (.istore_n 2, 1) := by decide +kernel
theorem dX4_thingsSeen_24 : decode cX4_thingsSeen 24 = .ok (.iinc 3 1, 3) := by decide +kernel
theorem dX4_thingsSeen_27 : decode cX4_thingsSeen 27 = .ok (.goto (-23), 3) := by decide +kernel
theorem dX4_thingsSeen_30 : decode cX4_thingsSeen 30 = .ok (.iload_n 2, 1) := by decide +kernel
theorem dX4_thingsSeen_31 : decode cX4_thingsSeen 31 = .ok (.ireturn, 1) := by decide +kernel
theorem dX4_turnsTill_0 : decode cX4_turnsTill 0 = .ok (.iconst 0, 1) := by decide +kernel
theorem dX4_turnsTill_1 : decode cX4_turnsTill 1 = .ok (.istore 5, 2) := by decide +kernel
theorem dX4_turnsTill_3 : decode cX4_turnsTill 3 = .ok (.iload 5, 2) := by decide +kernel
theorem dX4_turnsTill_5 : decode cX4_turnsTill 5 = .ok (.bipush 12, 2) := by decide +kernel
theorem dX4_turnsTill_7 : decode cX4_turnsTill 7 = .ok (.if_icmp .ge 47, 3) := by decide +kernel
theorem dX4_turnsTill_10 : decode cX4_turnsTill 10 = .ok (.iload 4, 2) := by decide +kernel
theorem dX4_turnsTill_12 : decode cX4_turnsTill 12 = .ok (.iload 5, 2) := by decide +kernel
theorem dX4_turnsTill_14 : decode cX4_turnsTill 14 = .ok (.iadd, 1) := by decide +kernel
theorem dX4_turnsTill_15 : decode cX4_turnsTill 15 = .ok (.bipush 12, 2) := by decide +kernel
theorem dX4_turnsTill_17 : decode cX4_turnsTill 17 = .ok (.irem, 1) := by decide +kernel
theorem dX4_turnsTill_18 : decode cX4_turnsTill 18 = .ok (.istore 6, 2) := by decide +kernel
theorem dX4_turnsTill_20 : decode cX4_turnsTill 20 = .ok (.aload_n 0, 1) := by decide +kernel
theorem dX4_turnsTill_21 : decode cX4_turnsTill 21 = .ok (.iload 6, 2) := by decide +kernel
theorem dX4_turnsTill_23 : decode cX4_turnsTill 23 = .ok (.invokevirtual 38, 3) := by decide +kernel
theorem dX4_turnsTill_26 : decode cX4_turnsTill 26 = .ok (.iload_n 2, 1) := by decide +kernel
theorem dX4_turnsTill_27 : decode cX4_turnsTill 27 = .ok (.if_icmp .ne 21, 3) := by decide +kernel
theorem dX4_turnsTill_30 : decode cX4_turnsTill 30 = .ok (.aload_n 1, 1) := by decide +kernel
theorem dX4_turnsTill_31 : decode cX4_turnsTill 31 = .ok (.iload_n 2, 1) := by decide +kernel
theorem dX4_turnsTill_32 : decode cX4_turnsTill 32 = .ok (.iload 6, 2) := by decide +kernel
theorem dX4_turnsTill_34 : decode cX4_turnsTill 34 = .ok (.invokevirtual 59, 3) := by decide +kernel
theorem dX4_turnsTill_37 : decode cX4_turnsTill 37 = .ok (.iload_n 3, 1) := by decide +kernel
theorem dX4_turnsTill_38 : decode cX4_turnsTill 38 = .ok (.ishr, 1) := by decide +kernel
theorem dX4_turnsTill_39 : decode cX4_turnsTill 39 = .ok (.iconst 1, 1) := by decide +kernel
theorem dX4_turnsTill_40 : decode cX4_turnsTill 40 = .ok (.iand, 1) := by decide +kernel
theorem dX4_turnsTill_41 : decode cX4_turnsTill 41 = .ok (.iconst 1, 1) := by decide +kernel
theorem dX4_turnsTill_42 : decode cX4_turnsTill 42 = .ok (.if_icmp .ne 6, 3) := by decide +kernel
theorem dX4_turnsTill_45 : decode cX4_turnsTill 45 = .ok (.iload 5, 2) := by decide +kernel
theorem dX4_turnsTill_47 : decode cX4_turnsTill 47 = .ok (.ireturn, 1) := by decide +kernel
theorem dX4_turnsTill_48 : decode cX4_turnsTill 48 = .ok (.iinc 5 1, 3) := by decide +kernel
theorem dX4_turnsTill_51 : decode cX4_turnsTill 51 = .ok (.goto (-48), 3) := by decide +kernel
theorem dX4_turnsTill_54 : decode cX4_turnsTill 54 = .ok (.bipush (-2), 2) := by decide +kernel
theorem dX4_turnsTill_56 : decode cX4_turnsTill 56 = .ok (.ireturn, 1) := by decide +kernel
theorem dX4_readBy_0 : decode cX4_readBy 0 = .ok (.iconst 0, 1) := by decide +kernel
theorem dX4_readBy_1 : decode cX4_readBy 1 = .ok (.istore 4, 2) := by decide +kernel
theorem dX4_readBy_3 : decode cX4_readBy 3 = .ok (.iconst 1, 1) := by decide +kernel
theorem dX4_readBy_4 : decode cX4_readBy 4 = .ok (.istore 5, 2) := by decide +kernel
theorem dX4_readBy_6 : decode cX4_readBy 6 = .ok (.iload 5, 2) := by decide +kernel
theorem dX4_readBy_8 : decode cX4_readBy 8 = .ok (.iload_n 3, 1) := by decide +kernel
theorem dX4_readBy_9 : decode cX4_readBy 9 = .ok (.if_icmp .gt 55, 3) := by decide +kernel
theorem dX4_readBy_12 : decode cX4_readBy 12 = .ok (.iload_n 2, 1) := by decide +kernel
theorem dX4_readBy_13 : decode cX4_readBy 13 = .ok (.iload 5, 2) := by decide +kernel
theorem dX4_readBy_15 : decode cX4_readBy 15 = .ok (.iadd, 1) := by decide +kernel
theorem dX4_readBy_16 : decode cX4_readBy 16 = .ok (.bipush 12, 2) := by decide +kernel
theorem dX4_readBy_18 : decode cX4_readBy 18 = .ok (.irem, 1) := by decide +kernel
theorem dX4_readBy_19 : decode cX4_readBy 19 = .ok (.istore 6, 2) := by decide +kernel
theorem dX4_readBy_21 : decode cX4_readBy 21 = .ok (.aload_n 0, 1) := by decide +kernel
theorem dX4_readBy_22 : decode cX4_readBy 22 = .ok (.iload 6, 2) := by decide +kernel
theorem dX4_readBy_24 : decode cX4_readBy 24 = .ok (.invokevirtual 38, 3) := by decide +kernel
theorem dX4_readBy_27 : decode cX4_readBy 27 = .ok (.istore 7, 2) := by decide +kernel
theorem dX4_readBy_29 : decode cX4_readBy 29 = .ok (.iload 7, 2) := by decide +kernel
theorem dX4_readBy_31 : decode cX4_readBy 31 = .ok (.iconst (-1), 1) := by decide +kernel
theorem dX4_readBy_32 : decode cX4_readBy 32 = .ok (.if_icmp .eq 26, 3) := by decide +kernel
theorem dX4_readBy_35 : decode cX4_readBy 35 = .ok (.iload 4, 2) := by decide +kernel
theorem dX4_readBy_37 : decode cX4_readBy 37 = .ok (.iconst 1, 1) := by decide +kernel
theorem dX4_readBy_38 : decode cX4_readBy 38 = .ok (.iload 7, 2) := by decide +kernel
theorem dX4_readBy_40 : decode cX4_readBy 40 = .ok (.ishl, 1) := by decide +kernel
theorem dX4_readBy_41 : decode cX4_readBy 41 = .ok (.ior, 1) := by decide +kernel
theorem dX4_readBy_42 : decode cX4_readBy 42 = .ok (.istore 4, 2) := by decide +kernel
theorem dX4_readBy_44 : decode cX4_readBy 44 = .ok (.aload_n 1, 1) := by decide +kernel
theorem dX4_readBy_45 : decode cX4_readBy 45 = .ok (.iload 7, 2) := by decide +kernel
theorem dX4_readBy_47 : decode cX4_readBy 47 = .ok (.iload 6, 2) := by decide +kernel
theorem dX4_readBy_49 : decode cX4_readBy 49 = .ok (.invokevirtual 59, 3) := by decide +kernel
theorem dX4_readBy_52 : decode cX4_readBy 52 = .ok (.ifCond .ne 6, 3) := by decide +kernel
theorem dX4_readBy_55 : decode cX4_readBy 55 = .ok (.iload 4, 2) := by decide +kernel
theorem dX4_readBy_57 : decode cX4_readBy 57 = .ok (.ireturn, 1) := by decide +kernel
theorem dX4_readBy_58 : decode cX4_readBy 58 = .ok (.iinc 5 1, 3) := by decide +kernel
theorem dX4_readBy_61 : decode cX4_readBy 61 = .ok (.goto (-55), 3) := by decide +kernel
theorem dX4_readBy_64 : decode cX4_readBy 64 = .ok (.iload 4, 2) := by decide +kernel
theorem dX4_readBy_66 : decode cX4_readBy 66 = .ok (.ireturn, 1) := by decide +kernel
theorem dX4_othersWhoRead_0 : decode cX4_othersWhoRead 0 = .ok (.aload_n 0, 1) := by decide +kernel
theorem dX4_othersWhoRead_1 : decode cX4_othersWhoRead 1 = .ok (.aload_n 1, 1) := by decide +kernel
theorem dX4_othersWhoRead_2 : decode cX4_othersWhoRead 2 = .ok (.iload_n 2, 1) := by decide +kernel
theorem dX4_othersWhoRead_3 : decode cX4_othersWhoRead 3 = .ok (.bipush 12, 2) := by decide +kernel
theorem dX4_othersWhoRead_5 : decode cX4_othersWhoRead 5 = .ok (.invokevirtual 62, 3) := by decide +kernel
theorem dX4_othersWhoRead_8 : decode cX4_othersWhoRead 8 = .ok (.iconst 1, 1) := by decide +kernel
theorem dX4_othersWhoRead_9 : decode cX4_othersWhoRead 9 = .ok (.iload_n 3, 1) := by decide +kernel
theorem dX4_othersWhoRead_10 : decode cX4_othersWhoRead 10 = .ok (.ishl, 1) := by decide +kernel
theorem dX4_othersWhoRead_11 : decode cX4_othersWhoRead 11 = .ok (.iconst (-1), 1) := by decide +kernel
theorem dX4_othersWhoRead_12 : decode cX4_othersWhoRead 12 = .ok (.ixor, 1) := by decide +kernel
theorem dX4_othersWhoRead_13 : decode cX4_othersWhoRead 13 = .ok (.iand, 1) := by decide +kernel
theorem dX4_othersWhoRead_14 : decode cX4_othersWhoRead 14 = .ok (.invokestatic 47, 3) := by decide +kernel
theorem dX4_othersWhoRead_17 : decode cX4_othersWhoRead 17 = .ok (.ireturn, 1) := by decide +kernel
theorem dX4_bestTurnToWrite_0 : decode cX4_bestTurnToWrite 0 = .ok (.bipush (-2), 2) := by decide +kernel
theorem dX4_bestTurnToWrite_2 : decode cX4_bestTurnToWrite 2 = .ok (.istore_n 3, 1) := by decide +kernel
theorem dX4_bestTurnToWrite_3 : decode cX4_bestTurnToWrite 3 = .ok (.iconst (-1), 1) := by decide +kernel
theorem dX4_bestTurnToWrite_4 : decode cX4_bestTurnToWrite 4 = .ok (.istore 4, 2) := by decide +kernel
theorem dX4_bestTurnToWrite_6 : decode cX4_bestTurnToWrite 6 = .ok (.iconst 0, 1) := by decide +kernel
theorem dX4_bestTurnToWrite_7 : decode cX4_bestTurnToWrite 7 = .ok (.istore 5, 2) := by decide +kernel
theorem dX4_bestTurnToWrite_9 : decode cX4_bestTurnToWrite 9 = .ok (.iload 5, 2) := by decide +kernel
theorem dX4_bestTurnToWrite_11 : decode cX4_bestTurnToWrite 11 = .ok (.bipush 12, 2) := by decide +kernel
theorem dX4_bestTurnToWrite_13 : decode cX4_bestTurnToWrite 13 = .ok (.if_icmp .ge 48, 3) := by decide +kernel
theorem dX4_bestTurnToWrite_16 : decode cX4_bestTurnToWrite 16 = .ok (.aload_n 0, 1) := by decide +kernel
theorem dX4_bestTurnToWrite_17 : decode cX4_bestTurnToWrite 17 = .ok (.getfield 9, 3) := by decide +kernel
theorem dX4_bestTurnToWrite_20 : decode cX4_bestTurnToWrite 20 = .ok (.iload 5, 2) := by decide +kernel
theorem dX4_bestTurnToWrite_22 : decode cX4_bestTurnToWrite 22 = .ok (.iaload, 1) := by decide +kernel
theorem dX4_bestTurnToWrite_23 : decode cX4_bestTurnToWrite 23 = .ok (.iload_n 2, 1) := by decide +kernel
theorem dX4_bestTurnToWrite_24 : decode cX4_bestTurnToWrite 24 = .ok (.if_icmp .ne 14, 3) := by decide +kernel
theorem dX4_bestTurnToWrite_27 : decode cX4_bestTurnToWrite 27 = .ok (.aload_n 0, 1) := by decide +kernel
theorem dX4_bestTurnToWrite_28 : decode cX4_bestTurnToWrite 28 = .ok (.aload_n 1, 1) := by decide +kernel
theorem dX4_bestTurnToWrite_29 : decode cX4_bestTurnToWrite 29 = .ok (.iload 5, 2) := by decide +kernel
theorem dX4_bestTurnToWrite_31 : decode cX4_bestTurnToWrite 31 = .ok (.iload_n 2, 1) := by decide +kernel
theorem dX4_bestTurnToWrite_32 : decode cX4_bestTurnToWrite 32 = .ok (.invokevirtual 66, 3) := by decide +kernel
theorem dX4_bestTurnToWrite_35 : decode cX4_bestTurnToWrite 35 = .ok (.goto 4, 3) := by decide +kernel
theorem dX4_bestTurnToWrite_38 : decode cX4_bestTurnToWrite 38 = .ok (.iconst (-1), 1) := by decide +kernel
theorem dX4_bestTurnToWrite_39 : decode cX4_bestTurnToWrite 39 = .ok (.istore 6, 2) := by decide +kernel
theorem dX4_bestTurnToWrite_41 : decode cX4_bestTurnToWrite 41 = .ok (.iload 6, 2) := by decide +kernel
theorem dX4_bestTurnToWrite_43 : decode cX4_bestTurnToWrite 43 = .ok (.iload 4, 2) := by decide +kernel
theorem dX4_bestTurnToWrite_45 : decode cX4_bestTurnToWrite 45 = .ok (.if_icmp .le 10, 3) := by decide +kernel
theorem dX4_bestTurnToWrite_48 : decode cX4_bestTurnToWrite 48 = .ok (.iload 6, 2) := by decide +kernel
theorem dX4_bestTurnToWrite_50 : decode cX4_bestTurnToWrite 50 = .ok (.istore 4, 2) := by decide +kernel
theorem dX4_bestTurnToWrite_52 : decode cX4_bestTurnToWrite 52 = .ok (.iload 5, 2) := by decide +kernel
theorem dX4_bestTurnToWrite_54 : decode cX4_bestTurnToWrite 54 = .ok (.istore_n 3, 1) := by decide +kernel
theorem dX4_bestTurnToWrite_55 : decode cX4_bestTurnToWrite 55 = .ok (.iinc 5 1, 3) := by decide +kernel
theorem dX4_bestTurnToWrite_58 : decode cX4_bestTurnToWrite 58 = .ok (.goto (-49), 3) := by decide +kernel
theorem dX4_bestTurnToWrite_61 : decode cX4_bestTurnToWrite 61 = .ok (.iload_n 3, 1) := by decide +kernel
theorem dX4_bestTurnToWrite_62 : decode cX4_bestTurnToWrite 62 = .ok (.ireturn, 1) := by decide +kernel
theorem dX5_init_0 : decode cX5_init 0 = .ok (.aload_n 0, 1) := by decide +kernel
theorem dX5_init_1 : decode cX5_init 1 = .ok (.invokespecial 3, 3) := by decide +kernel
theorem dX5_init_4 : decode cX5_init 4 = .ok (.aload_n 0, 1) := by decide +kernel
theorem dX5_init_5 : decode cX5_init 5 = .ok (.bipush 12, 2) := by decide +kernel
theorem dX5_init_7 : decode cX5_init 7 = .ok (.newarray .int, 2) := by decide +kernel
theorem dX5_init_9 : decode cX5_init 9 = .ok (.putfield 9, 3) := by decide +kernel
theorem dX5_init_12 : decode cX5_init 12 = .ok (.aload_n 0, 1) := by decide +kernel
theorem dX5_init_13 : decode cX5_init 13 = .ok (.iconst 0, 1) := by decide +kernel
theorem dX5_init_14 : decode cX5_init 14 = .ok (.putfield 15, 3) := by decide +kernel
theorem dX5_init_17 : decode cX5_init 17 = .ok (.aload_n 0, 1) := by decide +kernel
theorem dX5_init_18 : decode cX5_init 18 = .ok (.iconst (-1), 1) := by decide +kernel
theorem dX5_init_19 : decode cX5_init 19 = .ok (.putfield 19, 3) := by decide +kernel
theorem dX5_init_22 : decode cX5_init 22 = .ok (.aload_n 0, 1) := by decide +kernel
theorem dX5_init_23 : decode cX5_init 23 = .ok (.aload_n 1, 1) := by decide +kernel
theorem dX5_init_24 : decode cX5_init 24 = .ok (.putfield 22, 3) := by decide +kernel
theorem dX5_init_27 : decode cX5_init 27 = .ok (.return_, 1) := by decide +kernel
theorem dX5_readRota_0 : decode cX5_readRota 0 = .ok (.aload_n 0, 1) := by decide +kernel
theorem dX5_readRota_1 : decode cX5_readRota 1 = .ok (.getfield 22, 3) := by decide +kernel
theorem dX5_readRota_4 : decode cX5_readRota 4 = .ok (.iload_n 1, 1) := by decide +kernel
theorem dX5_readRota_5 : decode cX5_readRota 5 = .ok (.invokevirtual 26, 3) := by decide +kernel
theorem dX5_readRota_8 : decode cX5_readRota 8 = .ok (.aload_n 0, 1) := by decide +kernel
theorem dX5_readRota_9 : decode cX5_readRota 9 = .ok (.iconst 0, 1) := by decide +kernel
theorem dX5_readRota_10 : decode cX5_readRota 10 = .ok (.putfield 15, 3) := by decide +kernel
theorem dX5_readRota_13 : decode cX5_readRota 13 = .ok (.aload_n 0, 1) := by decide +kernel
theorem dX5_readRota_14 : decode cX5_readRota 14 = .ok (.iconst (-1), 1) := by decide +kernel
theorem dX5_readRota_15 : decode cX5_readRota 15 = .ok (.putfield 19, 3) := by decide +kernel
theorem dX5_readRota_18 : decode cX5_readRota 18 = .ok (.aload_n 0, 1) := by decide +kernel
theorem dX5_readRota_19 : decode cX5_readRota 19 = .ok (.aload_n 2, 1) := by decide +kernel
theorem dX5_readRota_20 : decode cX5_readRota 20 = .ok (.iconst 0, 1) := by decide +kernel
theorem dX5_readRota_21 : decode cX5_readRota 21 = .ok (.invokevirtual 32, 3) := by decide +kernel
theorem dX5_readRota_24 : decode cX5_readRota 24 = .ok (.aload_n 0, 1) := by decide +kernel
theorem dX5_readRota_25 : decode cX5_readRota 25 = .ok (.getfield 22, 3) := by decide +kernel
theorem dX5_readRota_28 : decode cX5_readRota 28 = .ok (.invokevirtual 36, 3) := by decide +kernel
theorem dX5_readRota_31 : decode cX5_readRota 31 = .ok (.ifCond .eq 22, 3) := by decide +kernel
theorem dX5_readRota_34 : decode cX5_readRota 34 = .ok (.aload_n 0, 1) := by decide +kernel
theorem dX5_readRota_35 : decode cX5_readRota 35 = .ok (.getfield 22, 3) := by decide +kernel
theorem dX5_readRota_38 : decode cX5_readRota 38 = .ok (.getfield 40, 3) := by decide +kernel
theorem dX5_readRota_41 : decode cX5_readRota 41 = .ok (.iconst (-1), 1) := by decide +kernel
theorem dX5_readRota_42 : decode cX5_readRota 42 = .ok (.if_icmp .eq 11, 3) := by decide +kernel
theorem dX5_readRota_45 : decode cX5_readRota 45 = .ok (.aload_n 0, 1) := by decide +kernel
theorem dX5_readRota_46 : decode cX5_readRota 46 = .ok (.getfield 22, 3) := by decide +kernel
theorem dX5_readRota_49 : decode cX5_readRota 49 = .ok (.iconst 1, 1) := by decide +kernel
theorem dX5_readRota_50 : decode cX5_readRota 50 = .ok (.invokevirtual 43, 3) := by decide +kernel
theorem dX5_readRota_53 : decode cX5_readRota 53 = .ok (.aload_n 0, 1) := by decide +kernel
theorem dX5_readRota_54 : decode cX5_readRota 54 = .ok (.getfield 19, 3) := by decide +kernel
theorem dX5_readRota_57 : decode cX5_readRota 57 = .ok (.iconst (-1), 1) := by decide +kernel
theorem dX5_readRota_58 : decode cX5_readRota 58 = .ok (.if_icmp .eq 16, 3) := by decide +kernel
theorem dX5_readRota_61 : decode cX5_readRota 61 = .ok (.aload_n 0, 1) := by decide +kernel
theorem dX5_readRota_62 : decode cX5_readRota 62 = .ok (.getfield 22, 3) := by decide +kernel
theorem dX5_readRota_65 : decode cX5_readRota 65 = .ok (.bipush 7, 2) := by decide +kernel
theorem dX5_readRota_67 : decode cX5_readRota 67 = .ok (.aload_n 0, 1) := by decide +kernel
theorem dX5_readRota_68 : decode cX5_readRota 68 = .ok (.getfield 19, 3) := by decide +kernel
theorem dX5_readRota_71 : decode cX5_readRota 71 = .ok (.invokevirtual 46, 3) := by decide +kernel
theorem dX5_readRota_74 : decode cX5_readRota 74 = .ok (.aload_n 0, 1) := by decide +kernel
theorem dX5_readRota_75 : decode cX5_readRota 75 = .ok (.getfield 22, 3) := by decide +kernel
theorem dX5_readRota_78 : decode cX5_readRota 78 = .ok (.invokevirtual 36, 3) := by decide +kernel
theorem dX5_readRota_81 : decode cX5_readRota 81 = .ok (.ifCond .ne 11, 3) := by decide +kernel
theorem dX5_readRota_84 : decode cX5_readRota 84 = .ok (.aload_n 0, 1) := by decide +kernel
theorem dX5_readRota_85 : decode cX5_readRota 85 = .ok (.getfield 22, 3) := by decide +kernel
theorem dX5_readRota_88 : decode cX5_readRota 88 = .ok (.getfield 50, 3) := by decide +kernel
theorem dX5_readRota_91 : decode cX5_readRota 91 = .ok (.ireturn, 1) := by decide +kernel
theorem dX5_readRota_92 : decode cX5_readRota 92 = .ok (.iconst 0, 1) := by decide +kernel
theorem dX5_readRota_93 : decode cX5_readRota 93 = .ok (.istore 4, 2) := by decide +kernel
theorem dX5_readRota_95 : decode cX5_readRota 95 = .ok (.iload 4, 2) := by decide +kernel
theorem dX5_readRota_97 : decode cX5_readRota 97 = .ok (.bipush 12, 2) := by decide +kernel
theorem dX5_readRota_99 : decode cX5_readRota 99 = .ok (.if_icmp .ge 35, 3) := by decide +kernel
theorem dX5_readRota_102 : decode cX5_readRota 102 = .ok (.aload_n 3, 1) := by decide +kernel
theorem dX5_readRota_103 : decode cX5_readRota 103 = .ok (.iload 4, 2) := by decide +kernel
theorem dX5_readRota_105 : decode cX5_readRota 105 = .ok (.iload 4, 2) := by decide +kernel
theorem dX5_readRota_107 : decode cX5_readRota 107 = .ok (.aload_n 0, 1) := by decide +kernel
theorem dX5_readRota_108 : decode cX5_readRota 108 = .ok (.getfield 15, 3) := by decide +kernel
theorem dX5_readRota_111 : decode cX5_readRota 111 = .ok (.if_icmp .ge 13, 3) := by decide +kernel
theorem dX5_readRota_114 : decode cX5_readRota 114 = .ok (.aload_n 0, 1) := by decide +kernel
theorem dX5_readRota_115 : decode cX5_readRota 115 = .ok (.getfield 9, 3) := by decide +kernel
theorem dX5_readRota_118 : decode cX5_readRota 118 = .ok (.iload 4, 2) := by decide +kernel
theorem dX5_readRota_120 : decode cX5_readRota 120 = .ok (.iaload, 1) := by decide +kernel
theorem dX5_readRota_121 : decode cX5_readRota 121 = .ok (.goto 4, 3) := by decide +kernel
theorem dX5_readRota_124 : decode cX5_readRota 124 = .ok (.iconst (-1), 1) := by decide +kernel
theorem dX5_readRota_125 : decode cX5_readRota 125 = .ok (.invokevirtual 53, 3) := by decide +kernel
theorem dX5_readRota_128 : decode cX5_readRota 128 = .ok (.iinc 4 1, 3) := by decide +kernel
theorem dX5_readRota_131 : decode cX5_readRota 131 = .ok (.goto (-36), 3) := by decide +kernel
theorem dX5_readRota_134 : decode cX5_readRota 134 = .ok (.aload_n 0, 1) := by decide +kernel
theorem dX5_readRota_135 : decode cX5_readRota 135 = .ok (.getfield 15, 3) := by decide +kernel
theorem dX5_readRota_138 : decode cX5_readRota 138 = .ok (.ireturn, 1) := by decide +kernel
theorem dX5_readTurns_0 : decode cX5_readTurns 0 = .ok (.iconst 1, 1) := by decide +kernel
theorem dX5_readTurns_1 : decode cX5_readTurns 1 = .ok (.istore_n 3, 1) := by decide +kernel
theorem dX5_readTurns_2 : decode cX5_readTurns 2 = .ok (.iconst 0, 1) := by decide +kernel
theorem dX5_readTurns_3 : decode cX5_readTurns 3 = .ok (.istore 4, 2) := by decide +kernel
theorem dX5_readTurns_5 : decode cX5_readTurns 5 = .ok (.iload 4, 2) := by decide +kernel
theorem dX5_readTurns_7 : decode cX5_readTurns 7 = .ok (.bipush 60, 2) := by decide +kernel
theorem dX5_readTurns_9 : decode cX5_readTurns 9 = .ok (.if_icmp .ge 58, 3) := by decide +kernel
theorem dX5_readTurns_12 : decode cX5_readTurns 12 = .ok (.iload_n 3, 1) := by decide +kernel
theorem dX5_readTurns_13 : decode cX5_readTurns 13 = .ok (.ifCond .eq 54, 3) := by decide +kernel
theorem dX5_readTurns_16 : decode cX5_readTurns 16 = .ok (.aload_n 0, 1) := by decide +kernel
theorem dX5_readTurns_17 : decode cX5_readTurns 17 = .ok (.aload_n 1, 1) := by decide +kernel
theorem dX5_readTurns_18 : decode cX5_readTurns 18 = .ok (.iload_n 2, 1) := by decide +kernel
theorem dX5_readTurns_19 : decode cX5_readTurns 19 = .ok (.invokevirtual 58, 3) := by decide +kernel
theorem dX5_readTurns_22 : decode cX5_readTurns 22 = .ok (.aload_n 0, 1) := by decide +kernel
theorem dX5_readTurns_23 : decode cX5_readTurns 23 = .ok (.getfield 22, 3) := by decide +kernel
theorem dX5_readTurns_26 : decode cX5_readTurns 26 = .ok (.invokevirtual 36, 3) := by decide +kernel
theorem dX5_readTurns_29 : decode cX5_readTurns 29 = .ok (.ifCond .eq 30, 3) := by decide +kernel
theorem dX5_readTurns_32 : decode cX5_readTurns 32 = .ok (.aload_n 0, 1) := by decide +kernel
theorem dX5_readTurns_33 : decode cX5_readTurns 33 = .ok (.getfield 22, 3) := by decide +kernel
theorem dX5_readTurns_36 : decode cX5_readTurns 36 = .ok (.getfield 40, 3) := by decide +kernel
theorem dX5_readTurns_39 : decode cX5_readTurns 39 = .ok (.iconst (-1), 1) := by decide +kernel
theorem dX5_readTurns_40 : decode cX5_readTurns 40 = .ok (.if_icmp .eq 19, 3) := by decide +kernel
theorem dX5_readTurns_43 : decode cX5_readTurns 43 = .ok (.aload_n 0, 1) := by decide +kernel
theorem dX5_readTurns_44 : decode cX5_readTurns 44 = .ok (.getfield 22, 3) := by decide +kernel
theorem dX5_readTurns_47 : decode cX5_readTurns 47 = .ok (.getfield 40, 3) := by decide +kernel
theorem dX5_readTurns_50 : decode cX5_readTurns 50 = .ok (.bipush 41, 2) := by decide +kernel
theorem dX5_readTurns_52 : decode cX5_readTurns 52 = .ok (.if_icmp .eq 7, 3) := by decide +kernel
theorem dX5_readTurns_55 : decode cX5_readTurns 55 = .ok (.iconst 1, 1) := by decide +kernel
theorem dX5_readTurns_56 : decode cX5_readTurns 56 = .ok (.goto 4, 3) := by decide +kernel
theorem dX5_readTurns_59 : decode cX5_readTurns 59 = .ok (.iconst 0, 1) := by decide +kernel
theorem dX5_readTurns_60 : decode cX5_readTurns 60 = .ok (.istore_n 3, 1) := by decide +kernel
theorem dX5_readTurns_61 : decode cX5_readTurns 61 = .ok (.iinc 4 1, 3) := by decide +kernel
theorem dX5_readTurns_64 : decode cX5_readTurns 64 = .ok (.goto (-59), 3) := by decide +kernel
theorem dX5_readTurns_67 : decode cX5_readTurns 67 = .ok (.return_, 1) := by decide +kernel
theorem dX5_readOne_0 : decode cX5_readOne 0 = .ok (.aload_n 0, 1) := by decide +kernel
theorem dX5_readOne_1 : decode cX5_readOne 1 = .ok (.getfield 22, 3) := by decide +kernel
theorem dX5_readOne_4 : decode cX5_readOne 4 = .ok (.getfield 61, 3) := by decide +kernel
theorem dX5_readOne_7 : decode cX5_readOne 7 = .ok (.istore_n 3, 1) := by decide +kernel
theorem dX5_readOne_8 : decode cX5_readOne 8 = .ok (.iconst 1, 1) := by decide +kernel
theorem dX5_readOne_9 : decode cX5_readOne 9 = .ok (.istore 4, 2) := by decide +kernel
theorem dX5_readOne_11 : decode cX5_readOne 11 = .ok (.aload_n 0, 1) := by decide +kernel
theorem dX5_readOne_12 : decode cX5_readOne 12 = .ok (.getfield 22, 3) := by decide +kernel
theorem dX5_readOne_15 : decode cX5_readOne 15 = .ok (.getfield 40, 3) := by decide +kernel
theorem dX5_readOne_18 : decode cX5_readOne 18 = .ok (.bipush 50, 2) := by decide +kernel
theorem dX5_readOne_20 : decode cX5_readOne 20 = .ok (.if_icmp .lt 34, 3) := by decide +kernel
theorem dX5_readOne_23 : decode cX5_readOne 23 = .ok (.aload_n 0, 1) := by decide +kernel
theorem dX5_readOne_24 : decode cX5_readOne 24 = .ok (.getfield 22, 3) := by decide +kernel
theorem dX5_readOne_27 : decode cX5_readOne 27 = .ok (.getfield 40, 3) := by decide +kernel
theorem dX5_readOne_30 : decode cX5_readOne 30 = .ok (.bipush 57, 2) := by decide +kernel
theorem dX5_readOne_32 : decode cX5_readOne 32 = .ok (.if_icmp .gt 22, 3) := by decide +kernel
theorem dX5_readOne_35 : decode cX5_readOne 35 = .ok (.aload_n 0, 1) := by decide +kernel
theorem dX5_readOne_36 : decode cX5_readOne 36 = .ok (.getfield 22, 3) := by decide +kernel
theorem dX5_readOne_39 : decode cX5_readOne 39 = .ok (.getfield 40, 3) := by decide +kernel
theorem dX5_readOne_42 : decode cX5_readOne 42 = .ok (.bipush 48, 2) := by decide +kernel
theorem dX5_readOne_44 : decode cX5_readOne 44 = .ok (.isub, 1) := by decide +kernel
theorem dX5_readOne_45 : decode cX5_readOne 45 = .ok (.istore 4, 2) := by decide +kernel
theorem dX5_readOne_47 : decode cX5_readOne 47 = .ok (.aload_n 0, 1) := by decide +kernel
theorem dX5_readOne_48 : decode cX5_readOne 48 = .ok (.getfield 22, 3) := by decide +kernel
theorem dX5_readOne_51 : decode cX5_readOne 51 = .ok (.invokevirtual 64, 3) := by decide +kernel
theorem dX5_readOne_54 : decode cX5_readOne 54 = .ok (.aload_n 0, 1) := by decide +kernel
theorem dX5_readOne_55 : decode cX5_readOne 55 = .ok (.getfield 15, 3) := by decide +kernel
theorem dX5_readOne_58 : decode cX5_readOne 58 = .ok (.istore 5, 2) := by decide +kernel
theorem dX5_readOne_60 : decode cX5_readOne 60 = .ok (.aload_n 0, 1) := by decide +kernel
theorem dX5_readOne_61 : decode cX5_readOne 61 = .ok (.getfield 22, 3) := by decide +kernel
theorem dX5_readOne_64 : decode cX5_readOne 64 = .ok (.getfield 40, 3) := by decide +kernel
theorem dX5_readOne_67 : decode cX5_readOne 67 = .ok (.bipush 40, 2) := by decide +kernel
theorem dX5_readOne_69 : decode cX5_readOne 69 = .ok (.if_icmp .ne 12, 3) := by decide +kernel
theorem dX5_readOne_72 : decode cX5_readOne 72 = .ok (.aload_n 0, 1) := by decide +kernel
theorem dX5_readOne_73 : decode cX5_readOne 73 = .ok (.aload_n 1, 1) := by decide +kernel
theorem dX5_readOne_74 : decode cX5_readOne 74 = .ok (.iload_n 2, 1) := by decide +kernel
theorem dX5_readOne_75 : decode cX5_readOne 75 = .ok (.invokevirtual 67, 3) := by decide +kernel
theorem dX5_readOne_78 : decode cX5_readOne 78 = .ok (.goto 9, 3) := by decide +kernel
theorem dX5_readOne_81 : decode cX5_readOne 81 = .ok (.aload_n 0, 1) := by decide +kernel
theorem dX5_readOne_82 : decode cX5_readOne 82 = .ok (.aload_n 1, 1) := by decide +kernel
theorem dX5_readOne_83 : decode cX5_readOne 83 = .ok (.iload_n 3, 1) := by decide +kernel
theorem dX5_readOne_84 : decode cX5_readOne 84 = .ok (.invokevirtual 70, 3) := by decide +kernel
theorem dX5_readOne_87 : decode cX5_readOne 87 = .ok (.aload_n 0, 1) := by decide +kernel
theorem dX5_readOne_88 : decode cX5_readOne 88 = .ok (.getfield 22, 3) := by decide +kernel
theorem dX5_readOne_91 : decode cX5_readOne 91 = .ok (.invokevirtual 36, 3) := by decide +kernel
theorem dX5_readOne_94 : decode cX5_readOne 94 = .ok (.ifCond .eq 12, 3) := by decide +kernel
theorem dX5_readOne_97 : decode cX5_readOne 97 = .ok (.aload_n 0, 1) := by decide +kernel
theorem dX5_readOne_98 : decode cX5_readOne 98 = .ok (.iload 5, 2) := by decide +kernel
theorem dX5_readOne_100 : decode cX5_readOne 100 = .ok (.iload 4, 2) := by decide +kernel
theorem dX5_readOne_102 : decode cX5_readOne 102 = .ok (.iload_n 3, 1) := by decide +kernel
theorem dX5_readOne_103 : decode cX5_readOne 103 = .ok (.invokevirtual 73, 3) := by decide +kernel
theorem dX5_readOne_106 : decode cX5_readOne 106 = .ok (.return_, 1) := by decide +kernel
theorem dX5_readRound_0 : decode cX5_readRound 0 = .ok (.iload_n 2, 1) := by decide +kernel
theorem dX5_readRound_1 : decode cX5_readRound 1 = .ok (.iconst 2, 1) := by decide +kernel
theorem dX5_readRound_2 : decode cX5_readRound 2 = .ok (.if_icmp .lt 12, 3) := by decide +kernel
theorem dX5_readRound_5 : decode cX5_readRound 5 = .ok (.aload_n 0, 1) := by decide +kernel
theorem dX5_readRound_6 : decode cX5_readRound 6 = .ok (.getfield 22, 3) := by decide +kernel
theorem dX5_readRound_9 : decode cX5_readRound 9 = .ok (.iconst 5, 1) := by decide +kernel
theorem dX5_readRound_10 : decode cX5_readRound 10 = .ok (.invokevirtual 43, 3) := by decide +kernel
theorem dX5_readRound_13 : decode cX5_readRound 13 = .ok (.return_, 1) := by decide +kernel
theorem dX5_readRound_14 : decode cX5_readRound 14 = .ok (.aload_n 0, 1) := by decide +kernel
theorem dX5_readRound_15 : decode cX5_readRound 15 = .ok (.getfield 22, 3) := by decide +kernel
theorem dX5_readRound_18 : decode cX5_readRound 18 = .ok (.invokevirtual 64, 3) := by decide +kernel
theorem dX5_readRound_21 : decode cX5_readRound 21 = .ok (.aload_n 0, 1) := by decide +kernel
theorem dX5_readRound_22 : decode cX5_readRound 22 = .ok (.aload_n 1, 1) := by decide +kernel
theorem dX5_readRound_23 : decode cX5_readRound 23 = .ok (.iload_n 2, 1) := by decide +kernel
theorem dX5_readRound_24 : decode cX5_readRound 24 = .ok (.iconst 1, 1) := by decide +kernel
theorem dX5_readRound_25 : decode cX5_readRound 25 = .ok (.iadd, 1) := by decide +kernel
theorem dX5_readRound_26 : decode cX5_readRound 26 = .ok (.invokevirtual 32, 3) := by decide +kernel
theorem dX5_readRound_29 : decode cX5_readRound 29 = .ok (.aload_n 0, 1) := by decide +kernel
theorem dX5_readRound_30 : decode cX5_readRound 30 = .ok (.getfield 22, 3) := by decide +kernel
theorem dX5_readRound_33 : decode cX5_readRound 33 = .ok (.invokevirtual 36, 3) := by decide +kernel
theorem dX5_readRound_36 : decode cX5_readRound 36 = .ok (.ifCond .eq 12, 3) := by decide +kernel
theorem dX5_readRound_39 : decode cX5_readRound 39 = .ok (.aload_n 0, 1) := by decide +kernel
theorem dX5_readRound_40 : decode cX5_readRound 40 = .ok (.getfield 22, 3) := by decide +kernel
theorem dX5_readRound_43 : decode cX5_readRound 43 = .ok (.bipush 41, 2) := by decide +kernel
theorem dX5_readRound_45 : decode cX5_readRound 45 = .ok (.invokevirtual 77, 3) := by decide +kernel
theorem dX5_readRound_48 : decode cX5_readRound 48 = .ok (.return_, 1) := by decide +kernel
theorem dX5_readHolder_0 : decode cX5_readHolder 0 = .ok (.aload_n 0, 1) := by decide +kernel
theorem dX5_readHolder_1 : decode cX5_readHolder 1 = .ok (.getfield 22, 3) := by decide +kernel
theorem dX5_readHolder_4 : decode cX5_readHolder 4 = .ok (.getfield 40, 3) := by decide +kernel
theorem dX5_readHolder_7 : decode cX5_readHolder 7 = .ok (.istore_n 3, 1) := by decide +kernel
theorem dX5_readHolder_8 : decode cX5_readHolder 8 = .ok (.iload_n 3, 1) := by decide +kernel
theorem dX5_readHolder_9 : decode cX5_readHolder 9 = .ok (.bipush 97, 2) := by decide +kernel
theorem dX5_readHolder_11 : decode cX5_readHolder 11 = .ok (.if_icmp .lt 13, 3) := by decide +kernel
theorem dX5_readHolder_14 : decode cX5_readHolder 14 = .ok (.iload_n 3, 1) := by decide +kernel
theorem dX5_readHolder_15 : decode cX5_readHolder 15 = .ok (.bipush 112, 2) := by decide +kernel
theorem dX5_readHolder_17 : decode cX5_readHolder 17 = .ok (.if_icmp .gt 7, 3) := by decide +kernel
theorem dX5_readHolder_20 : decode cX5_readHolder 20 = .ok (.iconst 1, 1) := by decide +kernel
theorem dX5_readHolder_21 : decode cX5_readHolder 21 = .ok (.goto 4, 3) := by decide +kernel
theorem dX5_readHolder_24 : decode cX5_readHolder 24 = .ok (.iconst 0, 1) := by decide +kernel
theorem dX5_readHolder_25 : decode cX5_readHolder 25 = .ok (.istore 4, 2) := by decide +kernel
theorem dX5_readHolder_27 : decode cX5_readHolder 27 = .ok (.iload 4, 2) := by decide +kernel
theorem dX5_readHolder_29 : decode cX5_readHolder 29 = .ok (.ifCond .ne 20, 3) := by decide +kernel
theorem dX5_readHolder_32 : decode cX5_readHolder 32 = .ok (.iload_n 3, 1) := by decide +kernel
theorem dX5_readHolder_33 : decode cX5_readHolder 33 = .ok (.bipush 45, 2) := by decide +kernel
theorem dX5_readHolder_35 : decode cX5_readHolder 35 = .ok (.if_icmp .eq 14, 3) := by decide +kernel
theorem dX5_readHolder_38 : decode cX5_readHolder 38 = .ok (.aload_n 0, 1) := by decide +kernel
theorem dX5_readHolder_39 : decode cX5_readHolder 39 = .ok (.getfield 22, 3) := by decide +kernel
theorem dX5_readHolder_42 : decode cX5_readHolder 42 = .ok (.iconst 1, 1) := by decide +kernel
theorem dX5_readHolder_43 : decode cX5_readHolder 43 = .ok (.invokevirtual 43, 3) := by decide +kernel
theorem dX5_readHolder_46 : decode cX5_readHolder 46 = .ok (.goto 99, 3) := by decide +kernel
theorem dX5_readHolder_49 : decode cX5_readHolder 49 = .ok (.aload_n 0, 1) := by decide +kernel
theorem dX5_readHolder_50 : decode cX5_readHolder 50 = .ok (.getfield 15, 3) := by decide +kernel
theorem dX5_readHolder_53 : decode cX5_readHolder 53 = .ok (.bipush 12, 2) := by decide +kernel
theorem dX5_readHolder_55 : decode cX5_readHolder 55 = .ok (.if_icmp .lt 16, 3) := by decide +kernel
theorem dX5_readHolder_58 : decode cX5_readHolder 58 = .ok (.aload_n 0, 1) := by decide +kernel
theorem dX5_readHolder_59 : decode cX5_readHolder 59 = .ok (.getfield 22, 3) := by decide +kernel
theorem dX5_readHolder_62 : decode cX5_readHolder 62 = .ok (.bipush 6, 2) := by decide +kernel
theorem dX5_readHolder_64 : decode cX5_readHolder 64 = .ok (.iload_n 2, 1) := by decide +kernel
theorem dX5_readHolder_65 : decode cX5_readHolder 65 = .ok (.invokevirtual 46, 3) := by decide +kernel
theorem dX5_readHolder_68 : decode cX5_readHolder 68 = .ok (.goto 77, 3) := by decide +kernel
theorem dX5_readHolder_71 : decode cX5_readHolder 71 = .ok (.iload 4, 2) := by decide +kernel
theorem dX5_readHolder_73 : decode cX5_readHolder 73 = .ok (.ifCond .eq 33, 3) := by decide +kernel
theorem dX5_readHolder_76 : decode cX5_readHolder 76 = .ok (.aload_n 1, 1) := by decide +kernel
theorem dX5_readHolder_77 : decode cX5_readHolder 77 = .ok (.iload_n 3, 1) := by decide +kernel
theorem dX5_readHolder_78 : decode cX5_readHolder 78 = .ok (.bipush 97, 2) := by decide +kernel
theorem dX5_readHolder_80 : decode cX5_readHolder 80 = .ok (.isub, 1) := by decide +kernel
theorem dX5_readHolder_81 : decode cX5_readHolder 81 = .ok (.invokevirtual 80, 3) := by decide +kernel
theorem dX5_readHolder_84 : decode cX5_readHolder 84 = .ok (.ifCond .ne 22, 3) := by decide +kernel
theorem dX5_readHolder_87 : decode cX5_readHolder 87 = .ok (.aload_n 0, 1) := by decide +kernel
theorem dX5_readHolder_88 : decode cX5_readHolder 88 = .ok (.getfield 19, 3) := by decide +kernel
theorem dX5_readHolder_91 : decode cX5_readHolder 91 = .ok (.iconst (-1), 1) := by decide +kernel
theorem dX5_readHolder_92 : decode cX5_readHolder 92 = .ok (.if_icmp .ne 14, 3) := by decide +kernel
theorem dX5_readHolder_95 : decode cX5_readHolder 95 = .ok (.aload_n 0, 1) := by decide +kernel
theorem dX5_readHolder_96 : decode cX5_readHolder 96 = .ok (.aload_n 0, 1) := by decide +kernel
theorem dX5_readHolder_97 : decode cX5_readHolder 97 = .ok (.getfield 22, 3) := by decide +kernel
theorem dX5_readHolder_100 : decode cX5_readHolder 100 = .ok (.getfield 61, 3) := by decide +kernel
theorem dX5_readHolder_103 : decode cX5_readHolder 103 = .ok (.putfield 19, 3) := by decide +kernel
theorem dX5_readHolder_106 : decode cX5_readHolder 106 = .ok (.aload_n 0, 1) := by decide +kernel
theorem dX5_readHolder_107 : decode cX5_readHolder 107 = .ok (.getfield 9, 3) := by decide +kernel
theorem dX5_readHolder_110 : decode cX5_readHolder 110 = .ok (.aload_n 0, 1) := by decide +kernel
theorem dX5_readHolder_111 : decode cX5_readHolder 111 = .ok (.getfield 15, 3) := by decide +kernel
theorem dX5_readHolder_114 : decode cX5_readHolder 114 = .ok (.iload 4, 2) := by decide +kernel
theorem dX5_readHolder_116 : decode cX5_readHolder 116 = .ok (.ifCond .eq 10, 3) := by decide +kernel
theorem dX5_readHolder_119 : decode cX5_readHolder 119 = .ok (.iload_n 3, 1) := by decide +kernel
theorem dX5_readHolder_120 : decode cX5_readHolder 120 = .ok (.bipush 97, 2) := by decide +kernel
theorem dX5_readHolder_122 : decode cX5_readHolder 122 = .ok (.isub, 1) := by decide +kernel
theorem dX5_readHolder_123 : decode cX5_readHolder 123 = .ok (.goto 4, 3) := by decide +kernel
theorem dX5_readHolder_126 : decode cX5_readHolder 126 = .ok (.iconst (-1), 1) := by decide +kernel
theorem dX5_readHolder_127 : decode cX5_readHolder 127 = .ok (.iastore, 1) := by decide +kernel
theorem dX5_readHolder_128 : decode cX5_readHolder 128 = .ok (.aload_n 0, 1) := by decide +kernel
theorem dX5_readHolder_129 : decode cX5_readHolder 129 = .ok (.dup, 1) := by decide +kernel
theorem dX5_readHolder_130 : decode cX5_readHolder 130 = .ok (.getfield 15, 3) := by decide +kernel
theorem dX5_readHolder_133 : decode cX5_readHolder 133 = .ok (.iconst 1, 1) := by decide +kernel
theorem dX5_readHolder_134 : decode cX5_readHolder 134 = .ok (.iadd, 1) := by decide +kernel
theorem dX5_readHolder_135 : decode cX5_readHolder 135 = .ok (.putfield 15, 3) := by decide +kernel
theorem dX5_readHolder_138 : decode cX5_readHolder 138 = .ok (.aload_n 0, 1) := by decide +kernel
theorem dX5_readHolder_139 : decode cX5_readHolder 139 = .ok (.getfield 22, 3) := by decide +kernel
theorem dX5_readHolder_142 : decode cX5_readHolder 142 = .ok (.invokevirtual 64, 3) := by decide +kernel
theorem dX5_readHolder_145 : decode cX5_readHolder 145 = .ok (.return_, 1) := by decide +kernel
theorem dX5_repeat_0 : decode cX5_repeat 0 = .ok (.aload_n 0, 1) := by decide +kernel
theorem dX5_repeat_1 : decode cX5_repeat 1 = .ok (.getfield 15, 3) := by decide +kernel
theorem dX5_repeat_4 : decode cX5_repeat 4 = .ok (.iload_n 1, 1) := by decide +kernel
theorem dX5_repeat_5 : decode cX5_repeat 5 = .ok (.isub, 1) := by decide +kernel
theorem dX5_repeat_6 : decode cX5_repeat 6 = .ok (.istore 4, 2) := by decide +kernel
theorem dX5_repeat_8 : decode cX5_repeat 8 = .ok (.iload_n 1, 1) := by decide +kernel
theorem dX5_repeat_9 : decode cX5_repeat 9 = .ok (.iload 4, 2) := by decide +kernel
theorem dX5_repeat_11 : decode cX5_repeat 11 = .ok (.iload_n 2, 1) := by decide +kernel
theorem dX5_repeat_12 : decode cX5_repeat 12 = .ok (.imul, 1) := by decide +kernel
theorem dX5_repeat_13 : decode cX5_repeat 13 = .ok (.iadd, 1) := by decide +kernel
theorem dX5_repeat_14 : decode cX5_repeat 14 = .ok (.bipush 12, 2) := by decide +kernel
theorem dX5_repeat_16 : decode cX5_repeat 16 = .ok (.if_icmp .le 14, 3) := by decide +kernel
theorem dX5_repeat_19 : decode cX5_repeat 19 = .ok (.aload_n 0, 1) := by decide +kernel
theorem dX5_repeat_20 : decode cX5_repeat 20 = .ok (.getfield 22, 3) := by decide +kernel
theorem dX5_repeat_23 : decode cX5_repeat 23 = .ok (.bipush 6, 2) := by decide +kernel
theorem dX5_repeat_25 : decode cX5_repeat 25 = .ok (.iload_n 3, 1) := by decide +kernel
theorem dX5_repeat_26 : decode cX5_repeat 26 = .ok (.invokevirtual 46, 3) := by decide +kernel
theorem dX5_repeat_29 : decode cX5_repeat 29 = .ok (.return_, 1) := by decide +kernel
theorem dX5_repeat_30 : decode cX5_repeat 30 = .ok (.aload_n 0, 1) := by decide +kernel
theorem dX5_repeat_31 : decode cX5_repeat 31 = .ok (.getfield 15, 3) := by decide +kernel
theorem dX5_repeat_34 : decode cX5_repeat 34 = .ok (.istore 5, 2) := by decide +kernel
theorem dX5_repeat_36 : decode cX5_repeat 36 = .ok (.iload 5, 2) := by decide +kernel
theorem dX5_repeat_38 : decode cX5_repeat 38 = .ok (.iload_n 1, 1) := by decide +kernel
theorem dX5_repeat_39 : decode cX5_repeat 39 = .ok (.iload 4, 2) := by decide +kernel
theorem dX5_repeat_41 : decode cX5_repeat 41 = .ok (.iload_n 2, 1) := by decide +kernel
theorem dX5_repeat_42 : decode cX5_repeat 42 = .ok (.imul, 1) := by decide +kernel
theorem dX5_repeat_43 : decode cX5_repeat 43 = .ok (.iadd, 1) := by decide +kernel
theorem dX5_repeat_44 : decode cX5_repeat 44 = .ok (.if_icmp .ge 26, 3) := by decide +kernel
theorem dX5_repeat_47 : decode cX5_repeat 47 = .ok (.aload_n 0, 1) := by decide +kernel
theorem dX5_repeat_48 : decode cX5_repeat 48 = .ok (.getfield 9, 3) := by decide +kernel
theorem dX5_repeat_51 : decode cX5_repeat 51 = .ok (.iload 5, 2) := by decide +kernel
theorem dX5_repeat_53 : decode cX5_repeat 53 = .ok (.aload_n 0, 1) := by decide +kernel
theorem dX5_repeat_54 : decode cX5_repeat 54 = .ok (.getfield 9, 3) := by decide +kernel
theorem dX5_repeat_57 : decode cX5_repeat 57 = .ok (.iload 5, 2) := by decide +kernel
theorem dX5_repeat_59 : decode cX5_repeat 59 = .ok (.iload 4, 2) := by decide +kernel
theorem dX5_repeat_61 : decode cX5_repeat 61 = .ok (.isub, 1) := by decide +kernel
theorem dX5_repeat_62 : decode cX5_repeat 62 = .ok (.iaload, 1) := by decide +kernel
theorem dX5_repeat_63 : decode cX5_repeat 63 = .ok (.iastore, 1) := by decide +kernel
theorem dX5_repeat_64 : decode cX5_repeat 64 = .ok (.iinc 5 1, 3) := by decide +kernel
theorem dX5_repeat_67 : decode cX5_repeat 67 = .ok (.goto (-31), 3) := by decide +kernel
theorem dX5_repeat_70 : decode cX5_repeat 70 = .ok (.aload_n 0, 1) := by decide +kernel
theorem dX5_repeat_71 : decode cX5_repeat 71 = .ok (.iload_n 1, 1) := by decide +kernel
theorem dX5_repeat_72 : decode cX5_repeat 72 = .ok (.iload 4, 2) := by decide +kernel
theorem dX5_repeat_74 : decode cX5_repeat 74 = .ok (.iload_n 2, 1) := by decide +kernel
theorem dX5_repeat_75 : decode cX5_repeat 75 = .ok (.imul, 1) := by decide +kernel
theorem dX5_repeat_76 : decode cX5_repeat 76 = .ok (.iadd, 1) := by decide +kernel
theorem dX5_repeat_77 : decode cX5_repeat 77 = .ok (.putfield 15, 3) := by decide +kernel
theorem dX5_repeat_80 : decode cX5_repeat 80 = .ok (.return_, 1) := by decide +kernel
theorem dX6_init_0 : decode cX6_init 0 = .ok (.aload_n 0, 1) := by decide +kernel
theorem dX6_init_1 : decode cX6_init 1 = .ok (.invokespecial 3, 3) := by decide +kernel
theorem dX6_init_4 : decode cX6_init 4 = .ok (.aload_n 0, 1) := by decide +kernel
theorem dX6_init_5 : decode cX6_init 5 = .ok (.bipush 16, 2) := by decide +kernel
theorem dX6_init_7 : decode cX6_init 7 = .ok (.newarray .int, 2) := by decide +kernel
theorem dX6_init_9 : decode cX6_init 9 = .ok (.putfield 9, 3) := by decide +kernel
theorem dX6_init_12 : decode cX6_init 12 = .ok (.aload_n 0, 1) := by decide +kernel
theorem dX6_init_13 : decode cX6_init 13 = .ok (.iconst (-1), 1) := by decide +kernel
theorem dX6_init_14 : decode cX6_init 14 = .ok (.putfield 15, 3) := by decide +kernel
theorem dX6_init_17 : decode cX6_init 17 = .ok (.aload_n 0, 1) := by decide +kernel
theorem dX6_init_18 : decode cX6_init 18 = .ok (.iconst 0, 1) := by decide +kernel
theorem dX6_init_19 : decode cX6_init 19 = .ok (.putfield 19, 3) := by decide +kernel
theorem dX6_init_22 : decode cX6_init 22 = .ok (.aload_n 0, 1) := by decide +kernel
theorem dX6_init_23 : decode cX6_init 23 = .ok (.iconst 0, 1) := by decide +kernel
theorem dX6_init_24 : decode cX6_init 24 = .ok (.putfield 22, 3) := by decide +kernel
theorem dX6_init_27 : decode cX6_init 27 = .ok (.aload_n 0, 1) := by decide +kernel
theorem dX6_init_28 : decode cX6_init 28 = .ok (.iconst 0, 1) := by decide +kernel
theorem dX6_init_29 : decode cX6_init 29 = .ok (.putfield 25, 3) := by decide +kernel
theorem dX6_init_32 : decode cX6_init 32 = .ok (.aload_n 0, 1) := by decide +kernel
theorem dX6_init_33 : decode cX6_init 33 = .ok (.iconst 1, 1) := by decide +kernel
theorem dX6_init_34 : decode cX6_init 34 = .ok (.putfield 28, 3) := by decide +kernel
theorem dX6_init_37 : decode cX6_init 37 = .ok (.return_, 1) := by decide +kernel
theorem dX6_startAnew_0 : decode cX6_startAnew 0 = .ok (.aload_n 0, 1) := by decide +kernel
theorem dX6_startAnew_1 : decode cX6_startAnew 1 = .ok (.iconst (-1), 1) := by decide +kernel
theorem dX6_startAnew_2 : decode cX6_startAnew 2 = .ok (.putfield 15, 3) := by decide +kernel
theorem dX6_startAnew_5 : decode cX6_startAnew 5 = .ok (.aload_n 0, 1) := by decide +kernel
theorem dX6_startAnew_6 : decode cX6_startAnew 6 = .ok (.iconst 0, 1) := by decide +kernel
theorem dX6_startAnew_7 : decode cX6_startAnew 7 = .ok (.putfield 19, 3) := by decide +kernel
theorem dX6_startAnew_10 : decode cX6_startAnew 10 = .ok (.aload_n 0, 1) := by decide +kernel
theorem dX6_startAnew_11 : decode cX6_startAnew 11 = .ok (.iconst 0, 1) := by decide +kernel
theorem dX6_startAnew_12 : decode cX6_startAnew 12 = .ok (.putfield 22, 3) := by decide +kernel
theorem dX6_startAnew_15 : decode cX6_startAnew 15 = .ok (.iconst 0, 1) := by decide +kernel
theorem dX6_startAnew_16 : decode cX6_startAnew 16 = .ok (.istore_n 1, 1) := by decide +kernel
theorem dX6_startAnew_17 : decode cX6_startAnew 17 = .ok (.iload_n 1, 1) := by decide +kernel
theorem dX6_startAnew_18 : decode cX6_startAnew 18 = .ok (.bipush 16, 2) := by decide +kernel
theorem dX6_startAnew_20 : decode cX6_startAnew 20 = .ok (.if_icmp .ge 16, 3) := by decide +kernel
theorem dX6_startAnew_23 : decode cX6_startAnew 23 = .ok (.aload_n 0, 1) := by decide +kernel
theorem dX6_startAnew_24 : decode cX6_startAnew 24 = .ok (.getfield 9, 3) := by decide +kernel
theorem dX6_startAnew_27 : decode cX6_startAnew 27 = .ok (.iload_n 1, 1) := by decide +kernel
theorem dX6_startAnew_28 : decode cX6_startAnew 28 = .ok (.iconst 0, 1) := by decide +kernel
theorem dX6_startAnew_29 : decode cX6_startAnew 29 = .ok (.iastore, 1) := by decide +kernel
theorem dX6_startAnew_30 : decode cX6_startAnew 30 = .ok (.iinc 1 1, 3) := by decide +kernel
theorem dX6_startAnew_33 : decode cX6_startAnew 33 = .ok (.goto (-16), 3) := by decide +kernel
theorem dX6_startAnew_36 : decode cX6_startAnew 36 = .ok (.return_, 1) := by decide +kernel
theorem dX6_copyFrom_0 : decode cX6_copyFrom 0 = .ok (.aload_n 0, 1) := by decide +kernel
theorem dX6_copyFrom_1 : decode cX6_copyFrom 1 = .ok (.aload_n 1, 1) := by decide +kernel
theorem dX6_copyFrom_2 : decode cX6_copyFrom 2 = .ok (.getfield 15, 3) := by decide +kernel
theorem dX6_copyFrom_5 : decode cX6_copyFrom 5 = .ok (.putfield 15, 3) := by decide +kernel
theorem dX6_copyFrom_8 : decode cX6_copyFrom 8 = .ok (.aload_n 0, 1) := by decide +kernel
theorem dX6_copyFrom_9 : decode cX6_copyFrom 9 = .ok (.aload_n 1, 1) := by decide +kernel
theorem dX6_copyFrom_10 : decode cX6_copyFrom 10 = .ok (.getfield 19, 3) := by decide +kernel
theorem dX6_copyFrom_13 : decode cX6_copyFrom 13 = .ok (.putfield 19, 3) := by decide +kernel
theorem dX6_copyFrom_16 : decode cX6_copyFrom 16 = .ok (.aload_n 0, 1) := by decide +kernel
theorem dX6_copyFrom_17 : decode cX6_copyFrom 17 = .ok (.aload_n 1, 1) := by decide +kernel
theorem dX6_copyFrom_18 : decode cX6_copyFrom 18 = .ok (.getfield 22, 3) := by decide +kernel
theorem dX6_copyFrom_21 : decode cX6_copyFrom 21 = .ok (.putfield 22, 3) := by decide +kernel
theorem dX6_copyFrom_24 : decode cX6_copyFrom 24 = .ok (.aload_n 0, 1) := by decide +kernel
theorem dX6_copyFrom_25 : decode cX6_copyFrom 25 = .ok (.aload_n 1, 1) := by decide +kernel
theorem dX6_copyFrom_26 : decode cX6_copyFrom 26 = .ok (.getfield 25, 3) := by decide +kernel
theorem dX6_copyFrom_29 : decode cX6_copyFrom 29 = .ok (.putfield 25, 3) := by decide +kernel
theorem dX6_copyFrom_32 : decode cX6_copyFrom 32 = .ok (.aload_n 0, 1) := by decide +kernel
theorem dX6_copyFrom_33 : decode cX6_copyFrom 33 = .ok (.aload_n 1, 1) := by decide +kernel
theorem dX6_copyFrom_34 : decode cX6_copyFrom 34 = .ok (.getfield 28, 3) := by decide +kernel
