theorem dJ13_bitCount_95d88_0 : decode cJ13_bitCount_95d88 0 = .ok (.lload_n 0, 1) := by decide +kernel
theorem dJ13_bitCount_95d88_1 : decode cJ13_bitCount_95d88 1 = .ok (.lload_n 0, 1) := by decide +kernel
theorem dJ13_bitCount_95d88_2 : decode cJ13_bitCount_95d88 2 = .ok (.iconst 1, 1) := by decide +kernel
theorem dJ13_bitCount_95d88_3 : decode cJ13_bitCount_95d88 3 = .ok (.lushr, 1) := by decide +kernel
theorem dJ13_bitCount_95d88_4 : decode cJ13_bitCount_95d88 4 = .ok (.ldc2_w 314, 3) := by decide +kernel
theorem dJ13_bitCount_95d88_7 : decode cJ13_bitCount_95d88 7 = .ok (.land, 1) := by decide +kernel
theorem dJ13_bitCount_95d88_8 : decode cJ13_bitCount_95d88 8 = .ok (.lsub, 1) := by decide +kernel
theorem dJ13_bitCount_95d88_9 : decode cJ13_bitCount_95d88 9 = .ok (.lstore_n 0, 1) := by decide +kernel
theorem dJ13_bitCount_95d88_10 : decode cJ13_bitCount_95d88 10 = .ok (.lload_n 0, 1) := by decide +kernel
theorem dJ13_bitCount_95d88_11 : decode cJ13_bitCount_95d88 11 = .ok (.ldc2_w 316, 3) := by decide +kernel
theorem dJ13_bitCount_95d88_14 : decode cJ13_bitCount_95d88 14 = .ok (.land, 1) := by decide +kernel
theorem dJ13_bitCount_95d88_15 : decode cJ13_bitCount_95d88 15 = .ok (.lload_n 0, 1) := by decide +kernel
theorem dJ13_bitCount_95d88_16 : decode cJ13_bitCount_95d88 16 = .ok (.iconst 2, 1) := by decide +kernel
theorem dJ13_bitCount_95d88_17 : decode cJ13_bitCount_95d88 17 = .ok (.lushr, 1) := by decide +kernel
theorem dJ13_bitCount_95d88_18 : decode cJ13_bitCount_95d88 18 = .ok (.ldc2_w 316, 3) := by decide +kernel
theorem dJ13_bitCount_95d88_21 : decode cJ13_bitCount_95d88 21 = .ok (.land, 1) := by decide +kernel
theorem dJ13_bitCount_95d88_22 : decode cJ13_bitCount_95d88 22 = .ok (.ladd, 1) := by decide +kernel
theorem dJ13_bitCount_95d88_23 : decode cJ13_bitCount_95d88 23 = .ok (.lstore_n 0, 1) := by decide +kernel
theorem dJ13_bitCount_95d88_24 : decode cJ13_bitCount_95d88 24 = .ok (.lload_n 0, 1) := by decide +kernel
theorem dJ13_bitCount_95d88_25 : decode cJ13_bitCount_95d88 25 = .ok (.lload_n 0, 1) := by decide +kernel
theorem dJ13_bitCount_95d88_26 : decode cJ13_bitCount_95d88 26 = .ok (.iconst 4, 1) := by decide +kernel
theorem dJ13_bitCount_95d88_27 : decode cJ13_bitCount_95d88 27 = .ok (.lushr, 1) := by decide +kernel
theorem dJ13_bitCount_95d88_28 : decode cJ13_bitCount_95d88 28 = .ok (.ladd, 1) := by decide +kernel
theorem dJ13_bitCount_95d88_29 : decode cJ13_bitCount_95d88 29 = .ok (.ldc2_w 318, 3) := by decide +kernel
theorem dJ13_bitCount_95d88_32 : decode cJ13_bitCount_95d88 32 = .ok (.land, 1) := by decide +kernel
theorem dJ13_bitCount_95d88_33 : decode cJ13_bitCount_95d88 33 = .ok (.lstore_n 0, 1) := by decide +kernel
theorem dJ13_bitCount_95d88_34 : decode cJ13_bitCount_95d88 34 = .ok (.lload_n 0, 1) := by decide +kernel
theorem dJ13_bitCount_95d88_35 : decode cJ13_bitCount_95d88 35 = .ok (.lload_n 0, 1) := by decide +kernel
theorem dJ13_bitCount_95d88_36 : decode cJ13_bitCount_95d88 36 = .ok (.bipush 8, 2) := by decide +kernel
theorem dJ13_bitCount_95d88_38 : decode cJ13_bitCount_95d88 38 = .ok (.lushr, 1) := by decide +kernel
theorem dJ13_bitCount_95d88_39 : decode cJ13_bitCount_95d88 39 = .ok (.ladd, 1) := by decide +kernel
theorem dJ13_bitCount_95d88_40 : decode cJ13_bitCount_95d88 40 = .ok (.lstore_n 0, 1) := by decide +kernel
theorem dJ13_bitCount_95d88_41 : decode cJ13_bitCount_95d88 41 = .ok (.lload_n 0, 1) := by decide +kernel
theorem dJ13_bitCount_95d88_42 : decode cJ13_bitCount_95d88 42 = .ok (.lload_n 0, 1) := by decide +kernel
theorem dJ13_bitCount_95d88_43 : decode cJ13_bitCount_95d88 43 = .ok (.bipush 16, 2) := by decide +kernel
theorem dJ13_bitCount_95d88_45 : decode cJ13_bitCount_95d88 45 = .ok (.lushr, 1) := by decide +kernel
theorem dJ13_bitCount_95d88_46 : decode cJ13_bitCount_95d88 46 = .ok (.ladd, 1) := by decide +kernel
theorem dJ13_bitCount_95d88_47 : decode cJ13_bitCount_95d88 47 = .ok (.lstore_n 0, 1) := by decide +kernel
theorem dJ13_bitCount_95d88_48 : decode cJ13_bitCount_95d88 48 = .ok (.lload_n 0, 1) := by decide +kernel
theorem dJ13_bitCount_95d88_49 : decode cJ13_bitCount_95d88 49 = .ok (.lload_n 0, 1) := by decide +kernel
theorem dJ13_bitCount_95d88_50 : decode cJ13_bitCount_95d88 50 = .ok (.bipush 32, 2) := by decide +kernel
theorem dJ13_bitCount_95d88_52 : decode cJ13_bitCount_95d88 52 = .ok (.lushr, 1) := by decide +kernel
theorem dJ13_bitCount_95d88_53 : decode cJ13_bitCount_95d88 53 = .ok (.ladd, 1) := by decide +kernel
theorem dJ13_bitCount_95d88_54 : decode cJ13_bitCount_95d88 54 = .ok (.lstore_n 0, 1) := by decide +kernel
theorem dJ13_bitCount_95d88_55 : decode cJ13_bitCount_95d88 55 = .ok (.lload_n 0, 1) := by decide +kernel
theorem dJ13_bitCount_95d88_56 : decode cJ13_bitCount_95d88 56 = .ok (.l2i, 1) := by decide +kernel
theorem dJ13_bitCount_95d88_57 : decode cJ13_bitCount_95d88 57 = .ok (.bipush 127, 2) := by decide +kernel
theorem dJ13_bitCount_95d88_59 : decode cJ13_bitCount_95d88 59 = .ok (.iand, 1) := by decide +kernel
theorem dJ13_bitCount_95d88_60 : decode cJ13_bitCount_95d88 60 = .ok (.ireturn, 1) := by decide +kernel
theorem dJ9_max_7cf53_0 : decode cJ9_max_7cf53 0 = .ok (.iload_n 0, 1) := by decide +kernel
theorem dJ9_max_7cf53_1 : decode cJ9_max_7cf53 1 = .ok (.iload_n 1, 1) := by decide +kernel
theorem dJ9_max_7cf53_2 : decode cJ9_max_7cf53 2 = .ok (.if_icmp .lt 7, 3) := by decide +kernel
theorem dJ9_max_7cf53_5 : decode cJ9_max_7cf53 5 = .ok (.iload_n 0, 1) := by decide +kernel
theorem dJ9_max_7cf53_6 : decode cJ9_max_7cf53 6 = .ok (.goto 4, 3) := by decide +kernel
theorem dJ9_max_7cf53_9 : decode cJ9_max_7cf53 9 = .ok (.iload_n 1, 1) := by decide +kernel
theorem dJ9_max_7cf53_10 : decode cJ9_max_7cf53 10 = .ok (.ireturn, 1) := by decide +kernel
theorem dJ9_min_7cf53_0 : decode cJ9_min_7cf53 0 = .ok (.iload_n 0, 1) := by decide +kernel
theorem dJ9_min_7cf53_1 : decode cJ9_min_7cf53 1 = .ok (.iload_n 1, 1) := by decide +kernel
theorem dJ9_min_7cf53_2 : decode cJ9_min_7cf53 2 = .ok (.if_icmp .gt 7, 3) := by decide +kernel
theorem dJ9_min_7cf53_5 : decode cJ9_min_7cf53 5 = .ok (.iload_n 0, 1) := by decide +kernel
theorem dJ9_min_7cf53_6 : decode cJ9_min_7cf53 6 = .ok (.goto 4, 3) := by decide +kernel
theorem dJ9_min_7cf53_9 : decode cJ9_min_7cf53 9 = .ok (.iload_n 1, 1) := by decide +kernel
theorem dJ9_min_7cf53_10 : decode cJ9_min_7cf53 10 = .ok (.ireturn, 1) := by decide +kernel
theorem dJ7_fill_53178_0 : decode cJ7_fill_53178 0 = .ok (.iconst 0, 1) := by decide +kernel
theorem dJ7_fill_53178_1 : decode cJ7_fill_53178 1 = .ok (.istore_n 2, 1) := by decide +kernel
theorem dJ7_fill_53178_2 : decode cJ7_fill_53178 2 = .ok (.aload_n 0, 1) := by decide +kernel
theorem dJ7_fill_53178_3 : decode cJ7_fill_53178 3 = .ok (.arraylength, 1) := by decide +kernel
theorem dJ7_fill_53178_4 : decode cJ7_fill_53178 4 = .ok (.istore_n 3, 1) := by decide +kernel
theorem dJ7_fill_53178_5 : decode cJ7_fill_53178 5 = .ok (.iload_n 2, 1) := by decide +kernel
theorem dJ7_fill_53178_6 : decode cJ7_fill_53178 6 = .ok (.iload_n 3, 1) := by decide +kernel
theorem dJ7_fill_53178_7 : decode cJ7_fill_53178 7 = .ok (.if_icmp .ge 13, 3) := by decide +kernel
theorem dJ7_fill_53178_10 : decode cJ7_fill_53178 10 = .ok (.aload_n 0, 1) := by decide +kernel
theorem dJ7_fill_53178_11 : decode cJ7_fill_53178 11 = .ok (.iload_n 2, 1) := by decide +kernel
theorem dJ7_fill_53178_12 : decode cJ7_fill_53178 12 = .ok (.iload_n 1, 1) := by decide +kernel
theorem dJ7_fill_53178_13 : decode cJ7_fill_53178 13 = .ok (.iastore, 1) := by decide +kernel
theorem dJ7_fill_53178_14 : decode cJ7_fill_53178 14 = .ok (.iinc 2 1, 3) := by decide +kernel
theorem dJ7_fill_53178_17 : decode cJ7_fill_53178 17 = .ok (.goto (-12), 3) := by decide +kernel
theorem dJ7_fill_53178_20 : decode cJ7_fill_53178 20 = .ok (.return_, 1) := by decide +kernel
theorem dX0_has_0 : decode cX0_has 0 = .ok (.iload_n 2, 1) := by decide +kernel
theorem dX0_has_1 : decode cX0_has 1 = .ok (.ifCond .lt 23, 3) := by decide +kernel
theorem dX0_has_4 : decode cX0_has 4 = .ok (.iload_n 2, 1) := by decide +kernel
theorem dX0_has_5 : decode cX0_has 5 = .ok (.bipush 64, 2) := by decide +kernel
theorem dX0_has_7 : decode cX0_has 7 = .ok (.if_icmp .ge 17, 3) := by decide +kernel
theorem dX0_has_10 : decode cX0_has 10 = .ok (.lload_n 0, 1) := by decide +kernel
theorem dX0_has_11 : decode cX0_has 11 = .ok (.iload_n 2, 1) := by decide +kernel
theorem dX0_has_12 : decode cX0_has 12 = .ok (.lushr, 1) := by decide +kernel
theorem dX0_has_13 : decode cX0_has 13 = .ok (.lconst 1, 1) := by decide +kernel
theorem dX0_has_14 : decode cX0_has 14 = .ok (.land, 1) := by decide +kernel
theorem dX0_has_15 : decode cX0_has 15 = .ok (.lconst 0, 1) := by decide +kernel
theorem dX0_has_16 : decode cX0_has 16 = .ok (.lcmp, 1) := by decide +kernel
theorem dX0_has_17 : decode cX0_has 17 = .ok (.ifCond .eq 7, 3) := by decide +kernel
theorem dX0_has_20 : decode cX0_has 20 = .ok (.iconst 1, 1) := by decide +kernel
theorem dX0_has_21 : decode cX0_has 21 = .ok (.goto 4, 3) := by decide +kernel
theorem dX0_has_24 : decode cX0_has 24 = .ok (.iconst 0, 1) := by decide +kernel
theorem dX0_has_25 : decode cX0_has 25 = .ok (.ireturn, 1) := by decide +kernel
theorem dX0_least_0 : decode cX0_least 0 = .ok (.lload_n 0, 1) := by decide +kernel
theorem dX0_least_1 : decode cX0_least 1 = .ok (.lload_n 0, 1) := by decide +kernel
theorem dX0_least_2 : decode cX0_least 2 = .ok (.lneg, 1) := by decide +kernel
theorem dX0_least_3 : decode cX0_least 3 = .ok (.land, 1) := by decide +kernel
theorem dX0_least_4 : decode cX0_least 4 = .ok (.lconst 1, 1) := by decide +kernel
theorem dX0_least_5 : decode cX0_least 5 = .ok (.lsub, 1) := by decide +kernel
theorem dX0_least_6 : decode cX0_least 6 = .ok (.invokestatic 9, 3) := by decide +kernel
theorem dX0_least_9 : decode cX0_least 9 = .ok (.ireturn, 1) := by decide +kernel
theorem dX0_beside_0 : decode cX0_beside 0 = .ok (.iload_n 0, 1) := by decide +kernel
theorem dX0_beside_1 : decode cX0_beside 1 = .ok (.invokestatic 15, 3) := by decide +kernel
theorem dX0_beside_4 : decode cX0_beside 4 = .ok (.ifCond .ne 6, 3) := by decide +kernel
theorem dX0_beside_7 : decode cX0_beside 7 = .ok (.bipush (-9), 2) := by decide +kernel
theorem dX0_beside_9 : decode cX0_beside 9 = .ok (.ireturn, 1) := by decide +kernel
theorem dX0_beside_10 : decode cX0_beside 10 = .ok (.iload_n 0, 1) := by decide +kernel
theorem dX0_beside_11 : decode cX0_beside 11 = .ok (.bipush 7, 2) := by decide +kernel
theorem dX0_beside_13 : decode cX0_beside 13 = .ok (.iand, 1) := by decide +kernel
theorem dX0_beside_14 : decode cX0_beside 14 = .ok (.istore_n 2, 1) := by decide +kernel
theorem dX0_beside_15 : decode cX0_beside 15 = .ok (.iload_n 0, 1) := by decide +kernel
theorem dX0_beside_16 : decode cX0_beside 16 = .ok (.iconst 3, 1) := by decide +kernel
theorem dX0_beside_17 : decode cX0_beside 17 = .ok (.ishr, 1) := by decide +kernel
theorem dX0_beside_18 : decode cX0_beside 18 = .ok (.istore_n 3, 1) := by decide +kernel
theorem dX0_beside_19 : decode cX0_beside 19 = .ok (.iload_n 1, 1) := by decide +kernel
theorem dX0_beside_20 : decode cX0_beside 20 = .ok (.tableswitch 46 0 2 #[28, 34, 40], 28) := by decide +kernel
theorem dX0_beside_48 : decode cX0_beside 48 = .ok (.iinc 2 1, 3) := by decide +kernel
theorem dX0_beside_51 : decode cX0_beside 51 = .ok (.goto 18, 3) := by decide +kernel
theorem dX0_beside_54 : decode cX0_beside 54 = .ok (.iinc 3 1, 3) := by decide +kernel
theorem dX0_beside_57 : decode cX0_beside 57 = .ok (.goto 12, 3) := by decide +kernel
theorem dX0_beside_60 : decode cX0_beside 60 = .ok (.iinc 2 (-1), 3) := by decide +kernel
theorem dX0_beside_63 : decode cX0_beside 63 = .ok (.goto 6, 3) := by decide +kernel
theorem dX0_beside_66 : decode cX0_beside 66 = .ok (.iinc 3 (-1), 3) := by decide +kernel
theorem dX0_beside_69 : decode cX0_beside 69 = .ok (.iload_n 2, 1) := by decide +kernel
theorem dX0_beside_70 : decode cX0_beside 70 = .ok (.iconst 0, 1) := by decide +kernel
theorem dX0_beside_71 : decode cX0_beside 71 = .ok (.bipush 7, 2) := by decide +kernel
theorem dX0_beside_73 : decode cX0_beside 73 = .ok (.invokestatic 21, 3) := by decide +kernel
theorem dX0_beside_76 : decode cX0_beside 76 = .ok (.ifCond .eq 22, 3) := by decide +kernel
theorem dX0_beside_79 : decode cX0_beside 79 = .ok (.iload_n 3, 1) := by decide +kernel
theorem dX0_beside_80 : decode cX0_beside 80 = .ok (.iconst 0, 1) := by decide +kernel
theorem dX0_beside_81 : decode cX0_beside 81 = .ok (.bipush 7, 2) := by decide +kernel
theorem dX0_beside_83 : decode cX0_beside 83 = .ok (.invokestatic 21, 3) := by decide +kernel
theorem dX0_beside_86 : decode cX0_beside 86 = .ok (.ifCond .eq 12, 3) := by decide +kernel
theorem dX0_beside_89 : decode cX0_beside 89 = .ok (.bipush 8, 2) := by decide +kernel
theorem dX0_beside_91 : decode cX0_beside 91 = .ok (.iload_n 3, 1) := by decide +kernel
theorem dX0_beside_92 : decode cX0_beside 92 = .ok (.imul, 1) := by decide +kernel
theorem dX0_beside_93 : decode cX0_beside 93 = .ok (.iload_n 2, 1) := by decide +kernel
theorem dX0_beside_94 : decode cX0_beside 94 = .ok (.iadd, 1) := by decide +kernel
theorem dX0_beside_95 : decode cX0_beside 95 = .ok (.goto 5, 3) := by decide +kernel
theorem dX0_beside_98 : decode cX0_beside 98 = .ok (.bipush (-9), 2) := by decide +kernel
theorem dX0_beside_100 : decode cX0_beside 100 = .ok (.ireturn, 1) := by decide +kernel
theorem dX0_moved_0 : decode cX0_moved 0 = .ok (.iload_n 2, 1) := by decide +kernel
theorem dX0_moved_1 : decode cX0_moved 1 = .ok (.tableswitch 48 0 2 #[27, 35, 40], 27) := by decide +kernel
theorem dX0_moved_28 : decode cX0_moved 28 = .ok (.lload_n 0, 1) := by decide +kernel
theorem dX0_moved_29 : decode cX0_moved 29 = .ok (.iconst 1, 1) := by decide +kernel
theorem dX0_moved_30 : decode cX0_moved 30 = .ok (.lshl, 1) := by decide +kernel
theorem dX0_moved_31 : decode cX0_moved 31 = .ok (.ldc2_w 25, 3) := by decide +kernel
theorem dX0_moved_34 : decode cX0_moved 34 = .ok (.land, 1) := by decide +kernel
theorem dX0_moved_35 : decode cX0_moved 35 = .ok (.lreturn, 1) := by decide +kernel
theorem dX0_moved_36 : decode cX0_moved 36 = .ok (.lload_n 0, 1) := by decide +kernel
theorem dX0_moved_37 : decode cX0_moved 37 = .ok (.bipush 8, 2) := by decide +kernel
theorem dX0_moved_39 : decode cX0_moved 39 = .ok (.lshl, 1) := by decide +kernel
theorem dX0_moved_40 : decode cX0_moved 40 = .ok (.lreturn, 1) := by decide +kernel
theorem dX0_moved_41 : decode cX0_moved 41 = .ok (.lload_n 0, 1) := by decide +kernel
theorem dX0_moved_42 : decode cX0_moved 42 = .ok (.ldc2_w 25, 3) := by decide +kernel
theorem dX0_moved_45 : decode cX0_moved 45 = .ok (.land, 1) := by decide +kernel
theorem dX0_moved_46 : decode cX0_moved 46 = .ok (.iconst 1, 1) := by decide +kernel
theorem dX0_moved_47 : decode cX0_moved 47 = .ok (.lushr, 1) := by decide +kernel
theorem dX0_moved_48 : decode cX0_moved 48 = .ok (.lreturn, 1) := by decide +kernel
theorem dX0_moved_49 : decode cX0_moved 49 = .ok (.lload_n 0, 1) := by decide +kernel
theorem dX0_moved_50 : decode cX0_moved 50 = .ok (.bipush 8, 2) := by decide +kernel
theorem dX0_moved_52 : decode cX0_moved 52 = .ok (.lushr, 1) := by decide +kernel
theorem dX0_moved_53 : decode cX0_moved 53 = .ok (.lreturn, 1) := by decide +kernel
theorem dX0_hangsTogether_0 : decode cX0_hangsTogether 0 = .ok (.lload_n 0, 1) := by decide +kernel
theorem dX0_hangsTogether_1 : decode cX0_hangsTogether 1 = .ok (.lload_n 0, 1) := by decide +kernel
theorem dX0_hangsTogether_2 : decode cX0_hangsTogether 2 = .ok (.lneg, 1) := by decide +kernel
theorem dX0_hangsTogether_3 : decode cX0_hangsTogether 3 = .ok (.land, 1) := by decide +kernel
theorem dX0_hangsTogether_4 : decode cX0_hangsTogether 4 = .ok (.lstore_n 2, 1) := by decide +kernel
theorem dX0_hangsTogether_5 : decode cX0_hangsTogether 5 = .ok (.iconst 0, 1) := by decide +kernel
theorem dX0_hangsTogether_6 : decode cX0_hangsTogether 6 = .ok (.istore 4, 2) := by decide +kernel
theorem dX0_hangsTogether_8 : decode cX0_hangsTogether 8 = .ok (.iload 4, 2) := by decide +kernel
theorem dX0_hangsTogether_10 : decode cX0_hangsTogether 10 = .ok (.bipush 24, 2) := by decide +kernel
theorem dX0_hangsTogether_12 : decode cX0_hangsTogether 12 = .ok (.if_icmp .ge 43, 3) := by decide +kernel
theorem dX0_hangsTogether_15 : decode cX0_hangsTogether 15 = .ok (.lload_n 2, 1) := by decide +kernel
theorem dX0_hangsTogether_16 : decode cX0_hangsTogether 16 = .ok (.lstore 5, 2) := by decide +kernel
theorem dX0_hangsTogether_18 : decode cX0_hangsTogether 18 = .ok (.iconst 0, 1) := by decide +kernel
theorem dX0_hangsTogether_19 : decode cX0_hangsTogether 19 = .ok (.istore 7, 2) := by decide +kernel
theorem dX0_hangsTogether_21 : decode cX0_hangsTogether 21 = .ok (.iload 7, 2) := by decide +kernel
theorem dX0_hangsTogether_23 : decode cX0_hangsTogether 23 = .ok (.iconst 4, 1) := by decide +kernel
theorem dX0_hangsTogether_24 : decode cX0_hangsTogether 24 = .ok (.if_icmp .ge 20, 3) := by decide +kernel
theorem dX0_hangsTogether_27 : decode cX0_hangsTogether 27 = .ok (.lload 5, 2) := by decide +kernel
theorem dX0_hangsTogether_29 : decode cX0_hangsTogether 29 = .ok (.lload_n 2, 1) := by decide +kernel
theorem dX0_hangsTogether_30 : decode cX0_hangsTogether 30 = .ok (.iload 7, 2) := by decide +kernel
theorem dX0_hangsTogether_32 : decode cX0_hangsTogether 32 = .ok (.invokestatic 27, 3) := by decide +kernel
theorem dX0_hangsTogether_35 : decode cX0_hangsTogether 35 = .ok (.lor, 1) := by decide +kernel
theorem dX0_hangsTogether_36 : decode cX0_hangsTogether 36 = .ok (.lstore 5, 2) := by decide +kernel
theorem dX0_hangsTogether_38 : decode cX0_hangsTogether 38 = .ok (.iinc 7 1, 3) := by decide +kernel
theorem dX0_hangsTogether_41 : decode cX0_hangsTogether 41 = .ok (.goto (-20), 3) := by decide +kernel
theorem dX0_hangsTogether_44 : decode cX0_hangsTogether 44 = .ok (.lload 5, 2) := by decide +kernel
theorem dX0_hangsTogether_46 : decode cX0_hangsTogether 46 = .ok (.lload_n 0, 1) := by decide +kernel
theorem dX0_hangsTogether_47 : decode cX0_hangsTogether 47 = .ok (.land, 1) := by decide +kernel
theorem dX0_hangsTogether_48 : decode cX0_hangsTogether 48 = .ok (.lstore_n 2, 1) := by decide +kernel
theorem dX0_hangsTogether_49 : decode cX0_hangsTogether 49 = .ok (.iinc 4 1, 3) := by decide +kernel
theorem dX0_hangsTogether_52 : decode cX0_hangsTogether 52 = .ok (.goto (-44), 3) := by decide +kernel
theorem dX0_hangsTogether_55 : decode cX0_hangsTogether 55 = .ok (.lload_n 2, 1) := by decide +kernel
theorem dX0_hangsTogether_56 : decode cX0_hangsTogether 56 = .ok (.lload_n 0, 1) := by decide +kernel
theorem dX0_hangsTogether_57 : decode cX0_hangsTogether 57 = .ok (.lcmp, 1) := by decide +kernel
theorem dX0_hangsTogether_58 : decode cX0_hangsTogether 58 = .ok (.ifCond .ne 7, 3) := by decide +kernel
theorem dX0_hangsTogether_61 : decode cX0_hangsTogether 61 = .ok (.iconst 1, 1) := by decide +kernel
theorem dX0_hangsTogether_62 : decode cX0_hangsTogether 62 = .ok (.goto 4, 3) := by decide +kernel
theorem dX0_hangsTogether_65 : decode cX0_hangsTogether 65 = .ok (.iconst 0, 1) := by decide +kernel
theorem dX0_hangsTogether_66 : decode cX0_hangsTogether 66 = .ok (.ireturn, 1) := by decide +kernel
theorem dX0_openEdges_0 : decode cX0_openEdges 0 = .ok (.iconst 0, 1) := by decide +kernel
theorem dX0_openEdges_1 : decode cX0_openEdges 1 = .ok (.istore_n 2, 1) := by decide +kernel
theorem dX0_openEdges_2 : decode cX0_openEdges 2 = .ok (.iconst 0, 1) := by decide +kernel
theorem dX0_openEdges_3 : decode cX0_openEdges 3 = .ok (.istore_n 3, 1) := by decide +kernel
theorem dX0_openEdges_4 : decode cX0_openEdges 4 = .ok (.iload_n 3, 1) := by decide +kernel
theorem dX0_openEdges_5 : decode cX0_openEdges 5 = .ok (.iconst 4, 1) := by decide +kernel
theorem dX0_openEdges_6 : decode cX0_openEdges 6 = .ok (.if_icmp .ge 26, 3) := by decide +kernel
theorem dX0_openEdges_9 : decode cX0_openEdges 9 = .ok (.iload_n 2, 1) := by decide +kernel
theorem dX0_openEdges_10 : decode cX0_openEdges 10 = .ok (.lload_n 0, 1) := by decide +kernel
theorem dX0_openEdges_11 : decode cX0_openEdges 11 = .ok (.lload_n 0, 1) := by decide +kernel
theorem dX0_openEdges_12 : decode cX0_openEdges 12 = .ok (.iload_n 3, 1) := by decide +kernel
theorem dX0_openEdges_13 : decode cX0_openEdges 13 = .ok (.invokestatic 27, 3) := by decide +kernel
theorem dX0_openEdges_16 : decode cX0_openEdges 16 = .ok (.ldc2_w 31, 3) := by decide +kernel
theorem dX0_openEdges_19 : decode cX0_openEdges 19 = .ok (.lxor, 1) := by decide +kernel
theorem dX0_openEdges_20 : decode cX0_openEdges 20 = .ok (.land, 1) := by decide +kernel
theorem dX0_openEdges_21 : decode cX0_openEdges 21 = .ok (.invokestatic 9, 3) := by decide +kernel
theorem dX0_openEdges_24 : decode cX0_openEdges 24 = .ok (.iadd, 1) := by decide +kernel
theorem dX0_openEdges_25 : decode cX0_openEdges 25 = .ok (.istore_n 2, 1) := by decide +kernel
theorem dX0_openEdges_26 : decode cX0_openEdges 26 = .ok (.iinc 3 1, 3) := by decide +kernel
theorem dX0_openEdges_29 : decode cX0_openEdges 29 = .ok (.goto (-25), 3) := by decide +kernel
theorem dX0_openEdges_32 : decode cX0_openEdges 32 = .ok (.iload_n 2, 1) := by decide +kernel
theorem dX0_openEdges_33 : decode cX0_openEdges 33 = .ok (.ireturn, 1) := by decide +kernel
theorem dX0_isLying_0 : decode cX0_isLying 0 = .ok (.lload_n 0, 1) := by decide +kernel
theorem dX0_isLying_1 : decode cX0_isLying 1 = .ok (.invokestatic 33, 3) := by decide +kernel
theorem dX0_isLying_4 : decode cX0_isLying 4 = .ok (.iconst 3, 1) := by decide +kernel
theorem dX0_isLying_5 : decode cX0_isLying 5 = .ok (.ishr, 1) := by decide +kernel
theorem dX0_isLying_6 : decode cX0_isLying 6 = .ok (.istore_n 2, 1) := by decide +kernel
theorem dX0_isLying_7 : decode cX0_isLying 7 = .ok (.lload_n 0, 1) := by decide +kernel
theorem dX0_isLying_8 : decode cX0_isLying 8 = .ok (.ldc2_w 36, 3) := by decide +kernel
theorem dX0_isLying_11 : decode cX0_isLying 11 = .ok (.bipush 8, 2) := by decide +kernel
theorem dX0_isLying_13 : decode cX0_isLying 13 = .ok (.iload_n 2, 1) := by decide +kernel
theorem dX0_isLying_14 : decode cX0_isLying 14 = .ok (.imul, 1) := by decide +kernel
theorem dX0_isLying_15 : decode cX0_isLying 15 = .ok (.lshl, 1) := by decide +kernel
theorem dX0_isLying_16 : decode cX0_isLying 16 = .ok (.ldc2_w 31, 3) := by decide +kernel
theorem dX0_isLying_19 : decode cX0_isLying 19 = .ok (.lxor, 1) := by decide +kernel
theorem dX0_isLying_20 : decode cX0_isLying 20 = .ok (.land, 1) := by decide +kernel
theorem dX0_isLying_21 : decode cX0_isLying 21 = .ok (.lconst 0, 1) := by decide +kernel
theorem dX0_isLying_22 : decode cX0_isLying 22 = .ok (.lcmp, 1) := by decide +kernel
theorem dX0_isLying_23 : decode cX0_isLying 23 = .ok (.ifCond .ne 7, 3) := by decide +kernel
theorem dX0_isLying_26 : decode cX0_isLying 26 = .ok (.iconst 1, 1) := by decide +kernel
theorem dX0_isLying_27 : decode cX0_isLying 27 = .ok (.goto 4, 3) := by decide +kernel
theorem dX0_isLying_30 : decode cX0_isLying 30 = .ok (.iconst 0, 1) := by decide +kernel
theorem dX0_isLying_31 : decode cX0_isLying 31 = .ok (.ireturn, 1) := by decide +kernel
theorem dX0_isStanding_0 : decode cX0_isStanding 0 = .ok (.lload_n 0, 1) := by decide +kernel
theorem dX0_isStanding_1 : decode cX0_isStanding 1 = .ok (.invokestatic 33, 3) := by decide +kernel
theorem dX0_isStanding_4 : decode cX0_isStanding 4 = .ok (.bipush 7, 2) := by decide +kernel
theorem dX0_isStanding_6 : decode cX0_isStanding 6 = .ok (.iand, 1) := by decide +kernel
theorem dX0_isStanding_7 : decode cX0_isStanding 7 = .ok (.istore_n 2, 1) := by decide +kernel
theorem dX0_isStanding_8 : decode cX0_isStanding 8 = .ok (.lload_n 0, 1) := by decide +kernel
theorem dX0_isStanding_9 : decode cX0_isStanding 9 = .ok (.ldc2_w 38, 3) := by decide +kernel
theorem dX0_isStanding_12 : decode cX0_isStanding 12 = .ok (.iload_n 2, 1) := by decide +kernel
theorem dX0_isStanding_13 : decode cX0_isStanding 13 = .ok (.lshl, 1) := by decide +kernel
theorem dX0_isStanding_14 : decode cX0_isStanding 14 = .ok (.ldc2_w 31, 3) := by decide +kernel
theorem dX0_isStanding_17 : decode cX0_isStanding 17 = .ok (.lxor, 1) := by decide +kernel
theorem dX0_isStanding_18 : decode cX0_isStanding 18 = .ok (.land, 1) := by decide +kernel
theorem dX0_isStanding_19 : decode cX0_isStanding 19 = .ok (.lconst 0, 1) := by decide +kernel
theorem dX0_isStanding_20 : decode cX0_isStanding 20 = .ok (.lcmp, 1) := by decide +kernel
theorem dX0_isStanding_21 : decode cX0_isStanding 21 = .ok (.ifCond .ne 7, 3) := by decide +kernel
theorem dX0_isStanding_24 : decode cX0_isStanding 24 = .ok (.iconst 1, 1) := by decide +kernel
theorem dX0_isStanding_25 : decode cX0_isStanding 25 = .ok (.goto 4, 3) := by decide +kernel
theorem dX0_isStanding_28 : decode cX0_isStanding 28 = .ok (.iconst 0, 1) := by decide +kernel
theorem dX0_isStanding_29 : decode cX0_isStanding 29 = .ok (.ireturn, 1) := by decide +kernel
theorem dX0_putDown_0 : decode cX0_putDown 0 = .ok (.lload_n 0, 1) := by decide +kernel
theorem dX0_putDown_1 : decode cX0_putDown 1 = .ok (.lstore_n 2, 1) := by decide +kernel
theorem dX0_putDown_2 : decode cX0_putDown 2 = .ok (.iconst 1, 1) := by decide +kernel
theorem dX0_putDown_3 : decode cX0_putDown 3 = .ok (.istore 4, 2) := by decide +kernel
theorem dX0_putDown_5 : decode cX0_putDown 5 = .ok (.iload 4, 2) := by decide +kernel
theorem dX0_putDown_7 : decode cX0_putDown 7 = .ok (.bipush 8, 2) := by decide +kernel
theorem dX0_putDown_9 : decode cX0_putDown 9 = .ok (.if_icmp .ge 24, 3) := by decide +kernel
theorem dX0_putDown_12 : decode cX0_putDown 12 = .ok (.lload_n 2, 1) := by decide +kernel
theorem dX0_putDown_13 : decode cX0_putDown 13 = .ok (.ldc2_w 36, 3) := by decide +kernel
theorem dX0_putDown_16 : decode cX0_putDown 16 = .ok (.land, 1) := by decide +kernel
theorem dX0_putDown_17 : decode cX0_putDown 17 = .ok (.lconst 0, 1) := by decide +kernel
theorem dX0_putDown_18 : decode cX0_putDown 18 = .ok (.lcmp, 1) := by decide +kernel
theorem dX0_putDown_19 : decode cX0_putDown 19 = .ok (.ifCond .ne 14, 3) := by decide +kernel
theorem dX0_putDown_22 : decode cX0_putDown 22 = .ok (.lload_n 2, 1) := by decide +kernel
theorem dX0_putDown_23 : decode cX0_putDown 23 = .ok (.bipush 8, 2) := by decide +kernel
theorem dX0_putDown_25 : decode cX0_putDown 25 = .ok (.lushr, 1) := by decide +kernel
theorem dX0_putDown_26 : decode cX0_putDown 26 = .ok (.lstore_n 2, 1) := by decide +kernel
theorem dX0_putDown_27 : decode cX0_putDown 27 = .ok (.iinc 4 1, 3) := by decide +kernel
theorem dX0_putDown_30 : decode cX0_putDown 30 = .ok (.goto (-25), 3) := by decide +kernel
theorem dX0_putDown_33 : decode cX0_putDown 33 = .ok (.iconst 1, 1) := by decide +kernel
theorem dX0_putDown_34 : decode cX0_putDown 34 = .ok (.istore 4, 2) := by decide +kernel
theorem dX0_putDown_36 : decode cX0_putDown 36 = .ok (.iload 4, 2) := by decide +kernel
theorem dX0_putDown_38 : decode cX0_putDown 38 = .ok (.bipush 8, 2) := by decide +kernel
theorem dX0_putDown_40 : decode cX0_putDown 40 = .ok (.if_icmp .ge 23, 3) := by decide +kernel
theorem dX0_putDown_43 : decode cX0_putDown 43 = .ok (.lload_n 2, 1) := by decide +kernel
theorem dX0_putDown_44 : decode cX0_putDown 44 = .ok (.ldc2_w 38, 3) := by decide +kernel
theorem dX0_putDown_47 : decode cX0_putDown 47 = .ok (.land, 1) := by decide +kernel
theorem dX0_putDown_48 : decode cX0_putDown 48 = .ok (.lconst 0, 1) := by decide +kernel
theorem dX0_putDown_49 : decode cX0_putDown 49 = .ok (.lcmp, 1) := by decide +kernel
theorem dX0_putDown_50 : decode cX0_putDown 50 = .ok (.ifCond .ne 13, 3) := by decide +kernel
theorem dX0_putDown_53 : decode cX0_putDown 53 = .ok (.lload_n 2, 1) := by decide +kernel
theorem dX0_putDown_54 : decode cX0_putDown 54 = .ok (.iconst 1, 1) := by decide +kernel
theorem dX0_putDown_55 : decode cX0_putDown 55 = .ok (.lushr, 1) := by decide +kernel
theorem dX0_putDown_56 : decode cX0_putDown 56 = .ok (.lstore_n 2, 1) := by decide +kernel
theorem dX0_putDown_57 : decode cX0_putDown 57 = .ok (.iinc 4 1, 3) := by decide +kernel
theorem dX0_putDown_60 : decode cX0_putDown 60 = .ok (.goto (-24), 3) := by decide +kernel
theorem dX0_putDown_63 : decode cX0_putDown 63 = .ok (.lload_n 2, 1) := by decide +kernel
theorem dX0_putDown_64 : decode cX0_putDown 64 = .ok (.lreturn, 1) := by decide +kernel
theorem dX0_turned_0 : decode cX0_turned 0 = .ok (.lconst 0, 1) := by decide +kernel
theorem dX0_turned_1 : decode cX0_turned 1 = .ok (.lstore_n 3, 1) := by decide +kernel
theorem dX0_turned_2 : decode cX0_turned 2 = .ok (.iconst 0, 1) := by decide +kernel
theorem dX0_turned_3 : decode cX0_turned 3 = .ok (.istore 5, 2) := by decide +kernel
theorem dX0_turned_5 : decode cX0_turned 5 = .ok (.iload 5, 2) := by decide +kernel
theorem dX0_turned_7 : decode cX0_turned 7 = .ok (.bipush 64, 2) := by decide +kernel
theorem dX0_turned_9 : decode cX0_turned 9 = .ok (.if_icmp .ge 69, 3) := by decide +kernel
theorem dX0_turned_12 : decode cX0_turned 12 = .ok (.lload_n 0, 1) := by decide +kernel
theorem dX0_turned_13 : decode cX0_turned 13 = .ok (.iload 5, 2) := by decide +kernel
theorem dX0_turned_15 : decode cX0_turned 15 = .ok (.invokestatic 40, 3) := by decide +kernel
theorem dX0_turned_18 : decode cX0_turned 18 = .ok (.ifCond .eq 54, 3) := by decide +kernel
theorem dX0_turned_21 : decode cX0_turned 21 = .ok (.iload 5, 2) := by decide +kernel
theorem dX0_turned_23 : decode cX0_turned 23 = .ok (.bipush 7, 2) := by decide +kernel
theorem dX0_turned_25 : decode cX0_turned 25 = .ok (.iand, 1) := by decide +kernel
theorem dX0_turned_26 : decode cX0_turned 26 = .ok (.istore 6, 2) := by decide +kernel
theorem dX0_turned_28 : decode cX0_turned 28 = .ok (.iload 5, 2) := by decide +kernel
theorem dX0_turned_30 : decode cX0_turned 30 = .ok (.iconst 3, 1) := by decide +kernel
theorem dX0_turned_31 : decode cX0_turned 31 = .ok (.ishr, 1) := by decide +kernel
theorem dX0_turned_32 : decode cX0_turned 32 = .ok (.istore 7, 2) := by decide +kernel
theorem dX0_turned_34 : decode cX0_turned 34 = .ok (.iload_n 2, 1) := by decide +kernel
theorem dX0_turned_35 : decode cX0_turned 35 = .ok (.ifCond .eq 17, 3) := by decide +kernel
theorem dX0_turned_38 : decode cX0_turned 38 = .ok (.bipush 8, 2) := by decide +kernel
theorem dX0_turned_40 : decode cX0_turned 40 = .ok (.iload 7, 2) := by decide +kernel
theorem dX0_turned_42 : decode cX0_turned 42 = .ok (.imul, 1) := by decide +kernel
theorem dX0_turned_43 : decode cX0_turned 43 = .ok (.bipush 7, 2) := by decide +kernel
theorem dX0_turned_45 : decode cX0_turned 45 = .ok (.iadd, 1) := by decide +kernel
theorem dX0_turned_46 : decode cX0_turned 46 = .ok (.iload 6, 2) := by decide +kernel
theorem dX0_turned_48 : decode cX0_turned 48 = .ok (.isub, 1) := by decide +kernel
theorem dX0_turned_49 : decode cX0_turned 49 = .ok (.goto 14, 3) := by decide +kernel
theorem dX0_turned_52 : decode cX0_turned 52 = .ok (.bipush 8, 2) := by decide +kernel
theorem dX0_turned_54 : decode cX0_turned 54 = .ok (.iload 6, 2) := by decide +kernel
theorem dX0_turned_56 : decode cX0_turned 56 = .ok (.imul, 1) := by decide +kernel
theorem dX0_turned_57 : decode cX0_turned 57 = .ok (.bipush 7, 2) := by decide +kernel
theorem dX0_turned_59 : decode cX0_turned 59 = .ok (.iadd, 1) := by decide +kernel
theorem dX0_turned_60 : decode cX0_turned 60 = .ok (.iload 7, 2) := by decide +kernel
theorem dX0_turned_62 : decode cX0_turned 62 = .ok (.isub, 1) := by decide +kernel
theorem dX0_turned_63 : decode cX0_turned 63 = .ok (.istore 8, 2) := by decide +kernel
theorem dX0_turned_65 : decode cX0_turned 65 = .ok (.lload_n 3, 1) := by decide +kernel
theorem dX0_turned_66 : decode cX0_turned 66 = .ok (.lconst 1, 1) := by decide +kernel
theorem dX0_turned_67 : decode cX0_turned 67 = .ok (.iload 8, 2) := by decide +kernel
theorem dX0_turned_69 : decode cX0_turned 69 = .ok (.lshl, 1) := by decide +kernel
theorem dX0_turned_70 : decode cX0_turned 70 = .ok (.lor, 1) := by decide +kernel
theorem dX0_turned_71 : decode cX0_turned 71 = .ok (.lstore_n 3, 1) := by decide +kernel
theorem dX0_turned_72 : decode cX0_turned 72 = .ok (.iinc 5 1, 3) := by decide +kernel
theorem dX0_turned_75 : decode cX0_turned 75 = .ok (.goto (-70), 3) := by decide +kernel
theorem dX0_turned_78 : decode cX0_turned 78 = .ok (.lload_n 3, 1) := by decide +kernel
theorem dX0_turned_79 : decode cX0_turned 79 = .ok (.invokestatic 44, 3) := by decide +kernel
theorem dX0_turned_82 : decode cX0_turned 82 = .ok (.lreturn, 1) := by decide +kernel
theorem dX0_areAlike_0 : decode cX0_areAlike 0 = .ok (.lload_n 2, 1) := by decide +kernel
theorem dX0_areAlike_1 : decode cX0_areAlike 1 = .ok (.invokestatic 44, 3) := by decide +kernel
theorem dX0_areAlike_4 : decode cX0_areAlike 4 = .ok (.lstore 4, 2) := by decide +kernel
theorem dX0_areAlike_6 : decode cX0_areAlike 6 = .ok (.lload_n 0, 1) := by decide +kernel
theorem dX0_areAlike_7 : decode cX0_areAlike 7 = .ok (.invokestatic 44, 3) := by decide +kernel
theorem dX0_areAlike_10 : decode cX0_areAlike 10 = .ok (.lstore 6, 2) := by decide +kernel
theorem dX0_areAlike_12 : decode cX0_areAlike 12 = .ok (.iconst 0, 1) := by decide +kernel
theorem dX0_areAlike_13 : decode cX0_areAlike 13 = .ok (.istore 8, 2) := by decide +kernel
theorem dX0_areAlike_15 : decode cX0_areAlike 15 = .ok (.iload 8, 2) := by decide +kernel
theorem dX0_areAlike_17 : decode cX0_areAlike 17 = .ok (.bipush 8, 2) := by decide +kernel
theorem dX0_areAlike_19 : decode cX0_areAlike 19 = .ok (.if_icmp .ge 37, 3) := by decide +kernel
theorem dX0_areAlike_22 : decode cX0_areAlike 22 = .ok (.lload 6, 2) := by decide +kernel
theorem dX0_areAlike_24 : decode cX0_areAlike 24 = .ok (.lload 4, 2) := by decide +kernel
theorem dX0_areAlike_26 : decode cX0_areAlike 26 = .ok (.lcmp, 1) := by decide +kernel
theorem dX0_areAlike_27 : decode cX0_areAlike 27 = .ok (.ifCond .ne 5, 3) := by decide +kernel
theorem dX0_areAlike_30 : decode cX0_areAlike 30 = .ok (.iconst 1, 1) := by decide +kernel
theorem dX0_areAlike_31 : decode cX0_areAlike 31 = .ok (.ireturn, 1) := by decide +kernel
theorem dX0_areAlike_32 : decode cX0_areAlike 32 = .ok (.lload 6, 2) := by decide +kernel
theorem dX0_areAlike_34 : decode cX0_areAlike 34 = .ok (.iload 8, 2) := by decide +kernel
theorem dX0_areAlike_36 : decode cX0_areAlike 36 = .ok (.iconst 3, 1) := by decide +kernel
theorem dX0_areAlike_37 : decode cX0_areAlike 37 = .ok (.if_icmp .ne 7, 3) := by decide +kernel
theorem dX0_areAlike_40 : decode cX0_areAlike 40 = .ok (.iconst 1, 1) := by decide +kernel
theorem dX0_areAlike_41 : decode cX0_areAlike 41 = .ok (.goto 4, 3) := by decide +kernel
theorem dX0_areAlike_44 : decode cX0_areAlike 44 = .ok (.iconst 0, 1) := by decide +kernel
theorem dX0_areAlike_45 : decode cX0_areAlike 45 = .ok (.invokestatic 48, 3) := by decide +kernel
theorem dX0_areAlike_48 : decode cX0_areAlike 48 = .ok (.lstore 6, 2) := by decide +kernel
theorem dX0_areAlike_50 : decode cX0_areAlike 50 = .ok (.iinc 8 1, 3) := by decide +kernel
theorem dX0_areAlike_53 : decode cX0_areAlike 53 = .ok (.goto (-38), 3) := by decide +kernel
theorem dX0_areAlike_56 : decode cX0_areAlike 56 = .ok (.iconst 0, 1) := by decide +kernel
theorem dX0_areAlike_57 : decode cX0_areAlike 57 = .ok (.ireturn, 1) := by decide +kernel
theorem dX1_init_0 : decode cX1_init 0 = .ok (.aload_n 0, 1) := by decide +kernel
theorem dX1_init_1 : decode cX1_init 1 = .ok (.invokespecial 3, 3) := by decide +kernel
theorem dX1_init_4 : decode cX1_init 4 = .ok (.aload_n 0, 1) := by decide +kernel
theorem dX1_init_5 : decode cX1_init 5 = .ok (.iconst 3, 1) := by decide +kernel
theorem dX1_init_6 : decode cX1_init 6 = .ok (.newarray .int, 2) := by decide +kernel
theorem dX1_init_8 : decode cX1_init 8 = .ok (.putfield 11, 3) := by decide +kernel
theorem dX1_init_11 : decode cX1_init 11 = .ok (.aload_n 0, 1) := by decide +kernel
theorem dX1_init_12 : decode cX1_init 12 = .ok (.bipush 6, 2) := by decide +kernel
theorem dX1_init_14 : decode cX1_init 14 = .ok (.newarray .int, 2) := by decide +kernel
theorem dX1_init_16 : decode cX1_init 16 = .ok (.putfield 15, 3) := by decide +kernel
theorem dX1_init_19 : decode cX1_init 19 = .ok (.aload_n 0, 1) := by decide +kernel
theorem dX1_init_20 : decode cX1_init 20 = .ok (.bipush 24, 2) := by decide +kernel
theorem dX1_init_22 : decode cX1_init 22 = .ok (.newarray .int, 2) := by decide +kernel
theorem dX1_init_24 : decode cX1_init 24 = .ok (.putfield 18, 3) := by decide +kernel
theorem dX1_init_27 : decode cX1_init 27 = .ok (.aload_n 0, 1) := by decide +kernel
theorem dX1_init_28 : decode cX1_init 28 = .ok (.bipush 72, 2) := by decide +kernel
theorem dX1_init_30 : decode cX1_init 30 = .ok (.newarray .int, 2) := by decide +kernel
theorem dX1_init_32 : decode cX1_init 32 = .ok (.putfield 21, 3) := by decide +kernel
theorem dX1_init_35 : decode cX1_init 35 = .ok (.aload_n 0, 1) := by decide +kernel
theorem dX1_init_36 : decode cX1_init 36 = .ok (.bipush 96, 2) := by decide +kernel
theorem dX1_init_38 : decode cX1_init 38 = .ok (.newarray .int, 2) := by decide +kernel
theorem dX1_init_40 : decode cX1_init 40 = .ok (.putfield 24, 3) := by decide +kernel
theorem dX1_init_43 : decode cX1_init 43 = .ok (.aload_n 0, 1) := by decide +kernel
theorem dX1_init_44 : decode cX1_init 44 = .ok (.iconst 3, 1) := by decide +kernel
theorem dX1_init_45 : decode cX1_init 45 = .ok (.newarray .int, 2) := by decide +kernel
theorem dX1_init_47 : decode cX1_init 47 = .ok (.putfield 27, 3) := by decide +kernel
theorem dX1_init_50 : decode cX1_init 50 = .ok (.return_, 1) := by decide +kernel
theorem dX1_isThere_0 : decode cX1_isThere 0 = .ok (.aload_n 0, 1) := by decide +kernel
theorem dX1_isThere_1 : decode cX1_isThere 1 = .ok (.getfield 30, 3) := by decide +kernel
theorem dX1_isThere_4 : decode cX1_isThere 4 = .ok (.ifCond .le 7, 3) := by decide +kernel
theorem dX1_isThere_7 : decode cX1_isThere 7 = .ok (.iconst 1, 1) := by decide +kernel
theorem dX1_isThere_8 : decode cX1_isThere 8 = .ok (.goto 4, 3) := by decide +kernel
theorem dX1_isThere_11 : decode cX1_isThere 11 = .ok (.iconst 0, 1) := by decide +kernel
theorem dX1_isThere_12 : decode cX1_isThere 12 = .ok (.ireturn, 1) := by decide +kernel
theorem dX1_isCube_0 : decode cX1_isCube 0 = .ok (.aload_n 0, 1) := by decide +kernel
theorem dX1_isCube_1 : decode cX1_isCube 1 = .ok (.getfield 11, 3) := by decide +kernel
theorem dX1_isCube_4 : decode cX1_isCube 4 = .ok (.iconst 0, 1) := by decide +kernel
theorem dX1_isCube_5 : decode cX1_isCube 5 = .ok (.iaload, 1) := by decide +kernel
theorem dX1_isCube_6 : decode cX1_isCube 6 = .ok (.aload_n 0, 1) := by decide +kernel
theorem dX1_isCube_7 : decode cX1_isCube 7 = .ok (.getfield 11, 3) := by decide +kernel
theorem dX1_isCube_10 : decode cX1_isCube 10 = .ok (.iconst 1, 1) := by decide +kernel
theorem dX1_isCube_11 : decode cX1_isCube 11 = .ok (.iaload, 1) := by decide +kernel
theorem dX1_isCube_12 : decode cX1_isCube 12 = .ok (.if_icmp .ne 22, 3) := by decide +kernel
theorem dX1_isCube_15 : decode cX1_isCube 15 = .ok (.aload_n 0, 1) := by decide +kernel
theorem dX1_isCube_16 : decode cX1_isCube 16 = .ok (.getfield 11, 3) := by decide +kernel
theorem dX1_isCube_19 : decode cX1_isCube 19 = .ok (.iconst 1, 1) := by decide +kernel
theorem dX1_isCube_20 : decode cX1_isCube 20 = .ok (.iaload, 1) := by decide +kernel
theorem dX1_isCube_21 : decode cX1_isCube 21 = .ok (.aload_n 0, 1) := by decide +kernel
theorem dX1_isCube_22 : decode cX1_isCube 22 = .ok (.getfield 11, 3) := by decide +kernel
theorem dX1_isCube_25 : decode cX1_isCube 25 = .ok (.iconst 2, 1) := by decide +kernel
theorem dX1_isCube_26 : decode cX1_isCube 26 = .ok (.iaload, 1) := by decide +kernel
theorem dX1_isCube_27 : decode cX1_isCube 27 = .ok (.if_icmp .ne 7, 3) := by decide +kernel
theorem dX1_isCube_30 : decode cX1_isCube 30 = .ok (.iconst 1, 1) := by decide +kernel
theorem dX1_isCube_31 : decode cX1_isCube 31 = .ok (.goto 4, 3) := by decide +kernel
theorem dX1_isCube_34 : decode cX1_isCube 34 = .ok (.iconst 0, 1) := by decide +kernel
theorem dX1_isCube_35 : decode cX1_isCube 35 = .ok (.ireturn, 1) := by decide +kernel
theorem dX1_hasCell_0 : decode cX1_hasCell 0 = .ok (.iload_n 1, 1) := by decide +kernel
theorem dX1_hasCell_1 : decode cX1_hasCell 1 = .ok (.ifCond .lt 15, 3) := by decide +kernel
theorem dX1_hasCell_4 : decode cX1_hasCell 4 = .ok (.iload_n 1, 1) := by decide +kernel
theorem dX1_hasCell_5 : decode cX1_hasCell 5 = .ok (.aload_n 0, 1) := by decide +kernel
theorem dX1_hasCell_6 : decode cX1_hasCell 6 = .ok (.getfield 30, 3) := by decide +kernel
theorem dX1_hasCell_9 : decode cX1_hasCell 9 = .ok (.if_icmp .ge 7, 3) := by decide +kernel
theorem dX1_hasCell_12 : decode cX1_hasCell 12 = .ok (.iconst 1, 1) := by decide +kernel
theorem dX1_hasCell_13 : decode cX1_hasCell 13 = .ok (.goto 4, 3) := by decide +kernel
theorem dX1_hasCell_16 : decode cX1_hasCell 16 = .ok (.iconst 0, 1) := by decide +kernel
theorem dX1_hasCell_17 : decode cX1_hasCell 17 = .ok (.ireturn, 1) := by decide +kernel
theorem dX1_length_0 : decode cX1_length 0 = .ok (.iload_n 1, 1) := by decide +kernel
theorem dX1_length_1 : decode cX1_length 1 = .ok (.iconst 0, 1) := by decide +kernel
theorem dX1_length_2 : decode cX1_length 2 = .ok (.iconst 2, 1) := by decide +kernel
theorem dX1_length_3 : decode cX1_length 3 = .ok (.invokestatic 34, 3) := by decide +kernel
theorem dX1_length_6 : decode cX1_length 6 = .ok (.ifCond .eq 12, 3) := by decide +kernel
theorem dX1_length_9 : decode cX1_length 9 = .ok (.aload_n 0, 1) := by decide +kernel
theorem dX1_length_10 : decode cX1_length 10 = .ok (.getfield 11, 3) := by decide +kernel
theorem dX1_length_13 : decode cX1_length 13 = .ok (.iload_n 1, 1) := by decide +kernel
theorem dX1_length_14 : decode cX1_length 14 = .ok (.iaload, 1) := by decide +kernel
theorem dX1_length_15 : decode cX1_length 15 = .ok (.goto 4, 3) := by decide +kernel
theorem dX1_length_18 : decode cX1_length 18 = .ok (.iconst 0, 1) := by decide +kernel
theorem dX1_length_19 : decode cX1_length 19 = .ok (.ireturn, 1) := by decide +kernel
theorem dX1_sideOf_0 : decode cX1_sideOf 0 = .ok (.aload_n 0, 1) := by decide +kernel
theorem dX1_sideOf_1 : decode cX1_sideOf 1 = .ok (.iload_n 1, 1) := by decide +kernel
theorem dX1_sideOf_2 : decode cX1_sideOf 2 = .ok (.invokevirtual 38, 3) := by decide +kernel
theorem dX1_sideOf_5 : decode cX1_sideOf 5 = .ok (.ifCond .eq 12, 3) := by decide +kernel
theorem dX1_sideOf_8 : decode cX1_sideOf 8 = .ok (.aload_n 0, 1) := by decide +kernel
theorem dX1_sideOf_9 : decode cX1_sideOf 9 = .ok (.getfield 18, 3) := by decide +kernel
theorem dX1_sideOf_12 : decode cX1_sideOf 12 = .ok (.iload_n 1, 1) := by decide +kernel
theorem dX1_sideOf_13 : decode cX1_sideOf 13 = .ok (.iaload, 1) := by decide +kernel
theorem dX1_sideOf_14 : decode cX1_sideOf 14 = .ok (.goto 5, 3) := by decide +kernel
theorem dX1_sideOf_17 : decode cX1_sideOf 17 = .ok (.bipush (-9), 2) := by decide +kernel
theorem dX1_sideOf_19 : decode cX1_sideOf 19 = .ok (.ireturn, 1) := by decide +kernel
theorem dX1_middleOf_0 : decode cX1_middleOf 0 = .ok (.aload_n 0, 1) := by decide +kernel
theorem dX1_middleOf_1 : decode cX1_middleOf 1 = .ok (.iload_n 1, 1) := by decide +kernel
theorem dX1_middleOf_2 : decode cX1_middleOf 2 = .ok (.invokevirtual 38, 3) := by decide +kernel
theorem dX1_middleOf_5 : decode cX1_middleOf 5 = .ok (.ifCond .eq 25, 3) := by decide +kernel
theorem dX1_middleOf_8 : decode cX1_middleOf 8 = .ok (.iload_n 2, 1) := by decide +kernel
theorem dX1_middleOf_9 : decode cX1_middleOf 9 = .ok (.iconst 0, 1) := by decide +kernel
theorem dX1_middleOf_10 : decode cX1_middleOf 10 = .ok (.iconst 2, 1) := by decide +kernel
theorem dX1_middleOf_11 : decode cX1_middleOf 11 = .ok (.invokestatic 34, 3) := by decide +kernel
theorem dX1_middleOf_14 : decode cX1_middleOf 14 = .ok (.ifCond .eq 16, 3) := by decide +kernel
theorem dX1_middleOf_17 : decode cX1_middleOf 17 = .ok (.aload_n 0, 1) := by decide +kernel
theorem dX1_middleOf_18 : decode cX1_middleOf 18 = .ok (.getfield 21, 3) := by decide +kernel
theorem dX1_middleOf_21 : decode cX1_middleOf 21 = .ok (.iconst 3, 1) := by decide +kernel
theorem dX1_middleOf_22 : decode cX1_middleOf 22 = .ok (.iload_n 1, 1) := by decide +kernel
theorem dX1_middleOf_23 : decode cX1_middleOf 23 = .ok (.imul, 1) := by decide +kernel
theorem dX1_middleOf_24 : decode cX1_middleOf 24 = .ok (.iload_n 2, 1) := by decide +kernel
theorem dX1_middleOf_25 : decode cX1_middleOf 25 = .ok (.iadd, 1) := by decide +kernel
theorem dX1_middleOf_26 : decode cX1_middleOf 26 = .ok (.iaload, 1) := by decide +kernel
theorem dX1_middleOf_27 : decode cX1_middleOf 27 = .ok (.goto 5, 3) := by decide +kernel
theorem dX1_middleOf_30 : decode cX1_middleOf 30 = .ok (.bipush (-9), 2) := by decide +kernel
theorem dX1_middleOf_32 : decode cX1_middleOf 32 = .ok (.ireturn, 1) := by decide +kernel
theorem dX1_leadsTo_0 : decode cX1_leadsTo 0 = .ok (.iload_n 1, 1) := by decide +kernel
theorem dX1_leadsTo_1 : decode cX1_leadsTo 1 = .ok (.iconst 2, 1) := by decide +kernel
theorem dX1_leadsTo_2 : decode cX1_leadsTo 2 = .ok (.ishr, 1) := by decide +kernel
theorem dX1_leadsTo_3 : decode cX1_leadsTo 3 = .ok (.istore_n 3, 1) := by decide +kernel
theorem dX1_leadsTo_4 : decode cX1_leadsTo 4 = .ok (.iload_n 1, 1) := by decide +kernel
theorem dX1_leadsTo_5 : decode cX1_leadsTo 5 = .ok (.iconst 3, 1) := by decide +kernel
theorem dX1_leadsTo_6 : decode cX1_leadsTo 6 = .ok (.iand, 1) := by decide +kernel
theorem dX1_leadsTo_7 : decode cX1_leadsTo 7 = .ok (.istore 4, 2) := by decide +kernel
theorem dX1_leadsTo_9 : decode cX1_leadsTo 9 = .ok (.aload_n 0, 1) := by decide +kernel
theorem dX1_leadsTo_10 : decode cX1_leadsTo 10 = .ok (.iload_n 3, 1) := by decide +kernel
theorem dX1_leadsTo_11 : decode cX1_leadsTo 11 = .ok (.invokevirtual 38, 3) := by decide +kernel
theorem dX1_leadsTo_14 : decode cX1_leadsTo 14 = .ok (.ifCond .ne 6, 3) := by decide +kernel
theorem dX1_leadsTo_17 : decode cX1_leadsTo 17 = .ok (.bipush (-9), 2) := by decide +kernel
theorem dX1_leadsTo_19 : decode cX1_leadsTo 19 = .ok (.ireturn, 1) := by decide +kernel
theorem dX1_leadsTo_20 : decode cX1_leadsTo 20 = .ok (.aload_n 0, 1) := by decide +kernel
theorem dX1_leadsTo_21 : decode cX1_leadsTo 21 = .ok (.getfield 24, 3) := by decide +kernel
theorem dX1_leadsTo_24 : decode cX1_leadsTo 24 = .ok (.iconst 4, 1) := by decide +kernel
theorem dX1_leadsTo_25 : decode cX1_leadsTo 25 = .ok (.iload_n 3, 1) := by decide +kernel
theorem dX1_leadsTo_26 : decode cX1_leadsTo 26 = .ok (.imul, 1) := by decide +kernel
theorem dX1_leadsTo_27 : decode cX1_leadsTo 27 = .ok (.iload_n 2, 1) := by decide +kernel
theorem dX1_leadsTo_28 : decode cX1_leadsTo 28 = .ok (.iload 4, 2) := by decide +kernel
theorem dX1_leadsTo_30 : decode cX1_leadsTo 30 = .ok (.iadd, 1) := by decide +kernel
theorem dX1_leadsTo_31 : decode cX1_leadsTo 31 = .ok (.iconst 3, 1) := by decide +kernel
theorem dX1_leadsTo_32 : decode cX1_leadsTo 32 = .ok (.iand, 1) := by decide +kernel
theorem dX1_leadsTo_33 : decode cX1_leadsTo 33 = .ok (.iadd, 1) := by decide +kernel
theorem dX1_leadsTo_34 : decode cX1_leadsTo 34 = .ok (.iaload, 1) := by decide +kernel
theorem dX1_leadsTo_35 : decode cX1_leadsTo 35 = .ok (.istore 5, 2) := by decide +kernel
theorem dX1_leadsTo_37 : decode cX1_leadsTo 37 = .ok (.iload 5, 2) := by decide +kernel
theorem dX1_leadsTo_39 : decode cX1_leadsTo 39 = .ok (.iconst 2, 1) := by decide +kernel
theorem dX1_leadsTo_40 : decode cX1_leadsTo 40 = .ok (.ishr, 1) := by decide +kernel
theorem dX1_leadsTo_41 : decode cX1_leadsTo 41 = .ok (.iload 5, 2) := by decide +kernel
theorem dX1_leadsTo_43 : decode cX1_leadsTo 43 = .ok (.iload 4, 2) := by decide +kernel
theorem dX1_leadsTo_45 : decode cX1_leadsTo 45 = .ok (.iadd, 1) := by decide +kernel
theorem dX1_leadsTo_46 : decode cX1_leadsTo 46 = .ok (.iconst 3, 1) := by decide +kernel
theorem dX1_leadsTo_47 : decode cX1_leadsTo 47 = .ok (.iand, 1) := by decide +kernel
theorem dX1_leadsTo_48 : decode cX1_leadsTo 48 = .ok (.invokestatic 42, 3) := by decide +kernel
theorem dX1_leadsTo_51 : decode cX1_leadsTo 51 = .ok (.ireturn, 1) := by decide +kernel
theorem dX1_build_0 : decode cX1_build 0 = .ok (.aload_n 0, 1) := by decide +kernel
theorem dX1_build_1 : decode cX1_build 1 = .ok (.getfield 11, 3) := by decide +kernel
theorem dX1_build_4 : decode cX1_build 4 = .ok (.iconst 0, 1) := by decide +kernel
theorem dX1_build_5 : decode cX1_build 5 = .ok (.iload_n 1, 1) := by decide +kernel
theorem dX1_build_6 : decode cX1_build 6 = .ok (.iastore, 1) := by decide +kernel
theorem dX1_build_7 : decode cX1_build 7 = .ok (.aload_n 0, 1) := by decide +kernel
theorem dX1_build_8 : decode cX1_build 8 = .ok (.getfield 11, 3) := by decide +kernel
theorem dX1_build_11 : decode cX1_build 11 = .ok (.iconst 1, 1) := by decide +kernel
theorem dX1_build_12 : decode cX1_build 12 = .ok (.iload_n 2, 1) := by decide +kernel
theorem dX1_build_13 : decode cX1_build 13 = .ok (.iastore, 1) := by decide +kernel
theorem dX1_build_14 : decode cX1_build 14 = .ok (.aload_n 0, 1) := by decide +kernel
theorem dX1_build_15 : decode cX1_build 15 = .ok (.getfield 11, 3) := by decide +kernel
theorem dX1_build_18 : decode cX1_build 18 = .ok (.iconst 2, 1) := by decide +kernel
theorem dX1_build_19 : decode cX1_build 19 = .ok (.iload_n 3, 1) := by decide +kernel
theorem dX1_build_20 : decode cX1_build 20 = .ok (.iastore, 1) := by decide +kernel
theorem dX1_build_21 : decode cX1_build 21 = .ok (.aload_n 0, 1) := by decide +kernel
theorem dX1_build_22 : decode cX1_build 22 = .ok (.iconst 0, 1) := by decide +kernel
theorem dX1_build_23 : decode cX1_build 23 = .ok (.putfield 30, 3) := by decide +kernel
theorem dX1_build_26 : decode cX1_build 26 = .ok (.iconst 0, 1) := by decide +kernel
theorem dX1_build_27 : decode cX1_build 27 = .ok (.istore 4, 2) := by decide +kernel
theorem dX1_build_29 : decode cX1_build 29 = .ok (.iload 4, 2) := by decide +kernel
theorem dX1_build_31 : decode cX1_build 31 = .ok (.bipush 6, 2) := by decide +kernel
theorem dX1_build_33 : decode cX1_build 33 = .ok (.if_icmp .ge 26, 3) := by decide +kernel
theorem dX1_build_36 : decode cX1_build 36 = .ok (.aload_n 0, 1) := by decide +kernel
theorem dX1_build_37 : decode cX1_build 37 = .ok (.getfield 15, 3) := by decide +kernel
theorem dX1_build_40 : decode cX1_build 40 = .ok (.iload 4, 2) := by decide +kernel
theorem dX1_build_42 : decode cX1_build 42 = .ok (.aload_n 0, 1) := by decide +kernel
theorem dX1_build_43 : decode cX1_build 43 = .ok (.getfield 30, 3) := by decide +kernel
theorem dX1_build_46 : decode cX1_build 46 = .ok (.iastore, 1) := by decide +kernel
theorem dX1_build_47 : decode cX1_build 47 = .ok (.aload_n 0, 1) := by decide +kernel
theorem dX1_build_48 : decode cX1_build 48 = .ok (.iload 4, 2) := by decide +kernel
theorem dX1_build_50 : decode cX1_build 50 = .ok (.invokevirtual 46, 3) := by decide +kernel
theorem dX1_build_53 : decode cX1_build 53 = .ok (.iinc 4 1, 3) := by decide +kernel
theorem dX1_build_56 : decode cX1_build 56 = .ok (.goto (-27), 3) := by decide +kernel
theorem dX1_build_59 : decode cX1_build 59 = .ok (.iconst 0, 1) := by decide +kernel
theorem dX1_build_60 : decode cX1_build 60 = .ok (.istore 4, 2) := by decide +kernel
theorem dX1_build_62 : decode cX1_build 62 = .ok (.iload 4, 2) := by decide +kernel
theorem dX1_build_64 : decode cX1_build 64 = .ok (.aload_n 0, 1) := by decide +kernel
theorem dX1_build_65 : decode cX1_build 65 = .ok (.getfield 30, 3) := by decide +kernel
theorem dX1_build_68 : decode cX1_build 68 = .ok (.if_icmp .ge 44, 3) := by decide +kernel
theorem dX1_build_71 : decode cX1_build 71 = .ok (.iconst 0, 1) := by decide +kernel
theorem dX1_build_72 : decode cX1_build 72 = .ok (.istore 5, 2) := by decide +kernel
theorem dX1_build_74 : decode cX1_build 74 = .ok (.iload 5, 2) := by decide +kernel
theorem dX1_build_76 : decode cX1_build 76 = .ok (.iconst 4, 1) := by decide +kernel
theorem dX1_build_77 : decode cX1_build 77 = .ok (.if_icmp .ge 29, 3) := by decide +kernel
theorem dX1_build_80 : decode cX1_build 80 = .ok (.aload_n 0, 1) := by decide +kernel
theorem dX1_build_81 : decode cX1_build 81 = .ok (.getfield 24, 3) := by decide +kernel
theorem dX1_build_84 : decode cX1_build 84 = .ok (.iconst 4, 1) := by decide +kernel
theorem dX1_build_85 : decode cX1_build 85 = .ok (.iload 4, 2) := by decide +kernel
theorem dX1_build_87 : decode cX1_build 87 = .ok (.imul, 1) := by decide +kernel
theorem dX1_build_88 : decode cX1_build 88 = .ok (.iload 5, 2) := by decide +kernel
theorem dX1_build_90 : decode cX1_build 90 = .ok (.iadd, 1) := by decide +kernel
theorem dX1_build_91 : decode cX1_build 91 = .ok (.aload_n 0, 1) := by decide +kernel
theorem dX1_build_92 : decode cX1_build 92 = .ok (.iload 4, 2) := by decide +kernel
theorem dX1_build_94 : decode cX1_build 94 = .ok (.iload 5, 2) := by decide +kernel
theorem dX1_build_96 : decode cX1_build 96 = .ok (.invokevirtual 50, 3) := by decide +kernel
theorem dX1_build_99 : decode cX1_build 99 = .ok (.iastore, 1) := by decide +kernel
theorem dX1_build_100 : decode cX1_build 100 = .ok (.iinc 5 1, 3) := by decide +kernel
theorem dX1_build_103 : decode cX1_build 103 = .ok (.goto (-29), 3) := by decide +kernel
theorem dX1_build_106 : decode cX1_build 106 = .ok (.iinc 4 1, 3) := by decide +kernel
theorem dX1_build_109 : decode cX1_build 109 = .ok (.goto (-47), 3) := by decide +kernel
theorem dX1_build_112 : decode cX1_build 112 = .ok (.return_, 1) := by decide +kernel
theorem dX1_numberSide_0 : decode cX1_numberSide 0 = .ok (.getstatic 53, 3) := by decide +kernel
theorem dX1_numberSide_3 : decode cX1_numberSide 3 = .ok (.iload_n 1, 1) := by decide +kernel
theorem dX1_numberSide_4 : decode cX1_numberSide 4 = .ok (.iconst 1, 1) := by decide +kernel
theorem dX1_numberSide_5 : decode cX1_numberSide 5 = .ok (.ishr, 1) := by decide +kernel
theorem dX1_numberSide_6 : decode cX1_numberSide 6 = .ok (.iaload, 1) := by decide +kernel
theorem dX1_numberSide_7 : decode cX1_numberSide 7 = .ok (.istore_n 2, 1) := by decide +kernel
theorem dX1_numberSide_8 : decode cX1_numberSide 8 = .ok (.getstatic 56, 3) := by decide +kernel
theorem dX1_numberSide_11 : decode cX1_numberSide 11 = .ok (.iload_n 1, 1) := by decide +kernel
theorem dX1_numberSide_12 : decode cX1_numberSide 12 = .ok (.iconst 1, 1) := by decide +kernel
theorem dX1_numberSide_13 : decode cX1_numberSide 13 = .ok (.ishr, 1) := by decide +kernel
theorem dX1_numberSide_14 : decode cX1_numberSide 14 = .ok (.iaload, 1) := by decide +kernel
theorem dX1_numberSide_15 : decode cX1_numberSide 15 = .ok (.istore_n 3, 1) := by decide +kernel
theorem dX1_numberSide_16 : decode cX1_numberSide 16 = .ok (.iconst 0, 1) := by decide +kernel
theorem dX1_numberSide_17 : decode cX1_numberSide 17 = .ok (.istore 4, 2) := by decide +kernel
theorem dX1_numberSide_19 : decode cX1_numberSide 19 = .ok (.iload 4, 2) := by decide +kernel
theorem dX1_numberSide_21 : decode cX1_numberSide 21 = .ok (.aload_n 0, 1) := by decide +kernel
theorem dX1_numberSide_22 : decode cX1_numberSide 22 = .ok (.getfield 11, 3) := by decide +kernel
theorem dX1_numberSide_25 : decode cX1_numberSide 25 = .ok (.iload_n 2, 1) := by decide +kernel
theorem dX1_numberSide_26 : decode cX1_numberSide 26 = .ok (.iaload, 1) := by decide +kernel
theorem dX1_numberSide_27 : decode cX1_numberSide 27 = .ok (.if_icmp .ge 116, 3) := by decide +kernel
theorem dX1_numberSide_30 : decode cX1_numberSide 30 = .ok (.iconst 0, 1) := by decide +kernel
theorem dX1_numberSide_31 : decode cX1_numberSide 31 = .ok (.istore 5, 2) := by decide +kernel
theorem dX1_numberSide_33 : decode cX1_numberSide 33 = .ok (.iload 5, 2) := by decide +kernel
theorem dX1_numberSide_35 : decode cX1_numberSide 35 = .ok (.aload_n 0, 1) := by decide +kernel
theorem dX1_numberSide_36 : decode cX1_numberSide 36 = .ok (.getfield 11, 3) := by decide +kernel
theorem dX1_numberSide_39 : decode cX1_numberSide 39 = .ok (.iload_n 3, 1) := by decide +kernel
theorem dX1_numberSide_40 : decode cX1_numberSide 40 = .ok (.iaload, 1) := by decide +kernel
theorem dX1_numberSide_41 : decode cX1_numberSide 41 = .ok (.if_icmp .ge 96, 3) := by decide +kernel
theorem dX1_numberSide_44 : decode cX1_numberSide 44 = .ok (.aload_n 0, 1) := by decide +kernel
theorem dX1_numberSide_45 : decode cX1_numberSide 45 = .ok (.getfield 30, 3) := by decide +kernel
theorem dX1_numberSide_48 : decode cX1_numberSide 48 = .ok (.bipush 24, 2) := by decide +kernel
theorem dX1_numberSide_50 : decode cX1_numberSide 50 = .ok (.if_icmp .ge 87, 3) := by decide +kernel
theorem dX1_numberSide_53 : decode cX1_numberSide 53 = .ok (.aload_n 0, 1) := by decide +kernel
theorem dX1_numberSide_54 : decode cX1_numberSide 54 = .ok (.getfield 18, 3) := by decide +kernel
theorem dX1_numberSide_57 : decode cX1_numberSide 57 = .ok (.aload_n 0, 1) := by decide +kernel
theorem dX1_numberSide_58 : decode cX1_numberSide 58 = .ok (.getfield 30, 3) := by decide +kernel
theorem dX1_numberSide_61 : decode cX1_numberSide 61 = .ok (.iload_n 1, 1) := by decide +kernel
theorem dX1_numberSide_62 : decode cX1_numberSide 62 = .ok (.iastore, 1) := by decide +kernel
theorem dX1_numberSide_63 : decode cX1_numberSide 63 = .ok (.aload_n 0, 1) := by decide +kernel
theorem dX1_numberSide_64 : decode cX1_numberSide 64 = .ok (.getfield 21, 3) := by decide +kernel
theorem dX1_numberSide_67 : decode cX1_numberSide 67 = .ok (.iconst 3, 1) := by decide +kernel
theorem dX1_numberSide_68 : decode cX1_numberSide 68 = .ok (.aload_n 0, 1) := by decide +kernel
theorem dX1_numberSide_69 : decode cX1_numberSide 69 = .ok (.getfield 30, 3) := by decide +kernel
theorem dX1_numberSide_72 : decode cX1_numberSide 72 = .ok (.imul, 1) := by decide +kernel
theorem dX1_numberSide_73 : decode cX1_numberSide 73 = .ok (.iload_n 1, 1) := by decide +kernel
theorem dX1_numberSide_74 : decode cX1_numberSide 74 = .ok (.iconst 1, 1) := by decide +kernel
theorem dX1_numberSide_75 : decode cX1_numberSide 75 = .ok (.ishr, 1) := by decide +kernel
theorem dX1_numberSide_76 : decode cX1_numberSide 76 = .ok (.iadd, 1) := by decide +kernel
theorem dX1_numberSide_77 : decode cX1_numberSide 77 = .ok (.aload_n 0, 1) := by decide +kernel
theorem dX1_numberSide_78 : decode cX1_numberSide 78 = .ok (.iload_n 1, 1) := by decide +kernel
theorem dX1_numberSide_79 : decode cX1_numberSide 79 = .ok (.invokevirtual 59, 3) := by decide +kernel
theorem dX1_numberSide_82 : decode cX1_numberSide 82 = .ok (.iastore, 1) := by decide +kernel
theorem dX1_numberSide_83 : decode cX1_numberSide 83 = .ok (.aload_n 0, 1) := by decide +kernel
theorem dX1_numberSide_84 : decode cX1_numberSide 84 = .ok (.getfield 21, 3) := by decide +kernel
theorem dX1_numberSide_87 : decode cX1_numberSide 87 = .ok (.iconst 3, 1) := by decide +kernel
theorem dX1_numberSide_88 : decode cX1_numberSide 88 = .ok (.aload_n 0, 1) := by decide +kernel
theorem dX1_numberSide_89 : decode cX1_numberSide 89 = .ok (.getfield 30, 3) := by decide +kernel
theorem dX1_numberSide_92 : decode cX1_numberSide 92 = .ok (.imul, 1) := by decide +kernel
theorem dX1_numberSide_93 : decode cX1_numberSide 93 = .ok (.iload_n 2, 1) := by decide +kernel
theorem dX1_numberSide_94 : decode cX1_numberSide 94 = .ok (.iadd, 1) := by decide +kernel
theorem dX1_numberSide_95 : decode cX1_numberSide 95 = .ok (.iconst 2, 1) := by decide +kernel
theorem dX1_numberSide_96 : decode cX1_numberSide 96 = .ok (.iload 4, 2) := by decide +kernel
theorem dX1_numberSide_98 : decode cX1_numberSide 98 = .ok (.imul, 1) := by decide +kernel
theorem dX1_numberSide_99 : decode cX1_numberSide 99 = .ok (.iconst 1, 1) := by decide +kernel
theorem dX1_numberSide_100 : decode cX1_numberSide 100 = .ok (.iadd, 1) := by decide +kernel
theorem dX1_numberSide_101 : decode cX1_numberSide 101 = .ok (.iastore, 1) := by decide +kernel
theorem dX1_numberSide_102 : decode cX1_numberSide 102 = .ok (.aload_n 0, 1) := by decide +kernel
theorem dX1_numberSide_103 : decode cX1_numberSide 103 = .ok (.getfield 21, 3) := by decide +kernel
theorem dX1_numberSide_106 : decode cX1_numberSide 106 = .ok (.iconst 3, 1) := by decide +kernel
theorem dX1_numberSide_107 : decode cX1_numberSide 107 = .ok (.aload_n 0, 1) := by decide +kernel
theorem dX1_numberSide_108 : decode cX1_numberSide 108 = .ok (.getfield 30, 3) := by decide +kernel
theorem dX1_numberSide_111 : decode cX1_numberSide 111 = .ok (.imul, 1) := by decide +kernel
theorem dX1_numberSide_112 : decode cX1_numberSide 112 = .ok (.iload_n 3, 1) := by decide +kernel
theorem dX1_numberSide_113 : decode cX1_numberSide 113 = .ok (.iadd, 1) := by decide +kernel
theorem dX1_numberSide_114 : decode cX1_numberSide 114 = .ok (.iconst 2, 1) := by decide +kernel
theorem dX1_numberSide_115 : decode cX1_numberSide 115 = .ok (.iload 5, 2) := by decide +kernel
theorem dX1_numberSide_117 : decode cX1_numberSide 117 = .ok (.imul, 1) := by decide +kernel
theorem dX1_numberSide_118 : decode cX1_numberSide 118 = .ok (.iconst 1, 1) := by decide +kernel
theorem dX1_numberSide_119 : decode cX1_numberSide 119 = .ok (.iadd, 1) := by decide +kernel
theorem dX1_numberSide_120 : decode cX1_numberSide 120 = .ok (.iastore, 1) := by decide +kernel
theorem dX1_numberSide_121 : decode cX1_numberSide 121 = .ok (.aload_n 0, 1) := by decide +kernel
theorem dX1_numberSide_122 : decode cX1_numberSide 122 = .ok (.dup, 1) := by decide +kernel
theorem dX1_numberSide_123 : decode cX1_numberSide 123 = .ok (.getfield 30, 3) := by decide +kernel
theorem dX1_numberSide_126 : decode cX1_numberSide 126 = .ok (.iconst 1, 1) := by decide +kernel
theorem dX1_numberSide_127 : decode cX1_numberSide 127 = .ok (.iadd, 1) := by decide +kernel
theorem dX1_numberSide_128 : decode cX1_numberSide 128 = .ok (.putfield 30, 3) := by decide +kernel
theorem dX1_numberSide_131 : decode cX1_numberSide 131 = .ok (.iinc 5 1, 3) := by decide +kernel
theorem dX1_numberSide_134 : decode cX1_numberSide 134 = .ok (.goto (-101), 3) := by decide +kernel
theorem dX1_numberSide_137 : decode cX1_numberSide 137 = .ok (.iinc 4 1, 3) := by decide +kernel
theorem dX1_numberSide_140 : decode cX1_numberSide 140 = .ok (.goto (-121), 3) := by decide +kernel
theorem dX1_numberSide_143 : decode cX1_numberSide 143 = .ok (.return_, 1) := by decide +kernel
theorem dX1_endAt_0 : decode cX1_endAt 0 = .ok (.iload_n 1, 1) := by decide +kernel
theorem dX1_endAt_1 : decode cX1_endAt 1 = .ok (.iconst 1, 1) := by decide +kernel
theorem dX1_endAt_2 : decode cX1_endAt 2 = .ok (.iand, 1) := by decide +kernel
theorem dX1_endAt_3 : decode cX1_endAt 3 = .ok (.ifCond .ne 7, 3) := by decide +kernel
theorem dX1_endAt_6 : decode cX1_endAt 6 = .ok (.iconst 0, 1) := by decide +kernel
theorem dX1_endAt_7 : decode cX1_endAt 7 = .ok (.goto 12, 3) := by decide +kernel
theorem dX1_endAt_10 : decode cX1_endAt 10 = .ok (.iconst 2, 1) := by decide +kernel
theorem dX1_endAt_11 : decode cX1_endAt 11 = .ok (.aload_n 0, 1) := by decide +kernel
theorem dX1_endAt_12 : decode cX1_endAt 12 = .ok (.iload_n 1, 1) := by decide +kernel
theorem dX1_endAt_13 : decode cX1_endAt 13 = .ok (.iconst 1, 1) := by decide +kernel
theorem dX1_endAt_14 : decode cX1_endAt 14 = .ok (.ishr, 1) := by decide +kernel
theorem dX1_endAt_15 : decode cX1_endAt 15 = .ok (.invokevirtual 63, 3) := by decide +kernel
theorem dX1_endAt_18 : decode cX1_endAt 18 = .ok (.imul, 1) := by decide +kernel
theorem dX1_endAt_19 : decode cX1_endAt 19 = .ok (.ireturn, 1) := by decide +kernel
theorem dX1_arrivalFrom_0 : decode cX1_arrivalFrom 0 = .ok (.aload_n 0, 1) := by decide +kernel
theorem dX1_arrivalFrom_1 : decode cX1_arrivalFrom 1 = .ok (.getfield 18, 3) := by decide +kernel
theorem dX1_arrivalFrom_4 : decode cX1_arrivalFrom 4 = .ok (.iload_n 1, 1) := by decide +kernel
theorem dX1_arrivalFrom_5 : decode cX1_arrivalFrom 5 = .ok (.iaload, 1) := by decide +kernel
theorem dX1_arrivalFrom_6 : decode cX1_arrivalFrom 6 = .ok (.istore_n 3, 1) := by decide +kernel
theorem dX1_arrivalFrom_7 : decode cX1_arrivalFrom 7 = .ok (.iload_n 3, 1) := by decide +kernel
theorem dX1_arrivalFrom_8 : decode cX1_arrivalFrom 8 = .ok (.iload_n 2, 1) := by decide +kernel
theorem dX1_arrivalFrom_9 : decode cX1_arrivalFrom 9 = .ok (.invokestatic 66, 3) := by decide +kernel
theorem dX1_arrivalFrom_12 : decode cX1_arrivalFrom 12 = .ok (.istore 4, 2) := by decide +kernel
theorem dX1_arrivalFrom_14 : decode cX1_arrivalFrom 14 = .ok (.iconst 0, 1) := by decide +kernel
theorem dX1_arrivalFrom_15 : decode cX1_arrivalFrom 15 = .ok (.istore 5, 2) := by decide +kernel
theorem dX1_arrivalFrom_17 : decode cX1_arrivalFrom 17 = .ok (.iload 5, 2) := by decide +kernel
theorem dX1_arrivalFrom_19 : decode cX1_arrivalFrom 19 = .ok (.iconst 3, 1) := by decide +kernel
theorem dX1_arrivalFrom_20 : decode cX1_arrivalFrom 20 = .ok (.if_icmp .ge 27, 3) := by decide +kernel
theorem dX1_arrivalFrom_23 : decode cX1_arrivalFrom 23 = .ok (.aload_n 0, 1) := by decide +kernel
theorem dX1_arrivalFrom_24 : decode cX1_arrivalFrom 24 = .ok (.getfield 27, 3) := by decide +kernel
theorem dX1_arrivalFrom_27 : decode cX1_arrivalFrom 27 = .ok (.iload 5, 2) := by decide +kernel
theorem dX1_arrivalFrom_29 : decode cX1_arrivalFrom 29 = .ok (.aload_n 0, 1) := by decide +kernel
theorem dX1_arrivalFrom_30 : decode cX1_arrivalFrom 30 = .ok (.getfield 21, 3) := by decide +kernel
theorem dX1_arrivalFrom_33 : decode cX1_arrivalFrom 33 = .ok (.iconst 3, 1) := by decide +kernel
theorem dX1_arrivalFrom_34 : decode cX1_arrivalFrom 34 = .ok (.iload_n 1, 1) := by decide +kernel
theorem dX1_arrivalFrom_35 : decode cX1_arrivalFrom 35 = .ok (.imul, 1) := by decide +kernel
theorem dX1_arrivalFrom_36 : decode cX1_arrivalFrom 36 = .ok (.iload 5, 2) := by decide +kernel
theorem dX1_arrivalFrom_38 : decode cX1_arrivalFrom 38 = .ok (.iadd, 1) := by decide +kernel
theorem dX1_arrivalFrom_39 : decode cX1_arrivalFrom 39 = .ok (.iaload, 1) := by decide +kernel
theorem dX1_arrivalFrom_40 : decode cX1_arrivalFrom 40 = .ok (.iastore, 1) := by decide +kernel
theorem dX1_arrivalFrom_41 : decode cX1_arrivalFrom 41 = .ok (.iinc 5 1, 3) := by decide +kernel
theorem dX1_arrivalFrom_44 : decode cX1_arrivalFrom 44 = .ok (.goto (-27), 3) := by decide +kernel
theorem dX1_arrivalFrom_47 : decode cX1_arrivalFrom 47 = .ok (.aload_n 0, 1) := by decide +kernel
theorem dX1_arrivalFrom_48 : decode cX1_arrivalFrom 48 = .ok (.getfield 27, 3) := by decide +kernel
theorem dX1_arrivalFrom_51 : decode cX1_arrivalFrom 51 = .ok (.iload 4, 2) := by decide +kernel
theorem dX1_arrivalFrom_53 : decode cX1_arrivalFrom 53 = .ok (.iconst 1, 1) := by decide +kernel
theorem dX1_arrivalFrom_54 : decode cX1_arrivalFrom 54 = .ok (.ishr, 1) := by decide +kernel
theorem dX1_arrivalFrom_55 : decode cX1_arrivalFrom 55 = .ok (.iaload, 1) := by decide +kernel
theorem dX1_arrivalFrom_56 : decode cX1_arrivalFrom 56 = .ok (.iconst 2, 1) := by decide +kernel
theorem dX1_arrivalFrom_57 : decode cX1_arrivalFrom 57 = .ok (.iload 4, 2) := by decide +kernel
theorem dX1_arrivalFrom_59 : decode cX1_arrivalFrom 59 = .ok (.invokestatic 69, 3) := by decide +kernel
theorem dX1_arrivalFrom_62 : decode cX1_arrivalFrom 62 = .ok (.imul, 1) := by decide +kernel
theorem dX1_arrivalFrom_63 : decode cX1_arrivalFrom 63 = .ok (.iadd, 1) := by decide +kernel
theorem dX1_arrivalFrom_64 : decode cX1_arrivalFrom 64 = .ok (.istore 5, 2) := by decide +kernel
theorem dX1_arrivalFrom_66 : decode cX1_arrivalFrom 66 = .ok (.iload 5, 2) := by decide +kernel
theorem dX1_arrivalFrom_68 : decode cX1_arrivalFrom 68 = .ok (.ifCond .le 40, 3) := by decide +kernel
theorem dX1_arrivalFrom_71 : decode cX1_arrivalFrom 71 = .ok (.iload 5, 2) := by decide +kernel
theorem dX1_arrivalFrom_73 : decode cX1_arrivalFrom 73 = .ok (.iconst 2, 1) := by decide +kernel
theorem dX1_arrivalFrom_74 : decode cX1_arrivalFrom 74 = .ok (.aload_n 0, 1) := by decide +kernel
theorem dX1_arrivalFrom_75 : decode cX1_arrivalFrom 75 = .ok (.getfield 11, 3) := by decide +kernel
theorem dX1_arrivalFrom_78 : decode cX1_arrivalFrom 78 = .ok (.iload 4, 2) := by decide +kernel
theorem dX1_arrivalFrom_80 : decode cX1_arrivalFrom 80 = .ok (.iconst 1, 1) := by decide +kernel
theorem dX1_arrivalFrom_81 : decode cX1_arrivalFrom 81 = .ok (.ishr, 1) := by decide +kernel
theorem dX1_arrivalFrom_82 : decode cX1_arrivalFrom 82 = .ok (.iaload, 1) := by decide +kernel
theorem dX1_arrivalFrom_83 : decode cX1_arrivalFrom 83 = .ok (.imul, 1) := by decide +kernel
theorem dX1_arrivalFrom_84 : decode cX1_arrivalFrom 84 = .ok (.if_icmp .ge 24, 3) := by decide +kernel
theorem dX1_arrivalFrom_87 : decode cX1_arrivalFrom 87 = .ok (.aload_n 0, 1) := by decide +kernel
theorem dX1_arrivalFrom_88 : decode cX1_arrivalFrom 88 = .ok (.getfield 27, 3) := by decide +kernel
theorem dX1_arrivalFrom_91 : decode cX1_arrivalFrom 91 = .ok (.iload 4, 2) := by decide +kernel
theorem dX1_arrivalFrom_93 : decode cX1_arrivalFrom 93 = .ok (.iconst 1, 1) := by decide +kernel
theorem dX1_arrivalFrom_94 : decode cX1_arrivalFrom 94 = .ok (.ishr, 1) := by decide +kernel
theorem dX1_arrivalFrom_95 : decode cX1_arrivalFrom 95 = .ok (.iload 5, 2) := by decide +kernel
theorem dX1_arrivalFrom_97 : decode cX1_arrivalFrom 97 = .ok (.iastore, 1) := by decide +kernel
theorem dX1_arrivalFrom_98 : decode cX1_arrivalFrom 98 = .ok (.aload_n 0, 1) := by decide +kernel
theorem dX1_arrivalFrom_99 : decode cX1_arrivalFrom 99 = .ok (.iload_n 3, 1) := by decide +kernel
theorem dX1_arrivalFrom_100 : decode cX1_arrivalFrom 100 = .ok (.invokevirtual 72, 3) := by decide +kernel
theorem dX1_arrivalFrom_103 : decode cX1_arrivalFrom 103 = .ok (.iconst 0, 1) := by decide +kernel
theorem dX1_arrivalFrom_104 : decode cX1_arrivalFrom 104 = .ok (.invokestatic 42, 3) := by decide +kernel
theorem dX1_arrivalFrom_107 : decode cX1_arrivalFrom 107 = .ok (.ireturn, 1) := by decide +kernel
theorem dX1_arrivalFrom_108 : decode cX1_arrivalFrom 108 = .ok (.aload_n 0, 1) := by decide +kernel
theorem dX1_arrivalFrom_109 : decode cX1_arrivalFrom 109 = .ok (.getfield 27, 3) := by decide +kernel
theorem dX1_arrivalFrom_112 : decode cX1_arrivalFrom 112 = .ok (.iload 4, 2) := by decide +kernel
theorem dX1_arrivalFrom_114 : decode cX1_arrivalFrom 114 = .ok (.iconst 1, 1) := by decide +kernel
theorem dX1_arrivalFrom_115 : decode cX1_arrivalFrom 115 = .ok (.ishr, 1) := by decide +kernel
theorem dX1_arrivalFrom_116 : decode cX1_arrivalFrom 116 = .ok (.aload_n 0, 1) := by decide +kernel
theorem dX1_arrivalFrom_117 : decode cX1_arrivalFrom 117 = .ok (.iload 4, 2) := by decide +kernel
theorem dX1_arrivalFrom_119 : decode cX1_arrivalFrom 119 = .ok (.invokevirtual 59, 3) := by decide +kernel
theorem dX1_arrivalFrom_122 : decode cX1_arrivalFrom 122 = .ok (.iastore, 1) := by decide +kernel
theorem dX1_arrivalFrom_123 : decode cX1_arrivalFrom 123 = .ok (.aload_n 0, 1) := by decide +kernel
theorem dX1_arrivalFrom_124 : decode cX1_arrivalFrom 124 = .ok (.getfield 27, 3) := by decide +kernel
theorem dX1_arrivalFrom_127 : decode cX1_arrivalFrom 127 = .ok (.iload_n 3, 1) := by decide +kernel
theorem dX1_arrivalFrom_128 : decode cX1_arrivalFrom 128 = .ok (.iconst 1, 1) := by decide +kernel
theorem dX1_arrivalFrom_129 : decode cX1_arrivalFrom 129 = .ok (.ishr, 1) := by decide +kernel
theorem dX1_arrivalFrom_130 : decode cX1_arrivalFrom 130 = .ok (.aload_n 0, 1) := by decide +kernel
theorem dX1_arrivalFrom_131 : decode cX1_arrivalFrom 131 = .ok (.iload_n 3, 1) := by decide +kernel
theorem dX1_arrivalFrom_132 : decode cX1_arrivalFrom 132 = .ok (.invokevirtual 59, 3) := by decide +kernel
theorem dX1_arrivalFrom_135 : decode cX1_arrivalFrom 135 = .ok (.iload_n 3, 1) := by decide +kernel
theorem dX1_arrivalFrom_136 : decode cX1_arrivalFrom 136 = .ok (.invokestatic 69, 3) := by decide +kernel
theorem dX1_arrivalFrom_139 : decode cX1_arrivalFrom 139 = .ok (.isub, 1) := by decide +kernel
theorem dX1_arrivalFrom_140 : decode cX1_arrivalFrom 140 = .ok (.iastore, 1) := by decide +kernel
theorem dX1_arrivalFrom_141 : decode cX1_arrivalFrom 141 = .ok (.iload_n 3, 1) := by decide +kernel
theorem dX1_arrivalFrom_142 : decode cX1_arrivalFrom 142 = .ok (.iconst 0, 1) := by decide +kernel
theorem dX1_arrivalFrom_143 : decode cX1_arrivalFrom 143 = .ok (.invokestatic 66, 3) := by decide +kernel
theorem dX1_arrivalFrom_146 : decode cX1_arrivalFrom 146 = .ok (.iload 4, 2) := by decide +kernel
theorem dX1_arrivalFrom_148 : decode cX1_arrivalFrom 148 = .ok (.iload_n 3, 1) := by decide +kernel
theorem dX1_arrivalFrom_149 : decode cX1_arrivalFrom 149 = .ok (.invokestatic 75, 3) := by decide +kernel
theorem dX1_arrivalFrom_152 : decode cX1_arrivalFrom 152 = .ok (.istore 6, 2) := by decide +kernel
theorem dX1_arrivalFrom_154 : decode cX1_arrivalFrom 154 = .ok (.aload_n 0, 1) := by decide +kernel
theorem dX1_arrivalFrom_155 : decode cX1_arrivalFrom 155 = .ok (.iload 4, 2) := by decide +kernel
theorem dX1_arrivalFrom_157 : decode cX1_arrivalFrom 157 = .ok (.invokevirtual 72, 3) := by decide +kernel
theorem dX1_arrivalFrom_160 : decode cX1_arrivalFrom 160 = .ok (.iload 4, 2) := by decide +kernel
theorem dX1_arrivalFrom_162 : decode cX1_arrivalFrom 162 = .ok (.iload 6, 2) := by decide +kernel
theorem dX1_arrivalFrom_164 : decode cX1_arrivalFrom 164 = .ok (.invokestatic 79, 3) := by decide +kernel
theorem dX1_arrivalFrom_167 : decode cX1_arrivalFrom 167 = .ok (.invokestatic 42, 3) := by decide +kernel
theorem dX1_arrivalFrom_170 : decode cX1_arrivalFrom 170 = .ok (.ireturn, 1) := by decide +kernel
theorem dX1_cellAtSpot_0 : decode cX1_cellAtSpot 0 = .ok (.getstatic 53, 3) := by decide +kernel
theorem dX1_cellAtSpot_3 : decode cX1_cellAtSpot 3 = .ok (.iload_n 1, 1) := by decide +kernel
theorem dX1_cellAtSpot_4 : decode cX1_cellAtSpot 4 = .ok (.iconst 1, 1) := by decide +kernel
theorem dX1_cellAtSpot_5 : decode cX1_cellAtSpot 5 = .ok (.ishr, 1) := by decide +kernel
theorem dX1_cellAtSpot_6 : decode cX1_cellAtSpot 6 = .ok (.iaload, 1) := by decide +kernel
theorem dX1_cellAtSpot_7 : decode cX1_cellAtSpot 7 = .ok (.istore_n 2, 1) := by decide +kernel
theorem dX1_cellAtSpot_8 : decode cX1_cellAtSpot 8 = .ok (.getstatic 56, 3) := by decide +kernel
theorem dX1_cellAtSpot_11 : decode cX1_cellAtSpot 11 = .ok (.iload_n 1, 1) := by decide +kernel
theorem dX1_cellAtSpot_12 : decode cX1_cellAtSpot 12 = .ok (.iconst 1, 1) := by decide +kernel
theorem dX1_cellAtSpot_13 : decode cX1_cellAtSpot 13 = .ok (.ishr, 1) := by decide +kernel
theorem dX1_cellAtSpot_14 : decode cX1_cellAtSpot 14 = .ok (.iaload, 1) := by decide +kernel
theorem dX1_cellAtSpot_15 : decode cX1_cellAtSpot 15 = .ok (.istore_n 3, 1) := by decide +kernel
theorem dX1_cellAtSpot_16 : decode cX1_cellAtSpot 16 = .ok (.aload_n 0, 1) := by decide +kernel
theorem dX1_cellAtSpot_17 : decode cX1_cellAtSpot 17 = .ok (.getfield 15, 3) := by decide +kernel
theorem dX1_cellAtSpot_20 : decode cX1_cellAtSpot 20 = .ok (.iload_n 1, 1) := by decide +kernel
theorem dX1_cellAtSpot_21 : decode cX1_cellAtSpot 21 = .ok (.iaload, 1) := by decide +kernel
theorem dX1_cellAtSpot_22 : decode cX1_cellAtSpot 22 = .ok (.aload_n 0, 1) := by decide +kernel
theorem dX1_cellAtSpot_23 : decode cX1_cellAtSpot 23 = .ok (.getfield 27, 3) := by decide +kernel
theorem dX1_cellAtSpot_26 : decode cX1_cellAtSpot 26 = .ok (.iload_n 2, 1) := by decide +kernel
theorem dX1_cellAtSpot_27 : decode cX1_cellAtSpot 27 = .ok (.iaload, 1) := by decide +kernel
theorem dX1_cellAtSpot_28 : decode cX1_cellAtSpot 28 = .ok (.iconst 1, 1) := by decide +kernel
theorem dX1_cellAtSpot_29 : decode cX1_cellAtSpot 29 = .ok (.ishr, 1) := by decide +kernel
theorem dX1_cellAtSpot_30 : decode cX1_cellAtSpot 30 = .ok (.aload_n 0, 1) := by decide +kernel
theorem dX1_cellAtSpot_31 : decode cX1_cellAtSpot 31 = .ok (.getfield 11, 3) := by decide +kernel
theorem dX1_cellAtSpot_34 : decode cX1_cellAtSpot 34 = .ok (.iload_n 3, 1) := by decide +kernel
theorem dX1_cellAtSpot_35 : decode cX1_cellAtSpot 35 = .ok (.iaload, 1) := by decide +kernel
theorem dX1_cellAtSpot_36 : decode cX1_cellAtSpot 36 = .ok (.imul, 1) := by decide +kernel
theorem dX1_cellAtSpot_37 : decode cX1_cellAtSpot 37 = .ok (.iadd, 1) := by decide +kernel
theorem dX1_cellAtSpot_38 : decode cX1_cellAtSpot 38 = .ok (.aload_n 0, 1) := by decide +kernel
theorem dX1_cellAtSpot_39 : decode cX1_cellAtSpot 39 = .ok (.getfield 27, 3) := by decide +kernel
theorem dX1_cellAtSpot_42 : decode cX1_cellAtSpot 42 = .ok (.iload_n 3, 1) := by decide +kernel
theorem dX1_cellAtSpot_43 : decode cX1_cellAtSpot 43 = .ok (.iaload, 1) := by decide +kernel
theorem dX1_cellAtSpot_44 : decode cX1_cellAtSpot 44 = .ok (.iconst 1, 1) := by decide +kernel
theorem dX1_cellAtSpot_45 : decode cX1_cellAtSpot 45 = .ok (.ishr, 1) := by decide +kernel
theorem dX1_cellAtSpot_46 : decode cX1_cellAtSpot 46 = .ok (.iadd, 1) := by decide +kernel
theorem dX1_cellAtSpot_47 : decode cX1_cellAtSpot 47 = .ok (.ireturn, 1) := by decide +kernel
theorem dX1_signOf_0 : decode cX1_signOf 0 = .ok (.iload_n 0, 1) := by decide +kernel
theorem dX1_signOf_1 : decode cX1_signOf 1 = .ok (.iconst 1, 1) := by decide +kernel
theorem dX1_signOf_2 : decode cX1_signOf 2 = .ok (.iand, 1) := by decide +kernel
theorem dX1_signOf_3 : decode cX1_signOf 3 = .ok (.ifCond .ne 7, 3) := by decide +kernel
theorem dX1_signOf_6 : decode cX1_signOf 6 = .ok (.iconst (-1), 1) := by decide +kernel
theorem dX1_signOf_7 : decode cX1_signOf 7 = .ok (.goto 4, 3) := by decide +kernel
theorem dX1_signOf_10 : decode cX1_signOf 10 = .ok (.iconst 1, 1) := by decide +kernel
theorem dX1_signOf_11 : decode cX1_signOf 11 = .ok (.ireturn, 1) := by decide +kernel
theorem dX1_directionOf_0 : decode cX1_directionOf 0 = .ok (.iload_n 1, 1) := by decide +kernel
theorem dX1_directionOf_1 : decode cX1_directionOf 1 = .ok (.iconst 1, 1) := by decide +kernel
theorem dX1_directionOf_2 : decode cX1_directionOf 2 = .ok (.iand, 1) := by decide +kernel
theorem dX1_directionOf_3 : decode cX1_directionOf 3 = .ok (.ifCond .ne 11, 3) := by decide +kernel
theorem dX1_directionOf_6 : decode cX1_directionOf 6 = .ok (.getstatic 82, 3) := by decide +kernel
theorem dX1_directionOf_9 : decode cX1_directionOf 9 = .ok (.iload_n 0, 1) := by decide +kernel
theorem dX1_directionOf_10 : decode cX1_directionOf 10 = .ok (.iaload, 1) := by decide +kernel
theorem dX1_directionOf_11 : decode cX1_directionOf 11 = .ok (.goto 8, 3) := by decide +kernel
theorem dX1_directionOf_14 : decode cX1_directionOf 14 = .ok (.getstatic 85, 3) := by decide +kernel
theorem dX1_directionOf_17 : decode cX1_directionOf 17 = .ok (.iload_n 0, 1) := by decide +kernel
theorem dX1_directionOf_18 : decode cX1_directionOf 18 = .ok (.iaload, 1) := by decide +kernel
theorem dX1_directionOf_19 : decode cX1_directionOf 19 = .ok (.istore_n 2, 1) := by decide +kernel
theorem dX1_directionOf_20 : decode cX1_directionOf 20 = .ok (.iload_n 1, 1) := by decide +kernel
theorem dX1_directionOf_21 : decode cX1_directionOf 21 = .ok (.iconst 2, 1) := by decide +kernel
theorem dX1_directionOf_22 : decode cX1_directionOf 22 = .ok (.if_icmp .ge 7, 3) := by decide +kernel
theorem dX1_directionOf_25 : decode cX1_directionOf 25 = .ok (.iload_n 2, 1) := by decide +kernel
theorem dX1_directionOf_26 : decode cX1_directionOf 26 = .ok (.goto 6, 3) := by decide +kernel
theorem dX1_directionOf_29 : decode cX1_directionOf 29 = .ok (.iload_n 2, 1) := by decide +kernel
theorem dX1_directionOf_30 : decode cX1_directionOf 30 = .ok (.iconst 1, 1) := by decide +kernel
theorem dX1_directionOf_31 : decode cX1_directionOf 31 = .ok (.ixor, 1) := by decide +kernel
theorem dX1_directionOf_32 : decode cX1_directionOf 32 = .ok (.ireturn, 1) := by decide +kernel
theorem dX1_roundEdge_0 : decode cX1_roundEdge 0 = .ok (.iload_n 0, 1) := by decide +kernel
theorem dX1_roundEdge_1 : decode cX1_roundEdge 1 = .ok (.iload_n 1, 1) := by decide +kernel
theorem dX1_roundEdge_2 : decode cX1_roundEdge 2 = .ok (.if_icmp .ne 7, 3) := by decide +kernel
theorem dX1_roundEdge_5 : decode cX1_roundEdge 5 = .ok (.iload_n 2, 1) := by decide +kernel
theorem dX1_roundEdge_6 : decode cX1_roundEdge 6 = .ok (.iconst 1, 1) := by decide +kernel
theorem dX1_roundEdge_7 : decode cX1_roundEdge 7 = .ok (.ixor, 1) := by decide +kernel
theorem dX1_roundEdge_8 : decode cX1_roundEdge 8 = .ok (.ireturn, 1) := by decide +kernel
theorem dX1_roundEdge_9 : decode cX1_roundEdge 9 = .ok (.iload_n 0, 1) := by decide +kernel
theorem dX1_roundEdge_10 : decode cX1_roundEdge 10 = .ok (.iload_n 1, 1) := by decide +kernel
theorem dX1_roundEdge_11 : decode cX1_roundEdge 11 = .ok (.iconst 1, 1) := by decide +kernel
theorem dX1_roundEdge_12 : decode cX1_roundEdge 12 = .ok (.ixor, 1) := by decide +kernel
theorem dX1_roundEdge_13 : decode cX1_roundEdge 13 = .ok (.if_icmp .ne 7, 3) := by decide +kernel
theorem dX1_roundEdge_16 : decode cX1_roundEdge 16 = .ok (.iload_n 2, 1) := by decide +kernel
theorem dX1_roundEdge_17 : decode cX1_roundEdge 17 = .ok (.goto 4, 3) := by decide +kernel
theorem dX1_roundEdge_20 : decode cX1_roundEdge 20 = .ok (.iload_n 0, 1) := by decide +kernel
theorem dX1_roundEdge_21 : decode cX1_roundEdge 21 = .ok (.ireturn, 1) := by decide +kernel
theorem dX1_turnWithRight_0 : decode cX1_turnWithRight 0 = .ok (.iconst 0, 1) := by decide +kernel
theorem dX1_turnWithRight_1 : decode cX1_turnWithRight 1 = .ok (.istore_n 2, 1) := by decide +kernel
theorem dX1_turnWithRight_2 : decode cX1_turnWithRight 2 = .ok (.iload_n 2, 1) := by decide +kernel
theorem dX1_turnWithRight_3 : decode cX1_turnWithRight 3 = .ok (.iconst 3, 1) := by decide +kernel
theorem dX1_turnWithRight_4 : decode cX1_turnWithRight 4 = .ok (.if_icmp .ge 18, 3) := by decide +kernel
theorem dX1_turnWithRight_7 : decode cX1_turnWithRight 7 = .ok (.iload_n 0, 1) := by decide +kernel
theorem dX1_turnWithRight_8 : decode cX1_turnWithRight 8 = .ok (.iload_n 2, 1) := by decide +kernel
theorem dX1_turnWithRight_9 : decode cX1_turnWithRight 9 = .ok (.invokestatic 66, 3) := by decide +kernel
theorem dX1_turnWithRight_12 : decode cX1_turnWithRight 12 = .ok (.iload_n 1, 1) := by decide +kernel
theorem dX1_turnWithRight_13 : decode cX1_turnWithRight 13 = .ok (.if_icmp .eq 9, 3) := by decide +kernel
theorem dX1_turnWithRight_16 : decode cX1_turnWithRight 16 = .ok (.iinc 2 1, 3) := by decide +kernel
theorem dX1_turnWithRight_19 : decode cX1_turnWithRight 19 = .ok (.goto (-17), 3) := by decide +kernel
theorem dX1_turnWithRight_22 : decode cX1_turnWithRight 22 = .ok (.iload_n 2, 1) := by decide +kernel
theorem dX1_turnWithRight_23 : decode cX1_turnWithRight 23 = .ok (.ireturn, 1) := by decide +kernel
theorem dX1_digestInto_0 : decode cX1_digestInto 0 = .ok (.aload_n 0, 1) := by decide +kernel
theorem dX1_digestInto_1 : decode cX1_digestInto 1 = .ok (.invokevirtual 88, 3) := by decide +kernel
theorem dX1_digestInto_4 : decode cX1_digestInto 4 = .ok (.ifCond .ne 11, 3) := by decide +kernel
theorem dX1_digestInto_7 : decode cX1_digestInto 7 = .ok (.ldc2_w 92, 3) := by decide +kernel
theorem dX1_digestInto_10 : decode cX1_digestInto 10 = .ok (.lload_n 1, 1) := by decide +kernel
theorem dX1_digestInto_11 : decode cX1_digestInto 11 = .ok (.lmul, 1) := by decide +kernel
theorem dX1_digestInto_12 : decode cX1_digestInto 12 = .ok (.lconst 1, 1) := by decide +kernel
theorem dX1_digestInto_13 : decode cX1_digestInto 13 = .ok (.lsub, 1) := by decide +kernel
theorem dX1_digestInto_14 : decode cX1_digestInto 14 = .ok (.lreturn, 1) := by decide +kernel
theorem dX1_digestInto_15 : decode cX1_digestInto 15 = .ok (.lload_n 1, 1) := by decide +kernel
theorem dX1_digestInto_16 : decode cX1_digestInto 16 = .ok (.lstore_n 3, 1) := by decide +kernel
theorem dX1_digestInto_17 : decode cX1_digestInto 17 = .ok (.iconst 0, 1) := by decide +kernel
theorem dX1_digestInto_18 : decode cX1_digestInto 18 = .ok (.istore 5, 2) := by decide +kernel
theorem dX1_digestInto_20 : decode cX1_digestInto 20 = .ok (.iload 5, 2) := by decide +kernel
theorem dX1_digestInto_22 : decode cX1_digestInto 22 = .ok (.iconst 3, 1) := by decide +kernel
theorem dX1_digestInto_23 : decode cX1_digestInto 23 = .ok (.if_icmp .ge 24, 3) := by decide +kernel
theorem dX1_digestInto_26 : decode cX1_digestInto 26 = .ok (.ldc2_w 92, 3) := by decide +kernel
theorem dX1_digestInto_29 : decode cX1_digestInto 29 = .ok (.lload_n 3, 1) := by decide +kernel
theorem dX1_digestInto_30 : decode cX1_digestInto 30 = .ok (.lmul, 1) := by decide +kernel
theorem dX1_digestInto_31 : decode cX1_digestInto 31 = .ok (.aload_n 0, 1) := by decide +kernel
theorem dX1_digestInto_32 : decode cX1_digestInto 32 = .ok (.getfield 11, 3) := by decide +kernel
theorem dX1_digestInto_35 : decode cX1_digestInto 35 = .ok (.iload 5, 2) := by decide +kernel
theorem dX1_digestInto_37 : decode cX1_digestInto 37 = .ok (.iaload, 1) := by decide +kernel
theorem dX1_digestInto_38 : decode cX1_digestInto 38 = .ok (.i2l, 1) := by decide +kernel
theorem dX1_digestInto_39 : decode cX1_digestInto 39 = .ok (.ladd, 1) := by decide +kernel
theorem dX1_digestInto_40 : decode cX1_digestInto 40 = .ok (.lstore_n 3, 1) := by decide +kernel
theorem dX1_digestInto_41 : decode cX1_digestInto 41 = .ok (.iinc 5 1, 3) := by decide +kernel
theorem dX1_digestInto_44 : decode cX1_digestInto 44 = .ok (.goto (-24), 3) := by decide +kernel
theorem dX1_digestInto_47 : decode cX1_digestInto 47 = .ok (.lload_n 3, 1) := by decide +kernel
theorem dX1_digestInto_48 : decode cX1_digestInto 48 = .ok (.lreturn, 1) := by decide +kernel
theorem dX2_init_0 : decode cX2_init 0 = .ok (.aload_n 0, 1) := by decide +kernel
theorem dX2_init_1 : decode cX2_init 1 = .ok (.invokespecial 3, 3) := by decide +kernel
theorem dX2_init_4 : decode cX2_init 4 = .ok (.aload_n 0, 1) := by decide +kernel
theorem dX2_init_5 : decode cX2_init 5 = .ok (.iconst (-1), 1) := by decide +kernel
theorem dX2_init_6 : decode cX2_init 6 = .ok (.putfield 11, 3) := by decide +kernel
theorem dX2_init_9 : decode cX2_init 9 = .ok (.return_, 1) := by decide +kernel
theorem dX2_isThere_0 : decode cX2_isThere 0 = .ok (.aload_n 0, 1) := by decide +kernel
theorem dX2_isThere_1 : decode cX2_isThere 1 = .ok (.getfield 11, 3) := by decide +kernel
theorem dX2_isThere_4 : decode cX2_isThere 4 = .ok (.iconst (-1), 1) := by decide +kernel
theorem dX2_isThere_5 : decode cX2_isThere 5 = .ok (.if_icmp .eq 7, 3) := by decide +kernel
theorem dX2_isThere_8 : decode cX2_isThere 8 = .ok (.iconst 1, 1) := by decide +kernel
theorem dX2_isThere_9 : decode cX2_isThere 9 = .ok (.goto 4, 3) := by decide +kernel
theorem dX2_isThere_12 : decode cX2_isThere 12 = .ok (.iconst 0, 1) := by decide +kernel
theorem dX2_isThere_13 : decode cX2_isThere 13 = .ok (.ireturn, 1) := by decide +kernel
theorem dX2_isOf_0 : decode cX2_isOf 0 = .ok (.aload_n 0, 1) := by decide +kernel
theorem dX2_isOf_1 : decode cX2_isOf 1 = .ok (.getfield 11, 3) := by decide +kernel
theorem dX2_isOf_4 : decode cX2_isOf 4 = .ok (.iload_n 1, 1) := by decide +kernel
theorem dX2_isOf_5 : decode cX2_isOf 5 = .ok (.if_icmp .eq 16, 3) := by decide +kernel
theorem dX2_isOf_8 : decode cX2_isOf 8 = .ok (.iload_n 1, 1) := by decide +kernel
theorem dX2_isOf_9 : decode cX2_isOf 9 = .ok (.iconst 2, 1) := by decide +kernel
theorem dX2_isOf_10 : decode cX2_isOf 10 = .ok (.if_icmp .ne 15, 3) := by decide +kernel
theorem dX2_isOf_13 : decode cX2_isOf 13 = .ok (.aload_n 0, 1) := by decide +kernel
theorem dX2_isOf_14 : decode cX2_isOf 14 = .ok (.getfield 11, 3) := by decide +kernel
theorem dX2_isOf_17 : decode cX2_isOf 17 = .ok (.iconst 3, 1) := by decide +kernel
theorem dX2_isOf_18 : decode cX2_isOf 18 = .ok (.if_icmp .ne 7, 3) := by decide +kernel
theorem dX2_isOf_21 : decode cX2_isOf 21 = .ok (.iconst 1, 1) := by decide +kernel
theorem dX2_isOf_22 : decode cX2_isOf 22 = .ok (.goto 4, 3) := by decide +kernel
theorem dX2_isOf_25 : decode cX2_isOf 25 = .ok (.iconst 0, 1) := by decide +kernel
theorem dX2_isOf_26 : decode cX2_isOf 26 = .ok (.ireturn, 1) := by decide +kernel
theorem dX2_putPlain_0 : decode cX2_putPlain 0 = .ok (.aload_n 0, 1) := by decide +kernel
theorem dX2_putPlain_1 : decode cX2_putPlain 1 = .ok (.lload_n 1, 1) := by decide +kernel
theorem dX2_putPlain_2 : decode cX2_putPlain 2 = .ok (.putfield 15, 3) := by decide +kernel
theorem dX2_putPlain_5 : decode cX2_putPlain 5 = .ok (.aload_n 0, 1) := by decide +kernel
theorem dX2_putPlain_6 : decode cX2_putPlain 6 = .ok (.lload_n 1, 1) := by decide +kernel
theorem dX2_putPlain_7 : decode cX2_putPlain 7 = .ok (.invokestatic 19, 3) := by decide +kernel
theorem dX2_putPlain_10 : decode cX2_putPlain 10 = .ok (.ifCond .ne 10, 3) := by decide +kernel
theorem dX2_putPlain_13 : decode cX2_putPlain 13 = .ok (.lload_n 1, 1) := by decide +kernel
theorem dX2_putPlain_14 : decode cX2_putPlain 14 = .ok (.invokestatic 25, 3) := by decide +kernel
theorem dX2_putPlain_17 : decode cX2_putPlain 17 = .ok (.ifCond .eq 7, 3) := by decide +kernel
theorem dX2_putPlain_20 : decode cX2_putPlain 20 = .ok (.iconst 1, 1) := by decide +kernel
theorem dX2_putPlain_21 : decode cX2_putPlain 21 = .ok (.goto 4, 3) := by decide +kernel
theorem dX2_putPlain_24 : decode cX2_putPlain 24 = .ok (.iconst 0, 1) := by decide +kernel
theorem dX2_putPlain_25 : decode cX2_putPlain 25 = .ok (.putfield 11, 3) := by decide +kernel
theorem dX2_putPlain_28 : decode cX2_putPlain 28 = .ok (.return_, 1) := by decide +kernel
theorem dX2_putNet_0 : decode cX2_putNet 0 = .ok (.aload_n 0, 1) := by decide +kernel
theorem dX2_putNet_1 : decode cX2_putNet 1 = .ok (.lload_n 1, 1) := by decide +kernel
theorem dX2_putNet_2 : decode cX2_putNet 2 = .ok (.putfield 15, 3) := by decide +kernel
theorem dX2_putNet_5 : decode cX2_putNet 5 = .ok (.aload_n 0, 1) := by decide +kernel
theorem dX2_putNet_6 : decode cX2_putNet 6 = .ok (.aload 4, 2) := by decide +kernel
theorem dX2_putNet_8 : decode cX2_putNet 8 = .ok (.invokevirtual 28, 3) := by decide +kernel
theorem dX2_putNet_11 : decode cX2_putNet 11 = .ok (.ifCond .eq 7, 3) := by decide +kernel
theorem dX2_putNet_14 : decode cX2_putNet 14 = .ok (.iconst 3, 1) := by decide +kernel
theorem dX2_putNet_15 : decode cX2_putNet 15 = .ok (.goto 4, 3) := by decide +kernel
theorem dX2_putNet_18 : decode cX2_putNet 18 = .ok (.iconst 2, 1) := by decide +kernel
theorem dX2_putNet_19 : decode cX2_putNet 19 = .ok (.putfield 11, 3) := by decide +kernel
theorem dX2_putNet_22 : decode cX2_putNet 22 = .ok (.aload_n 0, 1) := by decide +kernel
theorem dX2_putNet_23 : decode cX2_putNet 23 = .ok (.iload_n 3, 1) := by decide +kernel
theorem dX2_putNet_24 : decode cX2_putNet 24 = .ok (.putfield 34, 3) := by decide +kernel
theorem dX2_putNet_27 : decode cX2_putNet 27 = .ok (.aload_n 0, 1) := by decide +kernel
theorem dX2_putNet_28 : decode cX2_putNet 28 = .ok (.aload 4, 2) := by decide +kernel
theorem dX2_putNet_30 : decode cX2_putNet 30 = .ok (.iconst 0, 1) := by decide +kernel
theorem dX2_putNet_31 : decode cX2_putNet 31 = .ok (.invokevirtual 37, 3) := by decide +kernel
theorem dX2_putNet_34 : decode cX2_putNet 34 = .ok (.putfield 41, 3) := by decide +kernel
theorem dX2_putNet_37 : decode cX2_putNet 37 = .ok (.return_, 1) := by decide +kernel
theorem dX2_takeAway_0 : decode cX2_takeAway 0 = .ok (.aload_n 0, 1) := by decide +kernel
theorem dX2_takeAway_1 : decode cX2_takeAway 1 = .ok (.iconst (-1), 1) := by decide +kernel
theorem dX2_takeAway_2 : decode cX2_takeAway 2 = .ok (.putfield 11, 3) := by decide +kernel
theorem dX2_takeAway_5 : decode cX2_takeAway 5 = .ok (.aload_n 0, 1) := by decide +kernel
theorem dX2_takeAway_6 : decode cX2_takeAway 6 = .ok (.lconst 0, 1) := by decide +kernel
theorem dX2_takeAway_7 : decode cX2_takeAway 7 = .ok (.putfield 15, 3) := by decide +kernel
theorem dX2_takeAway_10 : decode cX2_takeAway 10 = .ok (.return_, 1) := by decide +kernel
theorem dX2_digestInto_0 : decode cX2_digestInto 0 = .ok (.ldc2_w 44, 3) := by decide +kernel
theorem dX2_digestInto_3 : decode cX2_digestInto 3 = .ok (.lload_n 1, 1) := by decide +kernel
theorem dX2_digestInto_4 : decode cX2_digestInto 4 = .ok (.lmul, 1) := by decide +kernel
theorem dX2_digestInto_5 : decode cX2_digestInto 5 = .ok (.aload_n 0, 1) := by decide +kernel
theorem dX2_digestInto_6 : decode cX2_digestInto 6 = .ok (.getfield 11, 3) := by decide +kernel
theorem dX2_digestInto_9 : decode cX2_digestInto 9 = .ok (.i2l, 1) := by decide +kernel
theorem dX2_digestInto_10 : decode cX2_digestInto 10 = .ok (.ladd, 1) := by decide +kernel
theorem dX2_digestInto_11 : decode cX2_digestInto 11 = .ok (.lstore_n 3, 1) := by decide +kernel
theorem dX2_digestInto_12 : decode cX2_digestInto 12 = .ok (.aload_n 0, 1) := by decide +kernel
theorem dX2_digestInto_13 : decode cX2_digestInto 13 = .ok (.invokevirtual 46, 3) := by decide +kernel
theorem dX2_digestInto_16 : decode cX2_digestInto 16 = .ok (.ifCond .eq 16, 3) := by decide +kernel
theorem dX2_digestInto_19 : decode cX2_digestInto 19 = .ok (.ldc2_w 44, 3) := by decide +kernel
theorem dX2_digestInto_22 : decode cX2_digestInto 22 = .ok (.lload_n 3, 1) := by decide +kernel
theorem dX2_digestInto_23 : decode cX2_digestInto 23 = .ok (.lmul, 1) := by decide +kernel
theorem dX2_digestInto_24 : decode cX2_digestInto 24 = .ok (.aload_n 0, 1) := by decide +kernel
theorem dX2_digestInto_25 : decode cX2_digestInto 25 = .ok (.getfield 15, 3) := by decide +kernel
theorem dX2_digestInto_28 : decode cX2_digestInto 28 = .ok (.ladd, 1) := by decide +kernel
theorem dX2_digestInto_29 : decode cX2_digestInto 29 = .ok (.goto 4, 3) := by decide +kernel
theorem dX2_digestInto_32 : decode cX2_digestInto 32 = .ok (.lload_n 3, 1) := by decide +kernel
theorem dX2_digestInto_33 : decode cX2_digestInto 33 = .ok (.lreturn, 1) := by decide +kernel
theorem dX3_init_0 : decode cX3_init 0 = .ok (.aload_n 0, 1) := by decide +kernel
theorem dX3_init_1 : decode cX3_init 1 = .ok (.invokespecial 3, 3) := by decide +kernel
theorem dX3_init_4 : decode cX3_init 4 = .ok (.aload_n 0, 1) := by decide +kernel
theorem dX3_init_5 : decode cX3_init 5 = .ok (.bipush 50, 2) := by decide +kernel
theorem dX3_init_7 : decode cX3_init 7 = .ok (.newarray .int, 2) := by decide +kernel
theorem dX3_init_9 : decode cX3_init 9 = .ok (.putfield 9, 3) := by decide +kernel
theorem dX3_init_12 : decode cX3_init 12 = .ok (.aload_n 0, 1) := by decide +kernel
theorem dX3_init_13 : decode cX3_init 13 = .ok (.bipush 50, 2) := by decide +kernel
theorem dX3_init_15 : decode cX3_init 15 = .ok (.newarray .int, 2) := by decide +kernel
theorem dX3_init_17 : decode cX3_init 17 = .ok (.putfield 15, 3) := by decide +kernel
theorem dX3_init_20 : decode cX3_init 20 = .ok (.aload_n 0, 1) := by decide +kernel
theorem dX3_init_21 : decode cX3_init 21 = .ok (.bipush 50, 2) := by decide +kernel
theorem dX3_init_23 : decode cX3_init 23 = .ok (.newarray .int, 2) := by decide +kernel
theorem dX3_init_25 : decode cX3_init 25 = .ok (.putfield 18, 3) := by decide +kernel
theorem dX3_init_28 : decode cX3_init 28 = .ok (.aload_n 0, 1) := by decide +kernel
theorem dX3_init_29 : decode cX3_init 29 = .ok (.bipush 50, 2) := by decide +kernel
theorem dX3_init_31 : decode cX3_init 31 = .ok (.newarray .int, 2) := by decide +kernel
theorem dX3_init_33 : decode cX3_init 33 = .ok (.putfield 21, 3) := by decide +kernel
theorem dX3_init_36 : decode cX3_init 36 = .ok (.aload_n 0, 1) := by decide +kernel
theorem dX3_init_37 : decode cX3_init 37 = .ok (.iconst 5, 1) := by decide +kernel
theorem dX3_init_38 : decode cX3_init 38 = .ok (.newarray .int, 2) := by decide +kernel
theorem dX3_init_40 : decode cX3_init 40 = .ok (.putfield 24, 3) := by decide +kernel
theorem dX3_init_43 : decode cX3_init 43 = .ok (.aload_n 0, 1) := by decide +kernel
theorem dX3_init_44 : decode cX3_init 44 = .ok (.bipush 50, 2) := by decide +kernel
theorem dX3_init_46 : decode cX3_init 46 = .ok (.newarray .int, 2) := by decide +kernel
theorem dX3_init_48 : decode cX3_init 48 = .ok (.putfield 27, 3) := by decide +kernel
theorem dX3_init_51 : decode cX3_init 51 = .ok (.aload_n 0, 1) := by decide +kernel
theorem dX3_init_52 : decode cX3_init 52 = .ok (.iconst 5, 1) := by decide +kernel
theorem dX3_init_53 : decode cX3_init 53 = .ok (.newarray .int, 2) := by decide +kernel
theorem dX3_init_55 : decode cX3_init 55 = .ok (.putfield 30, 3) := by decide +kernel
theorem dX3_init_58 : decode cX3_init 58 = .ok (.return_, 1) := by decide +kernel
theorem dX3_toldPartner_0 : decode cX3_toldPartner 0 = .ok (.iload_n 1, 1) := by decide +kernel
theorem dX3_toldPartner_1 : decode cX3_toldPartner 1 = .ok (.ifCond .lt 20, 3) := by decide +kernel
theorem dX3_toldPartner_4 : decode cX3_toldPartner 4 = .ok (.iload_n 1, 1) := by decide +kernel
theorem dX3_toldPartner_5 : decode cX3_toldPartner 5 = .ok (.aload_n 0, 1) := by decide +kernel
theorem dX3_toldPartner_6 : decode cX3_toldPartner 6 = .ok (.getfield 33, 3) := by decide +kernel
theorem dX3_toldPartner_9 : decode cX3_toldPartner 9 = .ok (.if_icmp .ge 12, 3) := by decide +kernel
theorem dX3_toldPartner_12 : decode cX3_toldPartner 12 = .ok (.aload_n 0, 1) := by decide +kernel
theorem dX3_toldPartner_13 : decode cX3_toldPartner 13 = .ok (.getfield 27, 3) := by decide +kernel
theorem dX3_toldPartner_16 : decode cX3_toldPartner 16 = .ok (.iload_n 1, 1) := by decide +kernel
theorem dX3_toldPartner_17 : decode cX3_toldPartner 17 = .ok (.iaload, 1) := by decide +kernel
theorem dX3_toldPartner_18 : decode cX3_toldPartner 18 = .ok (.goto 5, 3) := by decide +kernel
theorem dX3_toldPartner_21 : decode cX3_toldPartner 21 = .ok (.bipush (-9), 2) := by decide +kernel
theorem dX3_toldPartner_23 : decode cX3_toldPartner 23 = .ok (.ireturn, 1) := by decide +kernel
theorem dX3_toldCorners_0 : decode cX3_toldCorners 0 = .ok (.aload_n 0, 1) := by decide +kernel
theorem dX3_toldCorners_1 : decode cX3_toldCorners 1 = .ok (.getfield 33, 3) := by decide +kernel
theorem dX3_toldCorners_4 : decode cX3_toldCorners 4 = .ok (.ifCond .le 21, 3) := by decide +kernel
theorem dX3_toldCorners_7 : decode cX3_toldCorners 7 = .ok (.iload_n 1, 1) := by decide +kernel
theorem dX3_toldCorners_8 : decode cX3_toldCorners 8 = .ok (.iconst 1, 1) := by decide +kernel
theorem dX3_toldCorners_9 : decode cX3_toldCorners 9 = .ok (.iconst 4, 1) := by decide +kernel
theorem dX3_toldCorners_10 : decode cX3_toldCorners 10 = .ok (.invokestatic 37, 3) := by decide +kernel
theorem dX3_toldCorners_13 : decode cX3_toldCorners 13 = .ok (.ifCond .eq 12, 3) := by decide +kernel
theorem dX3_toldCorners_16 : decode cX3_toldCorners 16 = .ok (.aload_n 0, 1) := by decide +kernel
theorem dX3_toldCorners_17 : decode cX3_toldCorners 17 = .ok (.getfield 30, 3) := by decide +kernel
theorem dX3_toldCorners_20 : decode cX3_toldCorners 20 = .ok (.iload_n 1, 1) := by decide +kernel
theorem dX3_toldCorners_21 : decode cX3_toldCorners 21 = .ok (.iaload, 1) := by decide +kernel
theorem dX3_toldCorners_22 : decode cX3_toldCorners 22 = .ok (.goto 5, 3) := by decide +kernel
theorem dX3_toldCorners_25 : decode cX3_toldCorners 25 = .ok (.bipush (-9), 2) := by decide +kernel
theorem dX3_toldCorners_27 : decode cX3_toldCorners 27 = .ok (.ireturn, 1) := by decide +kernel
theorem dX3_seek_0 : decode cX3_seek 0 = .ok (.aload_n 0, 1) := by decide +kernel
theorem dX3_seek_1 : decode cX3_seek 1 = .ok (.getfield 9, 3) := by decide +kernel
theorem dX3_seek_4 : decode cX3_seek 4 = .ok (.bipush (-9), 2) := by decide +kernel
theorem dX3_seek_6 : decode cX3_seek 6 = .ok (.invokestatic 41, 3) := by decide +kernel
theorem dX3_seek_9 : decode cX3_seek 9 = .ok (.aload_n 0, 1) := by decide +kernel
theorem dX3_seek_10 : decode cX3_seek 10 = .ok (.aload_n 1, 1) := by decide +kernel
theorem dX3_seek_11 : decode cX3_seek 11 = .ok (.getfield 47, 3) := by decide +kernel
theorem dX3_seek_14 : decode cX3_seek 14 = .ok (.putfield 52, 3) := by decide +kernel
theorem dX3_seek_17 : decode cX3_seek 17 = .ok (.aload_n 0, 1) := by decide +kernel
theorem dX3_seek_18 : decode cX3_seek 18 = .ok (.iconst 0, 1) := by decide +kernel
theorem dX3_seek_19 : decode cX3_seek 19 = .ok (.putfield 55, 3) := by decide +kernel
theorem dX3_seek_22 : decode cX3_seek 22 = .ok (.aload_n 0, 1) := by decide +kernel
theorem dX3_seek_23 : decode cX3_seek 23 = .ok (.iconst 0, 1) := by decide +kernel
theorem dX3_seek_24 : decode cX3_seek 24 = .ok (.putfield 58, 3) := by decide +kernel
theorem dX3_seek_27 : decode cX3_seek 27 = .ok (.aload_n 0, 1) := by decide +kernel
theorem dX3_seek_28 : decode cX3_seek 28 = .ok (.iload_n 2, 1) := by decide +kernel
theorem dX3_seek_29 : decode cX3_seek 29 = .ok (.putfield 61, 3) := by decide +kernel
theorem dX3_seek_32 : decode cX3_seek 32 = .ok (.aload_n 0, 1) := by decide +kernel
theorem dX3_seek_33 : decode cX3_seek 33 = .ok (.iconst 0, 1) := by decide +kernel
theorem dX3_seek_34 : decode cX3_seek 34 = .ok (.putfield 64, 3) := by decide +kernel
theorem dX3_seek_37 : decode cX3_seek 37 = .ok (.aload_n 0, 1) := by decide +kernel
theorem dX3_seek_38 : decode cX3_seek 38 = .ok (.aload_n 1, 1) := by decide +kernel
theorem dX3_seek_39 : decode cX3_seek 39 = .ok (.iconst 0, 1) := by decide +kernel
theorem dX3_seek_40 : decode cX3_seek 40 = .ok (.iconst 0, 1) := by decide +kernel
theorem dX3_seek_41 : decode cX3_seek 41 = .ok (.invokestatic 68, 3) := by decide +kernel
theorem dX3_seek_44 : decode cX3_seek 44 = .ok (.aload_n 0, 1) := by decide +kernel
theorem dX3_seek_45 : decode cX3_seek 45 = .ok (.getfield 64, 3) := by decide +kernel
theorem dX3_seek_48 : decode cX3_seek 48 = .ok (.ifCond .ne 7, 3) := by decide +kernel
theorem dX3_seek_51 : decode cX3_seek 51 = .ok (.aload_n 0, 1) := by decide +kernel
theorem dX3_seek_52 : decode cX3_seek 52 = .ok (.invokevirtual 72, 3) := by decide +kernel
theorem dX3_seek_55 : decode cX3_seek 55 = .ok (.aload_n 0, 1) := by decide +kernel
theorem dX3_seek_56 : decode cX3_seek 56 = .ok (.getfield 64, 3) := by decide +kernel
theorem dX3_seek_59 : decode cX3_seek 59 = .ok (.ifCond .ne 7, 3) := by decide +kernel
theorem dX3_seek_62 : decode cX3_seek 62 = .ok (.iconst 1, 1) := by decide +kernel
theorem dX3_seek_63 : decode cX3_seek 63 = .ok (.goto 4, 3) := by decide +kernel
theorem dX3_seek_66 : decode cX3_seek 66 = .ok (.iconst 0, 1) := by decide +kernel
theorem dX3_seek_67 : decode cX3_seek 67 = .ok (.ireturn, 1) := by decide +kernel
theorem dX3_keepFirst_0 : decode cX3_keepFirst 0 = .ok (.aload_n 0, 1) := by decide +kernel
theorem dX3_keepFirst_1 : decode cX3_keepFirst 1 = .ok (.aload_n 0, 1) := by decide +kernel
theorem dX3_keepFirst_2 : decode cX3_keepFirst 2 = .ok (.getfield 55, 3) := by decide +kernel
theorem dX3_keepFirst_5 : decode cX3_keepFirst 5 = .ok (.ifCond .le 10, 3) := by decide +kernel
theorem dX3_keepFirst_8 : decode cX3_keepFirst 8 = .ok (.aload_n 0, 1) := by decide +kernel
theorem dX3_keepFirst_9 : decode cX3_keepFirst 9 = .ok (.getfield 52, 3) := by decide +kernel
theorem dX3_keepFirst_12 : decode cX3_keepFirst 12 = .ok (.goto 4, 3) := by decide +kernel
theorem dX3_keepFirst_15 : decode cX3_keepFirst 15 = .ok (.iconst 0, 1) := by decide +kernel
theorem dX3_keepFirst_16 : decode cX3_keepFirst 16 = .ok (.putfield 33, 3) := by decide +kernel
theorem dX3_keepFirst_19 : decode cX3_keepFirst 19 = .ok (.aload_n 0, 1) := by decide +kernel
theorem dX3_keepFirst_20 : decode cX3_keepFirst 20 = .ok (.getfield 21, 3) := by decide +kernel
theorem dX3_keepFirst_23 : decode cX3_keepFirst 23 = .ok (.iconst 0, 1) := by decide +kernel
theorem dX3_keepFirst_24 : decode cX3_keepFirst 24 = .ok (.aload_n 0, 1) := by decide +kernel
theorem dX3_keepFirst_25 : decode cX3_keepFirst 25 = .ok (.getfield 27, 3) := by decide +kernel
theorem dX3_keepFirst_28 : decode cX3_keepFirst 28 = .ok (.iconst 0, 1) := by decide +kernel
theorem dX3_keepFirst_29 : decode cX3_keepFirst 29 = .ok (.bipush 50, 2) := by decide +kernel
theorem dX3_keepFirst_31 : decode cX3_keepFirst 31 = .ok (.invokestatic 75, 3) := by decide +kernel
theorem dX3_keepFirst_34 : decode cX3_keepFirst 34 = .ok (.aload_n 0, 1) := by decide +kernel
theorem dX3_keepFirst_35 : decode cX3_keepFirst 35 = .ok (.getfield 24, 3) := by decide +kernel
theorem dX3_keepFirst_38 : decode cX3_keepFirst 38 = .ok (.iconst 0, 1) := by decide +kernel
theorem dX3_keepFirst_39 : decode cX3_keepFirst 39 = .ok (.aload_n 0, 1) := by decide +kernel
theorem dX3_keepFirst_40 : decode cX3_keepFirst 40 = .ok (.getfield 30, 3) := by decide +kernel
theorem dX3_keepFirst_43 : decode cX3_keepFirst 43 = .ok (.iconst 0, 1) := by decide +kernel
theorem dX3_keepFirst_44 : decode cX3_keepFirst 44 = .ok (.iconst 5, 1) := by decide +kernel
theorem dX3_keepFirst_45 : decode cX3_keepFirst 45 = .ok (.invokestatic 75, 3) := by decide +kernel
theorem dX3_keepFirst_48 : decode cX3_keepFirst 48 = .ok (.return_, 1) := by decide +kernel
theorem dX3_pairFrom_0 : decode cX3_pairFrom 0 = .ok (.iload_n 2, 1) := by decide +kernel
theorem dX3_pairFrom_1 : decode cX3_pairFrom 1 = .ok (.istore 4, 2) := by decide +kernel
theorem dX3_pairFrom_3 : decode cX3_pairFrom 3 = .ok (.iload 4, 2) := by decide +kernel
theorem dX3_pairFrom_5 : decode cX3_pairFrom 5 = .ok (.aload_n 0, 1) := by decide +kernel
theorem dX3_pairFrom_6 : decode cX3_pairFrom 6 = .ok (.getfield 52, 3) := by decide +kernel
theorem dX3_pairFrom_9 : decode cX3_pairFrom 9 = .ok (.if_icmp .ge 18, 3) := by decide +kernel
theorem dX3_pairFrom_12 : decode cX3_pairFrom 12 = .ok (.aload_n 0, 1) := by decide +kernel
theorem dX3_pairFrom_13 : decode cX3_pairFrom 13 = .ok (.iload 4, 2) := by decide +kernel
theorem dX3_pairFrom_15 : decode cX3_pairFrom 15 = .ok (.invokevirtual 81, 3) := by decide +kernel
theorem dX3_pairFrom_18 : decode cX3_pairFrom 18 = .ok (.ifCond .ne 9, 3) := by decide +kernel
theorem dX3_pairFrom_21 : decode cX3_pairFrom 21 = .ok (.iinc 4 1, 3) := by decide +kernel
theorem dX3_pairFrom_24 : decode cX3_pairFrom 24 = .ok (.goto (-21), 3) := by decide +kernel
theorem dX3_pairFrom_27 : decode cX3_pairFrom 27 = .ok (.iload 4, 2) := by decide +kernel
theorem dX3_pairFrom_29 : decode cX3_pairFrom 29 = .ok (.aload_n 0, 1) := by decide +kernel
theorem dX3_pairFrom_30 : decode cX3_pairFrom 30 = .ok (.getfield 52, 3) := by decide +kernel
theorem dX3_pairFrom_33 : decode cX3_pairFrom 33 = .ok (.if_icmp .lt 9, 3) := by decide +kernel
theorem dX3_pairFrom_36 : decode cX3_pairFrom 36 = .ok (.aload_n 0, 1) := by decide +kernel
theorem dX3_pairFrom_37 : decode cX3_pairFrom 37 = .ok (.aload_n 1, 1) := by decide +kernel
theorem dX3_pairFrom_38 : decode cX3_pairFrom 38 = .ok (.invokevirtual 85, 3) := by decide +kernel
theorem dX3_pairFrom_41 : decode cX3_pairFrom 41 = .ok (.return_, 1) := by decide +kernel
theorem dX3_pairFrom_42 : decode cX3_pairFrom 42 = .ok (.iload_n 3, 1) := by decide +kernel
theorem dX3_pairFrom_43 : decode cX3_pairFrom 43 = .ok (.bipush 25, 2) := by decide +kernel
theorem dX3_pairFrom_45 : decode cX3_pairFrom 45 = .ok (.if_icmp .lt 4, 3) := by decide +kernel
theorem dX3_pairFrom_48 : decode cX3_pairFrom 48 = .ok (.return_, 1) := by decide +kernel
theorem dX3_pairFrom_49 : decode cX3_pairFrom 49 = .ok (.iload 4, 2) := by decide +kernel
theorem dX3_pairFrom_51 : decode cX3_pairFrom 51 = .ok (.iconst 1, 1) := by decide +kernel
theorem dX3_pairFrom_52 : decode cX3_pairFrom 52 = .ok (.iadd, 1) := by decide +kernel
theorem dX3_pairFrom_53 : decode cX3_pairFrom 53 = .ok (.istore 5, 2) := by decide +kernel
theorem dX3_pairFrom_55 : decode cX3_pairFrom 55 = .ok (.iload 5, 2) := by decide +kernel
theorem dX3_pairFrom_57 : decode cX3_pairFrom 57 = .ok (.aload_n 0, 1) := by decide +kernel
theorem dX3_pairFrom_58 : decode cX3_pairFrom 58 = .ok (.getfield 52, 3) := by decide +kernel
theorem dX3_pairFrom_61 : decode cX3_pairFrom 61 = .ok (.if_icmp .ge 103, 3) := by decide +kernel
theorem dX3_pairFrom_64 : decode cX3_pairFrom 64 = .ok (.aload_n 0, 1) := by decide +kernel
theorem dX3_pairFrom_65 : decode cX3_pairFrom 65 = .ok (.iload 5, 2) := by decide +kernel
theorem dX3_pairFrom_67 : decode cX3_pairFrom 67 = .ok (.invokevirtual 81, 3) := by decide +kernel
theorem dX3_pairFrom_70 : decode cX3_pairFrom 70 = .ok (.ifCond .eq 94, 3) := by decide +kernel
theorem dX3_pairFrom_73 : decode cX3_pairFrom 73 = .ok (.aload_n 0, 1) := by decide +kernel
theorem dX3_pairFrom_74 : decode cX3_pairFrom 74 = .ok (.getfield 64, 3) := by decide +kernel
theorem dX3_pairFrom_77 : decode cX3_pairFrom 77 = .ok (.ifCond .ne 87, 3) := by decide +kernel
theorem dX3_pairFrom_80 : decode cX3_pairFrom 80 = .ok (.iload 5, 2) := by decide +kernel
theorem dX3_pairFrom_82 : decode cX3_pairFrom 82 = .ok (.iload 4, 2) := by decide +kernel
theorem dX3_pairFrom_84 : decode cX3_pairFrom 84 = .ok (.isub, 1) := by decide +kernel
theorem dX3_pairFrom_85 : decode cX3_pairFrom 85 = .ok (.iconst 1, 1) := by decide +kernel
theorem dX3_pairFrom_86 : decode cX3_pairFrom 86 = .ok (.iand, 1) := by decide +kernel
theorem dX3_pairFrom_87 : decode cX3_pairFrom 87 = .ok (.iconst 1, 1) := by decide +kernel
theorem dX3_pairFrom_88 : decode cX3_pairFrom 88 = .ok (.if_icmp .ne 7, 3) := by decide +kernel
theorem dX3_pairFrom_91 : decode cX3_pairFrom 91 = .ok (.iconst 1, 1) := by decide +kernel
theorem dX3_pairFrom_92 : decode cX3_pairFrom 92 = .ok (.goto 4, 3) := by decide +kernel
theorem dX3_pairFrom_95 : decode cX3_pairFrom 95 = .ok (.iconst 0, 1) := by decide +kernel
theorem dX3_pairFrom_96 : decode cX3_pairFrom 96 = .ok (.istore 6, 2) := by decide +kernel
theorem dX3_pairFrom_98 : decode cX3_pairFrom 98 = .ok (.iload 6, 2) := by decide +kernel
theorem dX3_pairFrom_100 : decode cX3_pairFrom 100 = .ok (.ifCond .eq 58, 3) := by decide +kernel
theorem dX3_pairFrom_103 : decode cX3_pairFrom 103 = .ok (.aload_n 0, 1) := by decide +kernel
theorem dX3_pairFrom_104 : decode cX3_pairFrom 104 = .ok (.invokevirtual 89, 3) := by decide +kernel
theorem dX3_pairFrom_107 : decode cX3_pairFrom 107 = .ok (.ifCond .eq 51, 3) := by decide +kernel
theorem dX3_pairFrom_110 : decode cX3_pairFrom 110 = .ok (.aload_n 0, 1) := by decide +kernel
theorem dX3_pairFrom_111 : decode cX3_pairFrom 111 = .ok (.getfield 9, 3) := by decide +kernel
theorem dX3_pairFrom_114 : decode cX3_pairFrom 114 = .ok (.iload 4, 2) := by decide +kernel
theorem dX3_pairFrom_116 : decode cX3_pairFrom 116 = .ok (.iload 5, 2) := by decide +kernel
theorem dX3_pairFrom_118 : decode cX3_pairFrom 118 = .ok (.iastore, 1) := by decide +kernel
theorem dX3_pairFrom_119 : decode cX3_pairFrom 119 = .ok (.aload_n 0, 1) := by decide +kernel
theorem dX3_pairFrom_120 : decode cX3_pairFrom 120 = .ok (.getfield 9, 3) := by decide +kernel
theorem dX3_pairFrom_123 : decode cX3_pairFrom 123 = .ok (.iload 5, 2) := by decide +kernel
theorem dX3_pairFrom_125 : decode cX3_pairFrom 125 = .ok (.iload 4, 2) := by decide +kernel
theorem dX3_pairFrom_127 : decode cX3_pairFrom 127 = .ok (.iastore, 1) := by decide +kernel
theorem dX3_pairFrom_128 : decode cX3_pairFrom 128 = .ok (.aload_n 0, 1) := by decide +kernel
theorem dX3_pairFrom_129 : decode cX3_pairFrom 129 = .ok (.aload_n 1, 1) := by decide +kernel
theorem dX3_pairFrom_130 : decode cX3_pairFrom 130 = .ok (.iload 4, 2) := by decide +kernel
theorem dX3_pairFrom_132 : decode cX3_pairFrom 132 = .ok (.iconst 1, 1) := by decide +kernel
theorem dX3_pairFrom_133 : decode cX3_pairFrom 133 = .ok (.iadd, 1) := by decide +kernel
theorem dX3_pairFrom_134 : decode cX3_pairFrom 134 = .ok (.iload_n 3, 1) := by decide +kernel
theorem dX3_pairFrom_135 : decode cX3_pairFrom 135 = .ok (.iconst 1, 1) := by decide +kernel
theorem dX3_pairFrom_136 : decode cX3_pairFrom 136 = .ok (.iadd, 1) := by decide +kernel
theorem dX3_pairFrom_137 : decode cX3_pairFrom 137 = .ok (.invokestatic 68, 3) := by decide +kernel
theorem dX3_pairFrom_140 : decode cX3_pairFrom 140 = .ok (.aload_n 0, 1) := by decide +kernel
theorem dX3_pairFrom_141 : decode cX3_pairFrom 141 = .ok (.getfield 9, 3) := by decide +kernel
theorem dX3_pairFrom_144 : decode cX3_pairFrom 144 = .ok (.iload 4, 2) := by decide +kernel
theorem dX3_pairFrom_146 : decode cX3_pairFrom 146 = .ok (.bipush (-9), 2) := by decide +kernel
theorem dX3_pairFrom_148 : decode cX3_pairFrom 148 = .ok (.iastore, 1) := by decide +kernel
theorem dX3_pairFrom_149 : decode cX3_pairFrom 149 = .ok (.aload_n 0, 1) := by decide +kernel
theorem dX3_pairFrom_150 : decode cX3_pairFrom 150 = .ok (.getfield 9, 3) := by decide +kernel
theorem dX3_pairFrom_153 : decode cX3_pairFrom 153 = .ok (.iload 5, 2) := by decide +kernel
theorem dX3_pairFrom_155 : decode cX3_pairFrom 155 = .ok (.bipush (-9), 2) := by decide +kernel
theorem dX3_pairFrom_157 : decode cX3_pairFrom 157 = .ok (.iastore, 1) := by decide +kernel
theorem dX3_pairFrom_158 : decode cX3_pairFrom 158 = .ok (.iinc 5 1, 3) := by decide +kernel
theorem dX3_pairFrom_161 : decode cX3_pairFrom 161 = .ok (.goto (-106), 3) := by decide +kernel
theorem dX3_pairFrom_164 : decode cX3_pairFrom 164 = .ok (.return_, 1) := by decide +kernel
theorem dX3_isFree_0 : decode cX3_isFree 0 = .ok (.iload_n 1, 1) := by decide +kernel
theorem dX3_isFree_1 : decode cX3_isFree 1 = .ok (.ifCond .lt 24, 3) := by decide +kernel
theorem dX3_isFree_4 : decode cX3_isFree 4 = .ok (.iload_n 1, 1) := by decide +kernel
theorem dX3_isFree_5 : decode cX3_isFree 5 = .ok (.bipush 50, 2) := by decide +kernel
theorem dX3_isFree_7 : decode cX3_isFree 7 = .ok (.if_icmp .ge 18, 3) := by decide +kernel
theorem dX3_isFree_10 : decode cX3_isFree 10 = .ok (.aload_n 0, 1) := by decide +kernel
theorem dX3_isFree_11 : decode cX3_isFree 11 = .ok (.getfield 9, 3) := by decide +kernel
theorem dX3_isFree_14 : decode cX3_isFree 14 = .ok (.iload_n 1, 1) := by decide +kernel
theorem dX3_isFree_15 : decode cX3_isFree 15 = .ok (.iaload, 1) := by decide +kernel
theorem dX3_isFree_16 : decode cX3_isFree 16 = .ok (.bipush (-9), 2) := by decide +kernel
theorem dX3_isFree_18 : decode cX3_isFree 18 = .ok (.if_icmp .ne 7, 3) := by decide +kernel
theorem dX3_isFree_21 : decode cX3_isFree 21 = .ok (.iconst 1, 1) := by decide +kernel
theorem dX3_isFree_22 : decode cX3_isFree 22 = .ok (.goto 4, 3) := by decide +kernel
theorem dX3_isFree_25 : decode cX3_isFree 25 = .ok (.iconst 0, 1) := by decide +kernel
theorem dX3_isFree_26 : decode cX3_isFree 26 = .ok (.ireturn, 1) := by decide +kernel
theorem dX3_countTry_0 : decode cX3_countTry 0 = .ok (.aload_n 0, 1) := by decide +kernel
theorem dX3_countTry_1 : decode cX3_countTry 1 = .ok (.getfield 58, 3) := by decide +kernel
theorem dX3_countTry_4 : decode cX3_countTry 4 = .ok (.aload_n 0, 1) := by decide +kernel
theorem dX3_countTry_5 : decode cX3_countTry 5 = .ok (.getfield 61, 3) := by decide +kernel
theorem dX3_countTry_8 : decode cX3_countTry 8 = .ok (.if_icmp .lt 10, 3) := by decide +kernel
theorem dX3_countTry_11 : decode cX3_countTry 11 = .ok (.aload_n 0, 1) := by decide +kernel
theorem dX3_countTry_12 : decode cX3_countTry 12 = .ok (.iconst 1, 1) := by decide +kernel
theorem dX3_countTry_13 : decode cX3_countTry 13 = .ok (.putfield 64, 3) := by decide +kernel
theorem dX3_countTry_16 : decode cX3_countTry 16 = .ok (.iconst 0, 1) := by decide +kernel
theorem dX3_countTry_17 : decode cX3_countTry 17 = .ok (.ireturn, 1) := by decide +kernel
theorem dX3_countTry_18 : decode cX3_countTry 18 = .ok (.aload_n 0, 1) := by decide +kernel
theorem dX3_countTry_19 : decode cX3_countTry 19 = .ok (.dup, 1) := by decide +kernel
theorem dX3_countTry_20 : decode cX3_countTry 20 = .ok (.getfield 58, 3) := by decide +kernel
theorem dX3_countTry_23 : decode cX3_countTry 23 = .ok (.iconst 1, 1) := by decide +kernel
theorem dX3_countTry_24 : decode cX3_countTry 24 = .ok (.iadd, 1) := by decide +kernel
theorem dX3_countTry_25 : decode cX3_countTry 25 = .ok (.putfield 58, 3) := by decide +kernel
theorem dX3_countTry_28 : decode cX3_countTry 28 = .ok (.iconst 1, 1) := by decide +kernel
theorem dX3_countTry_29 : decode cX3_countTry 29 = .ok (.ireturn, 1) := by decide +kernel
theorem dX3_judge_0 : decode cX3_judge 0 = .ok (.aload_n 0, 1) := by decide +kernel
theorem dX3_judge_1 : decode cX3_judge 1 = .ok (.aload_n 1, 1) := by decide +kernel
theorem dX3_judge_2 : decode cX3_judge 2 = .ok (.invokevirtual 93, 3) := by decide +kernel
theorem dX3_judge_5 : decode cX3_judge 5 = .ok (.aload_n 0, 1) := by decide +kernel
theorem dX3_judge_6 : decode cX3_judge 6 = .ok (.invokevirtual 96, 3) := by decide +kernel
theorem dX3_judge_9 : decode cX3_judge 9 = .ok (.ifCond .ne 4, 3) := by decide +kernel
theorem dX3_judge_12 : decode cX3_judge 12 = .ok (.return_, 1) := by decide +kernel
theorem dX3_judge_13 : decode cX3_judge 13 = .ok (.aload_n 0, 1) := by decide +kernel
theorem dX3_judge_14 : decode cX3_judge 14 = .ok (.getfield 55, 3) := by decide +kernel
theorem dX3_judge_17 : decode cX3_judge 17 = .ok (.ifCond .ne 42, 3) := by decide +kernel
theorem dX3_judge_20 : decode cX3_judge 20 = .ok (.aload_n 0, 1) := by decide +kernel
theorem dX3_judge_21 : decode cX3_judge 21 = .ok (.getfield 9, 3) := by decide +kernel
theorem dX3_judge_24 : decode cX3_judge 24 = .ok (.iconst 0, 1) := by decide +kernel
theorem dX3_judge_25 : decode cX3_judge 25 = .ok (.aload_n 0, 1) := by decide +kernel
theorem dX3_judge_26 : decode cX3_judge 26 = .ok (.getfield 21, 3) := by decide +kernel
theorem dX3_judge_29 : decode cX3_judge 29 = .ok (.iconst 0, 1) := by decide +kernel
theorem dX3_judge_30 : decode cX3_judge 30 = .ok (.bipush 50, 2) := by decide +kernel
theorem dX3_judge_32 : decode cX3_judge 32 = .ok (.invokestatic 75, 3) := by decide +kernel
theorem dX3_judge_35 : decode cX3_judge 35 = .ok (.iconst 1, 1) := by decide +kernel
theorem dX3_judge_36 : decode cX3_judge 36 = .ok (.istore_n 2, 1) := by decide +kernel
theorem dX3_judge_37 : decode cX3_judge 37 = .ok (.iload_n 2, 1) := by decide +kernel
theorem dX3_judge_38 : decode cX3_judge 38 = .ok (.iconst 4, 1) := by decide +kernel
theorem dX3_judge_39 : decode cX3_judge 39 = .ok (.if_icmp .gt 20, 3) := by decide +kernel
theorem dX3_judge_42 : decode cX3_judge 42 = .ok (.aload_n 0, 1) := by decide +kernel
theorem dX3_judge_43 : decode cX3_judge 43 = .ok (.getfield 24, 3) := by decide +kernel
theorem dX3_judge_46 : decode cX3_judge 46 = .ok (.iload_n 2, 1) := by decide +kernel
theorem dX3_judge_47 : decode cX3_judge 47 = .ok (.aload_n 0, 1) := by decide +kernel
theorem dX3_judge_48 : decode cX3_judge 48 = .ok (.iload_n 2, 1) := by decide +kernel
theorem dX3_judge_49 : decode cX3_judge 49 = .ok (.invokevirtual 99, 3) := by decide +kernel
theorem dX3_judge_52 : decode cX3_judge 52 = .ok (.iastore, 1) := by decide +kernel
theorem dX3_judge_53 : decode cX3_judge 53 = .ok (.iinc 2 1, 3) := by decide +kernel
theorem dX3_judge_56 : decode cX3_judge 56 = .ok (.goto (-19), 3) := by decide +kernel
theorem dX3_judge_59 : decode cX3_judge 59 = .ok (.aload_n 0, 1) := by decide +kernel
theorem dX3_judge_60 : decode cX3_judge 60 = .ok (.dup, 1) := by decide +kernel
theorem dX3_judge_61 : decode cX3_judge 61 = .ok (.getfield 55, 3) := by decide +kernel
theorem dX3_judge_64 : decode cX3_judge 64 = .ok (.iconst 1, 1) := by decide +kernel
theorem dX3_judge_65 : decode cX3_judge 65 = .ok (.iadd, 1) := by decide +kernel
theorem dX3_judge_66 : decode cX3_judge 66 = .ok (.putfield 55, 3) := by decide +kernel
theorem dX3_judge_69 : decode cX3_judge 69 = .ok (.return_, 1) := by decide +kernel
theorem dX3_gatherCorners_0 : decode cX3_gatherCorners 0 = .ok (.iconst 0, 1) := by decide +kernel
theorem dX3_gatherCorners_1 : decode cX3_gatherCorners 1 = .ok (.istore_n 2, 1) := by decide +kernel
theorem dX3_gatherCorners_2 : decode cX3_gatherCorners 2 = .ok (.iload_n 2, 1) := by decide +kernel
theorem dX3_gatherCorners_3 : decode cX3_gatherCorners 3 = .ok (.aload_n 0, 1) := by decide +kernel
theorem dX3_gatherCorners_4 : decode cX3_gatherCorners 4 = .ok (.getfield 52, 3) := by decide +kernel
theorem dX3_gatherCorners_7 : decode cX3_gatherCorners 7 = .ok (.if_icmp .ge 88, 3) := by decide +kernel
theorem dX3_gatherCorners_10 : decode cX3_gatherCorners 10 = .ok (.iload_n 2, 1) := by decide +kernel
theorem dX3_gatherCorners_11 : decode cX3_gatherCorners 11 = .ok (.ifCond .le 14, 3) := by decide +kernel
theorem dX3_gatherCorners_14 : decode cX3_gatherCorners 14 = .ok (.aload_n 0, 1) := by decide +kernel
theorem dX3_gatherCorners_15 : decode cX3_gatherCorners 15 = .ok (.getfield 9, 3) := by decide +kernel
theorem dX3_gatherCorners_18 : decode cX3_gatherCorners 18 = .ok (.iload_n 2, 1) := by decide +kernel
theorem dX3_gatherCorners_19 : decode cX3_gatherCorners 19 = .ok (.iconst 1, 1) := by decide +kernel
theorem dX3_gatherCorners_20 : decode cX3_gatherCorners 20 = .ok (.isub, 1) := by decide +kernel
theorem dX3_gatherCorners_21 : decode cX3_gatherCorners 21 = .ok (.iaload, 1) := by decide +kernel
theorem dX3_gatherCorners_22 : decode cX3_gatherCorners 22 = .ok (.goto 5, 3) := by decide +kernel
theorem dX3_gatherCorners_25 : decode cX3_gatherCorners 25 = .ok (.bipush (-9), 2) := by decide +kernel
theorem dX3_gatherCorners_27 : decode cX3_gatherCorners 27 = .ok (.istore_n 3, 1) := by decide +kernel
theorem dX3_gatherCorners_28 : decode cX3_gatherCorners 28 = .ok (.aload_n 0, 1) := by decide +kernel
theorem dX3_gatherCorners_29 : decode cX3_gatherCorners 29 = .ok (.getfield 15, 3) := by decide +kernel
theorem dX3_gatherCorners_32 : decode cX3_gatherCorners 32 = .ok (.iload_n 2, 1) := by decide +kernel
theorem dX3_gatherCorners_33 : decode cX3_gatherCorners 33 = .ok (.iload_n 3, 1) := by decide +kernel
theorem dX3_gatherCorners_34 : decode cX3_gatherCorners 34 = .ok (.ifCond .lt 17, 3) := by decide +kernel
theorem dX3_gatherCorners_37 : decode cX3_gatherCorners 37 = .ok (.iload_n 3, 1) := by decide +kernel
theorem dX3_gatherCorners_38 : decode cX3_gatherCorners 38 = .ok (.iload_n 2, 1) := by decide +kernel
theorem dX3_gatherCorners_39 : decode cX3_gatherCorners 39 = .ok (.if_icmp .ge 12, 3) := by decide +kernel
theorem dX3_gatherCorners_42 : decode cX3_gatherCorners 42 = .ok (.aload_n 0, 1) := by decide +kernel
theorem dX3_gatherCorners_43 : decode cX3_gatherCorners 43 = .ok (.getfield 15, 3) := by decide +kernel
theorem dX3_gatherCorners_46 : decode cX3_gatherCorners 46 = .ok (.iload_n 3, 1) := by decide +kernel
theorem dX3_gatherCorners_47 : decode cX3_gatherCorners 47 = .ok (.iaload, 1) := by decide +kernel
theorem dX3_gatherCorners_48 : decode cX3_gatherCorners 48 = .ok (.goto 4, 3) := by decide +kernel
theorem dX3_gatherCorners_51 : decode cX3_gatherCorners 51 = .ok (.iload_n 2, 1) := by decide +kernel
theorem dX3_gatherCorners_52 : decode cX3_gatherCorners 52 = .ok (.iastore, 1) := by decide +kernel
theorem dX3_gatherCorners_53 : decode cX3_gatherCorners 53 = .ok (.aload_n 0, 1) := by decide +kernel
theorem dX3_gatherCorners_54 : decode cX3_gatherCorners 54 = .ok (.getfield 15, 3) := by decide +kernel
theorem dX3_gatherCorners_57 : decode cX3_gatherCorners 57 = .ok (.iload_n 2, 1) := by decide +kernel
theorem dX3_gatherCorners_58 : decode cX3_gatherCorners 58 = .ok (.iaload, 1) := by decide +kernel
theorem dX3_gatherCorners_59 : decode cX3_gatherCorners 59 = .ok (.iload_n 2, 1) := by decide +kernel
theorem dX3_gatherCorners_60 : decode cX3_gatherCorners 60 = .ok (.if_icmp .ne 10, 3) := by decide +kernel
theorem dX3_gatherCorners_63 : decode cX3_gatherCorners 63 = .ok (.aload_n 0, 1) := by decide +kernel
theorem dX3_gatherCorners_64 : decode cX3_gatherCorners 64 = .ok (.getfield 18, 3) := by decide +kernel
theorem dX3_gatherCorners_67 : decode cX3_gatherCorners 67 = .ok (.iload_n 2, 1) := by decide +kernel
theorem dX3_gatherCorners_68 : decode cX3_gatherCorners 68 = .ok (.iconst 0, 1) := by decide +kernel
theorem dX3_gatherCorners_69 : decode cX3_gatherCorners 69 = .ok (.iastore, 1) := by decide +kernel
theorem dX3_gatherCorners_70 : decode cX3_gatherCorners 70 = .ok (.aload_n 0, 1) := by decide +kernel
theorem dX3_gatherCorners_71 : decode cX3_gatherCorners 71 = .ok (.getfield 18, 3) := by decide +kernel
theorem dX3_gatherCorners_74 : decode cX3_gatherCorners 74 = .ok (.aload_n 0, 1) := by decide +kernel
theorem dX3_gatherCorners_75 : decode cX3_gatherCorners 75 = .ok (.getfield 15, 3) := by decide +kernel
theorem dX3_gatherCorners_78 : decode cX3_gatherCorners 78 = .ok (.iload_n 2, 1) := by decide +kernel
theorem dX3_gatherCorners_79 : decode cX3_gatherCorners 79 = .ok (.iaload, 1) := by decide +kernel
theorem dX3_gatherCorners_80 : decode cX3_gatherCorners 80 = .ok (.dup2, 1) := by decide +kernel
theorem dX3_gatherCorners_81 : decode cX3_gatherCorners 81 = .ok (.iaload, 1) := by decide +kernel
theorem dX3_gatherCorners_82 : decode cX3_gatherCorners 82 = .ok (.aload_n 1, 1) := by decide +kernel
theorem dX3_gatherCorners_83 : decode cX3_gatherCorners 83 = .ok (.iload_n 2, 1) := by decide +kernel
theorem dX3_gatherCorners_84 : decode cX3_gatherCorners 84 = .ok (.invokevirtual 103, 3) := by decide +kernel
theorem dX3_gatherCorners_87 : decode cX3_gatherCorners 87 = .ok (.iadd, 1) := by decide +kernel
theorem dX3_gatherCorners_88 : decode cX3_gatherCorners 88 = .ok (.iastore, 1) := by decide +kernel
theorem dX3_gatherCorners_89 : decode cX3_gatherCorners 89 = .ok (.iinc 2 1, 3) := by decide +kernel
theorem dX3_gatherCorners_92 : decode cX3_gatherCorners 92 = .ok (.goto (-90), 3) := by decide +kernel
theorem dX3_gatherCorners_95 : decode cX3_gatherCorners 95 = .ok (.return_, 1) := by decide +kernel
theorem dX3_isLegal_0 : decode cX3_isLegal 0 = .ok (.iconst 0, 1) := by decide +kernel
theorem dX3_isLegal_1 : decode cX3_isLegal 1 = .ok (.istore_n 1, 1) := by decide +kernel
theorem dX3_isLegal_2 : decode cX3_isLegal 2 = .ok (.iload_n 1, 1) := by decide +kernel
theorem dX3_isLegal_3 : decode cX3_isLegal 3 = .ok (.aload_n 0, 1) := by decide +kernel
theorem dX3_isLegal_4 : decode cX3_isLegal 4 = .ok (.getfield 52, 3) := by decide +kernel
theorem dX3_isLegal_7 : decode cX3_isLegal 7 = .ok (.if_icmp .ge 31, 3) := by decide +kernel
theorem dX3_isLegal_10 : decode cX3_isLegal 10 = .ok (.aload_n 0, 1) := by decide +kernel
theorem dX3_isLegal_11 : decode cX3_isLegal 11 = .ok (.getfield 15, 3) := by decide +kernel
theorem dX3_isLegal_14 : decode cX3_isLegal 14 = .ok (.iload_n 1, 1) := by decide +kernel
theorem dX3_isLegal_15 : decode cX3_isLegal 15 = .ok (.iaload, 1) := by decide +kernel
theorem dX3_isLegal_16 : decode cX3_isLegal 16 = .ok (.iload_n 1, 1) := by decide +kernel
theorem dX3_isLegal_17 : decode cX3_isLegal 17 = .ok (.if_icmp .ne 15, 3) := by decide +kernel
theorem dX3_isLegal_20 : decode cX3_isLegal 20 = .ok (.aload_n 0, 1) := by decide +kernel
theorem dX3_isLegal_21 : decode cX3_isLegal 21 = .ok (.getfield 18, 3) := by decide +kernel
theorem dX3_isLegal_24 : decode cX3_isLegal 24 = .ok (.iload_n 1, 1) := by decide +kernel
theorem dX3_isLegal_25 : decode cX3_isLegal 25 = .ok (.iaload, 1) := by decide +kernel
theorem dX3_isLegal_26 : decode cX3_isLegal 26 = .ok (.iconst 4, 1) := by decide +kernel
theorem dX3_isLegal_27 : decode cX3_isLegal 27 = .ok (.if_icmp .le 5, 3) := by decide +kernel
theorem dX3_isLegal_30 : decode cX3_isLegal 30 = .ok (.iconst 0, 1) := by decide +kernel
theorem dX3_isLegal_31 : decode cX3_isLegal 31 = .ok (.ireturn, 1) := by decide +kernel
theorem dX3_isLegal_32 : decode cX3_isLegal 32 = .ok (.iinc 1 1, 3) := by decide +kernel
theorem dX3_isLegal_35 : decode cX3_isLegal 35 = .ok (.goto (-33), 3) := by decide +kernel
theorem dX3_isLegal_38 : decode cX3_isLegal 38 = .ok (.iconst 1, 1) := by decide +kernel
theorem dX3_isLegal_39 : decode cX3_isLegal 39 = .ok (.ireturn, 1) := by decide +kernel
theorem dX3_cornersInAll_0 : decode cX3_cornersInAll 0 = .ok (.iconst 0, 1) := by decide +kernel
theorem dX3_cornersInAll_1 : decode cX3_cornersInAll 1 = .ok (.istore_n 1, 1) := by decide +kernel
theorem dX3_cornersInAll_2 : decode cX3_cornersInAll 2 = .ok (.iconst 0, 1) := by decide +kernel
theorem dX3_cornersInAll_3 : decode cX3_cornersInAll 3 = .ok (.istore_n 2, 1) := by decide +kernel
theorem dX3_cornersInAll_4 : decode cX3_cornersInAll 4 = .ok (.iload_n 2, 1) := by decide +kernel
theorem dX3_cornersInAll_5 : decode cX3_cornersInAll 5 = .ok (.aload_n 0, 1) := by decide +kernel
theorem dX3_cornersInAll_6 : decode cX3_cornersInAll 6 = .ok (.getfield 52, 3) := by decide +kernel
theorem dX3_cornersInAll_9 : decode cX3_cornersInAll 9 = .ok (.if_icmp .ge 27, 3) := by decide +kernel
theorem dX3_cornersInAll_12 : decode cX3_cornersInAll 12 = .ok (.iload_n 1, 1) := by decide +kernel
theorem dX3_cornersInAll_13 : decode cX3_cornersInAll 13 = .ok (.aload_n 0, 1) := by decide +kernel
theorem dX3_cornersInAll_14 : decode cX3_cornersInAll 14 = .ok (.getfield 15, 3) := by decide +kernel
theorem dX3_cornersInAll_17 : decode cX3_cornersInAll 17 = .ok (.iload_n 2, 1) := by decide +kernel
theorem dX3_cornersInAll_18 : decode cX3_cornersInAll 18 = .ok (.iaload, 1) := by decide +kernel
theorem dX3_cornersInAll_19 : decode cX3_cornersInAll 19 = .ok (.iload_n 2, 1) := by decide +kernel
theorem dX3_cornersInAll_20 : decode cX3_cornersInAll 20 = .ok (.if_icmp .ne 7, 3) := by decide +kernel
theorem dX3_cornersInAll_23 : decode cX3_cornersInAll 23 = .ok (.iconst 1, 1) := by decide +kernel
theorem dX3_cornersInAll_24 : decode cX3_cornersInAll 24 = .ok (.goto 4, 3) := by decide +kernel
theorem dX3_cornersInAll_27 : decode cX3_cornersInAll 27 = .ok (.iconst 0, 1) := by decide +kernel
theorem dX3_cornersInAll_28 : decode cX3_cornersInAll 28 = .ok (.iadd, 1) := by decide +kernel
theorem dX3_cornersInAll_29 : decode cX3_cornersInAll 29 = .ok (.istore_n 1, 1) := by decide +kernel
theorem dX3_cornersInAll_30 : decode cX3_cornersInAll 30 = .ok (.iinc 2 1, 3) := by decide +kernel
theorem dX3_cornersInAll_33 : decode cX3_cornersInAll 33 = .ok (.goto (-29), 3) := by decide +kernel
theorem dX3_cornersInAll_36 : decode cX3_cornersInAll 36 = .ok (.iload_n 1, 1) := by decide +kernel
theorem dX3_cornersInAll_37 : decode cX3_cornersInAll 37 = .ok (.ireturn, 1) := by decide +kernel
theorem dX3_cornersWith_0 : decode cX3_cornersWith 0 = .ok (.iconst 0, 1) := by decide +kernel
theorem dX3_cornersWith_1 : decode cX3_cornersWith 1 = .ok (.istore_n 2, 1) := by decide +kernel
theorem dX3_cornersWith_2 : decode cX3_cornersWith 2 = .ok (.iconst 0, 1) := by decide +kernel
theorem dX3_cornersWith_3 : decode cX3_cornersWith 3 = .ok (.istore_n 3, 1) := by decide +kernel
theorem dX3_cornersWith_4 : decode cX3_cornersWith 4 = .ok (.iload_n 3, 1) := by decide +kernel
theorem dX3_cornersWith_5 : decode cX3_cornersWith 5 = .ok (.aload_n 0, 1) := by decide +kernel
theorem dX3_cornersWith_6 : decode cX3_cornersWith 6 = .ok (.getfield 52, 3) := by decide +kernel
theorem dX3_cornersWith_9 : decode cX3_cornersWith 9 = .ok (.if_icmp .ge 37, 3) := by decide +kernel
theorem dX3_cornersWith_12 : decode cX3_cornersWith 12 = .ok (.iload_n 2, 1) := by decide +kernel
theorem dX3_cornersWith_13 : decode cX3_cornersWith 13 = .ok (.aload_n 0, 1) := by decide +kernel
theorem dX3_cornersWith_14 : decode cX3_cornersWith 14 = .ok (.getfield 15, 3) := by decide +kernel
theorem dX3_cornersWith_17 : decode cX3_cornersWith 17 = .ok (.iload_n 3, 1) := by decide +kernel
theorem dX3_cornersWith_18 : decode cX3_cornersWith 18 = .ok (.iaload, 1) := by decide +kernel
theorem dX3_cornersWith_19 : decode cX3_cornersWith 19 = .ok (.iload_n 3, 1) := by decide +kernel
theorem dX3_cornersWith_20 : decode cX3_cornersWith 20 = .ok (.if_icmp .ne 17, 3) := by decide +kernel
theorem dX3_cornersWith_23 : decode cX3_cornersWith 23 = .ok (.aload_n 0, 1) := by decide +kernel
theorem dX3_cornersWith_24 : decode cX3_cornersWith 24 = .ok (.getfield 18, 3) := by decide +kernel
theorem dX3_cornersWith_27 : decode cX3_cornersWith 27 = .ok (.iload_n 3, 1) := by decide +kernel
theorem dX3_cornersWith_28 : decode cX3_cornersWith 28 = .ok (.iaload, 1) := by decide +kernel
theorem dX3_cornersWith_29 : decode cX3_cornersWith 29 = .ok (.iload_n 1, 1) := by decide +kernel
theorem dX3_cornersWith_30 : decode cX3_cornersWith 30 = .ok (.if_icmp .ne 7, 3) := by decide +kernel
theorem dX3_cornersWith_33 : decode cX3_cornersWith 33 = .ok (.iconst 1, 1) := by decide +kernel
theorem dX3_cornersWith_34 : decode cX3_cornersWith 34 = .ok (.goto 4, 3) := by decide +kernel
theorem dX3_cornersWith_37 : decode cX3_cornersWith 37 = .ok (.iconst 0, 1) := by decide +kernel
theorem dX3_cornersWith_38 : decode cX3_cornersWith 38 = .ok (.iadd, 1) := by decide +kernel
theorem dX3_cornersWith_39 : decode cX3_cornersWith 39 = .ok (.istore_n 2, 1) := by decide +kernel
theorem dX3_cornersWith_40 : decode cX3_cornersWith 40 = .ok (.iinc 3 1, 3) := by decide +kernel
theorem dX3_cornersWith_43 : decode cX3_cornersWith 43 = .ok (.goto (-39), 3) := by decide +kernel
theorem dX3_cornersWith_46 : decode cX3_cornersWith 46 = .ok (.iload_n 2, 1) := by decide +kernel
theorem dX3_cornersWith_47 : decode cX3_cornersWith 47 = .ok (.ireturn, 1) := by decide +kernel
theorem dX3_take_0 : decode cX3_take 0 = .ok (.aload_n 1, 1) := by decide +kernel
theorem dX3_take_1 : decode cX3_take 1 = .ok (.getfield 106, 3) := by decide +kernel
theorem dX3_take_4 : decode cX3_take 4 = .ok (.iload_n 2, 1) := by decide +kernel
theorem dX3_take_5 : decode cX3_take 5 = .ok (.if_icmp .ne 9, 3) := by decide +kernel
theorem dX3_take_8 : decode cX3_take 8 = .ok (.iload_n 2, 1) := by decide +kernel
theorem dX3_take_9 : decode cX3_take 9 = .ok (.bipush 24, 2) := by decide +kernel
theorem dX3_take_11 : decode cX3_take 11 = .ok (.if_icmp .le 5, 3) := by decide +kernel
theorem dX3_take_14 : decode cX3_take 14 = .ok (.iconst 0, 1) := by decide +kernel
theorem dX3_take_15 : decode cX3_take 15 = .ok (.ireturn, 1) := by decide +kernel
theorem dX3_take_16 : decode cX3_take 16 = .ok (.aload_n 0, 1) := by decide +kernel
theorem dX3_take_17 : decode cX3_take 17 = .ok (.iload_n 2, 1) := by decide +kernel
theorem dX3_take_18 : decode cX3_take 18 = .ok (.putfield 52, 3) := by decide +kernel
theorem dX3_take_21 : decode cX3_take 21 = .ok (.aload_n 1, 1) := by decide +kernel
theorem dX3_take_22 : decode cX3_take 22 = .ok (.getfield 111, 3) := by decide +kernel
theorem dX3_take_25 : decode cX3_take 25 = .ok (.iconst 0, 1) := by decide +kernel
theorem dX3_take_26 : decode cX3_take 26 = .ok (.aload_n 0, 1) := by decide +kernel
theorem dX3_take_27 : decode cX3_take 27 = .ok (.getfield 9, 3) := by decide +kernel
theorem dX3_take_30 : decode cX3_take 30 = .ok (.iconst 0, 1) := by decide +kernel
theorem dX3_take_31 : decode cX3_take 31 = .ok (.iload_n 2, 1) := by decide +kernel
theorem dX3_take_32 : decode cX3_take 32 = .ok (.invokestatic 75, 3) := by decide +kernel
theorem dX3_take_35 : decode cX3_take 35 = .ok (.iconst 0, 1) := by decide +kernel
theorem dX3_take_36 : decode cX3_take 36 = .ok (.istore_n 3, 1) := by decide +kernel
theorem dX3_take_37 : decode cX3_take 37 = .ok (.iload_n 3, 1) := by decide +kernel
theorem dX3_take_38 : decode cX3_take 38 = .ok (.iload_n 2, 1) := by decide +kernel
theorem dX3_take_39 : decode cX3_take 39 = .ok (.if_icmp .ge 27, 3) := by decide +kernel
theorem dX3_take_42 : decode cX3_take 42 = .ok (.aload_n 0, 1) := by decide +kernel
theorem dX3_take_43 : decode cX3_take 43 = .ok (.iload_n 3, 1) := by decide +kernel
theorem dX3_take_44 : decode cX3_take 44 = .ok (.invokevirtual 114, 3) := by decide +kernel
theorem dX3_take_47 : decode cX3_take 47 = .ok (.ifCond .eq 11, 3) := by decide +kernel
theorem dX3_take_50 : decode cX3_take 50 = .ok (.aload_n 0, 1) := by decide +kernel
theorem dX3_take_51 : decode cX3_take 51 = .ok (.iload_n 3, 1) := by decide +kernel
theorem dX3_take_52 : decode cX3_take 52 = .ok (.invokevirtual 117, 3) := by decide +kernel
theorem dX3_take_55 : decode cX3_take 55 = .ok (.ifCond .ne 5, 3) := by decide +kernel
theorem dX3_take_58 : decode cX3_take 58 = .ok (.iconst 0, 1) := by decide +kernel
theorem dX3_take_59 : decode cX3_take 59 = .ok (.ireturn, 1) := by decide +kernel
theorem dX3_take_60 : decode cX3_take 60 = .ok (.iinc 3 1, 3) := by decide +kernel
theorem dX3_take_63 : decode cX3_take 63 = .ok (.goto (-26), 3) := by decide +kernel
theorem dX3_take_66 : decode cX3_take 66 = .ok (.iconst 1, 1) := by decide +kernel
theorem dX3_take_67 : decode cX3_take 67 = .ok (.ireturn, 1) := by decide +kernel
theorem dX3_isPaired_0 : decode cX3_isPaired 0 = .ok (.aload_n 0, 1) := by decide +kernel
theorem dX3_isPaired_1 : decode cX3_isPaired 1 = .ok (.getfield 9, 3) := by decide +kernel
theorem dX3_isPaired_4 : decode cX3_isPaired 4 = .ok (.iload_n 1, 1) := by decide +kernel
theorem dX3_isPaired_5 : decode cX3_isPaired 5 = .ok (.iaload, 1) := by decide +kernel
theorem dX3_isPaired_6 : decode cX3_isPaired 6 = .ok (.istore_n 2, 1) := by decide +kernel
theorem dX3_isPaired_7 : decode cX3_isPaired 7 = .ok (.iload_n 2, 1) := by decide +kernel
theorem dX3_isPaired_8 : decode cX3_isPaired 8 = .ok (.iload_n 1, 1) := by decide +kernel
theorem dX3_isPaired_9 : decode cX3_isPaired 9 = .ok (.if_icmp .eq 29, 3) := by decide +kernel
theorem dX3_isPaired_12 : decode cX3_isPaired 12 = .ok (.iload_n 2, 1) := by decide +kernel
theorem dX3_isPaired_13 : decode cX3_isPaired 13 = .ok (.ifCond .lt 25, 3) := by decide +kernel
theorem dX3_isPaired_16 : decode cX3_isPaired 16 = .ok (.iload_n 2, 1) := by decide +kernel
theorem dX3_isPaired_17 : decode cX3_isPaired 17 = .ok (.aload_n 0, 1) := by decide +kernel
theorem dX3_isPaired_18 : decode cX3_isPaired 18 = .ok (.getfield 52, 3) := by decide +kernel
theorem dX3_isPaired_21 : decode cX3_isPaired 21 = .ok (.if_icmp .ge 17, 3) := by decide +kernel
theorem dX3_isPaired_24 : decode cX3_isPaired 24 = .ok (.aload_n 0, 1) := by decide +kernel
theorem dX3_isPaired_25 : decode cX3_isPaired 25 = .ok (.getfield 9, 3) := by decide +kernel
theorem dX3_isPaired_28 : decode cX3_isPaired 28 = .ok (.iload_n 2, 1) := by decide +kernel
theorem dX3_isPaired_29 : decode cX3_isPaired 29 = .ok (.iaload, 1) := by decide +kernel
theorem dX3_isPaired_30 : decode cX3_isPaired 30 = .ok (.iload_n 1, 1) := by decide +kernel
theorem dX3_isPaired_31 : decode cX3_isPaired 31 = .ok (.if_icmp .ne 7, 3) := by decide +kernel
theorem dX3_isPaired_34 : decode cX3_isPaired 34 = .ok (.iconst 1, 1) := by decide +kernel
theorem dX3_isPaired_35 : decode cX3_isPaired 35 = .ok (.goto 4, 3) := by decide +kernel
theorem dX3_isPaired_38 : decode cX3_isPaired 38 = .ok (.iconst 0, 1) := by decide +kernel
theorem dX3_isPaired_39 : decode cX3_isPaired 39 = .ok (.ireturn, 1) := by decide +kernel
theorem dX3_holdsItsOwn_0 : decode cX3_holdsItsOwn 0 = .ok (.iload_n 1, 1) := by decide +kernel
theorem dX3_holdsItsOwn_1 : decode cX3_holdsItsOwn 1 = .ok (.iconst 1, 1) := by decide +kernel
theorem dX3_holdsItsOwn_2 : decode cX3_holdsItsOwn 2 = .ok (.iadd, 1) := by decide +kernel
theorem dX3_holdsItsOwn_3 : decode cX3_holdsItsOwn 3 = .ok (.istore_n 2, 1) := by decide +kernel
theorem dX3_holdsItsOwn_4 : decode cX3_holdsItsOwn 4 = .ok (.iload_n 2, 1) := by decide +kernel
theorem dX3_holdsItsOwn_5 : decode cX3_holdsItsOwn 5 = .ok (.aload_n 0, 1) := by decide +kernel
theorem dX3_holdsItsOwn_6 : decode cX3_holdsItsOwn 6 = .ok (.getfield 9, 3) := by decide +kernel
theorem dX3_holdsItsOwn_9 : decode cX3_holdsItsOwn 9 = .ok (.iload_n 1, 1) := by decide +kernel
theorem dX3_holdsItsOwn_10 : decode cX3_holdsItsOwn 10 = .ok (.iaload, 1) := by decide +kernel
theorem dX3_holdsItsOwn_11 : decode cX3_holdsItsOwn 11 = .ok (.if_icmp .ge 34, 3) := by decide +kernel
theorem dX3_holdsItsOwn_14 : decode cX3_holdsItsOwn 14 = .ok (.aload_n 0, 1) := by decide +kernel
theorem dX3_holdsItsOwn_15 : decode cX3_holdsItsOwn 15 = .ok (.getfield 9, 3) := by decide +kernel
theorem dX3_holdsItsOwn_18 : decode cX3_holdsItsOwn 18 = .ok (.iload_n 2, 1) := by decide +kernel
theorem dX3_holdsItsOwn_19 : decode cX3_holdsItsOwn 19 = .ok (.iaload, 1) := by decide +kernel
theorem dX3_holdsItsOwn_20 : decode cX3_holdsItsOwn 20 = .ok (.iload_n 1, 1) := by decide +kernel
theorem dX3_holdsItsOwn_21 : decode cX3_holdsItsOwn 21 = .ok (.iconst 1, 1) := by decide +kernel
theorem dX3_holdsItsOwn_22 : decode cX3_holdsItsOwn 22 = .ok (.iadd, 1) := by decide +kernel
theorem dX3_holdsItsOwn_23 : decode cX3_holdsItsOwn 23 = .ok (.aload_n 0, 1) := by decide +kernel
theorem dX3_holdsItsOwn_24 : decode cX3_holdsItsOwn 24 = .ok (.getfield 9, 3) := by decide +kernel
theorem dX3_holdsItsOwn_27 : decode cX3_holdsItsOwn 27 = .ok (.iload_n 1, 1) := by decide +kernel
theorem dX3_holdsItsOwn_28 : decode cX3_holdsItsOwn 28 = .ok (.iaload, 1) := by decide +kernel
theorem dX3_holdsItsOwn_29 : decode cX3_holdsItsOwn 29 = .ok (.iconst 1, 1) := by decide +kernel
theorem dX3_holdsItsOwn_30 : decode cX3_holdsItsOwn 30 = .ok (.isub, 1) := by decide +kernel
theorem dX3_holdsItsOwn_31 : decode cX3_holdsItsOwn 31 = .ok (.invokestatic 37, 3) := by decide +kernel
theorem dX3_holdsItsOwn_34 : decode cX3_holdsItsOwn 34 = .ok (.ifCond .ne 5, 3) := by decide +kernel
theorem dX3_holdsItsOwn_37 : decode cX3_holdsItsOwn 37 = .ok (.iconst 0, 1) := by decide +kernel
theorem dX3_holdsItsOwn_38 : decode cX3_holdsItsOwn 38 = .ok (.ireturn, 1) := by decide +kernel
theorem dX3_holdsItsOwn_39 : decode cX3_holdsItsOwn 39 = .ok (.iinc 2 1, 3) := by decide +kernel
theorem dX3_holdsItsOwn_42 : decode cX3_holdsItsOwn 42 = .ok (.goto (-38), 3) := by decide +kernel
theorem dX3_holdsItsOwn_45 : decode cX3_holdsItsOwn 45 = .ok (.iconst 1, 1) := by decide +kernel
theorem dX3_holdsItsOwn_46 : decode cX3_holdsItsOwn 46 = .ok (.ireturn, 1) := by decide +kernel
theorem dX4_init_0 : decode cX4_init 0 = .ok (.aload_n 0, 1) := by decide +kernel
theorem dX4_init_1 : decode cX4_init 1 = .ok (.invokespecial 3, 3) := by decide +kernel
theorem dX4_init_4 : decode cX4_init 4 = .ok (.aload_n 0, 1) := by decide +kernel
theorem dX4_init_5 : decode cX4_init 5 = .ok (.bipush 50, 2) := by decide +kernel
theorem dX4_init_7 : decode cX4_init 7 = .ok (.newarray .int, 2) := by decide +kernel
theorem dX4_init_9 : decode cX4_init 9 = .ok (.putfield 9, 3) := by decide +kernel
theorem dX4_init_12 : decode cX4_init 12 = .ok (.aload_n 0, 1) := by decide +kernel
theorem dX4_init_13 : decode cX4_init 13 = .ok (.bipush 50, 2) := by decide +kernel
theorem dX4_init_15 : decode cX4_init 15 = .ok (.newarray .int, 2) := by decide +kernel
theorem dX4_init_17 : decode cX4_init 17 = .ok (.putfield 15, 3) := by decide +kernel
theorem dX4_init_20 : decode cX4_init 20 = .ok (.aload_n 0, 1) := by decide +kernel
theorem dX4_init_21 : decode cX4_init 21 = .ok (.bipush 50, 2) := by decide +kernel
theorem dX4_init_23 : decode cX4_init 23 = .ok (.newarray .int, 2) := by decide +kernel
theorem dX4_init_25 : decode cX4_init 25 = .ok (.putfield 18, 3) := by decide +kernel
theorem dX4_init_28 : decode cX4_init 28 = .ok (.return_, 1) := by decide +kernel
theorem dX4_walk_0 : decode cX4_walk 0 = .ok (.lload_n 1, 1) := by decide +kernel
theorem dX4_walk_1 : decode cX4_walk 1 = .ok (.invokestatic 21, 3) := by decide +kernel
theorem dX4_walk_4 : decode cX4_walk 4 = .ok (.istore_n 3, 1) := by decide +kernel
theorem dX4_walk_5 : decode cX4_walk 5 = .ok (.iload_n 3, 1) := by decide +kernel
theorem dX4_walk_6 : decode cX4_walk 6 = .ok (.istore 4, 2) := by decide +kernel
theorem dX4_walk_8 : decode cX4_walk 8 = .ok (.iconst 0, 1) := by decide +kernel
theorem dX4_walk_9 : decode cX4_walk 9 = .ok (.istore 5, 2) := by decide +kernel
theorem dX4_walk_11 : decode cX4_walk 11 = .ok (.iconst 0, 1) := by decide +kernel
theorem dX4_walk_12 : decode cX4_walk 12 = .ok (.istore 6, 2) := by decide +kernel
theorem dX4_walk_14 : decode cX4_walk 14 = .ok (.iconst 0, 1) := by decide +kernel
theorem dX4_walk_15 : decode cX4_walk 15 = .ok (.istore 7, 2) := by decide +kernel
theorem dX4_walk_17 : decode cX4_walk 17 = .ok (.aload_n 0, 1) := by decide +kernel
theorem dX4_walk_18 : decode cX4_walk 18 = .ok (.iconst 0, 1) := by decide +kernel
theorem dX4_walk_19 : decode cX4_walk 19 = .ok (.putfield 27, 3) := by decide +kernel
theorem dX4_walk_22 : decode cX4_walk 22 = .ok (.aload_n 0, 1) := by decide +kernel
theorem dX4_walk_23 : decode cX4_walk 23 = .ok (.getfield 27, 3) := by decide +kernel
theorem dX4_walk_26 : decode cX4_walk 26 = .ok (.bipush 50, 2) := by decide +kernel
theorem dX4_walk_28 : decode cX4_walk 28 = .ok (.if_icmp .ge 151, 3) := by decide +kernel
theorem dX4_walk_31 : decode cX4_walk 31 = .ok (.iload 7, 2) := by decide +kernel
theorem dX4_walk_33 : decode cX4_walk 33 = .ok (.ifCond .ne 146, 3) := by decide +kernel
theorem dX4_walk_36 : decode cX4_walk 36 = .ok (.aload_n 0, 1) := by decide +kernel
theorem dX4_walk_37 : decode cX4_walk 37 = .ok (.getfield 9, 3) := by decide +kernel
theorem dX4_walk_40 : decode cX4_walk 40 = .ok (.aload_n 0, 1) := by decide +kernel
theorem dX4_walk_41 : decode cX4_walk 41 = .ok (.getfield 27, 3) := by decide +kernel
theorem dX4_walk_44 : decode cX4_walk 44 = .ok (.iload 5, 2) := by decide +kernel
theorem dX4_walk_46 : decode cX4_walk 46 = .ok (.iastore, 1) := by decide +kernel
theorem dX4_walk_47 : decode cX4_walk 47 = .ok (.aload_n 0, 1) := by decide +kernel
theorem dX4_walk_48 : decode cX4_walk 48 = .ok (.getfield 18, 3) := by decide +kernel
theorem dX4_walk_51 : decode cX4_walk 51 = .ok (.aload_n 0, 1) := by decide +kernel
theorem dX4_walk_52 : decode cX4_walk 52 = .ok (.getfield 27, 3) := by decide +kernel
theorem dX4_walk_55 : decode cX4_walk 55 = .ok (.iload 4, 2) := by decide +kernel
theorem dX4_walk_57 : decode cX4_walk 57 = .ok (.iastore, 1) := by decide +kernel
theorem dX4_walk_58 : decode cX4_walk 58 = .ok (.aload_n 0, 1) := by decide +kernel
theorem dX4_walk_59 : decode cX4_walk 59 = .ok (.getfield 15, 3) := by decide +kernel
theorem dX4_walk_62 : decode cX4_walk 62 = .ok (.aload_n 0, 1) := by decide +kernel
theorem dX4_walk_63 : decode cX4_walk 63 = .ok (.getfield 27, 3) := by decide +kernel
theorem dX4_walk_66 : decode cX4_walk 66 = .ok (.iload 6, 2) := by decide +kernel
theorem dX4_walk_68 : decode cX4_walk 68 = .ok (.iastore, 1) := by decide +kernel
theorem dX4_walk_69 : decode cX4_walk 69 = .ok (.aload_n 0, 1) := by decide +kernel
theorem dX4_walk_70 : decode cX4_walk 70 = .ok (.dup, 1) := by decide +kernel
theorem dX4_walk_71 : decode cX4_walk 71 = .ok (.getfield 27, 3) := by decide +kernel
theorem dX4_walk_74 : decode cX4_walk 74 = .ok (.iconst 1, 1) := by decide +kernel
theorem dX4_walk_75 : decode cX4_walk 75 = .ok (.iadd, 1) := by decide +kernel
theorem dX4_walk_76 : decode cX4_walk 76 = .ok (.putfield 27, 3) := by decide +kernel
theorem dX4_walk_79 : decode cX4_walk 79 = .ok (.iload 4, 2) := by decide +kernel
theorem dX4_walk_81 : decode cX4_walk 81 = .ok (.iload 5, 2) := by decide +kernel
theorem dX4_walk_83 : decode cX4_walk 83 = .ok (.invokestatic 31, 3) := by decide +kernel
theorem dX4_walk_86 : decode cX4_walk 86 = .ok (.istore 8, 2) := by decide +kernel
theorem dX4_walk_88 : decode cX4_walk 88 = .ok (.iload 8, 2) := by decide +kernel
theorem dX4_walk_90 : decode cX4_walk 90 = .ok (.iload 5, 2) := by decide +kernel
theorem dX4_walk_92 : decode cX4_walk 92 = .ok (.iconst 3, 1) := by decide +kernel
theorem dX4_walk_93 : decode cX4_walk 93 = .ok (.iadd, 1) := by decide +kernel
theorem dX4_walk_94 : decode cX4_walk 94 = .ok (.iconst 3, 1) := by decide +kernel
theorem dX4_walk_95 : decode cX4_walk 95 = .ok (.iand, 1) := by decide +kernel
theorem dX4_walk_96 : decode cX4_walk 96 = .ok (.invokestatic 31, 3) := by decide +kernel
theorem dX4_walk_99 : decode cX4_walk 99 = .ok (.istore 9, 2) := by decide +kernel
theorem dX4_walk_101 : decode cX4_walk 101 = .ok (.lload_n 1, 1) := by decide +kernel
theorem dX4_walk_102 : decode cX4_walk 102 = .ok (.iload 8, 2) := by decide +kernel
theorem dX4_walk_104 : decode cX4_walk 104 = .ok (.invokestatic 34, 3) := by decide +kernel
theorem dX4_walk_107 : decode cX4_walk 107 = .ok (.ifCond .ne 17, 3) := by decide +kernel
theorem dX4_walk_110 : decode cX4_walk 110 = .ok (.iconst 1, 1) := by decide +kernel
theorem dX4_walk_111 : decode cX4_walk 111 = .ok (.istore 6, 2) := by decide +kernel
theorem dX4_walk_113 : decode cX4_walk 113 = .ok (.iload 5, 2) := by decide +kernel
theorem dX4_walk_115 : decode cX4_walk 115 = .ok (.iconst 1, 1) := by decide +kernel
theorem dX4_walk_116 : decode cX4_walk 116 = .ok (.iadd, 1) := by decide +kernel
theorem dX4_walk_117 : decode cX4_walk 117 = .ok (.iconst 3, 1) := by decide +kernel
theorem dX4_walk_118 : decode cX4_walk 118 = .ok (.iand, 1) := by decide +kernel
theorem dX4_walk_119 : decode cX4_walk 119 = .ok (.istore 5, 2) := by decide +kernel
theorem dX4_walk_121 : decode cX4_walk 121 = .ok (.goto 37, 3) := by decide +kernel
theorem dX4_walk_124 : decode cX4_walk 124 = .ok (.lload_n 1, 1) := by decide +kernel
theorem dX4_walk_125 : decode cX4_walk 125 = .ok (.iload 9, 2) := by decide +kernel
theorem dX4_walk_127 : decode cX4_walk 127 = .ok (.invokestatic 34, 3) := by decide +kernel
theorem dX4_walk_130 : decode cX4_walk 130 = .ok (.ifCond .ne 13, 3) := by decide +kernel
theorem dX4_walk_133 : decode cX4_walk 133 = .ok (.iconst 2, 1) := by decide +kernel
theorem dX4_walk_134 : decode cX4_walk 134 = .ok (.istore 6, 2) := by decide +kernel
theorem dX4_walk_136 : decode cX4_walk 136 = .ok (.iload 8, 2) := by decide +kernel
theorem dX4_walk_138 : decode cX4_walk 138 = .ok (.istore 4, 2) := by decide +kernel
theorem dX4_walk_140 : decode cX4_walk 140 = .ok (.goto 18, 3) := by decide +kernel
theorem dX4_walk_143 : decode cX4_walk 143 = .ok (.iconst 3, 1) := by decide +kernel
theorem dX4_walk_144 : decode cX4_walk 144 = .ok (.istore 6, 2) := by decide +kernel
theorem dX4_walk_146 : decode cX4_walk 146 = .ok (.iload 9, 2) := by decide +kernel
theorem dX4_walk_148 : decode cX4_walk 148 = .ok (.istore 4, 2) := by decide +kernel
theorem dX4_walk_150 : decode cX4_walk 150 = .ok (.iload 5, 2) := by decide +kernel
theorem dX4_walk_152 : decode cX4_walk 152 = .ok (.iconst 3, 1) := by decide +kernel
theorem dX4_walk_153 : decode cX4_walk 153 = .ok (.iadd, 1) := by decide +kernel
theorem dX4_walk_154 : decode cX4_walk 154 = .ok (.iconst 3, 1) := by decide +kernel
theorem dX4_walk_155 : decode cX4_walk 155 = .ok (.iand, 1) := by decide +kernel
theorem dX4_walk_156 : decode cX4_walk 156 = .ok (.istore 5, 2) := by decide +kernel
theorem dX4_walk_158 : decode cX4_walk 158 = .ok (.iload 4, 2) := by decide +kernel
theorem dX4_walk_160 : decode cX4_walk 160 = .ok (.iload_n 3, 1) := by decide +kernel
theorem dX4_walk_161 : decode cX4_walk 161 = .ok (.if_icmp .ne 12, 3) := by decide +kernel
theorem dX4_walk_164 : decode cX4_walk 164 = .ok (.iload 5, 2) := by decide +kernel
theorem dX4_walk_166 : decode cX4_walk 166 = .ok (.ifCond .ne 7, 3) := by decide +kernel
theorem dX4_walk_169 : decode cX4_walk 169 = .ok (.iconst 1, 1) := by decide +kernel
theorem dX4_walk_170 : decode cX4_walk 170 = .ok (.goto 4, 3) := by decide +kernel
theorem dX4_walk_173 : decode cX4_walk 173 = .ok (.iconst 0, 1) := by decide +kernel
theorem dX4_walk_174 : decode cX4_walk 174 = .ok (.istore 7, 2) := by decide +kernel
theorem dX4_walk_176 : decode cX4_walk 176 = .ok (.goto (-154), 3) := by decide +kernel
theorem dX4_walk_179 : decode cX4_walk 179 = .ok (.aload_n 0, 1) := by decide +kernel
theorem dX4_walk_180 : decode cX4_walk 180 = .ok (.getfield 15, 3) := by decide +kernel
theorem dX4_walk_183 : decode cX4_walk 183 = .ok (.iconst 0, 1) := by decide +kernel
theorem dX4_walk_184 : decode cX4_walk 184 = .ok (.iload 6, 2) := by decide +kernel
theorem dX4_walk_186 : decode cX4_walk 186 = .ok (.iastore, 1) := by decide +kernel
theorem dX4_walk_187 : decode cX4_walk 187 = .ok (.iload 7, 2) := by decide +kernel
theorem dX4_walk_189 : decode cX4_walk 189 = .ok (.ifCond .eq 18, 3) := by decide +kernel
theorem dX4_walk_192 : decode cX4_walk 192 = .ok (.aload_n 0, 1) := by decide +kernel
theorem dX4_walk_193 : decode cX4_walk 193 = .ok (.getfield 27, 3) := by decide +kernel
theorem dX4_walk_196 : decode cX4_walk 196 = .ok (.lload_n 1, 1) := by decide +kernel
theorem dX4_walk_197 : decode cX4_walk 197 = .ok (.invokestatic 38, 3) := by decide +kernel
theorem dX4_walk_200 : decode cX4_walk 200 = .ok (.if_icmp .ne 7, 3) := by decide +kernel
theorem dX4_walk_203 : decode cX4_walk 203 = .ok (.iconst 1, 1) := by decide +kernel
theorem dX4_walk_204 : decode cX4_walk 204 = .ok (.goto 4, 3) := by decide +kernel
theorem dX4_walk_207 : decode cX4_walk 207 = .ok (.iconst 0, 1) := by decide +kernel
theorem dX4_walk_208 : decode cX4_walk 208 = .ok (.ireturn, 1) := by decide +kernel
theorem dX4_hasEdge_0 : decode cX4_hasEdge 0 = .ok (.iload_n 1, 1) := by decide +kernel
theorem dX4_hasEdge_1 : decode cX4_hasEdge 1 = .ok (.ifCond .lt 15, 3) := by decide +kernel
theorem dX4_hasEdge_4 : decode cX4_hasEdge 4 = .ok (.iload_n 1, 1) := by decide +kernel
theorem dX4_hasEdge_5 : decode cX4_hasEdge 5 = .ok (.aload_n 0, 1) := by decide +kernel
theorem dX4_hasEdge_6 : decode cX4_hasEdge 6 = .ok (.getfield 27, 3) := by decide +kernel
theorem dX4_hasEdge_9 : decode cX4_hasEdge 9 = .ok (.if_icmp .ge 7, 3) := by decide +kernel
theorem dX4_hasEdge_12 : decode cX4_hasEdge 12 = .ok (.iconst 1, 1) := by decide +kernel
theorem dX4_hasEdge_13 : decode cX4_hasEdge 13 = .ok (.goto 4, 3) := by decide +kernel
theorem dX4_hasEdge_16 : decode cX4_hasEdge 16 = .ok (.iconst 0, 1) := by decide +kernel
theorem dX4_hasEdge_17 : decode cX4_hasEdge 17 = .ok (.ireturn, 1) := by decide +kernel
theorem dX4_tellEdge_0 : decode cX4_tellEdge 0 = .ok (.aload_n 0, 1) := by decide +kernel
theorem dX4_tellEdge_1 : decode cX4_tellEdge 1 = .ok (.iload_n 1, 1) := by decide +kernel
theorem dX4_tellEdge_2 : decode cX4_tellEdge 2 = .ok (.invokevirtual 41, 3) := by decide +kernel
theorem dX4_tellEdge_5 : decode cX4_tellEdge 5 = .ok (.ifCond .ne 6, 3) := by decide +kernel
theorem dX4_tellEdge_8 : decode cX4_tellEdge 8 = .ok (.bipush (-9), 2) := by decide +kernel
theorem dX4_tellEdge_10 : decode cX4_tellEdge 10 = .ok (.ireturn, 1) := by decide +kernel
theorem dX4_tellEdge_11 : decode cX4_tellEdge 11 = .ok (.iload_n 2, 1) := by decide +kernel
theorem dX4_tellEdge_12 : decode cX4_tellEdge 12 = .ok (.lookupswitch 42 #[(0, 28), (1, 35)], 28) := by decide +kernel
theorem dX4_tellEdge_40 : decode cX4_tellEdge 40 = .ok (.aload_n 0, 1) := by decide +kernel
theorem dX4_tellEdge_41 : decode cX4_tellEdge 41 = .ok (.getfield 9, 3) := by decide +kernel
theorem dX4_tellEdge_44 : decode cX4_tellEdge 44 = .ok (.iload_n 1, 1) := by decide +kernel
theorem dX4_tellEdge_45 : decode cX4_tellEdge 45 = .ok (.iaload, 1) := by decide +kernel
theorem dX4_tellEdge_46 : decode cX4_tellEdge 46 = .ok (.ireturn, 1) := by decide +kernel
theorem dX4_tellEdge_47 : decode cX4_tellEdge 47 = .ok (.aload_n 0, 1) := by decide +kernel
theorem dX4_tellEdge_48 : decode cX4_tellEdge 48 = .ok (.getfield 15, 3) := by decide +kernel
theorem dX4_tellEdge_51 : decode cX4_tellEdge 51 = .ok (.iload_n 1, 1) := by decide +kernel
theorem dX4_tellEdge_52 : decode cX4_tellEdge 52 = .ok (.iaload, 1) := by decide +kernel
theorem dX4_tellEdge_53 : decode cX4_tellEdge 53 = .ok (.ireturn, 1) := by decide +kernel
theorem dX4_tellEdge_54 : decode cX4_tellEdge 54 = .ok (.aload_n 0, 1) := by decide +kernel
theorem dX4_tellEdge_55 : decode cX4_tellEdge 55 = .ok (.getfield 18, 3) := by decide +kernel
theorem dX4_tellEdge_58 : decode cX4_tellEdge 58 = .ok (.iload_n 1, 1) := by decide +kernel
theorem dX4_tellEdge_59 : decode cX4_tellEdge 59 = .ok (.iaload, 1) := by decide +kernel
theorem dX4_tellEdge_60 : decode cX4_tellEdge 60 = .ok (.ireturn, 1) := by decide +kernel
theorem dX4_angleAt_0 : decode cX4_angleAt 0 = .ok (.aload_n 0, 1) := by decide +kernel
theorem dX4_angleAt_1 : decode cX4_angleAt 1 = .ok (.iload_n 1, 1) := by decide +kernel
theorem dX4_angleAt_2 : decode cX4_angleAt 2 = .ok (.invokevirtual 41, 3) := by decide +kernel
theorem dX4_angleAt_5 : decode cX4_angleAt 5 = .ok (.ifCond .eq 12, 3) := by decide +kernel
theorem dX4_angleAt_8 : decode cX4_angleAt 8 = .ok (.aload_n 0, 1) := by decide +kernel
theorem dX4_angleAt_9 : decode cX4_angleAt 9 = .ok (.getfield 15, 3) := by decide +kernel
theorem dX4_angleAt_12 : decode cX4_angleAt 12 = .ok (.iload_n 1, 1) := by decide +kernel
theorem dX4_angleAt_13 : decode cX4_angleAt 13 = .ok (.iaload, 1) := by decide +kernel
theorem dX4_angleAt_14 : decode cX4_angleAt 14 = .ok (.goto 4, 3) := by decide +kernel
theorem dX4_angleAt_17 : decode cX4_angleAt 17 = .ok (.iconst 0, 1) := by decide +kernel
theorem dX4_angleAt_18 : decode cX4_angleAt 18 = .ok (.ireturn, 1) := by decide +kernel
theorem dX4_sumOfAngles_0 : decode cX4_sumOfAngles 0 = .ok (.iconst 0, 1) := by decide +kernel
theorem dX4_sumOfAngles_1 : decode cX4_sumOfAngles 1 = .ok (.istore_n 1, 1) := by decide +kernel
theorem dX4_sumOfAngles_2 : decode cX4_sumOfAngles 2 = .ok (.iconst 0, 1) := by decide +kernel
theorem dX4_sumOfAngles_3 : decode cX4_sumOfAngles 3 = .ok (.istore_n 2, 1) := by decide +kernel
theorem dX4_sumOfAngles_4 : decode cX4_sumOfAngles 4 = .ok (.iload_n 2, 1) := by decide +kernel
theorem dX4_sumOfAngles_5 : decode cX4_sumOfAngles 5 = .ok (.aload_n 0, 1) := by decide +kernel
theorem dX4_sumOfAngles_6 : decode cX4_sumOfAngles 6 = .ok (.getfield 27, 3) := by decide +kernel
theorem dX4_sumOfAngles_9 : decode cX4_sumOfAngles 9 = .ok (.if_icmp .ge 18, 3) := by decide +kernel
theorem dX4_sumOfAngles_12 : decode cX4_sumOfAngles 12 = .ok (.iload_n 1, 1) := by decide +kernel
theorem dX4_sumOfAngles_13 : decode cX4_sumOfAngles 13 = .ok (.aload_n 0, 1) := by decide +kernel
theorem dX4_sumOfAngles_14 : decode cX4_sumOfAngles 14 = .ok (.getfield 15, 3) := by decide +kernel
theorem dX4_sumOfAngles_17 : decode cX4_sumOfAngles 17 = .ok (.iload_n 2, 1) := by decide +kernel
theorem dX4_sumOfAngles_18 : decode cX4_sumOfAngles 18 = .ok (.iaload, 1) := by decide +kernel
theorem dX4_sumOfAngles_19 : decode cX4_sumOfAngles 19 = .ok (.iadd, 1) := by decide +kernel
theorem dX4_sumOfAngles_20 : decode cX4_sumOfAngles 20 = .ok (.istore_n 1, 1) := by decide +kernel
theorem dX4_sumOfAngles_21 : decode cX4_sumOfAngles 21 = .ok (.iinc 2 1, 3) := by decide +kernel
theorem dX4_sumOfAngles_24 : decode cX4_sumOfAngles 24 = .ok (.goto (-20), 3) := by decide +kernel
theorem dX4_sumOfAngles_27 : decode cX4_sumOfAngles 27 = .ok (.iload_n 1, 1) := by decide +kernel
theorem dX4_sumOfAngles_28 : decode cX4_sumOfAngles 28 = .ok (.ireturn, 1) := by decide +kernel
theorem dX5_init_0 : decode cX5_init 0 = .ok (.aload_n 0, 1) := by decide +kernel
theorem dX5_init_1 : decode cX5_init 1 = .ok (.invokespecial 3, 3) := by decide +kernel
theorem dX5_init_4 : decode cX5_init 4 = .ok (.aload_n 0, 1) := by decide +kernel
theorem dX5_init_5 : decode cX5_init 5 = .ok (.bipush 24, 2) := by decide +kernel
theorem dX5_init_7 : decode cX5_init 7 = .ok (.newarray .int, 2) := by decide +kernel
theorem dX5_init_9 : decode cX5_init 9 = .ok (.putfield 9, 3) := by decide +kernel
theorem dX5_init_12 : decode cX5_init 12 = .ok (.aload_n 0, 1) := by decide +kernel
theorem dX5_init_13 : decode cX5_init 13 = .ok (.iconst (-1), 1) := by decide +kernel
theorem dX5_init_14 : decode cX5_init 14 = .ok (.putfield 15, 3) := by decide +kernel
theorem dX5_init_17 : decode cX5_init 17 = .ok (.return_, 1) := by decide +kernel
theorem dX5_isThere_0 : decode cX5_isThere 0 = .ok (.aload_n 0, 1) := by decide +kernel
theorem dX5_isThere_1 : decode cX5_isThere 1 = .ok (.getfield 15, 3) := by decide +kernel
theorem dX5_isThere_4 : decode cX5_isThere 4 = .ok (.iconst (-1), 1) := by decide +kernel
theorem dX5_isThere_5 : decode cX5_isThere 5 = .ok (.if_icmp .eq 7, 3) := by decide +kernel
theorem dX5_isThere_8 : decode cX5_isThere 8 = .ok (.iconst 1, 1) := by decide +kernel
theorem dX5_isThere_9 : decode cX5_isThere 9 = .ok (.goto 4, 3) := by decide +kernel
theorem dX5_isThere_12 : decode cX5_isThere 12 = .ok (.iconst 0, 1) := by decide +kernel
theorem dX5_isThere_13 : decode cX5_isThere 13 = .ok (.ireturn, 1) := by decide +kernel
theorem dX5_hasPlace_0 : decode cX5_hasPlace 0 = .ok (.iload_n 1, 1) := by decide +kernel
theorem dX5_hasPlace_1 : decode cX5_hasPlace 1 = .ok (.ifCond .lt 15, 3) := by decide +kernel
theorem dX5_hasPlace_4 : decode cX5_hasPlace 4 = .ok (.iload_n 1, 1) := by decide +kernel
theorem dX5_hasPlace_5 : decode cX5_hasPlace 5 = .ok (.aload_n 0, 1) := by decide +kernel
theorem dX5_hasPlace_6 : decode cX5_hasPlace 6 = .ok (.getfield 15, 3) := by decide +kernel
theorem dX5_hasPlace_9 : decode cX5_hasPlace 9 = .ok (.if_icmp .ge 7, 3) := by decide +kernel
theorem dX5_hasPlace_12 : decode cX5_hasPlace 12 = .ok (.iconst 1, 1) := by decide +kernel
theorem dX5_hasPlace_13 : decode cX5_hasPlace 13 = .ok (.goto 4, 3) := by decide +kernel
theorem dX5_hasPlace_16 : decode cX5_hasPlace 16 = .ok (.iconst 0, 1) := by decide +kernel
theorem dX5_hasPlace_17 : decode cX5_hasPlace 17 = .ok (.ireturn, 1) := by decide +kernel
theorem dX5_hasPlaces_0 : decode cX5_hasPlaces 0 = .ok (.iload_n 1, 1) := by decide +kernel
theorem dX5_hasPlaces_1 : decode cX5_hasPlaces 1 = .ok (.ifCond .lt 29, 3) := by decide +kernel
theorem dX5_hasPlaces_4 : decode cX5_hasPlaces 4 = .ok (.iload_n 2, 1) := by decide +kernel
theorem dX5_hasPlaces_5 : decode cX5_hasPlaces 5 = .ok (.ifCond .lt 25, 3) := by decide +kernel
theorem dX5_hasPlaces_8 : decode cX5_hasPlaces 8 = .ok (.iload_n 2, 1) := by decide +kernel
theorem dX5_hasPlaces_9 : decode cX5_hasPlaces 9 = .ok (.aload_n 0, 1) := by decide +kernel
theorem dX5_hasPlaces_10 : decode cX5_hasPlaces 10 = .ok (.getfield 15, 3) := by decide +kernel
theorem dX5_hasPlaces_13 : decode cX5_hasPlaces 13 = .ok (.if_icmp .gt 17, 3) := by decide +kernel
theorem dX5_hasPlaces_16 : decode cX5_hasPlaces 16 = .ok (.iload_n 1, 1) := by decide +kernel
theorem dX5_hasPlaces_17 : decode cX5_hasPlaces 17 = .ok (.aload_n 0, 1) := by decide +kernel
theorem dX5_hasPlaces_18 : decode cX5_hasPlaces 18 = .ok (.getfield 15, 3) := by decide +kernel
theorem dX5_hasPlaces_21 : decode cX5_hasPlaces 21 = .ok (.iload_n 2, 1) := by decide +kernel
theorem dX5_hasPlaces_22 : decode cX5_hasPlaces 22 = .ok (.isub, 1) := by decide +kernel
theorem dX5_hasPlaces_23 : decode cX5_hasPlaces 23 = .ok (.if_icmp .gt 7, 3) := by decide +kernel
theorem dX5_hasPlaces_26 : decode cX5_hasPlaces 26 = .ok (.iconst 1, 1) := by decide +kernel
theorem dX5_hasPlaces_27 : decode cX5_hasPlaces 27 = .ok (.goto 4, 3) := by decide +kernel
theorem dX5_hasPlaces_30 : decode cX5_hasPlaces 30 = .ok (.iconst 0, 1) := by decide +kernel
theorem dX5_hasPlaces_31 : decode cX5_hasPlaces 31 = .ok (.ireturn, 1) := by decide +kernel
theorem dX5_begin_0 : decode cX5_begin 0 = .ok (.aload_n 0, 1) := by decide +kernel
theorem dX5_begin_1 : decode cX5_begin 1 = .ok (.getfield 9, 3) := by decide +kernel
theorem dX5_begin_4 : decode cX5_begin 4 = .ok (.iconst 0, 1) := by decide +kernel
theorem dX5_begin_5 : decode cX5_begin 5 = .ok (.invokestatic 19, 3) := by decide +kernel
theorem dX5_begin_8 : decode cX5_begin 8 = .ok (.aload_n 0, 1) := by decide +kernel
theorem dX5_begin_9 : decode cX5_begin 9 = .ok (.iconst 0, 1) := by decide +kernel
theorem dX5_begin_10 : decode cX5_begin 10 = .ok (.iload_n 1, 1) := by decide +kernel
theorem dX5_begin_11 : decode cX5_begin 11 = .ok (.bipush 24, 2) := by decide +kernel
theorem dX5_begin_13 : decode cX5_begin 13 = .ok (.invokestatic 25, 3) := by decide +kernel
theorem dX5_begin_16 : decode cX5_begin 16 = .ok (.invokestatic 31, 3) := by decide +kernel
theorem dX5_begin_19 : decode cX5_begin 19 = .ok (.putfield 15, 3) := by decide +kernel
theorem dX5_begin_22 : decode cX5_begin 22 = .ok (.return_, 1) := by decide +kernel
theorem dX5_takeAway_0 : decode cX5_takeAway 0 = .ok (.aload_n 0, 1) := by decide +kernel
theorem dX5_takeAway_1 : decode cX5_takeAway 1 = .ok (.iconst (-1), 1) := by decide +kernel
theorem dX5_takeAway_2 : decode cX5_takeAway 2 = .ok (.putfield 15, 3) := by decide +kernel
theorem dX5_takeAway_5 : decode cX5_takeAway 5 = .ok (.return_, 1) := by decide +kernel
theorem dX5_sum_0 : decode cX5_sum 0 = .ok (.lconst 0, 1) := by decide +kernel
theorem dX5_sum_1 : decode cX5_sum 1 = .ok (.lstore_n 1, 1) := by decide +kernel
theorem dX5_sum_2 : decode cX5_sum 2 = .ok (.iconst 0, 1) := by decide +kernel
theorem dX5_sum_3 : decode cX5_sum 3 = .ok (.istore_n 3, 1) := by decide +kernel
theorem dX5_sum_4 : decode cX5_sum 4 = .ok (.iload_n 3, 1) := by decide +kernel
theorem dX5_sum_5 : decode cX5_sum 5 = .ok (.aload_n 0, 1) := by decide +kernel
theorem dX5_sum_6 : decode cX5_sum 6 = .ok (.getfield 15, 3) := by decide +kernel
theorem dX5_sum_9 : decode cX5_sum 9 = .ok (.if_icmp .ge 19, 3) := by decide +kernel
theorem dX5_sum_12 : decode cX5_sum 12 = .ok (.lload_n 1, 1) := by decide +kernel
theorem dX5_sum_13 : decode cX5_sum 13 = .ok (.aload_n 0, 1) := by decide +kernel
theorem dX5_sum_14 : decode cX5_sum 14 = .ok (.getfield 9, 3) := by decide +kernel
theorem dX5_sum_17 : decode cX5_sum 17 = .ok (.iload_n 3, 1) := by decide +kernel
theorem dX5_sum_18 : decode cX5_sum 18 = .ok (.iaload, 1) := by decide +kernel
theorem dX5_sum_19 : decode cX5_sum 19 = .ok (.i2l, 1) := by decide +kernel
theorem dX5_sum_20 : decode cX5_sum 20 = .ok (.ladd, 1) := by decide +kernel
theorem dX5_sum_21 : decode cX5_sum 21 = .ok (.lstore_n 1, 1) := by decide +kernel
theorem dX5_sum_22 : decode cX5_sum 22 = .ok (.iinc 3 1, 3) := by decide +kernel
theorem dX5_sum_25 : decode cX5_sum 25 = .ok (.goto (-21), 3) := by decide +kernel
theorem dX5_sum_28 : decode cX5_sum 28 = .ok (.lload_n 1, 1) := by decide +kernel
theorem dX5_sum_29 : decode cX5_sum 29 = .ok (.lreturn, 1) := by decide +kernel
theorem dX5_digestInto_0 : decode cX5_digestInto 0 = .ok (.ldc2_w 34, 3) := by decide +kernel
theorem dX5_digestInto_3 : decode cX5_digestInto 3 = .ok (.lload_n 1, 1) := by decide +kernel
theorem dX5_digestInto_4 : decode cX5_digestInto 4 = .ok (.lmul, 1) := by decide +kernel
theorem dX5_digestInto_5 : decode cX5_digestInto 5 = .ok (.aload_n 0, 1) := by decide +kernel
theorem dX5_digestInto_6 : decode cX5_digestInto 6 = .ok (.getfield 15, 3) := by decide +kernel
theorem dX5_digestInto_9 : decode cX5_digestInto 9 = .ok (.i2l, 1) := by decide +kernel
theorem dX5_digestInto_10 : decode cX5_digestInto 10 = .ok (.ladd, 1) := by decide +kernel
theorem dX5_digestInto_11 : decode cX5_digestInto 11 = .ok (.lstore_n 3, 1) := by decide +kernel
theorem dX5_digestInto_12 : decode cX5_digestInto 12 = .ok (.iconst 0, 1) := by decide +kernel
theorem dX5_digestInto_13 : decode cX5_digestInto 13 = .ok (.istore 5, 2) := by decide +kernel
theorem dX5_digestInto_15 : decode cX5_digestInto 15 = .ok (.iload 5, 2) := by decide +kernel
theorem dX5_digestInto_17 : decode cX5_digestInto 17 = .ok (.aload_n 0, 1) := by decide +kernel
theorem dX5_digestInto_18 : decode cX5_digestInto 18 = .ok (.getfield 15, 3) := by decide +kernel
theorem dX5_digestInto_21 : decode cX5_digestInto 21 = .ok (.if_icmp .ge 24, 3) := by decide +kernel
theorem dX5_digestInto_24 : decode cX5_digestInto 24 = .ok (.ldc2_w 34, 3) := by decide +kernel
theorem dX5_digestInto_27 : decode cX5_digestInto 27 = .ok (.lload_n 3, 1) := by decide +kernel
theorem dX5_digestInto_28 : decode cX5_digestInto 28 = .ok (.lmul, 1) := by decide +kernel
theorem dX5_digestInto_29 : decode cX5_digestInto 29 = .ok (.aload_n 0, 1) := by decide +kernel
theorem dX5_digestInto_30 : decode cX5_digestInto 30 = .ok (.getfield 9, 3) := by decide +kernel
theorem dX5_digestInto_33 : decode cX5_digestInto 33 = .ok (.iload 5, 2) := by decide +kernel
theorem dX5_digestInto_35 : decode cX5_digestInto 35 = .ok (.iaload, 1) := by decide +kernel
theorem dX5_digestInto_36 : decode cX5_digestInto 36 = .ok (.i2l, 1) := by decide +kernel
theorem dX5_digestInto_37 : decode cX5_digestInto 37 = .ok (.ladd, 1) := by decide +kernel
theorem dX5_digestInto_38 : decode cX5_digestInto 38 = .ok (.lstore_n 3, 1) := by decide +kernel
theorem dX5_digestInto_39 : decode cX5_digestInto 39 = .ok (.iinc 5 1, 3) := by decide +kernel
theorem dX5_digestInto_42 : decode cX5_digestInto 42 = .ok (.goto (-27), 3) := by decide +kernel
theorem dX5_digestInto_45 : decode cX5_digestInto 45 = .ok (.lload_n 3, 1) := by decide +kernel
theorem dX5_digestInto_46 : decode cX5_digestInto 46 = .ok (.lreturn, 1) := by decide +kernel
theorem dX6_init_0 : decode cX6_init 0 = .ok (.aload_n 0, 1) := by decide +kernel
theorem dX6_init_1 : decode cX6_init 1 = .ok (.invokespecial 3, 3) := by decide +kernel
theorem dX6_init_4 : decode cX6_init 4 = .ok (.aload_n 0, 1) := by decide +kernel
theorem dX6_init_5 : decode cX6_init 5 = .ok (.bipush 64, 2) := by decide +kernel
theorem dX6_init_7 : decode cX6_init 7 = .ok (.newarray .int, 2) := by decide +kernel
theorem dX6_init_9 : decode cX6_init 9 = .ok (.putfield 9, 3) := by decide +kernel
theorem dX6_init_12 : decode cX6_init 12 = .ok (.aload_n 0, 1) := by decide +kernel
theorem dX6_init_13 : decode cX6_init 13 = .ok (.bipush 24, 2) := by decide +kernel
theorem dX6_init_15 : decode cX6_init 15 = .ok (.newarray .int, 2) := by decide +kernel
theorem dX6_init_17 : decode cX6_init 17 = .ok (.putfield 15, 3) := by decide +kernel
theorem dX6_init_20 : decode cX6_init 20 = .ok (.return_, 1) := by decide +kernel
theorem dX6_frameAt_0 : decode cX6_frameAt 0 = .ok (.aload_n 0, 1) := by decide +kernel
theorem dX6_frameAt_1 : decode cX6_frameAt 1 = .ok (.getfield 18, 3) := by decide +kernel
theorem dX6_frameAt_4 : decode cX6_frameAt 4 = .ok (.iload_n 1, 1) := by decide +kernel
theorem dX6_frameAt_5 : decode cX6_frameAt 5 = .ok (.invokestatic 22, 3) := by decide +kernel
theorem dX6_frameAt_8 : decode cX6_frameAt 8 = .ok (.ifCond .eq 12, 3) := by decide +kernel
theorem dX6_frameAt_11 : decode cX6_frameAt 11 = .ok (.aload_n 0, 1) := by decide +kernel
theorem dX6_frameAt_12 : decode cX6_frameAt 12 = .ok (.getfield 9, 3) := by decide +kernel
theorem dX6_frameAt_15 : decode cX6_frameAt 15 = .ok (.iload_n 1, 1) := by decide +kernel
theorem dX6_frameAt_16 : decode cX6_frameAt 16 = .ok (.iaload, 1) := by decide +kernel
theorem dX6_frameAt_17 : decode cX6_frameAt 17 = .ok (.goto 5, 3) := by decide +kernel
theorem dX6_frameAt_20 : decode cX6_frameAt 20 = .ok (.bipush (-9), 2) := by decide +kernel
theorem dX6_frameAt_22 : decode cX6_frameAt 22 = .ok (.ireturn, 1) := by decide +kernel
theorem dX6_isWhole_0 : decode cX6_isWhole 0 = .ok (.lload_n 2, 1) := by decide +kernel
theorem dX6_isWhole_1 : decode cX6_isWhole 1 = .ok (.invokestatic 28, 3) := by decide +kernel
theorem dX6_isWhole_4 : decode cX6_isWhole 4 = .ok (.aload_n 1, 1) := by decide +kernel
theorem dX6_isWhole_5 : decode cX6_isWhole 5 = .ok (.getfield 34, 3) := by decide +kernel
theorem dX6_isWhole_8 : decode cX6_isWhole 8 = .ok (.if_icmp .ne 18, 3) := by decide +kernel
theorem dX6_isWhole_11 : decode cX6_isWhole 11 = .ok (.aload_n 0, 1) := by decide +kernel
theorem dX6_isWhole_12 : decode cX6_isWhole 12 = .ok (.aload_n 1, 1) := by decide +kernel
theorem dX6_isWhole_13 : decode cX6_isWhole 13 = .ok (.lload_n 2, 1) := by decide +kernel
theorem dX6_isWhole_14 : decode cX6_isWhole 14 = .ok (.iload 4, 2) := by decide +kernel
theorem dX6_isWhole_16 : decode cX6_isWhole 16 = .ok (.invokevirtual 40, 3) := by decide +kernel
theorem dX6_isWhole_19 : decode cX6_isWhole 19 = .ok (.ifCond .eq 7, 3) := by decide +kernel
theorem dX6_isWhole_22 : decode cX6_isWhole 22 = .ok (.iconst 1, 1) := by decide +kernel
theorem dX6_isWhole_23 : decode cX6_isWhole 23 = .ok (.goto 4, 3) := by decide +kernel
theorem dX6_isWhole_26 : decode cX6_isWhole 26 = .ok (.iconst 0, 1) := by decide +kernel
theorem dX6_isWhole_27 : decode cX6_isWhole 27 = .ok (.ireturn, 1) := by decide +kernel
theorem dX6_fold_0 : decode cX6_fold 0 = .ok (.aload_n 0, 1) := by decide +kernel
theorem dX6_fold_1 : decode cX6_fold 1 = .ok (.invokevirtual 44, 3) := by decide +kernel
theorem dX6_fold_4 : decode cX6_fold 4 = .ok (.aload_n 0, 1) := by decide +kernel
theorem dX6_fold_5 : decode cX6_fold 5 = .ok (.lload_n 2, 1) := by decide +kernel
theorem dX6_fold_6 : decode cX6_fold 6 = .ok (.invokestatic 47, 3) := by decide +kernel
theorem dX6_fold_9 : decode cX6_fold 9 = .ok (.iload 4, 2) := by decide +kernel
theorem dX6_fold_11 : decode cX6_fold 11 = .ok (.invokevirtual 50, 3) := by decide +kernel
theorem dX6_fold_14 : decode cX6_fold 14 = .ok (.ifCond .ne 5, 3) := by decide +kernel
theorem dX6_fold_17 : decode cX6_fold 17 = .ok (.iconst 0, 1) := by decide +kernel
theorem dX6_fold_18 : decode cX6_fold 18 = .ok (.ireturn, 1) := by decide +kernel
theorem dX6_fold_19 : decode cX6_fold 19 = .ok (.iconst 0, 1) := by decide +kernel
theorem dX6_fold_20 : decode cX6_fold 20 = .ok (.istore 5, 2) := by decide +kernel
theorem dX6_fold_22 : decode cX6_fold 22 = .ok (.iload 5, 2) := by decide +kernel
theorem dX6_fold_24 : decode cX6_fold 24 = .ok (.bipush 24, 2) := by decide +kernel
theorem dX6_fold_26 : decode cX6_fold 26 = .ok (.if_icmp .ge 36, 3) := by decide +kernel
theorem dX6_fold_29 : decode cX6_fold 29 = .ok (.iload 5, 2) := by decide +kernel
theorem dX6_fold_31 : decode cX6_fold 31 = .ok (.aload_n 0, 1) := by decide +kernel
theorem dX6_fold_32 : decode cX6_fold 32 = .ok (.getfield 54, 3) := by decide +kernel
theorem dX6_fold_35 : decode cX6_fold 35 = .ok (.if_icmp .ge 27, 3) := by decide +kernel
theorem dX6_fold_38 : decode cX6_fold 38 = .ok (.aload_n 0, 1) := by decide +kernel
theorem dX6_fold_39 : decode cX6_fold 39 = .ok (.aload_n 1, 1) := by decide +kernel
theorem dX6_fold_40 : decode cX6_fold 40 = .ok (.lload_n 2, 1) := by decide +kernel
theorem dX6_fold_41 : decode cX6_fold 41 = .ok (.aload_n 0, 1) := by decide +kernel
theorem dX6_fold_42 : decode cX6_fold 42 = .ok (.getfield 15, 3) := by decide +kernel
theorem dX6_fold_45 : decode cX6_fold 45 = .ok (.iload 5, 2) := by decide +kernel
theorem dX6_fold_47 : decode cX6_fold 47 = .ok (.iaload, 1) := by decide +kernel
theorem dX6_fold_48 : decode cX6_fold 48 = .ok (.invokevirtual 57, 3) := by decide +kernel
theorem dX6_fold_51 : decode cX6_fold 51 = .ok (.ifCond .ne 5, 3) := by decide +kernel
theorem dX6_fold_54 : decode cX6_fold 54 = .ok (.iconst 0, 1) := by decide +kernel
theorem dX6_fold_55 : decode cX6_fold 55 = .ok (.ireturn, 1) := by decide +kernel
theorem dX6_fold_56 : decode cX6_fold 56 = .ok (.iinc 5 1, 3) := by decide +kernel
theorem dX6_fold_59 : decode cX6_fold 59 = .ok (.goto (-37), 3) := by decide +kernel
theorem dX6_fold_62 : decode cX6_fold 62 = .ok (.iconst 1, 1) := by decide +kernel
theorem dX6_fold_63 : decode cX6_fold 63 = .ok (.ireturn, 1) := by decide +kernel
theorem dX6_foldRound_0 : decode cX6_foldRound 0 = .ok (.aload_n 0, 1) := by decide +kernel
theorem dX6_foldRound_1 : decode cX6_foldRound 1 = .ok (.iload 4, 2) := by decide +kernel
theorem dX6_foldRound_3 : decode cX6_foldRound 3 = .ok (.invokevirtual 60, 3) := by decide +kernel
theorem dX6_foldRound_6 : decode cX6_foldRound 6 = .ok (.istore 5, 2) := by decide +kernel
theorem dX6_foldRound_8 : decode cX6_foldRound 8 = .ok (.iconst 0, 1) := by decide +kernel
theorem dX6_foldRound_9 : decode cX6_foldRound 9 = .ok (.istore 6, 2) := by decide +kernel
theorem dX6_foldRound_11 : decode cX6_foldRound 11 = .ok (.iload 6, 2) := by decide +kernel
theorem dX6_foldRound_13 : decode cX6_foldRound 13 = .ok (.iconst 4, 1) := by decide +kernel
theorem dX6_foldRound_14 : decode cX6_foldRound 14 = .ok (.if_icmp .ge 85, 3) := by decide +kernel
theorem dX6_foldRound_17 : decode cX6_foldRound 17 = .ok (.iload 4, 2) := by decide +kernel
theorem dX6_foldRound_19 : decode cX6_foldRound 19 = .ok (.iload 6, 2) := by decide +kernel
theorem dX6_foldRound_21 : decode cX6_foldRound 21 = .ok (.invokestatic 64, 3) := by decide +kernel
theorem dX6_foldRound_24 : decode cX6_foldRound 24 = .ok (.istore 7, 2) := by decide +kernel
theorem dX6_foldRound_26 : decode cX6_foldRound 26 = .ok (.lload_n 2, 1) := by decide +kernel
theorem dX6_foldRound_27 : decode cX6_foldRound 27 = .ok (.iload 7, 2) := by decide +kernel
theorem dX6_foldRound_29 : decode cX6_foldRound 29 = .ok (.invokestatic 22, 3) := by decide +kernel
theorem dX6_foldRound_32 : decode cX6_foldRound 32 = .ok (.ifCond .eq 61, 3) := by decide +kernel
theorem dX6_foldRound_35 : decode cX6_foldRound 35 = .ok (.aload_n 1, 1) := by decide +kernel
theorem dX6_foldRound_36 : decode cX6_foldRound 36 = .ok (.iload 5, 2) := by decide +kernel
theorem dX6_foldRound_38 : decode cX6_foldRound 38 = .ok (.iload 6, 2) := by decide +kernel
theorem dX6_foldRound_40 : decode cX6_foldRound 40 = .ok (.invokevirtual 68, 3) := by decide +kernel
theorem dX6_foldRound_43 : decode cX6_foldRound 43 = .ok (.istore 8, 2) := by decide +kernel
theorem dX6_foldRound_45 : decode cX6_foldRound 45 = .ok (.aload_n 0, 1) := by decide +kernel
theorem dX6_foldRound_46 : decode cX6_foldRound 46 = .ok (.getfield 18, 3) := by decide +kernel
theorem dX6_foldRound_49 : decode cX6_foldRound 49 = .ok (.iload 7, 2) := by decide +kernel
theorem dX6_foldRound_51 : decode cX6_foldRound 51 = .ok (.invokestatic 22, 3) := by decide +kernel
theorem dX6_foldRound_54 : decode cX6_foldRound 54 = .ok (.ifCond .eq 22, 3) := by decide +kernel
theorem dX6_foldRound_57 : decode cX6_foldRound 57 = .ok (.aload_n 0, 1) := by decide +kernel
theorem dX6_foldRound_58 : decode cX6_foldRound 58 = .ok (.iload 7, 2) := by decide +kernel
theorem dX6_foldRound_60 : decode cX6_foldRound 60 = .ok (.invokevirtual 60, 3) := by decide +kernel
theorem dX6_foldRound_63 : decode cX6_foldRound 63 = .ok (.iload 8, 2) := by decide +kernel
theorem dX6_foldRound_65 : decode cX6_foldRound 65 = .ok (.if_icmp .ne 7, 3) := by decide +kernel
theorem dX6_foldRound_68 : decode cX6_foldRound 68 = .ok (.iconst 1, 1) := by decide +kernel
theorem dX6_foldRound_69 : decode cX6_foldRound 69 = .ok (.goto 15, 3) := by decide +kernel
theorem dX6_foldRound_72 : decode cX6_foldRound 72 = .ok (.iconst 0, 1) := by decide +kernel
theorem dX6_foldRound_73 : decode cX6_foldRound 73 = .ok (.goto 11, 3) := by decide +kernel
theorem dX6_foldRound_76 : decode cX6_foldRound 76 = .ok (.aload_n 0, 1) := by decide +kernel
theorem dX6_foldRound_77 : decode cX6_foldRound 77 = .ok (.iload 7, 2) := by decide +kernel
theorem dX6_foldRound_79 : decode cX6_foldRound 79 = .ok (.iload 8, 2) := by decide +kernel
theorem dX6_foldRound_81 : decode cX6_foldRound 81 = .ok (.invokevirtual 50, 3) := by decide +kernel
theorem dX6_foldRound_84 : decode cX6_foldRound 84 = .ok (.istore 9, 2) := by decide +kernel
theorem dX6_foldRound_86 : decode cX6_foldRound 86 = .ok (.iload 9, 2) := by decide +kernel
theorem dX6_foldRound_88 : decode cX6_foldRound 88 = .ok (.ifCond .ne 5, 3) := by decide +kernel
theorem dX6_foldRound_91 : decode cX6_foldRound 91 = .ok (.iconst 0, 1) := by decide +kernel
theorem dX6_foldRound_92 : decode cX6_foldRound 92 = .ok (.ireturn, 1) := by decide +kernel
theorem dX6_foldRound_93 : decode cX6_foldRound 93 = .ok (.iinc 6 1, 3) := by decide +kernel
theorem dX6_foldRound_96 : decode cX6_foldRound 96 = .ok (.goto (-85), 3) := by decide +kernel
theorem dX6_foldRound_99 : decode cX6_foldRound 99 = .ok (.iconst 1, 1) := by decide +kernel
theorem dX6_foldRound_100 : decode cX6_foldRound 100 = .ok (.ireturn, 1) := by decide +kernel
theorem dX6_layOutFrom_0 : decode cX6_layOutFrom 0 = .ok (.aload_n 0, 1) := by decide +kernel
theorem dX6_layOutFrom_1 : decode cX6_layOutFrom 1 = .ok (.invokevirtual 44, 3) := by decide +kernel
theorem dX6_layOutFrom_4 : decode cX6_layOutFrom 4 = .ok (.aload_n 0, 1) := by decide +kernel
theorem dX6_layOutFrom_5 : decode cX6_layOutFrom 5 = .ok (.iload_n 3, 1) := by decide +kernel
theorem dX6_layOutFrom_6 : decode cX6_layOutFrom 6 = .ok (.iload_n 2, 1) := by decide +kernel
theorem dX6_layOutFrom_7 : decode cX6_layOutFrom 7 = .ok (.invokevirtual 50, 3) := by decide +kernel
theorem dX6_layOutFrom_10 : decode cX6_layOutFrom 10 = .ok (.ifCond .ne 5, 3) := by decide +kernel
theorem dX6_layOutFrom_13 : decode cX6_layOutFrom 13 = .ok (.iconst 0, 1) := by decide +kernel
theorem dX6_layOutFrom_14 : decode cX6_layOutFrom 14 = .ok (.ireturn, 1) := by decide +kernel
theorem dX6_layOutFrom_15 : decode cX6_layOutFrom 15 = .ok (.iconst 0, 1) := by decide +kernel
theorem dX6_layOutFrom_16 : decode cX6_layOutFrom 16 = .ok (.istore 5, 2) := by decide +kernel
theorem dX6_layOutFrom_18 : decode cX6_layOutFrom 18 = .ok (.iload 5, 2) := by decide +kernel
theorem dX6_layOutFrom_20 : decode cX6_layOutFrom 20 = .ok (.bipush 24, 2) := by decide +kernel
theorem dX6_layOutFrom_22 : decode cX6_layOutFrom 22 = .ok (.if_icmp .ge 37, 3) := by decide +kernel
theorem dX6_layOutFrom_25 : decode cX6_layOutFrom 25 = .ok (.iload 5, 2) := by decide +kernel
theorem dX6_layOutFrom_27 : decode cX6_layOutFrom 27 = .ok (.aload_n 0, 1) := by decide +kernel
theorem dX6_layOutFrom_28 : decode cX6_layOutFrom 28 = .ok (.getfield 54, 3) := by decide +kernel
theorem dX6_layOutFrom_31 : decode cX6_layOutFrom 31 = .ok (.if_icmp .ge 28, 3) := by decide +kernel
theorem dX6_layOutFrom_34 : decode cX6_layOutFrom 34 = .ok (.aload_n 0, 1) := by decide +kernel
theorem dX6_layOutFrom_35 : decode cX6_layOutFrom 35 = .ok (.aload_n 1, 1) := by decide +kernel
theorem dX6_layOutFrom_36 : decode cX6_layOutFrom 36 = .ok (.aload_n 0, 1) := by decide +kernel
theorem dX6_layOutFrom_37 : decode cX6_layOutFrom 37 = .ok (.getfield 15, 3) := by decide +kernel
theorem dX6_layOutFrom_40 : decode cX6_layOutFrom 40 = .ok (.iload 5, 2) := by decide +kernel
theorem dX6_layOutFrom_42 : decode cX6_layOutFrom 42 = .ok (.iaload, 1) := by decide +kernel
theorem dX6_layOutFrom_43 : decode cX6_layOutFrom 43 = .ok (.aload 4, 2) := by decide +kernel
theorem dX6_layOutFrom_45 : decode cX6_layOutFrom 45 = .ok (.invokevirtual 71, 3) := by decide +kernel
theorem dX6_layOutFrom_48 : decode cX6_layOutFrom 48 = .ok (.ifCond .ne 5, 3) := by decide +kernel
theorem dX6_layOutFrom_51 : decode cX6_layOutFrom 51 = .ok (.iconst 0, 1) := by decide +kernel
theorem dX6_layOutFrom_52 : decode cX6_layOutFrom 52 = .ok (.ireturn, 1) := by decide +kernel
theorem dX6_layOutFrom_53 : decode cX6_layOutFrom 53 = .ok (.iinc 5 1, 3) := by decide +kernel
theorem dX6_layOutFrom_56 : decode cX6_layOutFrom 56 = .ok (.goto (-38), 3) := by decide +kernel
theorem dX6_layOutFrom_59 : decode cX6_layOutFrom 59 = .ok (.aload_n 0, 1) := by decide +kernel
theorem dX6_layOutFrom_60 : decode cX6_layOutFrom 60 = .ok (.getfield 54, 3) := by decide +kernel
theorem dX6_layOutFrom_63 : decode cX6_layOutFrom 63 = .ok (.aload_n 1, 1) := by decide +kernel
theorem dX6_layOutFrom_64 : decode cX6_layOutFrom 64 = .ok (.getfield 34, 3) := by decide +kernel
theorem dX6_layOutFrom_67 : decode cX6_layOutFrom 67 = .ok (.if_icmp .ne 7, 3) := by decide +kernel
theorem dX6_layOutFrom_70 : decode cX6_layOutFrom 70 = .ok (.iconst 1, 1) := by decide +kernel
theorem dX6_layOutFrom_71 : decode cX6_layOutFrom 71 = .ok (.goto 4, 3) := by decide +kernel
theorem dX6_layOutFrom_74 : decode cX6_layOutFrom 74 = .ok (.iconst 0, 1) := by decide +kernel
theorem dX6_layOutFrom_75 : decode cX6_layOutFrom 75 = .ok (.ireturn, 1) := by decide +kernel
theorem dX6_layRound_0 : decode cX6_layRound 0 = .ok (.aload_n 0, 1) := by decide +kernel
theorem dX6_layRound_1 : decode cX6_layRound 1 = .ok (.iload_n 2, 1) := by decide +kernel
theorem dX6_layRound_2 : decode cX6_layRound 2 = .ok (.invokevirtual 60, 3) := by decide +kernel
theorem dX6_layRound_5 : decode cX6_layRound 5 = .ok (.istore 4, 2) := by decide +kernel
theorem dX6_layRound_7 : decode cX6_layRound 7 = .ok (.iload 4, 2) := by decide +kernel
theorem dX6_layRound_9 : decode cX6_layRound 9 = .ok (.iconst 2, 1) := by decide +kernel
theorem dX6_layRound_10 : decode cX6_layRound 10 = .ok (.ishr, 1) := by decide +kernel
theorem dX6_layRound_11 : decode cX6_layRound 11 = .ok (.istore 5, 2) := by decide +kernel
theorem dX6_layRound_13 : decode cX6_layRound 13 = .ok (.aload_n 3, 1) := by decide +kernel
theorem dX6_layRound_14 : decode cX6_layRound 14 = .ok (.iload 5, 2) := by decide +kernel
theorem dX6_layRound_16 : decode cX6_layRound 16 = .ok (.invokevirtual 75, 3) := by decide +kernel
theorem dX6_layRound_19 : decode cX6_layRound 19 = .ok (.ifCond .eq 13, 3) := by decide +kernel
theorem dX6_layRound_22 : decode cX6_layRound 22 = .ok (.aload_n 3, 1) := by decide +kernel
theorem dX6_layRound_23 : decode cX6_layRound 23 = .ok (.getfield 81, 3) := by decide +kernel
theorem dX6_layRound_26 : decode cX6_layRound 26 = .ok (.iload 5, 2) := by decide +kernel
theorem dX6_layRound_28 : decode cX6_layRound 28 = .ok (.iaload, 1) := by decide +kernel
theorem dX6_layRound_29 : decode cX6_layRound 29 = .ok (.goto 5, 3) := by decide +kernel
theorem dX6_layRound_32 : decode cX6_layRound 32 = .ok (.bipush 15, 2) := by decide +kernel
theorem dX6_layRound_34 : decode cX6_layRound 34 = .ok (.istore 6, 2) := by decide +kernel
theorem dX6_layRound_36 : decode cX6_layRound 36 = .ok (.iconst 0, 1) := by decide +kernel
theorem dX6_layRound_37 : decode cX6_layRound 37 = .ok (.istore 7, 2) := by decide +kernel
theorem dX6_layRound_39 : decode cX6_layRound 39 = .ok (.iload 7, 2) := by decide +kernel
theorem dX6_layRound_41 : decode cX6_layRound 41 = .ok (.iconst 4, 1) := by decide +kernel
theorem dX6_layRound_42 : decode cX6_layRound 42 = .ok (.if_icmp .ge 60, 3) := by decide +kernel
theorem dX6_layRound_45 : decode cX6_layRound 45 = .ok (.aload_n 1, 1) := by decide +kernel
theorem dX6_layRound_46 : decode cX6_layRound 46 = .ok (.iload 4, 2) := by decide +kernel
theorem dX6_layRound_48 : decode cX6_layRound 48 = .ok (.iload 7, 2) := by decide +kernel
theorem dX6_layRound_50 : decode cX6_layRound 50 = .ok (.invokevirtual 68, 3) := by decide +kernel
theorem dX6_layRound_53 : decode cX6_layRound 53 = .ok (.istore 8, 2) := by decide +kernel
theorem dX6_layRound_55 : decode cX6_layRound 55 = .ok (.iload 6, 2) := by decide +kernel
theorem dX6_layRound_57 : decode cX6_layRound 57 = .ok (.iload 7, 2) := by decide +kernel
theorem dX6_layRound_59 : decode cX6_layRound 59 = .ok (.ishr, 1) := by decide +kernel
theorem dX6_layRound_60 : decode cX6_layRound 60 = .ok (.iconst 1, 1) := by decide +kernel
theorem dX6_layRound_61 : decode cX6_layRound 61 = .ok (.iand, 1) := by decide +kernel
theorem dX6_layRound_62 : decode cX6_layRound 62 = .ok (.ifCond .eq 34, 3) := by decide +kernel
theorem dX6_layRound_65 : decode cX6_layRound 65 = .ok (.aload_n 0, 1) := by decide +kernel
theorem dX6_layRound_66 : decode cX6_layRound 66 = .ok (.iload 8, 2) := by decide +kernel
theorem dX6_layRound_68 : decode cX6_layRound 68 = .ok (.iconst 2, 1) := by decide +kernel
theorem dX6_layRound_69 : decode cX6_layRound 69 = .ok (.ishr, 1) := by decide +kernel
theorem dX6_layRound_70 : decode cX6_layRound 70 = .ok (.invokevirtual 84, 3) := by decide +kernel
theorem dX6_layRound_73 : decode cX6_layRound 73 = .ok (.ifCond .eq 6, 3) := by decide +kernel
theorem dX6_layRound_76 : decode cX6_layRound 76 = .ok (.goto 20, 3) := by decide +kernel
theorem dX6_layRound_79 : decode cX6_layRound 79 = .ok (.aload_n 0, 1) := by decide +kernel
theorem dX6_layRound_80 : decode cX6_layRound 80 = .ok (.iload_n 2, 1) := by decide +kernel
theorem dX6_layRound_81 : decode cX6_layRound 81 = .ok (.iload 7, 2) := by decide +kernel
theorem dX6_layRound_83 : decode cX6_layRound 83 = .ok (.invokestatic 64, 3) := by decide +kernel
theorem dX6_layRound_86 : decode cX6_layRound 86 = .ok (.iload 8, 2) := by decide +kernel
theorem dX6_layRound_88 : decode cX6_layRound 88 = .ok (.invokevirtual 50, 3) := by decide +kernel
theorem dX6_layRound_91 : decode cX6_layRound 91 = .ok (.ifCond .ne 5, 3) := by decide +kernel
theorem dX6_layRound_94 : decode cX6_layRound 94 = .ok (.iconst 0, 1) := by decide +kernel
theorem dX6_layRound_95 : decode cX6_layRound 95 = .ok (.ireturn, 1) := by decide +kernel
theorem dX6_layRound_96 : decode cX6_layRound 96 = .ok (.iinc 7 1, 3) := by decide +kernel
theorem dX6_layRound_99 : decode cX6_layRound 99 = .ok (.goto (-60), 3) := by decide +kernel
theorem dX6_layRound_102 : decode cX6_layRound 102 = .ok (.iconst 1, 1) := by decide +kernel
theorem dX6_layRound_103 : decode cX6_layRound 103 = .ok (.ireturn, 1) := by decide +kernel
theorem dX6_clear_0 : decode cX6_clear 0 = .ok (.aload_n 0, 1) := by decide +kernel
theorem dX6_clear_1 : decode cX6_clear 1 = .ok (.iconst 0, 1) := by decide +kernel
theorem dX6_clear_2 : decode cX6_clear 2 = .ok (.putfield 54, 3) := by decide +kernel
theorem dX6_clear_5 : decode cX6_clear 5 = .ok (.aload_n 0, 1) := by decide +kernel
theorem dX6_clear_6 : decode cX6_clear 6 = .ok (.iconst 0, 1) := by decide +kernel
theorem dX6_clear_7 : decode cX6_clear 7 = .ok (.putfield 87, 3) := by decide +kernel
theorem dX6_clear_10 : decode cX6_clear 10 = .ok (.aload_n 0, 1) := by decide +kernel
theorem dX6_clear_11 : decode cX6_clear 11 = .ok (.lconst 0, 1) := by decide +kernel
theorem dX6_clear_12 : decode cX6_clear 12 = .ok (.putfield 18, 3) := by decide +kernel
theorem dX6_clear_15 : decode cX6_clear 15 = .ok (.return_, 1) := by decide +kernel
theorem dX6_covers_0 : decode cX6_covers 0 = .ok (.aload_n 0, 1) := by decide +kernel
theorem dX6_covers_1 : decode cX6_covers 1 = .ok (.getfield 87, 3) := by decide +kernel
theorem dX6_covers_4 : decode cX6_covers 4 = .ok (.iload_n 1, 1) := by decide +kernel
theorem dX6_covers_5 : decode cX6_covers 5 = .ok (.ishr, 1) := by decide +kernel
theorem dX6_covers_6 : decode cX6_covers 6 = .ok (.iconst 1, 1) := by decide +kernel
theorem dX6_covers_7 : decode cX6_covers 7 = .ok (.iand, 1) := by decide +kernel
theorem dX6_covers_8 : decode cX6_covers 8 = .ok (.ifCond .eq 7, 3) := by decide +kernel
theorem dX6_covers_11 : decode cX6_covers 11 = .ok (.iconst 1, 1) := by decide +kernel
theorem dX6_covers_12 : decode cX6_covers 12 = .ok (.goto 4, 3) := by decide +kernel
theorem dX6_covers_15 : decode cX6_covers 15 = .ok (.iconst 0, 1) := by decide +kernel
theorem dX6_covers_16 : decode cX6_covers 16 = .ok (.ireturn, 1) := by decide +kernel
theorem dX6_put_0 : decode cX6_put 0 = .ok (.iload_n 2, 1) := by decide +kernel
theorem dX6_put_1 : decode cX6_put 1 = .ok (.iconst 2, 1) := by decide +kernel
theorem dX6_put_2 : decode cX6_put 2 = .ok (.ishr, 1) := by decide +kernel
theorem dX6_put_3 : decode cX6_put 3 = .ok (.istore_n 3, 1) := by decide +kernel
theorem dX6_put_4 : decode cX6_put 4 = .ok (.iload_n 1, 1) := by decide +kernel
theorem dX6_put_5 : decode cX6_put 5 = .ok (.invokestatic 90, 3) := by decide +kernel
theorem dX6_put_8 : decode cX6_put 8 = .ok (.ifCond .eq 14, 3) := by decide +kernel
theorem dX6_put_11 : decode cX6_put 11 = .ok (.aload_n 0, 1) := by decide +kernel
theorem dX6_put_12 : decode cX6_put 12 = .ok (.getfield 18, 3) := by decide +kernel
theorem dX6_put_15 : decode cX6_put 15 = .ok (.iload_n 1, 1) := by decide +kernel
theorem dX6_put_16 : decode cX6_put 16 = .ok (.invokestatic 22, 3) := by decide +kernel
theorem dX6_put_19 : decode cX6_put 19 = .ok (.ifCond .eq 5, 3) := by decide +kernel
theorem dX6_put_22 : decode cX6_put 22 = .ok (.iconst 0, 1) := by decide +kernel
theorem dX6_put_23 : decode cX6_put 23 = .ok (.ireturn, 1) := by decide +kernel
theorem dX6_put_24 : decode cX6_put 24 = .ok (.iload_n 3, 1) := by decide +kernel
theorem dX6_put_25 : decode cX6_put 25 = .ok (.iconst 0, 1) := by decide +kernel
theorem dX6_put_26 : decode cX6_put 26 = .ok (.bipush 23, 2) := by decide +kernel
theorem dX6_put_28 : decode cX6_put 28 = .ok (.invokestatic 93, 3) := by decide +kernel
theorem dX6_put_31 : decode cX6_put 31 = .ok (.ifCond .eq 20, 3) := by decide +kernel
theorem dX6_put_34 : decode cX6_put 34 = .ok (.aload_n 0, 1) := by decide +kernel
theorem dX6_put_35 : decode cX6_put 35 = .ok (.iload_n 3, 1) := by decide +kernel
theorem dX6_put_36 : decode cX6_put 36 = .ok (.invokevirtual 84, 3) := by decide +kernel
theorem dX6_put_39 : decode cX6_put 39 = .ok (.ifCond .ne 12, 3) := by decide +kernel
theorem dX6_put_42 : decode cX6_put 42 = .ok (.aload_n 0, 1) := by decide +kernel
theorem dX6_put_43 : decode cX6_put 43 = .ok (.getfield 54, 3) := by decide +kernel
theorem dX6_put_46 : decode cX6_put 46 = .ok (.bipush 24, 2) := by decide +kernel
theorem dX6_put_48 : decode cX6_put 48 = .ok (.if_icmp .lt 5, 3) := by decide +kernel
theorem dX6_put_51 : decode cX6_put 51 = .ok (.iconst 0, 1) := by decide +kernel
theorem dX6_put_52 : decode cX6_put 52 = .ok (.ireturn, 1) := by decide +kernel
theorem dX6_put_53 : decode cX6_put 53 = .ok (.aload_n 0, 1) := by decide +kernel
theorem dX6_put_54 : decode cX6_put 54 = .ok (.getfield 9, 3) := by decide +kernel
theorem dX6_put_57 : decode cX6_put 57 = .ok (.iload_n 1, 1) := by decide +kernel
theorem dX6_put_58 : decode cX6_put 58 = .ok (.iload_n 2, 1) := by decide +kernel
theorem dX6_put_59 : decode cX6_put 59 = .ok (.iastore, 1) := by decide +kernel
theorem dX6_put_60 : decode cX6_put 60 = .ok (.aload_n 0, 1) := by decide +kernel
theorem dX6_put_61 : decode cX6_put 61 = .ok (.getfield 15, 3) := by decide +kernel
theorem dX6_put_64 : decode cX6_put 64 = .ok (.aload_n 0, 1) := by decide +kernel
theorem dX6_put_65 : decode cX6_put 65 = .ok (.getfield 54, 3) := by decide +kernel
theorem dX6_put_68 : decode cX6_put 68 = .ok (.iload_n 1, 1) := by decide +kernel
theorem dX6_put_69 : decode cX6_put 69 = .ok (.iastore, 1) := by decide +kernel
theorem dX6_put_70 : decode cX6_put 70 = .ok (.aload_n 0, 1) := by decide +kernel
theorem dX6_put_71 : decode cX6_put 71 = .ok (.dup, 1) := by decide +kernel
theorem dX6_put_72 : decode cX6_put 72 = .ok (.getfield 54, 3) := by decide +kernel
theorem dX6_put_75 : decode cX6_put 75 = .ok (.iconst 1, 1) := by decide +kernel
theorem dX6_put_76 : decode cX6_put 76 = .ok (.iadd, 1) := by decide +kernel
theorem dX6_put_77 : decode cX6_put 77 = .ok (.putfield 54, 3) := by decide +kernel
theorem dX6_put_80 : decode cX6_put 80 = .ok (.aload_n 0, 1) := by decide +kernel
theorem dX6_put_81 : decode cX6_put 81 = .ok (.dup, 1) := by decide +kernel
theorem dX6_put_82 : decode cX6_put 82 = .ok (.getfield 87, 3) := by decide +kernel
theorem dX6_put_85 : decode cX6_put 85 = .ok (.iconst 1, 1) := by decide +kernel
theorem dX6_put_86 : decode cX6_put 86 = .ok (.iload_n 3, 1) := by decide +kernel
theorem dX6_put_87 : decode cX6_put 87 = .ok (.ishl, 1) := by decide +kernel
theorem dX6_put_88 : decode cX6_put 88 = .ok (.ior, 1) := by decide +kernel
theorem dX6_put_89 : decode cX6_put 89 = .ok (.putfield 87, 3) := by decide +kernel
theorem dX6_put_92 : decode cX6_put 92 = .ok (.aload_n 0, 1) := by decide +kernel
theorem dX6_put_93 : decode cX6_put 93 = .ok (.dup, 1) := by decide +kernel
theorem dX6_put_94 : decode cX6_put 94 = .ok (.getfield 18, 3) := by decide +kernel
theorem dX6_put_97 : decode cX6_put 97 = .ok (.lconst 1, 1) := by decide +kernel
theorem dX6_put_98 : decode cX6_put 98 = .ok (.iload_n 1, 1) := by decide +kernel
theorem dX6_put_99 : decode cX6_put 99 = .ok (.lshl, 1) := by decide +kernel
theorem dX6_put_100 : decode cX6_put 100 = .ok (.lor, 1) := by decide +kernel
theorem dX6_put_101 : decode cX6_put 101 = .ok (.putfield 18, 3) := by decide +kernel
theorem dX6_put_104 : decode cX6_put 104 = .ok (.iconst 1, 1) := by decide +kernel
theorem dX6_put_105 : decode cX6_put 105 = .ok (.ireturn, 1) := by decide +kernel
theorem dX7_init_0 : decode cX7_init 0 = .ok (.aload_n 0, 1) := by decide +kernel
theorem dX7_init_1 : decode cX7_init 1 = .ok (.invokespecial 3, 3) := by decide +kernel
theorem dX7_init_4 : decode cX7_init 4 = .ok (.aload_n 0, 1) := by decide +kernel
theorem dX7_init_5 : decode cX7_init 5 = .ok (.bipush 18, 2) := by decide +kernel
theorem dX7_init_7 : decode cX7_init 7 = .ok (.newarray .int, 2) := by decide +kernel
theorem dX7_init_9 : decode cX7_init 9 = .ok (.putfield 11, 3) := by decide +kernel
theorem dX7_init_12 : decode cX7_init 12 = .ok (.return_, 1) := by decide +kernel
theorem dX7_shortest_0 : decode cX7_shortest 0 = .ok (.aload_n 1, 1) := by decide +kernel
theorem dX7_shortest_1 : decode cX7_shortest 1 = .ok (.iload_n 3, 1) := by decide +kernel
theorem dX7_shortest_2 : decode cX7_shortest 2 = .ok (.invokevirtual 17, 3) := by decide +kernel
theorem dX7_shortest_5 : decode cX7_shortest 5 = .ok (.istore 4, 2) := by decide +kernel
theorem dX7_shortest_7 : decode cX7_shortest 7 = .ok (.iload 4, 2) := by decide +kernel
theorem dX7_shortest_9 : decode cX7_shortest 9 = .ok (.ifCond .ge 5, 3) := by decide +kernel
theorem dX7_shortest_12 : decode cX7_shortest 12 = .ok (.iconst 0, 1) := by decide +kernel
theorem dX7_shortest_13 : decode cX7_shortest 13 = .ok (.ireturn, 1) := by decide +kernel
theorem dX7_shortest_14 : decode cX7_shortest 14 = .ok (.iconst 0, 1) := by decide +kernel
theorem dX7_shortest_15 : decode cX7_shortest 15 = .ok (.istore 5, 2) := by decide +kernel
theorem dX7_shortest_17 : decode cX7_shortest 17 = .ok (.iload 5, 2) := by decide +kernel
theorem dX7_shortest_19 : decode cX7_shortest 19 = .ok (.iconst 3, 1) := by decide +kernel
theorem dX7_shortest_20 : decode cX7_shortest 20 = .ok (.if_icmp .ge 23, 3) := by decide +kernel
theorem dX7_shortest_23 : decode cX7_shortest 23 = .ok (.aload_n 0, 1) := by decide +kernel
theorem dX7_shortest_24 : decode cX7_shortest 24 = .ok (.getfield 11, 3) := by decide +kernel
theorem dX7_shortest_27 : decode cX7_shortest 27 = .ok (.iload 5, 2) := by decide +kernel
theorem dX7_shortest_29 : decode cX7_shortest 29 = .ok (.aload_n 1, 1) := by decide +kernel
theorem dX7_shortest_30 : decode cX7_shortest 30 = .ok (.iload_n 3, 1) := by decide +kernel
theorem dX7_shortest_31 : decode cX7_shortest 31 = .ok (.iload 5, 2) := by decide +kernel
theorem dX7_shortest_33 : decode cX7_shortest 33 = .ok (.invokevirtual 21, 3) := by decide +kernel
theorem dX7_shortest_36 : decode cX7_shortest 36 = .ok (.iastore, 1) := by decide +kernel
theorem dX7_shortest_37 : decode cX7_shortest 37 = .ok (.iinc 5 1, 3) := by decide +kernel
theorem dX7_shortest_40 : decode cX7_shortest 40 = .ok (.goto (-23), 3) := by decide +kernel
theorem dX7_shortest_43 : decode cX7_shortest 43 = .ok (.aload_n 1, 1) := by decide +kernel
theorem dX7_shortest_44 : decode cX7_shortest 44 = .ok (.aload_n 0, 1) := by decide +kernel
theorem dX7_shortest_45 : decode cX7_shortest 45 = .ok (.getfield 11, 3) := by decide +kernel
theorem dX7_shortest_48 : decode cX7_shortest 48 = .ok (.iload_n 2, 1) := by decide +kernel
theorem dX7_shortest_49 : decode cX7_shortest 49 = .ok (.iload 4, 2) := by decide +kernel
theorem dX7_shortest_51 : decode cX7_shortest 51 = .ok (.iconst 1, 1) := by decide +kernel
theorem dX7_shortest_52 : decode cX7_shortest 52 = .ok (.iload 4, 2) := by decide +kernel
theorem dX7_shortest_54 : decode cX7_shortest 54 = .ok (.ishl, 1) := by decide +kernel
theorem dX7_shortest_55 : decode cX7_shortest 55 = .ok (.iconst 0, 1) := by decide +kernel
theorem dX7_shortest_56 : decode cX7_shortest 56 = .ok (.invokestatic 25, 3) := by decide +kernel
theorem dX7_shortest_59 : decode cX7_shortest 59 = .ok (.ireturn, 1) := by decide +kernel
theorem dX7_shortestFrom_0 : decode cX7_shortestFrom 0 = .ok (.iload_n 3, 1) := by decide +kernel
theorem dX7_shortestFrom_1 : decode cX7_shortestFrom 1 = .ok (.aload_n 0, 1) := by decide +kernel
theorem dX7_shortestFrom_2 : decode cX7_shortestFrom 2 = .ok (.iload_n 2, 1) := by decide +kernel
theorem dX7_shortestFrom_3 : decode cX7_shortestFrom 3 = .ok (.invokevirtual 17, 3) := by decide +kernel
theorem dX7_shortestFrom_6 : decode cX7_shortestFrom 6 = .ok (.if_icmp .ne 12, 3) := by decide +kernel
theorem dX7_shortestFrom_9 : decode cX7_shortestFrom 9 = .ok (.aload_n 0, 1) := by decide +kernel
theorem dX7_shortestFrom_10 : decode cX7_shortestFrom 10 = .ok (.aload_n 1, 1) := by decide +kernel
theorem dX7_shortestFrom_11 : decode cX7_shortestFrom 11 = .ok (.iload_n 2, 1) := by decide +kernel
theorem dX7_shortestFrom_12 : decode cX7_shortestFrom 12 = .ok (.iload 5, 2) := by decide +kernel
theorem dX7_shortestFrom_14 : decode cX7_shortestFrom 14 = .ok (.invokestatic 29, 3) := by decide +kernel
theorem dX7_shortestFrom_17 : decode cX7_shortestFrom 17 = .ok (.ireturn, 1) := by decide +kernel
theorem dX7_shortestFrom_18 : decode cX7_shortestFrom 18 = .ok (.ldc 33, 2) := by decide +kernel
theorem dX7_shortestFrom_20 : decode cX7_shortestFrom 20 = .ok (.istore 6, 2) := by decide +kernel
theorem dX7_shortestFrom_22 : decode cX7_shortestFrom 22 = .ok (.iload 5, 2) := by decide +kernel
theorem dX7_shortestFrom_24 : decode cX7_shortestFrom 24 = .ok (.iconst 1, 1) := by decide +kernel
theorem dX7_shortestFrom_25 : decode cX7_shortestFrom 25 = .ok (.iadd, 1) := by decide +kernel
theorem dX7_shortestFrom_26 : decode cX7_shortestFrom 26 = .ok (.bipush 6, 2) := by decide +kernel
theorem dX7_shortestFrom_28 : decode cX7_shortestFrom 28 = .ok (.if_icmp .lt 6, 3) := by decide +kernel
theorem dX7_shortestFrom_31 : decode cX7_shortestFrom 31 = .ok (.iload 6, 2) := by decide +kernel
theorem dX7_shortestFrom_33 : decode cX7_shortestFrom 33 = .ok (.ireturn, 1) := by decide +kernel
theorem dX7_shortestFrom_34 : decode cX7_shortestFrom 34 = .ok (.iconst 0, 1) := by decide +kernel
theorem dX7_shortestFrom_35 : decode cX7_shortestFrom 35 = .ok (.istore 7, 2) := by decide +kernel
theorem dX7_shortestFrom_37 : decode cX7_shortestFrom 37 = .ok (.iload 7, 2) := by decide +kernel
theorem dX7_shortestFrom_39 : decode cX7_shortestFrom 39 = .ok (.bipush 6, 2) := by decide +kernel
theorem dX7_shortestFrom_41 : decode cX7_shortestFrom 41 = .ok (.if_icmp .ge 77, 3) := by decide +kernel
theorem dX7_shortestFrom_44 : decode cX7_shortestFrom 44 = .ok (.iload 7, 2) := by decide +kernel
theorem dX7_shortestFrom_46 : decode cX7_shortestFrom 46 = .ok (.iconst 1, 1) := by decide +kernel
theorem dX7_shortestFrom_47 : decode cX7_shortestFrom 47 = .ok (.ishr, 1) := by decide +kernel
theorem dX7_shortestFrom_48 : decode cX7_shortestFrom 48 = .ok (.iload_n 3, 1) := by decide +kernel
theorem dX7_shortestFrom_49 : decode cX7_shortestFrom 49 = .ok (.iconst 1, 1) := by decide +kernel
theorem dX7_shortestFrom_50 : decode cX7_shortestFrom 50 = .ok (.ishr, 1) := by decide +kernel
theorem dX7_shortestFrom_51 : decode cX7_shortestFrom 51 = .ok (.if_icmp .eq 7, 3) := by decide +kernel
theorem dX7_shortestFrom_54 : decode cX7_shortestFrom 54 = .ok (.iconst 1, 1) := by decide +kernel
theorem dX7_shortestFrom_55 : decode cX7_shortestFrom 55 = .ok (.goto 4, 3) := by decide +kernel
theorem dX7_shortestFrom_58 : decode cX7_shortestFrom 58 = .ok (.iconst 0, 1) := by decide +kernel
theorem dX7_shortestFrom_59 : decode cX7_shortestFrom 59 = .ok (.istore 8, 2) := by decide +kernel
theorem dX7_shortestFrom_61 : decode cX7_shortestFrom 61 = .ok (.iload 8, 2) := by decide +kernel
theorem dX7_shortestFrom_63 : decode cX7_shortestFrom 63 = .ok (.ifCond .eq 49, 3) := by decide +kernel
theorem dX7_shortestFrom_66 : decode cX7_shortestFrom 66 = .ok (.iload 4, 2) := by decide +kernel
theorem dX7_shortestFrom_68 : decode cX7_shortestFrom 68 = .ok (.iload 7, 2) := by decide +kernel
theorem dX7_shortestFrom_70 : decode cX7_shortestFrom 70 = .ok (.ishr, 1) := by decide +kernel
theorem dX7_shortestFrom_71 : decode cX7_shortestFrom 71 = .ok (.iconst 1, 1) := by decide +kernel
theorem dX7_shortestFrom_72 : decode cX7_shortestFrom 72 = .ok (.iand, 1) := by decide +kernel
theorem dX7_shortestFrom_73 : decode cX7_shortestFrom 73 = .ok (.ifCond .ne 39, 3) := by decide +kernel
theorem dX7_shortestFrom_76 : decode cX7_shortestFrom 76 = .ok (.aload_n 0, 1) := by decide +kernel
theorem dX7_shortestFrom_77 : decode cX7_shortestFrom 77 = .ok (.aload_n 1, 1) := by decide +kernel
theorem dX7_shortestFrom_78 : decode cX7_shortestFrom 78 = .ok (.iload_n 3, 1) := by decide +kernel
theorem dX7_shortestFrom_79 : decode cX7_shortestFrom 79 = .ok (.iload 7, 2) := by decide +kernel
theorem dX7_shortestFrom_81 : decode cX7_shortestFrom 81 = .ok (.iload 5, 2) := by decide +kernel
theorem dX7_shortestFrom_83 : decode cX7_shortestFrom 83 = .ok (.invokestatic 34, 3) := by decide +kernel
theorem dX7_shortestFrom_86 : decode cX7_shortestFrom 86 = .ok (.iload 6, 2) := by decide +kernel
theorem dX7_shortestFrom_88 : decode cX7_shortestFrom 88 = .ok (.aload_n 0, 1) := by decide +kernel
theorem dX7_shortestFrom_89 : decode cX7_shortestFrom 89 = .ok (.aload_n 1, 1) := by decide +kernel
theorem dX7_shortestFrom_90 : decode cX7_shortestFrom 90 = .ok (.iload_n 2, 1) := by decide +kernel
theorem dX7_shortestFrom_91 : decode cX7_shortestFrom 91 = .ok (.iload 7, 2) := by decide +kernel
theorem dX7_shortestFrom_93 : decode cX7_shortestFrom 93 = .ok (.iload 4, 2) := by decide +kernel
theorem dX7_shortestFrom_95 : decode cX7_shortestFrom 95 = .ok (.iconst 1, 1) := by decide +kernel
theorem dX7_shortestFrom_96 : decode cX7_shortestFrom 96 = .ok (.iload 7, 2) := by decide +kernel
theorem dX7_shortestFrom_98 : decode cX7_shortestFrom 98 = .ok (.ishl, 1) := by decide +kernel
theorem dX7_shortestFrom_99 : decode cX7_shortestFrom 99 = .ok (.ior, 1) := by decide +kernel
theorem dX7_shortestFrom_100 : decode cX7_shortestFrom 100 = .ok (.iload 5, 2) := by decide +kernel
theorem dX7_shortestFrom_102 : decode cX7_shortestFrom 102 = .ok (.iconst 1, 1) := by decide +kernel
theorem dX7_shortestFrom_103 : decode cX7_shortestFrom 103 = .ok (.iadd, 1) := by decide +kernel
theorem dX7_shortestFrom_104 : decode cX7_shortestFrom 104 = .ok (.invokestatic 25, 3) := by decide +kernel
theorem dX7_shortestFrom_107 : decode cX7_shortestFrom 107 = .ok (.invokestatic 38, 3) := by decide +kernel
theorem dX7_shortestFrom_110 : decode cX7_shortestFrom 110 = .ok (.istore 6, 2) := by decide +kernel
theorem dX7_shortestFrom_112 : decode cX7_shortestFrom 112 = .ok (.iinc 7 1, 3) := by decide +kernel
theorem dX7_shortestFrom_115 : decode cX7_shortestFrom 115 = .ok (.goto (-78), 3) := by decide +kernel
theorem dX7_shortestFrom_118 : decode cX7_shortestFrom 118 = .ok (.iload 6, 2) := by decide +kernel
theorem dX7_shortestFrom_120 : decode cX7_shortestFrom 120 = .ok (.ireturn, 1) := by decide +kernel
theorem dX7_unfold_0 : decode cX7_unfold 0 = .ok (.iconst 3, 1) := by decide +kernel
theorem dX7_unfold_1 : decode cX7_unfold 1 = .ok (.iload 4, 2) := by decide +kernel
theorem dX7_unfold_3 : decode cX7_unfold 3 = .ok (.imul, 1) := by decide +kernel
theorem dX7_unfold_4 : decode cX7_unfold 4 = .ok (.istore 5, 2) := by decide +kernel
theorem dX7_unfold_6 : decode cX7_unfold 6 = .ok (.iload 5, 2) := by decide +kernel
theorem dX7_unfold_8 : decode cX7_unfold 8 = .ok (.iconst 3, 1) := by decide +kernel
theorem dX7_unfold_9 : decode cX7_unfold 9 = .ok (.iadd, 1) := by decide +kernel
theorem dX7_unfold_10 : decode cX7_unfold 10 = .ok (.istore 6, 2) := by decide +kernel
theorem dX7_unfold_12 : decode cX7_unfold 12 = .ok (.iload 5, 2) := by decide +kernel
theorem dX7_unfold_14 : decode cX7_unfold 14 = .ok (.ifCond .lt 12, 3) := by decide +kernel
theorem dX7_unfold_17 : decode cX7_unfold 17 = .ok (.iload 6, 2) := by decide +kernel
theorem dX7_unfold_19 : decode cX7_unfold 19 = .ok (.iconst 3, 1) := by decide +kernel
theorem dX7_unfold_20 : decode cX7_unfold 20 = .ok (.iadd, 1) := by decide +kernel
theorem dX7_unfold_21 : decode cX7_unfold 21 = .ok (.aload_n 1, 1) := by decide +kernel
theorem dX7_unfold_22 : decode cX7_unfold 22 = .ok (.arraylength, 1) := by decide +kernel
theorem dX7_unfold_23 : decode cX7_unfold 23 = .ok (.if_icmp .le 4, 3) := by decide +kernel
theorem dX7_unfold_26 : decode cX7_unfold 26 = .ok (.return_, 1) := by decide +kernel
theorem dX7_unfold_27 : decode cX7_unfold 27 = .ok (.aload_n 1, 1) := by decide +kernel
theorem dX7_unfold_28 : decode cX7_unfold 28 = .ok (.iload 5, 2) := by decide +kernel
theorem dX7_unfold_30 : decode cX7_unfold 30 = .ok (.aload_n 1, 1) := by decide +kernel
theorem dX7_unfold_31 : decode cX7_unfold 31 = .ok (.iload 6, 2) := by decide +kernel
theorem dX7_unfold_33 : decode cX7_unfold 33 = .ok (.iconst 3, 1) := by decide +kernel
theorem dX7_unfold_34 : decode cX7_unfold 34 = .ok (.invokestatic 43, 3) := by decide +kernel
theorem dX7_unfold_37 : decode cX7_unfold 37 = .ok (.iload_n 3, 1) := by decide +kernel
theorem dX7_unfold_38 : decode cX7_unfold 38 = .ok (.invokestatic 49, 3) := by decide +kernel
theorem dX7_unfold_41 : decode cX7_unfold 41 = .ok (.aload_n 0, 1) := by decide +kernel
theorem dX7_unfold_42 : decode cX7_unfold 42 = .ok (.iload_n 3, 1) := by decide +kernel
theorem dX7_unfold_43 : decode cX7_unfold 43 = .ok (.invokevirtual 52, 3) := by decide +kernel
theorem dX7_unfold_46 : decode cX7_unfold 46 = .ok (.aload_n 1, 1) := by decide +kernel
theorem dX7_unfold_47 : decode cX7_unfold 47 = .ok (.iload 5, 2) := by decide +kernel
theorem dX7_unfold_49 : decode cX7_unfold 49 = .ok (.iload_n 3, 1) := by decide +kernel
theorem dX7_unfold_50 : decode cX7_unfold 50 = .ok (.iconst 1, 1) := by decide +kernel
theorem dX7_unfold_51 : decode cX7_unfold 51 = .ok (.ishr, 1) := by decide +kernel
theorem dX7_unfold_52 : decode cX7_unfold 52 = .ok (.iadd, 1) := by decide +kernel
theorem dX7_unfold_53 : decode cX7_unfold 53 = .ok (.iaload, 1) := by decide +kernel
theorem dX7_unfold_54 : decode cX7_unfold 54 = .ok (.isub, 1) := by decide +kernel
theorem dX7_unfold_55 : decode cX7_unfold 55 = .ok (.imul, 1) := by decide +kernel
theorem dX7_unfold_56 : decode cX7_unfold 56 = .ok (.istore 7, 2) := by decide +kernel
theorem dX7_unfold_58 : decode cX7_unfold 58 = .ok (.aload_n 1, 1) := by decide +kernel
theorem dX7_unfold_59 : decode cX7_unfold 59 = .ok (.iload 6, 2) := by decide +kernel
theorem dX7_unfold_61 : decode cX7_unfold 61 = .ok (.iload_n 3, 1) := by decide +kernel
theorem dX7_unfold_62 : decode cX7_unfold 62 = .ok (.iconst 1, 1) := by decide +kernel
theorem dX7_unfold_63 : decode cX7_unfold 63 = .ok (.ishr, 1) := by decide +kernel
theorem dX7_unfold_64 : decode cX7_unfold 64 = .ok (.iadd, 1) := by decide +kernel
theorem dX7_unfold_65 : decode cX7_unfold 65 = .ok (.aload_n 0, 1) := by decide +kernel
theorem dX7_unfold_66 : decode cX7_unfold 66 = .ok (.iload_n 3, 1) := by decide +kernel
theorem dX7_unfold_67 : decode cX7_unfold 67 = .ok (.invokevirtual 52, 3) := by decide +kernel
theorem dX7_unfold_70 : decode cX7_unfold 70 = .ok (.iastore, 1) := by decide +kernel
theorem dX7_unfold_71 : decode cX7_unfold 71 = .ok (.aload_n 1, 1) := by decide +kernel
theorem dX7_unfold_72 : decode cX7_unfold 72 = .ok (.iload 6, 2) := by decide +kernel
theorem dX7_unfold_74 : decode cX7_unfold 74 = .ok (.iload_n 2, 1) := by decide +kernel
theorem dX7_unfold_75 : decode cX7_unfold 75 = .ok (.iconst 1, 1) := by decide +kernel
theorem dX7_unfold_76 : decode cX7_unfold 76 = .ok (.ishr, 1) := by decide +kernel
theorem dX7_unfold_77 : decode cX7_unfold 77 = .ok (.iadd, 1) := by decide +kernel
theorem dX7_unfold_78 : decode cX7_unfold 78 = .ok (.aload_n 0, 1) := by decide +kernel
theorem dX7_unfold_79 : decode cX7_unfold 79 = .ok (.iload_n 2, 1) := by decide +kernel
theorem dX7_unfold_80 : decode cX7_unfold 80 = .ok (.invokevirtual 52, 3) := by decide +kernel
theorem dX7_unfold_83 : decode cX7_unfold 83 = .ok (.iload_n 2, 1) := by decide +kernel
theorem dX7_unfold_84 : decode cX7_unfold 84 = .ok (.invokestatic 49, 3) := by decide +kernel
theorem dX7_unfold_87 : decode cX7_unfold 87 = .ok (.iload 7, 2) := by decide +kernel
theorem dX7_unfold_89 : decode cX7_unfold 89 = .ok (.imul, 1) := by decide +kernel
theorem dX7_unfold_90 : decode cX7_unfold 90 = .ok (.iadd, 1) := by decide +kernel
theorem dX7_unfold_91 : decode cX7_unfold 91 = .ok (.iastore, 1) := by decide +kernel
theorem dX7_unfold_92 : decode cX7_unfold 92 = .ok (.return_, 1) := by decide +kernel
theorem dX7_lengthTo_0 : decode cX7_lengthTo 0 = .ok (.iconst 0, 1) := by decide +kernel
theorem dX7_lengthTo_1 : decode cX7_lengthTo 1 = .ok (.istore 4, 2) := by decide +kernel
theorem dX7_lengthTo_3 : decode cX7_lengthTo 3 = .ok (.iconst 3, 1) := by decide +kernel
theorem dX7_lengthTo_4 : decode cX7_lengthTo 4 = .ok (.iload_n 3, 1) := by decide +kernel
theorem dX7_lengthTo_5 : decode cX7_lengthTo 5 = .ok (.imul, 1) := by decide +kernel
theorem dX7_lengthTo_6 : decode cX7_lengthTo 6 = .ok (.istore 5, 2) := by decide +kernel
theorem dX7_lengthTo_8 : decode cX7_lengthTo 8 = .ok (.iload 5, 2) := by decide +kernel
theorem dX7_lengthTo_10 : decode cX7_lengthTo 10 = .ok (.ifCond .lt 12, 3) := by decide +kernel
theorem dX7_lengthTo_13 : decode cX7_lengthTo 13 = .ok (.iload 5, 2) := by decide +kernel
theorem dX7_lengthTo_15 : decode cX7_lengthTo 15 = .ok (.iconst 3, 1) := by decide +kernel
theorem dX7_lengthTo_16 : decode cX7_lengthTo 16 = .ok (.iadd, 1) := by decide +kernel
theorem dX7_lengthTo_17 : decode cX7_lengthTo 17 = .ok (.aload_n 1, 1) := by decide +kernel
theorem dX7_lengthTo_18 : decode cX7_lengthTo 18 = .ok (.arraylength, 1) := by decide +kernel
theorem dX7_lengthTo_19 : decode cX7_lengthTo 19 = .ok (.if_icmp .le 6, 3) := by decide +kernel
theorem dX7_lengthTo_22 : decode cX7_lengthTo 22 = .ok (.ldc 33, 2) := by decide +kernel
theorem dX7_lengthTo_24 : decode cX7_lengthTo 24 = .ok (.ireturn, 1) := by decide +kernel
theorem dX7_lengthTo_25 : decode cX7_lengthTo 25 = .ok (.iconst 0, 1) := by decide +kernel
theorem dX7_lengthTo_26 : decode cX7_lengthTo 26 = .ok (.istore 6, 2) := by decide +kernel
theorem dX7_lengthTo_28 : decode cX7_lengthTo 28 = .ok (.iload 6, 2) := by decide +kernel
theorem dX7_lengthTo_30 : decode cX7_lengthTo 30 = .ok (.iconst 3, 1) := by decide +kernel
theorem dX7_lengthTo_31 : decode cX7_lengthTo 31 = .ok (.if_icmp .ge 36, 3) := by decide +kernel
theorem dX7_lengthTo_34 : decode cX7_lengthTo 34 = .ok (.aload_n 1, 1) := by decide +kernel
theorem dX7_lengthTo_35 : decode cX7_lengthTo 35 = .ok (.iload 5, 2) := by decide +kernel
theorem dX7_lengthTo_37 : decode cX7_lengthTo 37 = .ok (.iload 6, 2) := by decide +kernel
theorem dX7_lengthTo_39 : decode cX7_lengthTo 39 = .ok (.iadd, 1) := by decide +kernel
theorem dX7_lengthTo_40 : decode cX7_lengthTo 40 = .ok (.iaload, 1) := by decide +kernel
theorem dX7_lengthTo_41 : decode cX7_lengthTo 41 = .ok (.aload_n 0, 1) := by decide +kernel
theorem dX7_lengthTo_42 : decode cX7_lengthTo 42 = .ok (.iload_n 2, 1) := by decide +kernel
theorem dX7_lengthTo_43 : decode cX7_lengthTo 43 = .ok (.iload 6, 2) := by decide +kernel
theorem dX7_lengthTo_45 : decode cX7_lengthTo 45 = .ok (.invokevirtual 21, 3) := by decide +kernel
theorem dX7_lengthTo_48 : decode cX7_lengthTo 48 = .ok (.isub, 1) := by decide +kernel
theorem dX7_lengthTo_49 : decode cX7_lengthTo 49 = .ok (.istore 7, 2) := by decide +kernel
theorem dX7_lengthTo_51 : decode cX7_lengthTo 51 = .ok (.iload 4, 2) := by decide +kernel
theorem dX7_lengthTo_53 : decode cX7_lengthTo 53 = .ok (.iload 7, 2) := by decide +kernel
theorem dX7_lengthTo_55 : decode cX7_lengthTo 55 = .ok (.iload 7, 2) := by decide +kernel
theorem dX7_lengthTo_57 : decode cX7_lengthTo 57 = .ok (.imul, 1) := by decide +kernel
theorem dX7_lengthTo_58 : decode cX7_lengthTo 58 = .ok (.iadd, 1) := by decide +kernel
theorem dX7_lengthTo_59 : decode cX7_lengthTo 59 = .ok (.istore 4, 2) := by decide +kernel
theorem dX7_lengthTo_61 : decode cX7_lengthTo 61 = .ok (.iinc 6 1, 3) := by decide +kernel
theorem dX7_lengthTo_64 : decode cX7_lengthTo 64 = .ok (.goto (-36), 3) := by decide +kernel
theorem dX7_lengthTo_67 : decode cX7_lengthTo 67 = .ok (.iload 4, 2) := by decide +kernel
theorem dX7_lengthTo_69 : decode cX7_lengthTo 69 = .ok (.ireturn, 1) := by decide +kernel
