theorem dX8_init_0 : decode cX8_init 0 = .ok (.aload_n 0, 1) := by decide +kernel
theorem dX8_init_1 : decode cX8_init 1 = .ok (.invokespecial 3, 3) := by decide +kernel
theorem dX8_init_4 : decode cX8_init 4 = .ok (.aload_n 0, 1) := by decide +kernel
theorem dX8_init_5 : decode cX8_init 5 = .ok (.bipush 6, 2) := by decide +kernel
theorem dX8_init_7 : decode cX8_init 7 = .ok (.anewarray 9, 3) := by decide +kernel
theorem dX8_init_10 : decode cX8_init 10 = .ok (.putfield 11, 3) := by decide +kernel
theorem dX8_init_13 : decode cX8_init 13 = .ok (.aload_n 0, 1) := by decide +kernel
theorem dX8_init_14 : decode cX8_init 14 = .ok (.iconst 4, 1) := by decide +kernel
theorem dX8_init_15 : decode cX8_init 15 = .ok (.anewarray 15, 3) := by decide +kernel
theorem dX8_init_18 : decode cX8_init 18 = .ok (.putfield 17, 3) := by decide +kernel
theorem dX8_init_21 : decode cX8_init 21 = .ok (.aload_n 0, 1) := by decide +kernel
theorem dX8_init_22 : decode cX8_init 22 = .ok (.iconst 4, 1) := by decide +kernel
theorem dX8_init_23 : decode cX8_init 23 = .ok (.anewarray 21, 3) := by decide +kernel
theorem dX8_init_26 : decode cX8_init 26 = .ok (.putfield 23, 3) := by decide +kernel
theorem dX8_init_29 : decode cX8_init 29 = .ok (.aload_n 0, 1) := by decide +kernel
theorem dX8_init_30 : decode cX8_init 30 = .ok (.new 21, 3) := by decide +kernel
theorem dX8_init_33 : decode cX8_init 33 = .ok (.dup, 1) := by decide +kernel
theorem dX8_init_34 : decode cX8_init 34 = .ok (.invokespecial 27, 3) := by decide +kernel
theorem dX8_init_37 : decode cX8_init 37 = .ok (.putfield 28, 3) := by decide +kernel
theorem dX8_init_40 : decode cX8_init 40 = .ok (.aload_n 0, 1) := by decide +kernel
theorem dX8_init_41 : decode cX8_init 41 = .ok (.new 32, 3) := by decide +kernel
theorem dX8_init_44 : decode cX8_init 44 = .ok (.dup, 1) := by decide +kernel
theorem dX8_init_45 : decode cX8_init 45 = .ok (.invokespecial 34, 3) := by decide +kernel
theorem dX8_init_48 : decode cX8_init 48 = .ok (.putfield 35, 3) := by decide +kernel
theorem dX8_init_51 : decode cX8_init 51 = .ok (.aload_n 0, 1) := by decide +kernel
theorem dX8_init_52 : decode cX8_init 52 = .ok (.new 32, 3) := by decide +kernel
theorem dX8_init_55 : decode cX8_init 55 = .ok (.dup, 1) := by decide +kernel
theorem dX8_init_56 : decode cX8_init 56 = .ok (.invokespecial 34, 3) := by decide +kernel
theorem dX8_init_59 : decode cX8_init 59 = .ok (.putfield 39, 3) := by decide +kernel
theorem dX8_init_62 : decode cX8_init 62 = .ok (.aload_n 0, 1) := by decide +kernel
theorem dX8_init_63 : decode cX8_init 63 = .ok (.new 42, 3) := by decide +kernel
theorem dX8_init_66 : decode cX8_init 66 = .ok (.dup, 1) := by decide +kernel
theorem dX8_init_67 : decode cX8_init 67 = .ok (.invokespecial 44, 3) := by decide +kernel
theorem dX8_init_70 : decode cX8_init 70 = .ok (.putfield 45, 3) := by decide +kernel
theorem dX8_init_73 : decode cX8_init 73 = .ok (.aload_n 0, 1) := by decide +kernel
theorem dX8_init_74 : decode cX8_init 74 = .ok (.new 49, 3) := by decide +kernel
theorem dX8_init_77 : decode cX8_init 77 = .ok (.dup, 1) := by decide +kernel
theorem dX8_init_78 : decode cX8_init 78 = .ok (.invokespecial 51, 3) := by decide +kernel
theorem dX8_init_81 : decode cX8_init 81 = .ok (.putfield 52, 3) := by decide +kernel
theorem dX8_init_84 : decode cX8_init 84 = .ok (.aload_n 0, 1) := by decide +kernel
theorem dX8_init_85 : decode cX8_init 85 = .ok (.new 56, 3) := by decide +kernel
theorem dX8_init_88 : decode cX8_init 88 = .ok (.dup, 1) := by decide +kernel
theorem dX8_init_89 : decode cX8_init 89 = .ok (.invokespecial 58, 3) := by decide +kernel
theorem dX8_init_92 : decode cX8_init 92 = .ok (.putfield 59, 3) := by decide +kernel
theorem dX8_init_95 : decode cX8_init 95 = .ok (.aload_n 0, 1) := by decide +kernel
theorem dX8_init_96 : decode cX8_init 96 = .ok (.bipush 6, 2) := by decide +kernel
theorem dX8_init_98 : decode cX8_init 98 = .ok (.newarray .int, 2) := by decide +kernel
theorem dX8_init_100 : decode cX8_init 100 = .ok (.putfield 63, 3) := by decide +kernel
theorem dX8_init_103 : decode cX8_init 103 = .ok (.iconst 0, 1) := by decide +kernel
theorem dX8_init_104 : decode cX8_init 104 = .ok (.istore_n 1, 1) := by decide +kernel
theorem dX8_init_105 : decode cX8_init 105 = .ok (.iload_n 1, 1) := by decide +kernel
theorem dX8_init_106 : decode cX8_init 106 = .ok (.bipush 6, 2) := by decide +kernel
theorem dX8_init_108 : decode cX8_init 108 = .ok (.if_icmp .ge 22, 3) := by decide +kernel
theorem dX8_init_111 : decode cX8_init 111 = .ok (.aload_n 0, 1) := by decide +kernel
theorem dX8_init_112 : decode cX8_init 112 = .ok (.getfield 11, 3) := by decide +kernel
theorem dX8_init_115 : decode cX8_init 115 = .ok (.iload_n 1, 1) := by decide +kernel
theorem dX8_init_116 : decode cX8_init 116 = .ok (.new 9, 3) := by decide +kernel
theorem dX8_init_119 : decode cX8_init 119 = .ok (.dup, 1) := by decide +kernel
theorem dX8_init_120 : decode cX8_init 120 = .ok (.invokespecial 67, 3) := by decide +kernel
theorem dX8_init_123 : decode cX8_init 123 = .ok (.aastore, 1) := by decide +kernel
theorem dX8_init_124 : decode cX8_init 124 = .ok (.iinc 1 1, 3) := by decide +kernel
theorem dX8_init_127 : decode cX8_init 127 = .ok (.goto (-22), 3) := by decide +kernel
theorem dX8_init_130 : decode cX8_init 130 = .ok (.iconst 0, 1) := by decide +kernel
theorem dX8_init_131 : decode cX8_init 131 = .ok (.istore_n 1, 1) := by decide +kernel
theorem dX8_init_132 : decode cX8_init 132 = .ok (.iload_n 1, 1) := by decide +kernel
theorem dX8_init_133 : decode cX8_init 133 = .ok (.iconst 4, 1) := by decide +kernel
theorem dX8_init_134 : decode cX8_init 134 = .ok (.if_icmp .ge 22, 3) := by decide +kernel
theorem dX8_init_137 : decode cX8_init 137 = .ok (.aload_n 0, 1) := by decide +kernel
theorem dX8_init_138 : decode cX8_init 138 = .ok (.getfield 17, 3) := by decide +kernel
theorem dX8_init_141 : decode cX8_init 141 = .ok (.iload_n 1, 1) := by decide +kernel
theorem dX8_init_142 : decode cX8_init 142 = .ok (.new 15, 3) := by decide +kernel
theorem dX8_init_145 : decode cX8_init 145 = .ok (.dup, 1) := by decide +kernel
theorem dX8_init_146 : decode cX8_init 146 = .ok (.invokespecial 68, 3) := by decide +kernel
theorem dX8_init_149 : decode cX8_init 149 = .ok (.aastore, 1) := by decide +kernel
theorem dX8_init_150 : decode cX8_init 150 = .ok (.iinc 1 1, 3) := by decide +kernel
theorem dX8_init_153 : decode cX8_init 153 = .ok (.goto (-21), 3) := by decide +kernel
theorem dX8_init_156 : decode cX8_init 156 = .ok (.iconst 0, 1) := by decide +kernel
theorem dX8_init_157 : decode cX8_init 157 = .ok (.istore_n 1, 1) := by decide +kernel
theorem dX8_init_158 : decode cX8_init 158 = .ok (.iload_n 1, 1) := by decide +kernel
theorem dX8_init_159 : decode cX8_init 159 = .ok (.iconst 4, 1) := by decide +kernel
theorem dX8_init_160 : decode cX8_init 160 = .ok (.if_icmp .ge 22, 3) := by decide +kernel
theorem dX8_init_163 : decode cX8_init 163 = .ok (.aload_n 0, 1) := by decide +kernel
theorem dX8_init_164 : decode cX8_init 164 = .ok (.getfield 23, 3) := by decide +kernel
theorem dX8_init_167 : decode cX8_init 167 = .ok (.iload_n 1, 1) := by decide +kernel
theorem dX8_init_168 : decode cX8_init 168 = .ok (.new 21, 3) := by decide +kernel
theorem dX8_init_171 : decode cX8_init 171 = .ok (.dup, 1) := by decide +kernel
theorem dX8_init_172 : decode cX8_init 172 = .ok (.invokespecial 27, 3) := by decide +kernel
theorem dX8_init_175 : decode cX8_init 175 = .ok (.aastore, 1) := by decide +kernel
theorem dX8_init_176 : decode cX8_init 176 = .ok (.iinc 1 1, 3) := by decide +kernel
theorem dX8_init_179 : decode cX8_init 179 = .ok (.goto (-21), 3) := by decide +kernel
theorem dX8_init_182 : decode cX8_init 182 = .ok (.aload_n 0, 1) := by decide +kernel
theorem dX8_init_183 : decode cX8_init 183 = .ok (.getfield 28, 3) := by decide +kernel
theorem dX8_init_186 : decode cX8_init 186 = .ok (.iconst 0, 1) := by decide +kernel
theorem dX8_init_187 : decode cX8_init 187 = .ok (.invokevirtual 69, 3) := by decide +kernel
theorem dX8_init_190 : decode cX8_init 190 = .ok (.return_, 1) := by decide +kernel
theorem dX8_figure_0 : decode cX8_figure 0 = .ok (.lload_n 2, 1) := by decide +kernel
theorem dX8_figure_1 : decode cX8_figure 1 = .ok (.invokestatic 73, 3) := by decide +kernel
theorem dX8_figure_4 : decode cX8_figure 4 = .ok (.istore 4, 2) := by decide +kernel
theorem dX8_figure_6 : decode cX8_figure 6 = .ok (.iload_n 1, 1) := by decide +kernel
theorem dX8_figure_7 : decode cX8_figure 7 = .ok (.invokestatic 79, 3) := by decide +kernel
theorem dX8_figure_10 : decode cX8_figure 10 = .ok (.ifCond .eq 14, 3) := by decide +kernel
theorem dX8_figure_13 : decode cX8_figure 13 = .ok (.iload 4, 2) := by decide +kernel
theorem dX8_figure_15 : decode cX8_figure 15 = .ok (.iconst 1, 1) := by decide +kernel
theorem dX8_figure_16 : decode cX8_figure 16 = .ok (.bipush 24, 2) := by decide +kernel
theorem dX8_figure_18 : decode cX8_figure 18 = .ok (.invokestatic 83, 3) := by decide +kernel
theorem dX8_figure_21 : decode cX8_figure 21 = .ok (.ifCond .ne 5, 3) := by decide +kernel
theorem dX8_figure_24 : decode cX8_figure 24 = .ok (.iconst (-1), 1) := by decide +kernel
theorem dX8_figure_25 : decode cX8_figure 25 = .ok (.ireturn, 1) := by decide +kernel
theorem dX8_figure_26 : decode cX8_figure 26 = .ok (.lload_n 2, 1) := by decide +kernel
theorem dX8_figure_27 : decode cX8_figure 27 = .ok (.invokestatic 87, 3) := by decide +kernel
theorem dX8_figure_30 : decode cX8_figure 30 = .ok (.ifCond .ne 6, 3) := by decide +kernel
theorem dX8_figure_33 : decode cX8_figure 33 = .ok (.bipush (-4), 2) := by decide +kernel
theorem dX8_figure_35 : decode cX8_figure 35 = .ok (.ireturn, 1) := by decide +kernel
theorem dX8_figure_36 : decode cX8_figure 36 = .ok (.aload_n 0, 1) := by decide +kernel
theorem dX8_figure_37 : decode cX8_figure 37 = .ok (.getfield 11, 3) := by decide +kernel
theorem dX8_figure_40 : decode cX8_figure 40 = .ok (.iload_n 1, 1) := by decide +kernel
theorem dX8_figure_41 : decode cX8_figure 41 = .ok (.aaload, 1) := by decide +kernel
theorem dX8_figure_42 : decode cX8_figure 42 = .ok (.lload_n 2, 1) := by decide +kernel
theorem dX8_figure_43 : decode cX8_figure 43 = .ok (.invokevirtual 93, 3) := by decide +kernel
theorem dX8_figure_46 : decode cX8_figure 46 = .ok (.iload 4, 2) := by decide +kernel
theorem dX8_figure_48 : decode cX8_figure 48 = .ok (.ireturn, 1) := by decide +kernel
theorem dX8_drop_0 : decode cX8_drop 0 = .ok (.iload_n 1, 1) := by decide +kernel
theorem dX8_drop_1 : decode cX8_drop 1 = .ok (.invokestatic 79, 3) := by decide +kernel
theorem dX8_drop_4 : decode cX8_drop 4 = .ok (.ifCond .ne 5, 3) := by decide +kernel
theorem dX8_drop_7 : decode cX8_drop 7 = .ok (.iconst (-1), 1) := by decide +kernel
theorem dX8_drop_8 : decode cX8_drop 8 = .ok (.ireturn, 1) := by decide +kernel
theorem dX8_drop_9 : decode cX8_drop 9 = .ok (.aload_n 0, 1) := by decide +kernel
theorem dX8_drop_10 : decode cX8_drop 10 = .ok (.getfield 11, 3) := by decide +kernel
theorem dX8_drop_13 : decode cX8_drop 13 = .ok (.iload_n 1, 1) := by decide +kernel
theorem dX8_drop_14 : decode cX8_drop 14 = .ok (.aaload, 1) := by decide +kernel
theorem dX8_drop_15 : decode cX8_drop 15 = .ok (.invokevirtual 97, 3) := by decide +kernel
theorem dX8_drop_18 : decode cX8_drop 18 = .ok (.ifCond .ne 9, 3) := by decide +kernel
theorem dX8_drop_21 : decode cX8_drop 21 = .ok (.aload_n 0, 1) := by decide +kernel
theorem dX8_drop_22 : decode cX8_drop 22 = .ok (.iconst 1, 1) := by decide +kernel
theorem dX8_drop_23 : decode cX8_drop 23 = .ok (.invokevirtual 101, 3) := by decide +kernel
theorem dX8_drop_26 : decode cX8_drop 26 = .ok (.ireturn, 1) := by decide +kernel
theorem dX8_drop_27 : decode cX8_drop 27 = .ok (.aload_n 0, 1) := by decide +kernel
theorem dX8_drop_28 : decode cX8_drop 28 = .ok (.getfield 11, 3) := by decide +kernel
theorem dX8_drop_31 : decode cX8_drop 31 = .ok (.iload_n 1, 1) := by decide +kernel
theorem dX8_drop_32 : decode cX8_drop 32 = .ok (.aaload, 1) := by decide +kernel
theorem dX8_drop_33 : decode cX8_drop 33 = .ok (.invokevirtual 105, 3) := by decide +kernel
theorem dX8_drop_36 : decode cX8_drop 36 = .ok (.iconst 1, 1) := by decide +kernel
theorem dX8_drop_37 : decode cX8_drop 37 = .ok (.ireturn, 1) := by decide +kernel
theorem dX8_box_0 : decode cX8_box 0 = .ok (.iload_n 1, 1) := by decide +kernel
theorem dX8_box_1 : decode cX8_box 1 = .ok (.invokestatic 108, 3) := by decide +kernel
theorem dX8_box_4 : decode cX8_box 4 = .ok (.ifCond .eq 25, 3) := by decide +kernel
theorem dX8_box_7 : decode cX8_box 7 = .ok (.iload_n 2, 1) := by decide +kernel
theorem dX8_box_8 : decode cX8_box 8 = .ok (.invokestatic 111, 3) := by decide +kernel
theorem dX8_box_11 : decode cX8_box 11 = .ok (.ifCond .eq 18, 3) := by decide +kernel
theorem dX8_box_14 : decode cX8_box 14 = .ok (.iload_n 3, 1) := by decide +kernel
theorem dX8_box_15 : decode cX8_box 15 = .ok (.invokestatic 111, 3) := by decide +kernel
theorem dX8_box_18 : decode cX8_box 18 = .ok (.ifCond .eq 11, 3) := by decide +kernel
theorem dX8_box_21 : decode cX8_box 21 = .ok (.iload 4, 2) := by decide +kernel
theorem dX8_box_23 : decode cX8_box 23 = .ok (.invokestatic 111, 3) := by decide +kernel
theorem dX8_box_26 : decode cX8_box 26 = .ok (.ifCond .ne 5, 3) := by decide +kernel
theorem dX8_box_29 : decode cX8_box 29 = .ok (.iconst (-1), 1) := by decide +kernel
theorem dX8_box_30 : decode cX8_box 30 = .ok (.ireturn, 1) := by decide +kernel
theorem dX8_box_31 : decode cX8_box 31 = .ok (.iconst 2, 1) := by decide +kernel
theorem dX8_box_32 : decode cX8_box 32 = .ok (.iload_n 2, 1) := by decide +kernel
theorem dX8_box_33 : decode cX8_box 33 = .ok (.iload_n 3, 1) := by decide +kernel
theorem dX8_box_34 : decode cX8_box 34 = .ok (.imul, 1) := by decide +kernel
theorem dX8_box_35 : decode cX8_box 35 = .ok (.iload_n 3, 1) := by decide +kernel
theorem dX8_box_36 : decode cX8_box 36 = .ok (.iload 4, 2) := by decide +kernel
theorem dX8_box_38 : decode cX8_box 38 = .ok (.imul, 1) := by decide +kernel
theorem dX8_box_39 : decode cX8_box 39 = .ok (.iadd, 1) := by decide +kernel
theorem dX8_box_40 : decode cX8_box 40 = .ok (.iload 4, 2) := by decide +kernel
theorem dX8_box_42 : decode cX8_box 42 = .ok (.iload_n 2, 1) := by decide +kernel
theorem dX8_box_43 : decode cX8_box 43 = .ok (.imul, 1) := by decide +kernel
theorem dX8_box_44 : decode cX8_box 44 = .ok (.iadd, 1) := by decide +kernel
theorem dX8_box_45 : decode cX8_box 45 = .ok (.imul, 1) := by decide +kernel
theorem dX8_box_46 : decode cX8_box 46 = .ok (.bipush 24, 2) := by decide +kernel
theorem dX8_box_48 : decode cX8_box 48 = .ok (.if_icmp .le 5, 3) := by decide +kernel
theorem dX8_box_51 : decode cX8_box 51 = .ok (.iconst (-1), 1) := by decide +kernel
theorem dX8_box_52 : decode cX8_box 52 = .ok (.ireturn, 1) := by decide +kernel
theorem dX8_box_53 : decode cX8_box 53 = .ok (.aload_n 0, 1) := by decide +kernel
theorem dX8_box_54 : decode cX8_box 54 = .ok (.getfield 17, 3) := by decide +kernel
theorem dX8_box_57 : decode cX8_box 57 = .ok (.iload_n 1, 1) := by decide +kernel
theorem dX8_box_58 : decode cX8_box 58 = .ok (.aaload, 1) := by decide +kernel
theorem dX8_box_59 : decode cX8_box 59 = .ok (.iload_n 2, 1) := by decide +kernel
theorem dX8_box_60 : decode cX8_box 60 = .ok (.iload_n 3, 1) := by decide +kernel
theorem dX8_box_61 : decode cX8_box 61 = .ok (.iload 4, 2) := by decide +kernel
theorem dX8_box_63 : decode cX8_box 63 = .ok (.invokevirtual 114, 3) := by decide +kernel
theorem dX8_box_66 : decode cX8_box 66 = .ok (.aload_n 0, 1) := by decide +kernel
theorem dX8_box_67 : decode cX8_box 67 = .ok (.getfield 17, 3) := by decide +kernel
theorem dX8_box_70 : decode cX8_box 70 = .ok (.iload_n 1, 1) := by decide +kernel
theorem dX8_box_71 : decode cX8_box 71 = .ok (.aaload, 1) := by decide +kernel
theorem dX8_box_72 : decode cX8_box 72 = .ok (.getfield 118, 3) := by decide +kernel
theorem dX8_box_75 : decode cX8_box 75 = .ok (.ireturn, 1) := by decide +kernel
theorem dX8_told_0 : decode cX8_told 0 = .ok (.iload_n 1, 1) := by decide +kernel
theorem dX8_told_1 : decode cX8_told 1 = .ok (.invokestatic 79, 3) := by decide +kernel
theorem dX8_told_4 : decode cX8_told 4 = .ok (.ifCond .eq 12, 3) := by decide +kernel
theorem dX8_told_7 : decode cX8_told 7 = .ok (.iload_n 2, 1) := by decide +kernel
theorem dX8_told_8 : decode cX8_told 8 = .ok (.iconst 0, 1) := by decide +kernel
theorem dX8_told_9 : decode cX8_told 9 = .ok (.iconst 3, 1) := by decide +kernel
theorem dX8_told_10 : decode cX8_told 10 = .ok (.invokestatic 83, 3) := by decide +kernel
theorem dX8_told_13 : decode cX8_told 13 = .ok (.ifCond .ne 5, 3) := by decide +kernel
theorem dX8_told_16 : decode cX8_told 16 = .ok (.iconst (-1), 1) := by decide +kernel
theorem dX8_told_17 : decode cX8_told 17 = .ok (.ireturn, 1) := by decide +kernel
theorem dX8_told_18 : decode cX8_told 18 = .ok (.aload_n 0, 1) := by decide +kernel
theorem dX8_told_19 : decode cX8_told 19 = .ok (.getfield 11, 3) := by decide +kernel
theorem dX8_told_22 : decode cX8_told 22 = .ok (.iload_n 1, 1) := by decide +kernel
theorem dX8_told_23 : decode cX8_told 23 = .ok (.aaload, 1) := by decide +kernel
theorem dX8_told_24 : decode cX8_told 24 = .ok (.astore_n 3, 1) := by decide +kernel
theorem dX8_told_25 : decode cX8_told 25 = .ok (.aload_n 3, 1) := by decide +kernel
theorem dX8_told_26 : decode cX8_told 26 = .ok (.invokevirtual 97, 3) := by decide +kernel
theorem dX8_told_29 : decode cX8_told 29 = .ok (.ifCond .ne 9, 3) := by decide +kernel
theorem dX8_told_32 : decode cX8_told 32 = .ok (.aload_n 0, 1) := by decide +kernel
theorem dX8_told_33 : decode cX8_told 33 = .ok (.iconst 1, 1) := by decide +kernel
theorem dX8_told_34 : decode cX8_told 34 = .ok (.invokevirtual 101, 3) := by decide +kernel
theorem dX8_told_37 : decode cX8_told 37 = .ok (.ireturn, 1) := by decide +kernel
theorem dX8_told_38 : decode cX8_told 38 = .ok (.iload_n 2, 1) := by decide +kernel
theorem dX8_told_39 : decode cX8_told 39 = .ok (.tableswitch 46 0 2 #[25, 30, 38], 25) := by decide +kernel
theorem dX8_told_64 : decode cX8_told 64 = .ok (.aload_n 3, 1) := by decide +kernel
theorem dX8_told_65 : decode cX8_told 65 = .ok (.getfield 122, 3) := by decide +kernel
theorem dX8_told_68 : decode cX8_told 68 = .ok (.ireturn, 1) := by decide +kernel
theorem dX8_told_69 : decode cX8_told 69 = .ok (.aload_n 3, 1) := by decide +kernel
theorem dX8_told_70 : decode cX8_told 70 = .ok (.getfield 125, 3) := by decide +kernel
theorem dX8_told_73 : decode cX8_told 73 = .ok (.invokestatic 73, 3) := by decide +kernel
theorem dX8_told_76 : decode cX8_told 76 = .ok (.ireturn, 1) := by decide +kernel
theorem dX8_told_77 : decode cX8_told 77 = .ok (.aload_n 3, 1) := by decide +kernel
theorem dX8_told_78 : decode cX8_told 78 = .ok (.getfield 125, 3) := by decide +kernel
theorem dX8_told_81 : decode cX8_told 81 = .ok (.invokestatic 129, 3) := by decide +kernel
theorem dX8_told_84 : decode cX8_told 84 = .ok (.ireturn, 1) := by decide +kernel
theorem dX8_told_85 : decode cX8_told 85 = .ok (.aload_n 3, 1) := by decide +kernel
theorem dX8_told_86 : decode cX8_told 86 = .ok (.getfield 125, 3) := by decide +kernel
theorem dX8_told_89 : decode cX8_told 89 = .ok (.invokestatic 132, 3) := by decide +kernel
theorem dX8_told_92 : decode cX8_told 92 = .ok (.ireturn, 1) := by decide +kernel
theorem dX8_mark_0 : decode cX8_mark 0 = .ok (.iload_n 1, 1) := by decide +kernel
theorem dX8_mark_1 : decode cX8_mark 1 = .ok (.invokestatic 79, 3) := by decide +kernel
theorem dX8_mark_4 : decode cX8_mark 4 = .ok (.ifCond .eq 12, 3) := by decide +kernel
theorem dX8_mark_7 : decode cX8_mark 7 = .ok (.iload_n 2, 1) := by decide +kernel
theorem dX8_mark_8 : decode cX8_mark 8 = .ok (.iconst 1, 1) := by decide +kernel
theorem dX8_mark_9 : decode cX8_mark 9 = .ok (.iconst 3, 1) := by decide +kernel
theorem dX8_mark_10 : decode cX8_mark 10 = .ok (.invokestatic 83, 3) := by decide +kernel
theorem dX8_mark_13 : decode cX8_mark 13 = .ok (.ifCond .ne 5, 3) := by decide +kernel
theorem dX8_mark_16 : decode cX8_mark 16 = .ok (.iconst (-1), 1) := by decide +kernel
theorem dX8_mark_17 : decode cX8_mark 17 = .ok (.ireturn, 1) := by decide +kernel
theorem dX8_mark_18 : decode cX8_mark 18 = .ok (.aload_n 0, 1) := by decide +kernel
theorem dX8_mark_19 : decode cX8_mark 19 = .ok (.getfield 11, 3) := by decide +kernel
theorem dX8_mark_22 : decode cX8_mark 22 = .ok (.iload_n 1, 1) := by decide +kernel
theorem dX8_mark_23 : decode cX8_mark 23 = .ok (.aaload, 1) := by decide +kernel
theorem dX8_mark_24 : decode cX8_mark 24 = .ok (.astore_n 3, 1) := by decide +kernel
theorem dX8_mark_25 : decode cX8_mark 25 = .ok (.aload_n 3, 1) := by decide +kernel
theorem dX8_mark_26 : decode cX8_mark 26 = .ok (.invokevirtual 97, 3) := by decide +kernel
theorem dX8_mark_29 : decode cX8_mark 29 = .ok (.ifCond .ne 9, 3) := by decide +kernel
theorem dX8_mark_32 : decode cX8_mark 32 = .ok (.aload_n 0, 1) := by decide +kernel
theorem dX8_mark_33 : decode cX8_mark 33 = .ok (.iconst 1, 1) := by decide +kernel
theorem dX8_mark_34 : decode cX8_mark 34 = .ok (.invokevirtual 101, 3) := by decide +kernel
theorem dX8_mark_37 : decode cX8_mark 37 = .ok (.ireturn, 1) := by decide +kernel
theorem dX8_mark_38 : decode cX8_mark 38 = .ok (.aload_n 3, 1) := by decide +kernel
theorem dX8_mark_39 : decode cX8_mark 39 = .ok (.iload_n 2, 1) := by decide +kernel
theorem dX8_mark_40 : decode cX8_mark 40 = .ok (.invokevirtual 135, 3) := by decide +kernel
theorem dX8_mark_43 : decode cX8_mark 43 = .ok (.ifCond .ne 9, 3) := by decide +kernel
theorem dX8_mark_46 : decode cX8_mark 46 = .ok (.aload_n 0, 1) := by decide +kernel
theorem dX8_mark_47 : decode cX8_mark 47 = .ok (.iconst 3, 1) := by decide +kernel
theorem dX8_mark_48 : decode cX8_mark 48 = .ok (.invokevirtual 101, 3) := by decide +kernel
theorem dX8_mark_51 : decode cX8_mark 51 = .ok (.ireturn, 1) := by decide +kernel
theorem dX8_mark_52 : decode cX8_mark 52 = .ok (.iload_n 2, 1) := by decide +kernel
theorem dX8_mark_53 : decode cX8_mark 53 = .ok (.lookupswitch 48 #[(1, 27), (2, 43)], 27) := by decide +kernel
theorem dX8_mark_80 : decode cX8_mark 80 = .ok (.aload_n 3, 1) := by decide +kernel
theorem dX8_mark_81 : decode cX8_mark 81 = .ok (.getfield 125, 3) := by decide +kernel
theorem dX8_mark_84 : decode cX8_mark 84 = .ok (.invokestatic 138, 3) := by decide +kernel
theorem dX8_mark_87 : decode cX8_mark 87 = .ok (.ifCond .eq 7, 3) := by decide +kernel
theorem dX8_mark_90 : decode cX8_mark 90 = .ok (.iconst 1, 1) := by decide +kernel
theorem dX8_mark_91 : decode cX8_mark 91 = .ok (.goto 4, 3) := by decide +kernel
theorem dX8_mark_94 : decode cX8_mark 94 = .ok (.iconst 0, 1) := by decide +kernel
theorem dX8_mark_95 : decode cX8_mark 95 = .ok (.ireturn, 1) := by decide +kernel
theorem dX8_mark_96 : decode cX8_mark 96 = .ok (.aload_n 3, 1) := by decide +kernel
theorem dX8_mark_97 : decode cX8_mark 97 = .ok (.getfield 141, 3) := by decide +kernel
theorem dX8_mark_100 : decode cX8_mark 100 = .ok (.ireturn, 1) := by decide +kernel
theorem dX8_mark_101 : decode cX8_mark 101 = .ok (.aload_n 3, 1) := by decide +kernel
theorem dX8_mark_102 : decode cX8_mark 102 = .ok (.getfield 144, 3) := by decide +kernel
theorem dX8_mark_105 : decode cX8_mark 105 = .ok (.ireturn, 1) := by decide +kernel
theorem dX8_squares_0 : decode cX8_squares 0 = .ok (.iload_n 1, 1) := by decide +kernel
theorem dX8_squares_1 : decode cX8_squares 1 = .ok (.invokestatic 79, 3) := by decide +kernel
theorem dX8_squares_4 : decode cX8_squares 4 = .ok (.ifCond .ne 5, 3) := by decide +kernel
theorem dX8_squares_7 : decode cX8_squares 7 = .ok (.iconst (-1), 1) := by decide +kernel
theorem dX8_squares_8 : decode cX8_squares 8 = .ok (.ireturn, 1) := by decide +kernel
theorem dX8_squares_9 : decode cX8_squares 9 = .ok (.aload_n 0, 1) := by decide +kernel
theorem dX8_squares_10 : decode cX8_squares 10 = .ok (.getfield 11, 3) := by decide +kernel
theorem dX8_squares_13 : decode cX8_squares 13 = .ok (.iload_n 1, 1) := by decide +kernel
theorem dX8_squares_14 : decode cX8_squares 14 = .ok (.aaload, 1) := by decide +kernel
theorem dX8_squares_15 : decode cX8_squares 15 = .ok (.invokevirtual 97, 3) := by decide +kernel
theorem dX8_squares_18 : decode cX8_squares 18 = .ok (.ifCond .ne 9, 3) := by decide +kernel
theorem dX8_squares_21 : decode cX8_squares 21 = .ok (.aload_n 0, 1) := by decide +kernel
theorem dX8_squares_22 : decode cX8_squares 22 = .ok (.iconst 1, 1) := by decide +kernel
theorem dX8_squares_23 : decode cX8_squares 23 = .ok (.invokevirtual 101, 3) := by decide +kernel
theorem dX8_squares_26 : decode cX8_squares 26 = .ok (.ireturn, 1) := by decide +kernel
theorem dX8_squares_27 : decode cX8_squares 27 = .ok (.aload_n 0, 1) := by decide +kernel
theorem dX8_squares_28 : decode cX8_squares 28 = .ok (.aload_n 0, 1) := by decide +kernel
theorem dX8_squares_29 : decode cX8_squares 29 = .ok (.getfield 11, 3) := by decide +kernel
theorem dX8_squares_32 : decode cX8_squares 32 = .ok (.iload_n 1, 1) := by decide +kernel
theorem dX8_squares_33 : decode cX8_squares 33 = .ok (.aaload, 1) := by decide +kernel
theorem dX8_squares_34 : decode cX8_squares 34 = .ok (.getfield 125, 3) := by decide +kernel
theorem dX8_squares_37 : decode cX8_squares 37 = .ok (.putfield 147, 3) := by decide +kernel
theorem dX8_squares_40 : decode cX8_squares 40 = .ok (.aload_n 0, 1) := by decide +kernel
theorem dX8_squares_41 : decode cX8_squares 41 = .ok (.getfield 11, 3) := by decide +kernel
theorem dX8_squares_44 : decode cX8_squares 44 = .ok (.iload_n 1, 1) := by decide +kernel
theorem dX8_squares_45 : decode cX8_squares 45 = .ok (.aaload, 1) := by decide +kernel
theorem dX8_squares_46 : decode cX8_squares 46 = .ok (.getfield 125, 3) := by decide +kernel
theorem dX8_squares_49 : decode cX8_squares 49 = .ok (.invokestatic 73, 3) := by decide +kernel
theorem dX8_squares_52 : decode cX8_squares 52 = .ok (.ireturn, 1) := by decide +kernel
theorem dX8_turn_0 : decode cX8_turn 0 = .ok (.iload_n 1, 1) := by decide +kernel
theorem dX8_turn_1 : decode cX8_turn 1 = .ok (.invokestatic 79, 3) := by decide +kernel
theorem dX8_turn_4 : decode cX8_turn 4 = .ok (.ifCond .eq 15, 3) := by decide +kernel
theorem dX8_turn_7 : decode cX8_turn 7 = .ok (.iload_n 3, 1) := by decide +kernel
theorem dX8_turn_8 : decode cX8_turn 8 = .ok (.invokestatic 79, 3) := by decide +kernel
theorem dX8_turn_11 : decode cX8_turn 11 = .ok (.ifCond .eq 8, 3) := by decide +kernel
theorem dX8_turn_14 : decode cX8_turn 14 = .ok (.iload_n 1, 1) := by decide +kernel
theorem dX8_turn_15 : decode cX8_turn 15 = .ok (.iload_n 3, 1) := by decide +kernel
theorem dX8_turn_16 : decode cX8_turn 16 = .ok (.if_icmp .ne 5, 3) := by decide +kernel
theorem dX8_turn_19 : decode cX8_turn 19 = .ok (.iconst (-1), 1) := by decide +kernel
theorem dX8_turn_20 : decode cX8_turn 20 = .ok (.ireturn, 1) := by decide +kernel
theorem dX8_turn_21 : decode cX8_turn 21 = .ok (.aload_n 0, 1) := by decide +kernel
theorem dX8_turn_22 : decode cX8_turn 22 = .ok (.getfield 11, 3) := by decide +kernel
theorem dX8_turn_25 : decode cX8_turn 25 = .ok (.iload_n 1, 1) := by decide +kernel
theorem dX8_turn_26 : decode cX8_turn 26 = .ok (.aaload, 1) := by decide +kernel
theorem dX8_turn_27 : decode cX8_turn 27 = .ok (.invokevirtual 97, 3) := by decide +kernel
theorem dX8_turn_30 : decode cX8_turn 30 = .ok (.ifCond .ne 9, 3) := by decide +kernel
theorem dX8_turn_33 : decode cX8_turn 33 = .ok (.aload_n 0, 1) := by decide +kernel
theorem dX8_turn_34 : decode cX8_turn 34 = .ok (.iconst 1, 1) := by decide +kernel
theorem dX8_turn_35 : decode cX8_turn 35 = .ok (.invokevirtual 101, 3) := by decide +kernel
theorem dX8_turn_38 : decode cX8_turn 38 = .ok (.ireturn, 1) := by decide +kernel
theorem dX8_turn_39 : decode cX8_turn 39 = .ok (.aload_n 0, 1) := by decide +kernel
theorem dX8_turn_40 : decode cX8_turn 40 = .ok (.getfield 11, 3) := by decide +kernel
theorem dX8_turn_43 : decode cX8_turn 43 = .ok (.iload_n 3, 1) := by decide +kernel
theorem dX8_turn_44 : decode cX8_turn 44 = .ok (.aaload, 1) := by decide +kernel
theorem dX8_turn_45 : decode cX8_turn 45 = .ok (.aload_n 0, 1) := by decide +kernel
theorem dX8_turn_46 : decode cX8_turn 46 = .ok (.getfield 11, 3) := by decide +kernel
theorem dX8_turn_49 : decode cX8_turn 49 = .ok (.iload_n 1, 1) := by decide +kernel
theorem dX8_turn_50 : decode cX8_turn 50 = .ok (.aaload, 1) := by decide +kernel
theorem dX8_turn_51 : decode cX8_turn 51 = .ok (.getfield 125, 3) := by decide +kernel
theorem dX8_turn_54 : decode cX8_turn 54 = .ok (.iload_n 2, 1) := by decide +kernel
theorem dX8_turn_55 : decode cX8_turn 55 = .ok (.invokestatic 150, 3) := by decide +kernel
theorem dX8_turn_58 : decode cX8_turn 58 = .ok (.invokevirtual 93, 3) := by decide +kernel
theorem dX8_turn_61 : decode cX8_turn 61 = .ok (.iconst 1, 1) := by decide +kernel
theorem dX8_turn_62 : decode cX8_turn 62 = .ok (.ireturn, 1) := by decide +kernel
theorem dX8_alike_0 : decode cX8_alike 0 = .ok (.iload_n 1, 1) := by decide +kernel
theorem dX8_alike_1 : decode cX8_alike 1 = .ok (.invokestatic 79, 3) := by decide +kernel
theorem dX8_alike_4 : decode cX8_alike 4 = .ok (.ifCond .eq 10, 3) := by decide +kernel
theorem dX8_alike_7 : decode cX8_alike 7 = .ok (.iload_n 2, 1) := by decide +kernel
theorem dX8_alike_8 : decode cX8_alike 8 = .ok (.invokestatic 79, 3) := by decide +kernel
theorem dX8_alike_11 : decode cX8_alike 11 = .ok (.ifCond .ne 5, 3) := by decide +kernel
theorem dX8_alike_14 : decode cX8_alike 14 = .ok (.iconst (-1), 1) := by decide +kernel
theorem dX8_alike_15 : decode cX8_alike 15 = .ok (.ireturn, 1) := by decide +kernel
theorem dX8_alike_16 : decode cX8_alike 16 = .ok (.aload_n 0, 1) := by decide +kernel
theorem dX8_alike_17 : decode cX8_alike 17 = .ok (.getfield 11, 3) := by decide +kernel
theorem dX8_alike_20 : decode cX8_alike 20 = .ok (.iload_n 1, 1) := by decide +kernel
theorem dX8_alike_21 : decode cX8_alike 21 = .ok (.aaload, 1) := by decide +kernel
theorem dX8_alike_22 : decode cX8_alike 22 = .ok (.invokevirtual 97, 3) := by decide +kernel
theorem dX8_alike_25 : decode cX8_alike 25 = .ok (.ifCond .eq 15, 3) := by decide +kernel
theorem dX8_alike_28 : decode cX8_alike 28 = .ok (.aload_n 0, 1) := by decide +kernel
theorem dX8_alike_29 : decode cX8_alike 29 = .ok (.getfield 11, 3) := by decide +kernel
theorem dX8_alike_32 : decode cX8_alike 32 = .ok (.iload_n 2, 1) := by decide +kernel
theorem dX8_alike_33 : decode cX8_alike 33 = .ok (.aaload, 1) := by decide +kernel
theorem dX8_alike_34 : decode cX8_alike 34 = .ok (.invokevirtual 97, 3) := by decide +kernel
theorem dX8_alike_37 : decode cX8_alike 37 = .ok (.ifCond .ne 9, 3) := by decide +kernel
theorem dX8_alike_40 : decode cX8_alike 40 = .ok (.aload_n 0, 1) := by decide +kernel
theorem dX8_alike_41 : decode cX8_alike 41 = .ok (.iconst 1, 1) := by decide +kernel
theorem dX8_alike_42 : decode cX8_alike 42 = .ok (.invokevirtual 101, 3) := by decide +kernel
theorem dX8_alike_45 : decode cX8_alike 45 = .ok (.ireturn, 1) := by decide +kernel
theorem dX8_alike_46 : decode cX8_alike 46 = .ok (.aload_n 0, 1) := by decide +kernel
theorem dX8_alike_47 : decode cX8_alike 47 = .ok (.getfield 11, 3) := by decide +kernel
theorem dX8_alike_50 : decode cX8_alike 50 = .ok (.iload_n 1, 1) := by decide +kernel
theorem dX8_alike_51 : decode cX8_alike 51 = .ok (.aaload, 1) := by decide +kernel
theorem dX8_alike_52 : decode cX8_alike 52 = .ok (.getfield 125, 3) := by decide +kernel
theorem dX8_alike_55 : decode cX8_alike 55 = .ok (.aload_n 0, 1) := by decide +kernel
theorem dX8_alike_56 : decode cX8_alike 56 = .ok (.getfield 11, 3) := by decide +kernel
theorem dX8_alike_59 : decode cX8_alike 59 = .ok (.iload_n 2, 1) := by decide +kernel
theorem dX8_alike_60 : decode cX8_alike 60 = .ok (.aaload, 1) := by decide +kernel
theorem dX8_alike_61 : decode cX8_alike 61 = .ok (.getfield 125, 3) := by decide +kernel
theorem dX8_alike_64 : decode cX8_alike 64 = .ok (.invokestatic 154, 3) := by decide +kernel
theorem dX8_alike_67 : decode cX8_alike 67 = .ok (.ifCond .eq 7, 3) := by decide +kernel
theorem dX8_alike_70 : decode cX8_alike 70 = .ok (.iconst 1, 1) := by decide +kernel
theorem dX8_alike_71 : decode cX8_alike 71 = .ok (.goto 4, 3) := by decide +kernel
theorem dX8_alike_74 : decode cX8_alike 74 = .ok (.iconst 0, 1) := by decide +kernel
theorem dX8_alike_75 : decode cX8_alike 75 = .ok (.ireturn, 1) := by decide +kernel
theorem dX8_cell_0 : decode cX8_cell 0 = .ok (.iload_n 1, 1) := by decide +kernel
theorem dX8_cell_1 : decode cX8_cell 1 = .ok (.invokestatic 108, 3) := by decide +kernel
theorem dX8_cell_4 : decode cX8_cell 4 = .ok (.ifCond .eq 12, 3) := by decide +kernel
theorem dX8_cell_7 : decode cX8_cell 7 = .ok (.iload_n 3, 1) := by decide +kernel
theorem dX8_cell_8 : decode cX8_cell 8 = .ok (.iconst 0, 1) := by decide +kernel
theorem dX8_cell_9 : decode cX8_cell 9 = .ok (.iconst 3, 1) := by decide +kernel
theorem dX8_cell_10 : decode cX8_cell 10 = .ok (.invokestatic 83, 3) := by decide +kernel
theorem dX8_cell_13 : decode cX8_cell 13 = .ok (.ifCond .ne 5, 3) := by decide +kernel
theorem dX8_cell_16 : decode cX8_cell 16 = .ok (.iconst (-1), 1) := by decide +kernel
theorem dX8_cell_17 : decode cX8_cell 17 = .ok (.ireturn, 1) := by decide +kernel
theorem dX8_cell_18 : decode cX8_cell 18 = .ok (.aload_n 0, 1) := by decide +kernel
theorem dX8_cell_19 : decode cX8_cell 19 = .ok (.getfield 17, 3) := by decide +kernel
theorem dX8_cell_22 : decode cX8_cell 22 = .ok (.iload_n 1, 1) := by decide +kernel
theorem dX8_cell_23 : decode cX8_cell 23 = .ok (.aaload, 1) := by decide +kernel
theorem dX8_cell_24 : decode cX8_cell 24 = .ok (.iload_n 2, 1) := by decide +kernel
theorem dX8_cell_25 : decode cX8_cell 25 = .ok (.invokestatic 158, 3) := by decide +kernel
theorem dX8_cell_28 : decode cX8_cell 28 = .ok (.istore 4, 2) := by decide +kernel
theorem dX8_cell_30 : decode cX8_cell 30 = .ok (.iload 4, 2) := by decide +kernel
theorem dX8_cell_32 : decode cX8_cell 32 = .ok (.ifCond .eq 10, 3) := by decide +kernel
theorem dX8_cell_35 : decode cX8_cell 35 = .ok (.aload_n 0, 1) := by decide +kernel
theorem dX8_cell_36 : decode cX8_cell 36 = .ok (.iload 4, 2) := by decide +kernel
theorem dX8_cell_38 : decode cX8_cell 38 = .ok (.invokevirtual 101, 3) := by decide +kernel
theorem dX8_cell_41 : decode cX8_cell 41 = .ok (.ireturn, 1) := by decide +kernel
theorem dX8_cell_42 : decode cX8_cell 42 = .ok (.iload_n 3, 1) := by decide +kernel
theorem dX8_cell_43 : decode cX8_cell 43 = .ok (.ifCond .ne 16, 3) := by decide +kernel
theorem dX8_cell_46 : decode cX8_cell 46 = .ok (.aload_n 0, 1) := by decide +kernel
theorem dX8_cell_47 : decode cX8_cell 47 = .ok (.getfield 17, 3) := by decide +kernel
theorem dX8_cell_50 : decode cX8_cell 50 = .ok (.iload_n 1, 1) := by decide +kernel
theorem dX8_cell_51 : decode cX8_cell 51 = .ok (.aaload, 1) := by decide +kernel
theorem dX8_cell_52 : decode cX8_cell 52 = .ok (.iload_n 2, 1) := by decide +kernel
theorem dX8_cell_53 : decode cX8_cell 53 = .ok (.invokevirtual 162, 3) := by decide +kernel
theorem dX8_cell_56 : decode cX8_cell 56 = .ok (.goto 16, 3) := by decide +kernel
theorem dX8_cell_59 : decode cX8_cell 59 = .ok (.aload_n 0, 1) := by decide +kernel
theorem dX8_cell_60 : decode cX8_cell 60 = .ok (.getfield 17, 3) := by decide +kernel
theorem dX8_cell_63 : decode cX8_cell 63 = .ok (.iload_n 1, 1) := by decide +kernel
theorem dX8_cell_64 : decode cX8_cell 64 = .ok (.aaload, 1) := by decide +kernel
theorem dX8_cell_65 : decode cX8_cell 65 = .ok (.iload_n 2, 1) := by decide +kernel
theorem dX8_cell_66 : decode cX8_cell 66 = .ok (.iload_n 3, 1) := by decide +kernel
theorem dX8_cell_67 : decode cX8_cell 67 = .ok (.iconst 1, 1) := by decide +kernel
theorem dX8_cell_68 : decode cX8_cell 68 = .ok (.isub, 1) := by decide +kernel
theorem dX8_cell_69 : decode cX8_cell 69 = .ok (.invokevirtual 165, 3) := by decide +kernel
theorem dX8_cell_72 : decode cX8_cell 72 = .ok (.ireturn, 1) := by decide +kernel
theorem dX8_next_0 : decode cX8_next 0 = .ok (.iload_n 1, 1) := by decide +kernel
theorem dX8_next_1 : decode cX8_next 1 = .ok (.invokestatic 108, 3) := by decide +kernel
theorem dX8_next_4 : decode cX8_next 4 = .ok (.ifCond .eq 18, 3) := by decide +kernel
theorem dX8_next_7 : decode cX8_next 7 = .ok (.iload_n 3, 1) := by decide +kernel
theorem dX8_next_8 : decode cX8_next 8 = .ok (.invokestatic 169, 3) := by decide +kernel
theorem dX8_next_11 : decode cX8_next 11 = .ok (.ifCond .eq 11, 3) := by decide +kernel
theorem dX8_next_14 : decode cX8_next 14 = .ok (.iload 4, 2) := by decide +kernel
theorem dX8_next_16 : decode cX8_next 16 = .ok (.invokestatic 169, 3) := by decide +kernel
theorem dX8_next_19 : decode cX8_next 19 = .ok (.ifCond .ne 5, 3) := by decide +kernel
theorem dX8_next_22 : decode cX8_next 22 = .ok (.iconst (-1), 1) := by decide +kernel
theorem dX8_next_23 : decode cX8_next 23 = .ok (.ireturn, 1) := by decide +kernel
theorem dX8_next_24 : decode cX8_next 24 = .ok (.aload_n 0, 1) := by decide +kernel
theorem dX8_next_25 : decode cX8_next 25 = .ok (.getfield 17, 3) := by decide +kernel
theorem dX8_next_28 : decode cX8_next 28 = .ok (.iload_n 1, 1) := by decide +kernel
theorem dX8_next_29 : decode cX8_next 29 = .ok (.aaload, 1) := by decide +kernel
theorem dX8_next_30 : decode cX8_next 30 = .ok (.iload_n 2, 1) := by decide +kernel
theorem dX8_next_31 : decode cX8_next 31 = .ok (.invokestatic 158, 3) := by decide +kernel
theorem dX8_next_34 : decode cX8_next 34 = .ok (.istore 5, 2) := by decide +kernel
theorem dX8_next_36 : decode cX8_next 36 = .ok (.iload 5, 2) := by decide +kernel
theorem dX8_next_38 : decode cX8_next 38 = .ok (.ifCond .eq 10, 3) := by decide +kernel
theorem dX8_next_41 : decode cX8_next 41 = .ok (.aload_n 0, 1) := by decide +kernel
theorem dX8_next_42 : decode cX8_next 42 = .ok (.iload 5, 2) := by decide +kernel
theorem dX8_next_44 : decode cX8_next 44 = .ok (.invokevirtual 101, 3) := by decide +kernel
theorem dX8_next_47 : decode cX8_next 47 = .ok (.ireturn, 1) := by decide +kernel
theorem dX8_next_48 : decode cX8_next 48 = .ok (.aload_n 0, 1) := by decide +kernel
theorem dX8_next_49 : decode cX8_next 49 = .ok (.getfield 17, 3) := by decide +kernel
theorem dX8_next_52 : decode cX8_next 52 = .ok (.iload_n 1, 1) := by decide +kernel
theorem dX8_next_53 : decode cX8_next 53 = .ok (.aaload, 1) := by decide +kernel
theorem dX8_next_54 : decode cX8_next 54 = .ok (.iload_n 2, 1) := by decide +kernel
theorem dX8_next_55 : decode cX8_next 55 = .ok (.iload_n 3, 1) := by decide +kernel
theorem dX8_next_56 : decode cX8_next 56 = .ok (.invokestatic 172, 3) := by decide +kernel
theorem dX8_next_59 : decode cX8_next 59 = .ok (.iload 4, 2) := by decide +kernel
theorem dX8_next_61 : decode cX8_next 61 = .ok (.invokevirtual 175, 3) := by decide +kernel
theorem dX8_next_64 : decode cX8_next 64 = .ok (.istore 6, 2) := by decide +kernel
theorem dX8_next_66 : decode cX8_next 66 = .ok (.aload_n 0, 1) := by decide +kernel
theorem dX8_next_67 : decode cX8_next 67 = .ok (.iload 6, 2) := by decide +kernel
theorem dX8_next_69 : decode cX8_next 69 = .ok (.iconst 3, 1) := by decide +kernel
theorem dX8_next_70 : decode cX8_next 70 = .ok (.iand, 1) := by decide +kernel
theorem dX8_next_71 : decode cX8_next 71 = .ok (.i2l, 1) := by decide +kernel
theorem dX8_next_72 : decode cX8_next 72 = .ok (.putfield 147, 3) := by decide +kernel
theorem dX8_next_75 : decode cX8_next 75 = .ok (.iload 6, 2) := by decide +kernel
theorem dX8_next_77 : decode cX8_next 77 = .ok (.iconst 2, 1) := by decide +kernel
theorem dX8_next_78 : decode cX8_next 78 = .ok (.ishr, 1) := by decide +kernel
theorem dX8_next_79 : decode cX8_next 79 = .ok (.ireturn, 1) := by decide +kernel
theorem dX8_folds_0 : decode cX8_folds 0 = .ok (.iload_n 1, 1) := by decide +kernel
theorem dX8_folds_1 : decode cX8_folds 1 = .ok (.invokestatic 79, 3) := by decide +kernel
theorem dX8_folds_4 : decode cX8_folds 4 = .ok (.ifCond .eq 18, 3) := by decide +kernel
theorem dX8_folds_7 : decode cX8_folds 7 = .ok (.iload_n 2, 1) := by decide +kernel
theorem dX8_folds_8 : decode cX8_folds 8 = .ok (.invokestatic 108, 3) := by decide +kernel
theorem dX8_folds_11 : decode cX8_folds 11 = .ok (.ifCond .eq 11, 3) := by decide +kernel
theorem dX8_folds_14 : decode cX8_folds 14 = .ok (.iload 4, 2) := by decide +kernel
theorem dX8_folds_16 : decode cX8_folds 16 = .ok (.invokestatic 169, 3) := by decide +kernel
theorem dX8_folds_19 : decode cX8_folds 19 = .ok (.ifCond .ne 5, 3) := by decide +kernel
theorem dX8_folds_22 : decode cX8_folds 22 = .ok (.iconst (-1), 1) := by decide +kernel
theorem dX8_folds_23 : decode cX8_folds 23 = .ok (.ireturn, 1) := by decide +kernel
theorem dX8_folds_24 : decode cX8_folds 24 = .ok (.aload_n 0, 1) := by decide +kernel
theorem dX8_folds_25 : decode cX8_folds 25 = .ok (.iload_n 1, 1) := by decide +kernel
theorem dX8_folds_26 : decode cX8_folds 26 = .ok (.iload_n 2, 1) := by decide +kernel
theorem dX8_folds_27 : decode cX8_folds 27 = .ok (.iload_n 3, 1) := by decide +kernel
theorem dX8_folds_28 : decode cX8_folds 28 = .ok (.invokevirtual 178, 3) := by decide +kernel
theorem dX8_folds_31 : decode cX8_folds 31 = .ok (.istore 5, 2) := by decide +kernel
theorem dX8_folds_33 : decode cX8_folds 33 = .ok (.iload 5, 2) := by decide +kernel
theorem dX8_folds_35 : decode cX8_folds 35 = .ok (.ifCond .eq 10, 3) := by decide +kernel
theorem dX8_folds_38 : decode cX8_folds 38 = .ok (.aload_n 0, 1) := by decide +kernel
theorem dX8_folds_39 : decode cX8_folds 39 = .ok (.iload 5, 2) := by decide +kernel
theorem dX8_folds_41 : decode cX8_folds 41 = .ok (.invokevirtual 101, 3) := by decide +kernel
theorem dX8_folds_44 : decode cX8_folds 44 = .ok (.ireturn, 1) := by decide +kernel
theorem dX8_folds_45 : decode cX8_folds 45 = .ok (.aload_n 0, 1) := by decide +kernel
theorem dX8_folds_46 : decode cX8_folds 46 = .ok (.getfield 35, 3) := by decide +kernel
theorem dX8_folds_49 : decode cX8_folds 49 = .ok (.aload_n 0, 1) := by decide +kernel
theorem dX8_folds_50 : decode cX8_folds 50 = .ok (.getfield 17, 3) := by decide +kernel
theorem dX8_folds_53 : decode cX8_folds 53 = .ok (.iload_n 2, 1) := by decide +kernel
theorem dX8_folds_54 : decode cX8_folds 54 = .ok (.aaload, 1) := by decide +kernel
theorem dX8_folds_55 : decode cX8_folds 55 = .ok (.aload_n 0, 1) := by decide +kernel
theorem dX8_folds_56 : decode cX8_folds 56 = .ok (.getfield 11, 3) := by decide +kernel
theorem dX8_folds_59 : decode cX8_folds 59 = .ok (.iload_n 1, 1) := by decide +kernel
theorem dX8_folds_60 : decode cX8_folds 60 = .ok (.aaload, 1) := by decide +kernel
theorem dX8_folds_61 : decode cX8_folds 61 = .ok (.getfield 125, 3) := by decide +kernel
theorem dX8_folds_64 : decode cX8_folds 64 = .ok (.iload_n 3, 1) := by decide +kernel
theorem dX8_folds_65 : decode cX8_folds 65 = .ok (.iload 4, 2) := by decide +kernel
theorem dX8_folds_67 : decode cX8_folds 67 = .ok (.invokestatic 172, 3) := by decide +kernel
theorem dX8_folds_70 : decode cX8_folds 70 = .ok (.invokevirtual 182, 3) := by decide +kernel
theorem dX8_folds_73 : decode cX8_folds 73 = .ok (.ifCond .ne 5, 3) := by decide +kernel
theorem dX8_folds_76 : decode cX8_folds 76 = .ok (.iconst 0, 1) := by decide +kernel
theorem dX8_folds_77 : decode cX8_folds 77 = .ok (.ireturn, 1) := by decide +kernel
theorem dX8_folds_78 : decode cX8_folds 78 = .ok (.aload_n 0, 1) := by decide +kernel
theorem dX8_folds_79 : decode cX8_folds 79 = .ok (.getfield 35, 3) := by decide +kernel
theorem dX8_folds_82 : decode cX8_folds 82 = .ok (.getfield 186, 3) := by decide +kernel
theorem dX8_folds_85 : decode cX8_folds 85 = .ok (.aload_n 0, 1) := by decide +kernel
theorem dX8_folds_86 : decode cX8_folds 86 = .ok (.getfield 17, 3) := by decide +kernel
theorem dX8_folds_89 : decode cX8_folds 89 = .ok (.iload_n 2, 1) := by decide +kernel
theorem dX8_folds_90 : decode cX8_folds 90 = .ok (.aaload, 1) := by decide +kernel
theorem dX8_folds_91 : decode cX8_folds 91 = .ok (.getfield 118, 3) := by decide +kernel
theorem dX8_folds_94 : decode cX8_folds 94 = .ok (.if_icmp .ne 7, 3) := by decide +kernel
theorem dX8_folds_97 : decode cX8_folds 97 = .ok (.iconst 2, 1) := by decide +kernel
theorem dX8_folds_98 : decode cX8_folds 98 = .ok (.goto 4, 3) := by decide +kernel
theorem dX8_folds_101 : decode cX8_folds 101 = .ok (.iconst 1, 1) := by decide +kernel
theorem dX8_folds_102 : decode cX8_folds 102 = .ok (.ireturn, 1) := by decide +kernel
theorem dX8_lies_0 : decode cX8_lies 0 = .ok (.iload_n 1, 1) := by decide +kernel
theorem dX8_lies_1 : decode cX8_lies 1 = .ok (.invokestatic 79, 3) := by decide +kernel
theorem dX8_lies_4 : decode cX8_lies 4 = .ok (.ifCond .eq 26, 3) := by decide +kernel
theorem dX8_lies_7 : decode cX8_lies 7 = .ok (.iload_n 2, 1) := by decide +kernel
theorem dX8_lies_8 : decode cX8_lies 8 = .ok (.invokestatic 108, 3) := by decide +kernel
theorem dX8_lies_11 : decode cX8_lies 11 = .ok (.ifCond .eq 19, 3) := by decide +kernel
theorem dX8_lies_14 : decode cX8_lies 14 = .ok (.iload 4, 2) := by decide +kernel
theorem dX8_lies_16 : decode cX8_lies 16 = .ok (.invokestatic 169, 3) := by decide +kernel
theorem dX8_lies_19 : decode cX8_lies 19 = .ok (.ifCond .eq 11, 3) := by decide +kernel
theorem dX8_lies_22 : decode cX8_lies 22 = .ok (.iload 5, 2) := by decide +kernel
theorem dX8_lies_24 : decode cX8_lies 24 = .ok (.invokestatic 189, 3) := by decide +kernel
theorem dX8_lies_27 : decode cX8_lies 27 = .ok (.ifCond .ne 5, 3) := by decide +kernel
theorem dX8_lies_30 : decode cX8_lies 30 = .ok (.iconst (-1), 1) := by decide +kernel
theorem dX8_lies_31 : decode cX8_lies 31 = .ok (.ireturn, 1) := by decide +kernel
theorem dX8_lies_32 : decode cX8_lies 32 = .ok (.aload_n 0, 1) := by decide +kernel
theorem dX8_lies_33 : decode cX8_lies 33 = .ok (.iload_n 1, 1) := by decide +kernel
theorem dX8_lies_34 : decode cX8_lies 34 = .ok (.iload_n 2, 1) := by decide +kernel
theorem dX8_lies_35 : decode cX8_lies 35 = .ok (.iload_n 3, 1) := by decide +kernel
theorem dX8_lies_36 : decode cX8_lies 36 = .ok (.invokevirtual 178, 3) := by decide +kernel
theorem dX8_lies_39 : decode cX8_lies 39 = .ok (.istore 6, 2) := by decide +kernel
theorem dX8_lies_41 : decode cX8_lies 41 = .ok (.iload 6, 2) := by decide +kernel
theorem dX8_lies_43 : decode cX8_lies 43 = .ok (.ifCond .eq 10, 3) := by decide +kernel
theorem dX8_lies_46 : decode cX8_lies 46 = .ok (.aload_n 0, 1) := by decide +kernel
theorem dX8_lies_47 : decode cX8_lies 47 = .ok (.iload 6, 2) := by decide +kernel
theorem dX8_lies_49 : decode cX8_lies 49 = .ok (.invokevirtual 101, 3) := by decide +kernel
theorem dX8_lies_52 : decode cX8_lies 52 = .ok (.ireturn, 1) := by decide +kernel
theorem dX8_lies_53 : decode cX8_lies 53 = .ok (.aload_n 0, 1) := by decide +kernel
theorem dX8_lies_54 : decode cX8_lies 54 = .ok (.getfield 11, 3) := by decide +kernel
theorem dX8_lies_57 : decode cX8_lies 57 = .ok (.iload_n 1, 1) := by decide +kernel
theorem dX8_lies_58 : decode cX8_lies 58 = .ok (.aaload, 1) := by decide +kernel
theorem dX8_lies_59 : decode cX8_lies 59 = .ok (.getfield 125, 3) := by decide +kernel
theorem dX8_lies_62 : decode cX8_lies 62 = .ok (.iload 5, 2) := by decide +kernel
theorem dX8_lies_64 : decode cX8_lies 64 = .ok (.invokestatic 192, 3) := by decide +kernel
theorem dX8_lies_67 : decode cX8_lies 67 = .ok (.ifCond .ne 6, 3) := by decide +kernel
theorem dX8_lies_70 : decode cX8_lies 70 = .ok (.bipush (-9), 2) := by decide +kernel
theorem dX8_lies_72 : decode cX8_lies 72 = .ok (.ireturn, 1) := by decide +kernel
theorem dX8_lies_73 : decode cX8_lies 73 = .ok (.aload_n 0, 1) := by decide +kernel
theorem dX8_lies_74 : decode cX8_lies 74 = .ok (.getfield 35, 3) := by decide +kernel
theorem dX8_lies_77 : decode cX8_lies 77 = .ok (.aload_n 0, 1) := by decide +kernel
theorem dX8_lies_78 : decode cX8_lies 78 = .ok (.getfield 17, 3) := by decide +kernel
theorem dX8_lies_81 : decode cX8_lies 81 = .ok (.iload_n 2, 1) := by decide +kernel
theorem dX8_lies_82 : decode cX8_lies 82 = .ok (.aaload, 1) := by decide +kernel
theorem dX8_lies_83 : decode cX8_lies 83 = .ok (.aload_n 0, 1) := by decide +kernel
theorem dX8_lies_84 : decode cX8_lies 84 = .ok (.getfield 11, 3) := by decide +kernel
theorem dX8_lies_87 : decode cX8_lies 87 = .ok (.iload_n 1, 1) := by decide +kernel
theorem dX8_lies_88 : decode cX8_lies 88 = .ok (.aaload, 1) := by decide +kernel
theorem dX8_lies_89 : decode cX8_lies 89 = .ok (.getfield 125, 3) := by decide +kernel
theorem dX8_lies_92 : decode cX8_lies 92 = .ok (.iload_n 3, 1) := by decide +kernel
theorem dX8_lies_93 : decode cX8_lies 93 = .ok (.iload 4, 2) := by decide +kernel
theorem dX8_lies_95 : decode cX8_lies 95 = .ok (.invokestatic 172, 3) := by decide +kernel
theorem dX8_lies_98 : decode cX8_lies 98 = .ok (.invokevirtual 182, 3) := by decide +kernel
theorem dX8_lies_101 : decode cX8_lies 101 = .ok (.ifCond .ne 6, 3) := by decide +kernel
theorem dX8_lies_104 : decode cX8_lies 104 = .ok (.bipush (-9), 2) := by decide +kernel
theorem dX8_lies_106 : decode cX8_lies 106 = .ok (.ireturn, 1) := by decide +kernel
theorem dX8_lies_107 : decode cX8_lies 107 = .ok (.aload_n 0, 1) := by decide +kernel
theorem dX8_lies_108 : decode cX8_lies 108 = .ok (.getfield 35, 3) := by decide +kernel
theorem dX8_lies_111 : decode cX8_lies 111 = .ok (.iload 5, 2) := by decide +kernel
theorem dX8_lies_113 : decode cX8_lies 113 = .ok (.invokevirtual 196, 3) := by decide +kernel
theorem dX8_lies_116 : decode cX8_lies 116 = .ok (.iconst 2, 1) := by decide +kernel
theorem dX8_lies_117 : decode cX8_lies 117 = .ok (.ishr, 1) := by decide +kernel
theorem dX8_lies_118 : decode cX8_lies 118 = .ok (.ireturn, 1) := by decide +kernel
theorem dX8_wholes_0 : decode cX8_wholes 0 = .ok (.iload_n 1, 1) := by decide +kernel
theorem dX8_wholes_1 : decode cX8_wholes 1 = .ok (.invokestatic 79, 3) := by decide +kernel
theorem dX8_wholes_4 : decode cX8_wholes 4 = .ok (.ifCond .eq 10, 3) := by decide +kernel
theorem dX8_wholes_7 : decode cX8_wholes 7 = .ok (.iload_n 2, 1) := by decide +kernel
theorem dX8_wholes_8 : decode cX8_wholes 8 = .ok (.invokestatic 108, 3) := by decide +kernel
theorem dX8_wholes_11 : decode cX8_wholes 11 = .ok (.ifCond .ne 5, 3) := by decide +kernel
theorem dX8_wholes_14 : decode cX8_wholes 14 = .ok (.iconst (-1), 1) := by decide +kernel
theorem dX8_wholes_15 : decode cX8_wholes 15 = .ok (.ireturn, 1) := by decide +kernel
theorem dX8_wholes_16 : decode cX8_wholes 16 = .ok (.aload_n 0, 1) := by decide +kernel
theorem dX8_wholes_17 : decode cX8_wholes 17 = .ok (.getfield 11, 3) := by decide +kernel
theorem dX8_wholes_20 : decode cX8_wholes 20 = .ok (.iload_n 1, 1) := by decide +kernel
theorem dX8_wholes_21 : decode cX8_wholes 21 = .ok (.aaload, 1) := by decide +kernel
theorem dX8_wholes_22 : decode cX8_wholes 22 = .ok (.invokevirtual 97, 3) := by decide +kernel
theorem dX8_wholes_25 : decode cX8_wholes 25 = .ok (.ifCond .eq 15, 3) := by decide +kernel
theorem dX8_wholes_28 : decode cX8_wholes 28 = .ok (.aload_n 0, 1) := by decide +kernel
theorem dX8_wholes_29 : decode cX8_wholes 29 = .ok (.getfield 17, 3) := by decide +kernel
theorem dX8_wholes_32 : decode cX8_wholes 32 = .ok (.iload_n 2, 1) := by decide +kernel
theorem dX8_wholes_33 : decode cX8_wholes 33 = .ok (.aaload, 1) := by decide +kernel
theorem dX8_wholes_34 : decode cX8_wholes 34 = .ok (.invokevirtual 199, 3) := by decide +kernel
theorem dX8_wholes_37 : decode cX8_wholes 37 = .ok (.ifCond .ne 9, 3) := by decide +kernel
theorem dX8_wholes_40 : decode cX8_wholes 40 = .ok (.aload_n 0, 1) := by decide +kernel
theorem dX8_wholes_41 : decode cX8_wholes 41 = .ok (.iconst 1, 1) := by decide +kernel
theorem dX8_wholes_42 : decode cX8_wholes 42 = .ok (.invokevirtual 101, 3) := by decide +kernel
theorem dX8_wholes_45 : decode cX8_wholes 45 = .ok (.ireturn, 1) := by decide +kernel
theorem dX8_wholes_46 : decode cX8_wholes 46 = .ok (.aload_n 0, 1) := by decide +kernel
theorem dX8_wholes_47 : decode cX8_wholes 47 = .ok (.getfield 17, 3) := by decide +kernel
theorem dX8_wholes_50 : decode cX8_wholes 50 = .ok (.iload_n 2, 1) := by decide +kernel
theorem dX8_wholes_51 : decode cX8_wholes 51 = .ok (.aaload, 1) := by decide +kernel
theorem dX8_wholes_52 : decode cX8_wholes 52 = .ok (.getfield 118, 3) := by decide +kernel
theorem dX8_wholes_55 : decode cX8_wholes 55 = .ok (.iconst 4, 1) := by decide +kernel
theorem dX8_wholes_56 : decode cX8_wholes 56 = .ok (.imul, 1) := by decide +kernel
theorem dX8_wholes_57 : decode cX8_wholes 57 = .ok (.istore_n 3, 1) := by decide +kernel
theorem dX8_wholes_58 : decode cX8_wholes 58 = .ok (.iconst 0, 1) := by decide +kernel
theorem dX8_wholes_59 : decode cX8_wholes 59 = .ok (.istore 4, 2) := by decide +kernel
theorem dX8_wholes_61 : decode cX8_wholes 61 = .ok (.iconst 0, 1) := by decide +kernel
theorem dX8_wholes_62 : decode cX8_wholes 62 = .ok (.istore 5, 2) := by decide +kernel
theorem dX8_wholes_64 : decode cX8_wholes 64 = .ok (.iload 5, 2) := by decide +kernel
theorem dX8_wholes_66 : decode cX8_wholes 66 = .ok (.iload_n 3, 1) := by decide +kernel
theorem dX8_wholes_67 : decode cX8_wholes 67 = .ok (.if_icmp .ge 51, 3) := by decide +kernel
theorem dX8_wholes_70 : decode cX8_wholes 70 = .ok (.aload_n 0, 1) := by decide +kernel
theorem dX8_wholes_71 : decode cX8_wholes 71 = .ok (.getfield 35, 3) := by decide +kernel
theorem dX8_wholes_74 : decode cX8_wholes 74 = .ok (.aload_n 0, 1) := by decide +kernel
theorem dX8_wholes_75 : decode cX8_wholes 75 = .ok (.getfield 17, 3) := by decide +kernel
theorem dX8_wholes_78 : decode cX8_wholes 78 = .ok (.iload_n 2, 1) := by decide +kernel
theorem dX8_wholes_79 : decode cX8_wholes 79 = .ok (.aaload, 1) := by decide +kernel
theorem dX8_wholes_80 : decode cX8_wholes 80 = .ok (.aload_n 0, 1) := by decide +kernel
theorem dX8_wholes_81 : decode cX8_wholes 81 = .ok (.getfield 11, 3) := by decide +kernel
theorem dX8_wholes_84 : decode cX8_wholes 84 = .ok (.iload_n 1, 1) := by decide +kernel
theorem dX8_wholes_85 : decode cX8_wholes 85 = .ok (.aaload, 1) := by decide +kernel
theorem dX8_wholes_86 : decode cX8_wholes 86 = .ok (.getfield 125, 3) := by decide +kernel
theorem dX8_wholes_89 : decode cX8_wholes 89 = .ok (.iload 5, 2) := by decide +kernel
theorem dX8_wholes_91 : decode cX8_wholes 91 = .ok (.invokevirtual 200, 3) := by decide +kernel
theorem dX8_wholes_94 : decode cX8_wholes 94 = .ok (.ifCond .eq 18, 3) := by decide +kernel
theorem dX8_wholes_97 : decode cX8_wholes 97 = .ok (.iload 4, 2) := by decide +kernel
theorem dX8_wholes_99 : decode cX8_wholes 99 = .ok (.ifCond .ne 10, 3) := by decide +kernel
theorem dX8_wholes_102 : decode cX8_wholes 102 = .ok (.aload_n 0, 1) := by decide +kernel
theorem dX8_wholes_103 : decode cX8_wholes 103 = .ok (.iload 5, 2) := by decide +kernel
theorem dX8_wholes_105 : decode cX8_wholes 105 = .ok (.i2l, 1) := by decide +kernel
theorem dX8_wholes_106 : decode cX8_wholes 106 = .ok (.putfield 147, 3) := by decide +kernel
theorem dX8_wholes_109 : decode cX8_wholes 109 = .ok (.iinc 4 1, 3) := by decide +kernel
theorem dX8_wholes_112 : decode cX8_wholes 112 = .ok (.iinc 5 1, 3) := by decide +kernel
theorem dX8_wholes_115 : decode cX8_wholes 115 = .ok (.goto (-51), 3) := by decide +kernel
theorem dX8_wholes_118 : decode cX8_wholes 118 = .ok (.iload 4, 2) := by decide +kernel
theorem dX8_wholes_120 : decode cX8_wholes 120 = .ok (.ireturn, 1) := by decide +kernel
theorem dX8_layOut_0 : decode cX8_layOut 0 = .ok (.iload_n 1, 1) := by decide +kernel
theorem dX8_layOut_1 : decode cX8_layOut 1 = .ok (.invokestatic 108, 3) := by decide +kernel
theorem dX8_layOut_4 : decode cX8_layOut 4 = .ok (.ifCond .eq 18, 3) := by decide +kernel
theorem dX8_layOut_7 : decode cX8_layOut 7 = .ok (.iload_n 3, 1) := by decide +kernel
theorem dX8_layOut_8 : decode cX8_layOut 8 = .ok (.invokestatic 189, 3) := by decide +kernel
theorem dX8_layOut_11 : decode cX8_layOut 11 = .ok (.ifCond .eq 11, 3) := by decide +kernel
theorem dX8_layOut_14 : decode cX8_layOut 14 = .ok (.iload 4, 2) := by decide +kernel
theorem dX8_layOut_16 : decode cX8_layOut 16 = .ok (.invokestatic 79, 3) := by decide +kernel
theorem dX8_layOut_19 : decode cX8_layOut 19 = .ok (.ifCond .ne 5, 3) := by decide +kernel
theorem dX8_layOut_22 : decode cX8_layOut 22 = .ok (.iconst (-1), 1) := by decide +kernel
theorem dX8_layOut_23 : decode cX8_layOut 23 = .ok (.ireturn, 1) := by decide +kernel
theorem dX8_layOut_24 : decode cX8_layOut 24 = .ok (.aload_n 0, 1) := by decide +kernel
theorem dX8_layOut_25 : decode cX8_layOut 25 = .ok (.getfield 17, 3) := by decide +kernel
theorem dX8_layOut_28 : decode cX8_layOut 28 = .ok (.iload_n 1, 1) := by decide +kernel
theorem dX8_layOut_29 : decode cX8_layOut 29 = .ok (.aaload, 1) := by decide +kernel
theorem dX8_layOut_30 : decode cX8_layOut 30 = .ok (.iload_n 2, 1) := by decide +kernel
theorem dX8_layOut_31 : decode cX8_layOut 31 = .ok (.invokestatic 158, 3) := by decide +kernel
theorem dX8_layOut_34 : decode cX8_layOut 34 = .ok (.istore 5, 2) := by decide +kernel
theorem dX8_layOut_36 : decode cX8_layOut 36 = .ok (.iload 5, 2) := by decide +kernel
theorem dX8_layOut_38 : decode cX8_layOut 38 = .ok (.ifCond .eq 10, 3) := by decide +kernel
theorem dX8_layOut_41 : decode cX8_layOut 41 = .ok (.aload_n 0, 1) := by decide +kernel
theorem dX8_layOut_42 : decode cX8_layOut 42 = .ok (.iload 5, 2) := by decide +kernel
theorem dX8_layOut_44 : decode cX8_layOut 44 = .ok (.invokevirtual 101, 3) := by decide +kernel
theorem dX8_layOut_47 : decode cX8_layOut 47 = .ok (.ireturn, 1) := by decide +kernel
theorem dX8_layOut_48 : decode cX8_layOut 48 = .ok (.aload_n 0, 1) := by decide +kernel
theorem dX8_layOut_49 : decode cX8_layOut 49 = .ok (.aload_n 0, 1) := by decide +kernel
theorem dX8_layOut_50 : decode cX8_layOut 50 = .ok (.getfield 11, 3) := by decide +kernel
theorem dX8_layOut_53 : decode cX8_layOut 53 = .ok (.iload 4, 2) := by decide +kernel
theorem dX8_layOut_55 : decode cX8_layOut 55 = .ok (.aaload, 1) := by decide +kernel
theorem dX8_layOut_56 : decode cX8_layOut 56 = .ok (.aload_n 0, 1) := by decide +kernel
theorem dX8_layOut_57 : decode cX8_layOut 57 = .ok (.getfield 17, 3) := by decide +kernel
theorem dX8_layOut_60 : decode cX8_layOut 60 = .ok (.iload_n 1, 1) := by decide +kernel
theorem dX8_layOut_61 : decode cX8_layOut 61 = .ok (.aaload, 1) := by decide +kernel
theorem dX8_layOut_62 : decode cX8_layOut 62 = .ok (.iload_n 2, 1) := by decide +kernel
theorem dX8_layOut_63 : decode cX8_layOut 63 = .ok (.iload_n 3, 1) := by decide +kernel
theorem dX8_layOut_64 : decode cX8_layOut 64 = .ok (.aload_n 0, 1) := by decide +kernel
theorem dX8_layOut_65 : decode cX8_layOut 65 = .ok (.getfield 28, 3) := by decide +kernel
theorem dX8_layOut_68 : decode cX8_layOut 68 = .ok (.invokevirtual 203, 3) := by decide +kernel
theorem dX8_layOut_71 : decode cX8_layOut 71 = .ok (.ireturn, 1) := by decide +kernel
theorem dX8_layOutBy_0 : decode cX8_layOutBy 0 = .ok (.iload_n 1, 1) := by decide +kernel
theorem dX8_layOutBy_1 : decode cX8_layOutBy 1 = .ok (.invokestatic 108, 3) := by decide +kernel
theorem dX8_layOutBy_4 : decode cX8_layOutBy 4 = .ok (.ifCond .eq 26, 3) := by decide +kernel
theorem dX8_layOutBy_7 : decode cX8_layOutBy 7 = .ok (.iload_n 3, 1) := by decide +kernel
theorem dX8_layOutBy_8 : decode cX8_layOutBy 8 = .ok (.invokestatic 189, 3) := by decide +kernel
theorem dX8_layOutBy_11 : decode cX8_layOutBy 11 = .ok (.ifCond .eq 19, 3) := by decide +kernel
theorem dX8_layOutBy_14 : decode cX8_layOutBy 14 = .ok (.iload 4, 2) := by decide +kernel
theorem dX8_layOutBy_16 : decode cX8_layOutBy 16 = .ok (.invokestatic 207, 3) := by decide +kernel
theorem dX8_layOutBy_19 : decode cX8_layOutBy 19 = .ok (.ifCond .eq 11, 3) := by decide +kernel
theorem dX8_layOutBy_22 : decode cX8_layOutBy 22 = .ok (.iload 5, 2) := by decide +kernel
theorem dX8_layOutBy_24 : decode cX8_layOutBy 24 = .ok (.invokestatic 79, 3) := by decide +kernel
theorem dX8_layOutBy_27 : decode cX8_layOutBy 27 = .ok (.ifCond .ne 5, 3) := by decide +kernel
theorem dX8_layOutBy_30 : decode cX8_layOutBy 30 = .ok (.iconst (-1), 1) := by decide +kernel
theorem dX8_layOutBy_31 : decode cX8_layOutBy 31 = .ok (.ireturn, 1) := by decide +kernel
theorem dX8_layOutBy_32 : decode cX8_layOutBy 32 = .ok (.aload_n 0, 1) := by decide +kernel
theorem dX8_layOutBy_33 : decode cX8_layOutBy 33 = .ok (.getfield 23, 3) := by decide +kernel
theorem dX8_layOutBy_36 : decode cX8_layOutBy 36 = .ok (.iload 4, 2) := by decide +kernel
theorem dX8_layOutBy_38 : decode cX8_layOutBy 38 = .ok (.aaload, 1) := by decide +kernel
theorem dX8_layOutBy_39 : decode cX8_layOutBy 39 = .ok (.invokevirtual 210, 3) := by decide +kernel
theorem dX8_layOutBy_42 : decode cX8_layOutBy 42 = .ok (.ifCond .ne 9, 3) := by decide +kernel
theorem dX8_layOutBy_45 : decode cX8_layOutBy 45 = .ok (.aload_n 0, 1) := by decide +kernel
theorem dX8_layOutBy_46 : decode cX8_layOutBy 46 = .ok (.iconst 1, 1) := by decide +kernel
theorem dX8_layOutBy_47 : decode cX8_layOutBy 47 = .ok (.invokevirtual 101, 3) := by decide +kernel
theorem dX8_layOutBy_50 : decode cX8_layOutBy 50 = .ok (.ireturn, 1) := by decide +kernel
theorem dX8_layOutBy_51 : decode cX8_layOutBy 51 = .ok (.aload_n 0, 1) := by decide +kernel
theorem dX8_layOutBy_52 : decode cX8_layOutBy 52 = .ok (.getfield 17, 3) := by decide +kernel
theorem dX8_layOutBy_55 : decode cX8_layOutBy 55 = .ok (.iload_n 1, 1) := by decide +kernel
theorem dX8_layOutBy_56 : decode cX8_layOutBy 56 = .ok (.aaload, 1) := by decide +kernel
theorem dX8_layOutBy_57 : decode cX8_layOutBy 57 = .ok (.iload_n 2, 1) := by decide +kernel
theorem dX8_layOutBy_58 : decode cX8_layOutBy 58 = .ok (.invokestatic 158, 3) := by decide +kernel
theorem dX8_layOutBy_61 : decode cX8_layOutBy 61 = .ok (.istore 6, 2) := by decide +kernel
theorem dX8_layOutBy_63 : decode cX8_layOutBy 63 = .ok (.iload 6, 2) := by decide +kernel
theorem dX8_layOutBy_65 : decode cX8_layOutBy 65 = .ok (.ifCond .eq 10, 3) := by decide +kernel
theorem dX8_layOutBy_68 : decode cX8_layOutBy 68 = .ok (.aload_n 0, 1) := by decide +kernel
theorem dX8_layOutBy_69 : decode cX8_layOutBy 69 = .ok (.iload 6, 2) := by decide +kernel
theorem dX8_layOutBy_71 : decode cX8_layOutBy 71 = .ok (.invokevirtual 101, 3) := by decide +kernel
theorem dX8_layOutBy_74 : decode cX8_layOutBy 74 = .ok (.ireturn, 1) := by decide +kernel
theorem dX8_layOutBy_75 : decode cX8_layOutBy 75 = .ok (.aload_n 0, 1) := by decide +kernel
theorem dX8_layOutBy_76 : decode cX8_layOutBy 76 = .ok (.aload_n 0, 1) := by decide +kernel
theorem dX8_layOutBy_77 : decode cX8_layOutBy 77 = .ok (.getfield 11, 3) := by decide +kernel
theorem dX8_layOutBy_80 : decode cX8_layOutBy 80 = .ok (.iload 5, 2) := by decide +kernel
theorem dX8_layOutBy_82 : decode cX8_layOutBy 82 = .ok (.aaload, 1) := by decide +kernel
theorem dX8_layOutBy_83 : decode cX8_layOutBy 83 = .ok (.aload_n 0, 1) := by decide +kernel
theorem dX8_layOutBy_84 : decode cX8_layOutBy 84 = .ok (.getfield 17, 3) := by decide +kernel
theorem dX8_layOutBy_87 : decode cX8_layOutBy 87 = .ok (.iload_n 1, 1) := by decide +kernel
theorem dX8_layOutBy_88 : decode cX8_layOutBy 88 = .ok (.aaload, 1) := by decide +kernel
theorem dX8_layOutBy_89 : decode cX8_layOutBy 89 = .ok (.iload_n 2, 1) := by decide +kernel
theorem dX8_layOutBy_90 : decode cX8_layOutBy 90 = .ok (.iload_n 3, 1) := by decide +kernel
theorem dX8_layOutBy_91 : decode cX8_layOutBy 91 = .ok (.aload_n 0, 1) := by decide +kernel
theorem dX8_layOutBy_92 : decode cX8_layOutBy 92 = .ok (.getfield 23, 3) := by decide +kernel
theorem dX8_layOutBy_95 : decode cX8_layOutBy 95 = .ok (.iload 4, 2) := by decide +kernel
theorem dX8_layOutBy_97 : decode cX8_layOutBy 97 = .ok (.aaload, 1) := by decide +kernel
theorem dX8_layOutBy_98 : decode cX8_layOutBy 98 = .ok (.invokevirtual 203, 3) := by decide +kernel
theorem dX8_layOutBy_101 : decode cX8_layOutBy 101 = .ok (.ireturn, 1) := by decide +kernel
theorem dX8_way_0 : decode cX8_way 0 = .ok (.iload_n 1, 1) := by decide +kernel
theorem dX8_way_1 : decode cX8_way 1 = .ok (.invokestatic 108, 3) := by decide +kernel
theorem dX8_way_4 : decode cX8_way 4 = .ok (.ifCond .ne 5, 3) := by decide +kernel
theorem dX8_way_7 : decode cX8_way 7 = .ok (.iconst (-1), 1) := by decide +kernel
theorem dX8_way_8 : decode cX8_way 8 = .ok (.ireturn, 1) := by decide +kernel
theorem dX8_way_9 : decode cX8_way 9 = .ok (.aload_n 0, 1) := by decide +kernel
theorem dX8_way_10 : decode cX8_way 10 = .ok (.getfield 17, 3) := by decide +kernel
theorem dX8_way_13 : decode cX8_way 13 = .ok (.iload_n 1, 1) := by decide +kernel
theorem dX8_way_14 : decode cX8_way 14 = .ok (.aaload, 1) := by decide +kernel
theorem dX8_way_15 : decode cX8_way 15 = .ok (.iload_n 2, 1) := by decide +kernel
theorem dX8_way_16 : decode cX8_way 16 = .ok (.invokestatic 158, 3) := by decide +kernel
theorem dX8_way_19 : decode cX8_way 19 = .ok (.istore 4, 2) := by decide +kernel
theorem dX8_way_21 : decode cX8_way 21 = .ok (.iload 4, 2) := by decide +kernel
theorem dX8_way_23 : decode cX8_way 23 = .ok (.ifCond .ne 15, 3) := by decide +kernel
theorem dX8_way_26 : decode cX8_way 26 = .ok (.aload_n 0, 1) := by decide +kernel
theorem dX8_way_27 : decode cX8_way 27 = .ok (.getfield 17, 3) := by decide +kernel
theorem dX8_way_30 : decode cX8_way 30 = .ok (.iload_n 1, 1) := by decide +kernel
theorem dX8_way_31 : decode cX8_way 31 = .ok (.aaload, 1) := by decide +kernel
theorem dX8_way_32 : decode cX8_way 32 = .ok (.iload_n 3, 1) := by decide +kernel
theorem dX8_way_33 : decode cX8_way 33 = .ok (.invokestatic 158, 3) := by decide +kernel
theorem dX8_way_36 : decode cX8_way 36 = .ok (.istore 4, 2) := by decide +kernel
theorem dX8_way_38 : decode cX8_way 38 = .ok (.iload 4, 2) := by decide +kernel
theorem dX8_way_40 : decode cX8_way 40 = .ok (.ifCond .eq 10, 3) := by decide +kernel
theorem dX8_way_43 : decode cX8_way 43 = .ok (.aload_n 0, 1) := by decide +kernel
theorem dX8_way_44 : decode cX8_way 44 = .ok (.iload 4, 2) := by decide +kernel
theorem dX8_way_46 : decode cX8_way 46 = .ok (.invokevirtual 101, 3) := by decide +kernel
theorem dX8_way_49 : decode cX8_way 49 = .ok (.ireturn, 1) := by decide +kernel
theorem dX8_way_50 : decode cX8_way 50 = .ok (.aload_n 0, 1) := by decide +kernel
theorem dX8_way_51 : decode cX8_way 51 = .ok (.getfield 45, 3) := by decide +kernel
theorem dX8_way_54 : decode cX8_way 54 = .ok (.aload_n 0, 1) := by decide +kernel
theorem dX8_way_55 : decode cX8_way 55 = .ok (.getfield 17, 3) := by decide +kernel
theorem dX8_way_58 : decode cX8_way 58 = .ok (.iload_n 1, 1) := by decide +kernel
theorem dX8_way_59 : decode cX8_way 59 = .ok (.aaload, 1) := by decide +kernel
theorem dX8_way_60 : decode cX8_way 60 = .ok (.iload_n 2, 1) := by decide +kernel
theorem dX8_way_61 : decode cX8_way 61 = .ok (.iload_n 3, 1) := by decide +kernel
theorem dX8_way_62 : decode cX8_way 62 = .ok (.invokevirtual 211, 3) := by decide +kernel
theorem dX8_way_65 : decode cX8_way 65 = .ok (.ireturn, 1) := by decide +kernel
theorem dX8_farthest_0 : decode cX8_farthest 0 = .ok (.iload_n 1, 1) := by decide +kernel
theorem dX8_farthest_1 : decode cX8_farthest 1 = .ok (.invokestatic 108, 3) := by decide +kernel
theorem dX8_farthest_4 : decode cX8_farthest 4 = .ok (.ifCond .ne 5, 3) := by decide +kernel
theorem dX8_farthest_7 : decode cX8_farthest 7 = .ok (.iconst (-1), 1) := by decide +kernel
theorem dX8_farthest_8 : decode cX8_farthest 8 = .ok (.ireturn, 1) := by decide +kernel
theorem dX8_farthest_9 : decode cX8_farthest 9 = .ok (.aload_n 0, 1) := by decide +kernel
theorem dX8_farthest_10 : decode cX8_farthest 10 = .ok (.getfield 17, 3) := by decide +kernel
theorem dX8_farthest_13 : decode cX8_farthest 13 = .ok (.iload_n 1, 1) := by decide +kernel
theorem dX8_farthest_14 : decode cX8_farthest 14 = .ok (.aaload, 1) := by decide +kernel
theorem dX8_farthest_15 : decode cX8_farthest 15 = .ok (.iload_n 2, 1) := by decide +kernel
theorem dX8_farthest_16 : decode cX8_farthest 16 = .ok (.invokestatic 158, 3) := by decide +kernel
theorem dX8_farthest_19 : decode cX8_farthest 19 = .ok (.istore_n 3, 1) := by decide +kernel
theorem dX8_farthest_20 : decode cX8_farthest 20 = .ok (.iload_n 3, 1) := by decide +kernel
theorem dX8_farthest_21 : decode cX8_farthest 21 = .ok (.ifCond .eq 9, 3) := by decide +kernel
theorem dX8_farthest_24 : decode cX8_farthest 24 = .ok (.aload_n 0, 1) := by decide +kernel
theorem dX8_farthest_25 : decode cX8_farthest 25 = .ok (.iload_n 3, 1) := by decide +kernel
theorem dX8_farthest_26 : decode cX8_farthest 26 = .ok (.invokevirtual 101, 3) := by decide +kernel
theorem dX8_farthest_29 : decode cX8_farthest 29 = .ok (.ireturn, 1) := by decide +kernel
theorem dX8_farthest_30 : decode cX8_farthest 30 = .ok (.iconst 0, 1) := by decide +kernel
theorem dX8_farthest_31 : decode cX8_farthest 31 = .ok (.istore 4, 2) := by decide +kernel
theorem dX8_farthest_33 : decode cX8_farthest 33 = .ok (.iconst (-1), 1) := by decide +kernel
theorem dX8_farthest_34 : decode cX8_farthest 34 = .ok (.istore 5, 2) := by decide +kernel
theorem dX8_farthest_36 : decode cX8_farthest 36 = .ok (.iconst 0, 1) := by decide +kernel
theorem dX8_farthest_37 : decode cX8_farthest 37 = .ok (.istore 6, 2) := by decide +kernel
theorem dX8_farthest_39 : decode cX8_farthest 39 = .ok (.iload 6, 2) := by decide +kernel
theorem dX8_farthest_41 : decode cX8_farthest 41 = .ok (.aload_n 0, 1) := by decide +kernel
theorem dX8_farthest_42 : decode cX8_farthest 42 = .ok (.getfield 17, 3) := by decide +kernel
theorem dX8_farthest_45 : decode cX8_farthest 45 = .ok (.iload_n 1, 1) := by decide +kernel
theorem dX8_farthest_46 : decode cX8_farthest 46 = .ok (.aaload, 1) := by decide +kernel
theorem dX8_farthest_47 : decode cX8_farthest 47 = .ok (.getfield 118, 3) := by decide +kernel
theorem dX8_farthest_50 : decode cX8_farthest 50 = .ok (.if_icmp .ge 42, 3) := by decide +kernel
theorem dX8_farthest_53 : decode cX8_farthest 53 = .ok (.aload_n 0, 1) := by decide +kernel
theorem dX8_farthest_54 : decode cX8_farthest 54 = .ok (.getfield 45, 3) := by decide +kernel
theorem dX8_farthest_57 : decode cX8_farthest 57 = .ok (.aload_n 0, 1) := by decide +kernel
theorem dX8_farthest_58 : decode cX8_farthest 58 = .ok (.getfield 17, 3) := by decide +kernel
theorem dX8_farthest_61 : decode cX8_farthest 61 = .ok (.iload_n 1, 1) := by decide +kernel
theorem dX8_farthest_62 : decode cX8_farthest 62 = .ok (.aaload, 1) := by decide +kernel
theorem dX8_farthest_63 : decode cX8_farthest 63 = .ok (.iload_n 2, 1) := by decide +kernel
theorem dX8_farthest_64 : decode cX8_farthest 64 = .ok (.iload 6, 2) := by decide +kernel
theorem dX8_farthest_66 : decode cX8_farthest 66 = .ok (.invokevirtual 211, 3) := by decide +kernel
theorem dX8_farthest_69 : decode cX8_farthest 69 = .ok (.istore 7, 2) := by decide +kernel
theorem dX8_farthest_71 : decode cX8_farthest 71 = .ok (.iload 7, 2) := by decide +kernel
theorem dX8_farthest_73 : decode cX8_farthest 73 = .ok (.iload 5, 2) := by decide +kernel
theorem dX8_farthest_75 : decode cX8_farthest 75 = .ok (.if_icmp .le 11, 3) := by decide +kernel
theorem dX8_farthest_78 : decode cX8_farthest 78 = .ok (.iload 7, 2) := by decide +kernel
theorem dX8_farthest_80 : decode cX8_farthest 80 = .ok (.istore 5, 2) := by decide +kernel
theorem dX8_farthest_82 : decode cX8_farthest 82 = .ok (.iload 6, 2) := by decide +kernel
theorem dX8_farthest_84 : decode cX8_farthest 84 = .ok (.istore 4, 2) := by decide +kernel
theorem dX8_farthest_86 : decode cX8_farthest 86 = .ok (.iinc 6 1, 3) := by decide +kernel
theorem dX8_farthest_89 : decode cX8_farthest 89 = .ok (.goto (-50), 3) := by decide +kernel
theorem dX8_farthest_92 : decode cX8_farthest 92 = .ok (.aload_n 0, 1) := by decide +kernel
theorem dX8_farthest_93 : decode cX8_farthest 93 = .ok (.iload 5, 2) := by decide +kernel
theorem dX8_farthest_95 : decode cX8_farthest 95 = .ok (.i2l, 1) := by decide +kernel
theorem dX8_farthest_96 : decode cX8_farthest 96 = .ok (.putfield 147, 3) := by decide +kernel
theorem dX8_farthest_99 : decode cX8_farthest 99 = .ok (.iload 4, 2) := by decide +kernel
theorem dX8_farthest_101 : decode cX8_farthest 101 = .ok (.ireturn, 1) := by decide +kernel
theorem dX8_mean_0 : decode cX8_mean 0 = .ok (.iload_n 1, 1) := by decide +kernel
theorem dX8_mean_1 : decode cX8_mean 1 = .ok (.invokestatic 108, 3) := by decide +kernel
theorem dX8_mean_4 : decode cX8_mean 4 = .ok (.ifCond .ne 5, 3) := by decide +kernel
theorem dX8_mean_7 : decode cX8_mean 7 = .ok (.iconst (-1), 1) := by decide +kernel
theorem dX8_mean_8 : decode cX8_mean 8 = .ok (.ireturn, 1) := by decide +kernel
theorem dX8_mean_9 : decode cX8_mean 9 = .ok (.aload_n 0, 1) := by decide +kernel
theorem dX8_mean_10 : decode cX8_mean 10 = .ok (.getfield 17, 3) := by decide +kernel
theorem dX8_mean_13 : decode cX8_mean 13 = .ok (.iload_n 1, 1) := by decide +kernel
theorem dX8_mean_14 : decode cX8_mean 14 = .ok (.aaload, 1) := by decide +kernel
theorem dX8_mean_15 : decode cX8_mean 15 = .ok (.iload_n 2, 1) := by decide +kernel
theorem dX8_mean_16 : decode cX8_mean 16 = .ok (.invokestatic 158, 3) := by decide +kernel
theorem dX8_mean_19 : decode cX8_mean 19 = .ok (.istore_n 3, 1) := by decide +kernel
theorem dX8_mean_20 : decode cX8_mean 20 = .ok (.iload_n 3, 1) := by decide +kernel
theorem dX8_mean_21 : decode cX8_mean 21 = .ok (.ifCond .eq 9, 3) := by decide +kernel
theorem dX8_mean_24 : decode cX8_mean 24 = .ok (.aload_n 0, 1) := by decide +kernel
theorem dX8_mean_25 : decode cX8_mean 25 = .ok (.iload_n 3, 1) := by decide +kernel
theorem dX8_mean_26 : decode cX8_mean 26 = .ok (.invokevirtual 101, 3) := by decide +kernel
theorem dX8_mean_29 : decode cX8_mean 29 = .ok (.ireturn, 1) := by decide +kernel
theorem dX8_mean_30 : decode cX8_mean 30 = .ok (.iconst 0, 1) := by decide +kernel
theorem dX8_mean_31 : decode cX8_mean 31 = .ok (.istore 4, 2) := by decide +kernel
theorem dX8_mean_33 : decode cX8_mean 33 = .ok (.iconst 0, 1) := by decide +kernel
theorem dX8_mean_34 : decode cX8_mean 34 = .ok (.istore 5, 2) := by decide +kernel
theorem dX8_mean_36 : decode cX8_mean 36 = .ok (.iload 5, 2) := by decide +kernel
theorem dX8_mean_38 : decode cX8_mean 38 = .ok (.aload_n 0, 1) := by decide +kernel
theorem dX8_mean_39 : decode cX8_mean 39 = .ok (.getfield 17, 3) := by decide +kernel
theorem dX8_mean_42 : decode cX8_mean 42 = .ok (.iload_n 1, 1) := by decide +kernel
theorem dX8_mean_43 : decode cX8_mean 43 = .ok (.aaload, 1) := by decide +kernel
theorem dX8_mean_44 : decode cX8_mean 44 = .ok (.getfield 118, 3) := by decide +kernel
theorem dX8_mean_47 : decode cX8_mean 47 = .ok (.if_icmp .ge 30, 3) := by decide +kernel
theorem dX8_mean_50 : decode cX8_mean 50 = .ok (.iload 4, 2) := by decide +kernel
theorem dX8_mean_52 : decode cX8_mean 52 = .ok (.aload_n 0, 1) := by decide +kernel
theorem dX8_mean_53 : decode cX8_mean 53 = .ok (.getfield 45, 3) := by decide +kernel
theorem dX8_mean_56 : decode cX8_mean 56 = .ok (.aload_n 0, 1) := by decide +kernel
theorem dX8_mean_57 : decode cX8_mean 57 = .ok (.getfield 17, 3) := by decide +kernel
theorem dX8_mean_60 : decode cX8_mean 60 = .ok (.iload_n 1, 1) := by decide +kernel
theorem dX8_mean_61 : decode cX8_mean 61 = .ok (.aaload, 1) := by decide +kernel
theorem dX8_mean_62 : decode cX8_mean 62 = .ok (.iload_n 2, 1) := by decide +kernel
theorem dX8_mean_63 : decode cX8_mean 63 = .ok (.iload 5, 2) := by decide +kernel
theorem dX8_mean_65 : decode cX8_mean 65 = .ok (.invokevirtual 211, 3) := by decide +kernel
theorem dX8_mean_68 : decode cX8_mean 68 = .ok (.iadd, 1) := by decide +kernel
theorem dX8_mean_69 : decode cX8_mean 69 = .ok (.istore 4, 2) := by decide +kernel
theorem dX8_mean_71 : decode cX8_mean 71 = .ok (.iinc 5 1, 3) := by decide +kernel
theorem dX8_mean_74 : decode cX8_mean 74 = .ok (.goto (-38), 3) := by decide +kernel
theorem dX8_mean_77 : decode cX8_mean 77 = .ok (.aload_n 0, 1) := by decide +kernel
theorem dX8_mean_78 : decode cX8_mean 78 = .ok (.getfield 17, 3) := by decide +kernel
theorem dX8_mean_81 : decode cX8_mean 81 = .ok (.iload_n 1, 1) := by decide +kernel
theorem dX8_mean_82 : decode cX8_mean 82 = .ok (.aaload, 1) := by decide +kernel
theorem dX8_mean_83 : decode cX8_mean 83 = .ok (.getfield 118, 3) := by decide +kernel
theorem dX8_mean_86 : decode cX8_mean 86 = .ok (.iconst 1, 1) := by decide +kernel
theorem dX8_mean_87 : decode cX8_mean 87 = .ok (.isub, 1) := by decide +kernel
theorem dX8_mean_88 : decode cX8_mean 88 = .ok (.istore 5, 2) := by decide +kernel
theorem dX8_mean_90 : decode cX8_mean 90 = .ok (.iload 5, 2) := by decide +kernel
theorem dX8_mean_92 : decode cX8_mean 92 = .ok (.ifCond .le 11, 3) := by decide +kernel
theorem dX8_mean_95 : decode cX8_mean 95 = .ok (.iload 4, 2) := by decide +kernel
theorem dX8_mean_97 : decode cX8_mean 97 = .ok (.iload 5, 2) := by decide +kernel
theorem dX8_mean_99 : decode cX8_mean 99 = .ok (.idiv, 1) := by decide +kernel
theorem dX8_mean_100 : decode cX8_mean 100 = .ok (.goto 4, 3) := by decide +kernel
theorem dX8_mean_103 : decode cX8_mean 103 = .ok (.iconst 0, 1) := by decide +kernel
theorem dX8_mean_104 : decode cX8_mean 104 = .ok (.ireturn, 1) := by decide +kernel
theorem dX8_rim_0 : decode cX8_rim 0 = .ok (.iload_n 1, 1) := by decide +kernel
theorem dX8_rim_1 : decode cX8_rim 1 = .ok (.invokestatic 79, 3) := by decide +kernel
theorem dX8_rim_4 : decode cX8_rim 4 = .ok (.ifCond .ne 5, 3) := by decide +kernel
theorem dX8_rim_7 : decode cX8_rim 7 = .ok (.iconst (-1), 1) := by decide +kernel
theorem dX8_rim_8 : decode cX8_rim 8 = .ok (.ireturn, 1) := by decide +kernel
theorem dX8_rim_9 : decode cX8_rim 9 = .ok (.aload_n 0, 1) := by decide +kernel
theorem dX8_rim_10 : decode cX8_rim 10 = .ok (.getfield 11, 3) := by decide +kernel
theorem dX8_rim_13 : decode cX8_rim 13 = .ok (.iload_n 1, 1) := by decide +kernel
theorem dX8_rim_14 : decode cX8_rim 14 = .ok (.aaload, 1) := by decide +kernel
theorem dX8_rim_15 : decode cX8_rim 15 = .ok (.invokevirtual 97, 3) := by decide +kernel
theorem dX8_rim_18 : decode cX8_rim 18 = .ok (.ifCond .ne 9, 3) := by decide +kernel
theorem dX8_rim_21 : decode cX8_rim 21 = .ok (.aload_n 0, 1) := by decide +kernel
theorem dX8_rim_22 : decode cX8_rim 22 = .ok (.iconst 1, 1) := by decide +kernel
theorem dX8_rim_23 : decode cX8_rim 23 = .ok (.invokevirtual 101, 3) := by decide +kernel
theorem dX8_rim_26 : decode cX8_rim 26 = .ok (.ireturn, 1) := by decide +kernel
theorem dX8_rim_27 : decode cX8_rim 27 = .ok (.aload_n 0, 1) := by decide +kernel
theorem dX8_rim_28 : decode cX8_rim 28 = .ok (.getfield 52, 3) := by decide +kernel
theorem dX8_rim_31 : decode cX8_rim 31 = .ok (.aload_n 0, 1) := by decide +kernel
theorem dX8_rim_32 : decode cX8_rim 32 = .ok (.getfield 11, 3) := by decide +kernel
theorem dX8_rim_35 : decode cX8_rim 35 = .ok (.iload_n 1, 1) := by decide +kernel
theorem dX8_rim_36 : decode cX8_rim 36 = .ok (.aaload, 1) := by decide +kernel
theorem dX8_rim_37 : decode cX8_rim 37 = .ok (.getfield 125, 3) := by decide +kernel
theorem dX8_rim_40 : decode cX8_rim 40 = .ok (.invokevirtual 215, 3) := by decide +kernel
theorem dX8_rim_43 : decode cX8_rim 43 = .ok (.ifCond .eq 13, 3) := by decide +kernel
theorem dX8_rim_46 : decode cX8_rim 46 = .ok (.aload_n 0, 1) := by decide +kernel
theorem dX8_rim_47 : decode cX8_rim 47 = .ok (.getfield 52, 3) := by decide +kernel
theorem dX8_rim_50 : decode cX8_rim 50 = .ok (.getfield 218, 3) := by decide +kernel
theorem dX8_rim_53 : decode cX8_rim 53 = .ok (.goto 5, 3) := by decide +kernel
theorem dX8_rim_56 : decode cX8_rim 56 = .ok (.bipush (-4), 2) := by decide +kernel
theorem dX8_rim_58 : decode cX8_rim 58 = .ok (.ireturn, 1) := by decide +kernel
theorem dX8_edge_0 : decode cX8_edge 0 = .ok (.iload_n 1, 1) := by decide +kernel
theorem dX8_edge_1 : decode cX8_edge 1 = .ok (.invokestatic 79, 3) := by decide +kernel
theorem dX8_edge_4 : decode cX8_edge 4 = .ok (.ifCond .eq 12, 3) := by decide +kernel
theorem dX8_edge_7 : decode cX8_edge 7 = .ok (.iload_n 3, 1) := by decide +kernel
theorem dX8_edge_8 : decode cX8_edge 8 = .ok (.iconst 0, 1) := by decide +kernel
theorem dX8_edge_9 : decode cX8_edge 9 = .ok (.iconst 2, 1) := by decide +kernel
theorem dX8_edge_10 : decode cX8_edge 10 = .ok (.invokestatic 83, 3) := by decide +kernel
theorem dX8_edge_13 : decode cX8_edge 13 = .ok (.ifCond .ne 5, 3) := by decide +kernel
theorem dX8_edge_16 : decode cX8_edge 16 = .ok (.iconst (-1), 1) := by decide +kernel
theorem dX8_edge_17 : decode cX8_edge 17 = .ok (.ireturn, 1) := by decide +kernel
theorem dX8_edge_18 : decode cX8_edge 18 = .ok (.aload_n 0, 1) := by decide +kernel
theorem dX8_edge_19 : decode cX8_edge 19 = .ok (.getfield 11, 3) := by decide +kernel
theorem dX8_edge_22 : decode cX8_edge 22 = .ok (.iload_n 1, 1) := by decide +kernel
theorem dX8_edge_23 : decode cX8_edge 23 = .ok (.aaload, 1) := by decide +kernel
theorem dX8_edge_24 : decode cX8_edge 24 = .ok (.invokevirtual 97, 3) := by decide +kernel
theorem dX8_edge_27 : decode cX8_edge 27 = .ok (.ifCond .ne 9, 3) := by decide +kernel
theorem dX8_edge_30 : decode cX8_edge 30 = .ok (.aload_n 0, 1) := by decide +kernel
theorem dX8_edge_31 : decode cX8_edge 31 = .ok (.iconst 1, 1) := by decide +kernel
theorem dX8_edge_32 : decode cX8_edge 32 = .ok (.invokevirtual 101, 3) := by decide +kernel
theorem dX8_edge_35 : decode cX8_edge 35 = .ok (.ireturn, 1) := by decide +kernel
theorem dX8_edge_36 : decode cX8_edge 36 = .ok (.aload_n 0, 1) := by decide +kernel
theorem dX8_edge_37 : decode cX8_edge 37 = .ok (.getfield 52, 3) := by decide +kernel
theorem dX8_edge_40 : decode cX8_edge 40 = .ok (.aload_n 0, 1) := by decide +kernel
theorem dX8_edge_41 : decode cX8_edge 41 = .ok (.getfield 11, 3) := by decide +kernel
theorem dX8_edge_44 : decode cX8_edge 44 = .ok (.iload_n 1, 1) := by decide +kernel
theorem dX8_edge_45 : decode cX8_edge 45 = .ok (.aaload, 1) := by decide +kernel
theorem dX8_edge_46 : decode cX8_edge 46 = .ok (.getfield 125, 3) := by decide +kernel
theorem dX8_edge_49 : decode cX8_edge 49 = .ok (.invokevirtual 215, 3) := by decide +kernel
theorem dX8_edge_52 : decode cX8_edge 52 = .ok (.ifCond .ne 6, 3) := by decide +kernel
theorem dX8_edge_55 : decode cX8_edge 55 = .ok (.bipush (-4), 2) := by decide +kernel
theorem dX8_edge_57 : decode cX8_edge 57 = .ok (.ireturn, 1) := by decide +kernel
theorem dX8_edge_58 : decode cX8_edge 58 = .ok (.aload_n 0, 1) := by decide +kernel
theorem dX8_edge_59 : decode cX8_edge 59 = .ok (.getfield 52, 3) := by decide +kernel
theorem dX8_edge_62 : decode cX8_edge 62 = .ok (.iload_n 2, 1) := by decide +kernel
theorem dX8_edge_63 : decode cX8_edge 63 = .ok (.invokevirtual 221, 3) := by decide +kernel
theorem dX8_edge_66 : decode cX8_edge 66 = .ok (.ifCond .ne 9, 3) := by decide +kernel
theorem dX8_edge_69 : decode cX8_edge 69 = .ok (.aload_n 0, 1) := by decide +kernel
theorem dX8_edge_70 : decode cX8_edge 70 = .ok (.iconst 2, 1) := by decide +kernel
theorem dX8_edge_71 : decode cX8_edge 71 = .ok (.invokevirtual 101, 3) := by decide +kernel
theorem dX8_edge_74 : decode cX8_edge 74 = .ok (.ireturn, 1) := by decide +kernel
theorem dX8_edge_75 : decode cX8_edge 75 = .ok (.aload_n 0, 1) := by decide +kernel
theorem dX8_edge_76 : decode cX8_edge 76 = .ok (.getfield 52, 3) := by decide +kernel
theorem dX8_edge_79 : decode cX8_edge 79 = .ok (.iload_n 2, 1) := by decide +kernel
theorem dX8_edge_80 : decode cX8_edge 80 = .ok (.iload_n 3, 1) := by decide +kernel
theorem dX8_edge_81 : decode cX8_edge 81 = .ok (.invokevirtual 224, 3) := by decide +kernel
theorem dX8_edge_84 : decode cX8_edge 84 = .ok (.ireturn, 1) := by decide +kernel
theorem dX8_gluings_0 : decode cX8_gluings 0 = .ok (.iload_n 1, 1) := by decide +kernel
theorem dX8_gluings_1 : decode cX8_gluings 1 = .ok (.invokestatic 79, 3) := by decide +kernel
theorem dX8_gluings_4 : decode cX8_gluings 4 = .ok (.ifCond .eq 14, 3) := by decide +kernel
theorem dX8_gluings_7 : decode cX8_gluings 7 = .ok (.iload_n 2, 1) := by decide +kernel
theorem dX8_gluings_8 : decode cX8_gluings 8 = .ok (.iconst 1, 1) := by decide +kernel
theorem dX8_gluings_9 : decode cX8_gluings 9 = .ok (.sipush 20000, 3) := by decide +kernel
theorem dX8_gluings_12 : decode cX8_gluings 12 = .ok (.invokestatic 83, 3) := by decide +kernel
theorem dX8_gluings_15 : decode cX8_gluings 15 = .ok (.ifCond .ne 5, 3) := by decide +kernel
theorem dX8_gluings_18 : decode cX8_gluings 18 = .ok (.iconst (-1), 1) := by decide +kernel
theorem dX8_gluings_19 : decode cX8_gluings 19 = .ok (.ireturn, 1) := by decide +kernel
theorem dX8_gluings_20 : decode cX8_gluings 20 = .ok (.aload_n 0, 1) := by decide +kernel
theorem dX8_gluings_21 : decode cX8_gluings 21 = .ok (.getfield 11, 3) := by decide +kernel
theorem dX8_gluings_24 : decode cX8_gluings 24 = .ok (.iload_n 1, 1) := by decide +kernel
theorem dX8_gluings_25 : decode cX8_gluings 25 = .ok (.aaload, 1) := by decide +kernel
theorem dX8_gluings_26 : decode cX8_gluings 26 = .ok (.invokevirtual 97, 3) := by decide +kernel
theorem dX8_gluings_29 : decode cX8_gluings 29 = .ok (.ifCond .ne 9, 3) := by decide +kernel
theorem dX8_gluings_32 : decode cX8_gluings 32 = .ok (.aload_n 0, 1) := by decide +kernel
theorem dX8_gluings_33 : decode cX8_gluings 33 = .ok (.iconst 1, 1) := by decide +kernel
theorem dX8_gluings_34 : decode cX8_gluings 34 = .ok (.invokevirtual 101, 3) := by decide +kernel
theorem dX8_gluings_37 : decode cX8_gluings 37 = .ok (.ireturn, 1) := by decide +kernel
theorem dX8_gluings_38 : decode cX8_gluings 38 = .ok (.aload_n 0, 1) := by decide +kernel
theorem dX8_gluings_39 : decode cX8_gluings 39 = .ok (.getfield 52, 3) := by decide +kernel
theorem dX8_gluings_42 : decode cX8_gluings 42 = .ok (.aload_n 0, 1) := by decide +kernel
theorem dX8_gluings_43 : decode cX8_gluings 43 = .ok (.getfield 11, 3) := by decide +kernel
theorem dX8_gluings_46 : decode cX8_gluings 46 = .ok (.iload_n 1, 1) := by decide +kernel
theorem dX8_gluings_47 : decode cX8_gluings 47 = .ok (.aaload, 1) := by decide +kernel
theorem dX8_gluings_48 : decode cX8_gluings 48 = .ok (.getfield 125, 3) := by decide +kernel
theorem dX8_gluings_51 : decode cX8_gluings 51 = .ok (.invokevirtual 215, 3) := by decide +kernel
theorem dX8_gluings_54 : decode cX8_gluings 54 = .ok (.ifCond .ne 6, 3) := by decide +kernel
theorem dX8_gluings_57 : decode cX8_gluings 57 = .ok (.bipush (-4), 2) := by decide +kernel
theorem dX8_gluings_59 : decode cX8_gluings 59 = .ok (.ireturn, 1) := by decide +kernel
theorem dX8_gluings_60 : decode cX8_gluings 60 = .ok (.aload_n 0, 1) := by decide +kernel
theorem dX8_gluings_61 : decode cX8_gluings 61 = .ok (.getfield 59, 3) := by decide +kernel
theorem dX8_gluings_64 : decode cX8_gluings 64 = .ok (.aload_n 0, 1) := by decide +kernel
theorem dX8_gluings_65 : decode cX8_gluings 65 = .ok (.getfield 52, 3) := by decide +kernel
theorem dX8_gluings_68 : decode cX8_gluings 68 = .ok (.iload_n 2, 1) := by decide +kernel
theorem dX8_gluings_69 : decode cX8_gluings 69 = .ok (.invokevirtual 227, 3) := by decide +kernel
theorem dX8_gluings_72 : decode cX8_gluings 72 = .ok (.ifCond .eq 13, 3) := by decide +kernel
theorem dX8_gluings_75 : decode cX8_gluings 75 = .ok (.aload_n 0, 1) := by decide +kernel
theorem dX8_gluings_76 : decode cX8_gluings 76 = .ok (.getfield 59, 3) := by decide +kernel
theorem dX8_gluings_79 : decode cX8_gluings 79 = .ok (.getfield 231, 3) := by decide +kernel
theorem dX8_gluings_82 : decode cX8_gluings 82 = .ok (.goto 5, 3) := by decide +kernel
theorem dX8_gluings_85 : decode cX8_gluings 85 = .ok (.bipush (-6), 2) := by decide +kernel
theorem dX8_gluings_87 : decode cX8_gluings 87 = .ok (.ireturn, 1) := by decide +kernel
theorem dX8_glued_0 : decode cX8_glued 0 = .ok (.aload_n 0, 1) := by decide +kernel
theorem dX8_glued_1 : decode cX8_glued 1 = .ok (.getfield 59, 3) := by decide +kernel
theorem dX8_glued_4 : decode cX8_glued 4 = .ok (.iload_n 1, 1) := by decide +kernel
theorem dX8_glued_5 : decode cX8_glued 5 = .ok (.invokevirtual 234, 3) := by decide +kernel
theorem dX8_glued_8 : decode cX8_glued 8 = .ok (.ireturn, 1) := by decide +kernel
theorem dX8_corners_0 : decode cX8_corners 0 = .ok (.iload_n 1, 1) := by decide +kernel
theorem dX8_corners_1 : decode cX8_corners 1 = .ok (.iconst 1, 1) := by decide +kernel
theorem dX8_corners_2 : decode cX8_corners 2 = .ok (.iconst 4, 1) := by decide +kernel
theorem dX8_corners_3 : decode cX8_corners 3 = .ok (.invokestatic 83, 3) := by decide +kernel
theorem dX8_corners_6 : decode cX8_corners 6 = .ok (.ifCond .ne 5, 3) := by decide +kernel
theorem dX8_corners_9 : decode cX8_corners 9 = .ok (.iconst (-1), 1) := by decide +kernel
theorem dX8_corners_10 : decode cX8_corners 10 = .ok (.ireturn, 1) := by decide +kernel
theorem dX8_corners_11 : decode cX8_corners 11 = .ok (.aload_n 0, 1) := by decide +kernel
theorem dX8_corners_12 : decode cX8_corners 12 = .ok (.getfield 59, 3) := by decide +kernel
theorem dX8_corners_15 : decode cX8_corners 15 = .ok (.iload_n 1, 1) := by decide +kernel
theorem dX8_corners_16 : decode cX8_corners 16 = .ok (.invokevirtual 237, 3) := by decide +kernel
theorem dX8_corners_19 : decode cX8_corners 19 = .ok (.ireturn, 1) := by decide +kernel
theorem dX8_glue_0 : decode cX8_glue 0 = .ok (.iload_n 1, 1) := by decide +kernel
theorem dX8_glue_1 : decode cX8_glue 1 = .ok (.invokestatic 79, 3) := by decide +kernel
theorem dX8_glue_4 : decode cX8_glue 4 = .ok (.ifCond .eq 10, 3) := by decide +kernel
theorem dX8_glue_7 : decode cX8_glue 7 = .ok (.iload_n 2, 1) := by decide +kernel
theorem dX8_glue_8 : decode cX8_glue 8 = .ok (.invokestatic 207, 3) := by decide +kernel
theorem dX8_glue_11 : decode cX8_glue 11 = .ok (.ifCond .ne 5, 3) := by decide +kernel
theorem dX8_glue_14 : decode cX8_glue 14 = .ok (.iconst (-1), 1) := by decide +kernel
theorem dX8_glue_15 : decode cX8_glue 15 = .ok (.ireturn, 1) := by decide +kernel
theorem dX8_glue_16 : decode cX8_glue 16 = .ok (.aload_n 0, 1) := by decide +kernel
theorem dX8_glue_17 : decode cX8_glue 17 = .ok (.getfield 11, 3) := by decide +kernel
theorem dX8_glue_20 : decode cX8_glue 20 = .ok (.iload_n 1, 1) := by decide +kernel
theorem dX8_glue_21 : decode cX8_glue 21 = .ok (.aaload, 1) := by decide +kernel
theorem dX8_glue_22 : decode cX8_glue 22 = .ok (.invokevirtual 97, 3) := by decide +kernel
theorem dX8_glue_25 : decode cX8_glue 25 = .ok (.ifCond .eq 15, 3) := by decide +kernel
theorem dX8_glue_28 : decode cX8_glue 28 = .ok (.aload_n 0, 1) := by decide +kernel
theorem dX8_glue_29 : decode cX8_glue 29 = .ok (.getfield 23, 3) := by decide +kernel
theorem dX8_glue_32 : decode cX8_glue 32 = .ok (.iload_n 2, 1) := by decide +kernel
theorem dX8_glue_33 : decode cX8_glue 33 = .ok (.aaload, 1) := by decide +kernel
theorem dX8_glue_34 : decode cX8_glue 34 = .ok (.invokevirtual 210, 3) := by decide +kernel
theorem dX8_glue_37 : decode cX8_glue 37 = .ok (.ifCond .ne 9, 3) := by decide +kernel
theorem dX8_glue_40 : decode cX8_glue 40 = .ok (.aload_n 0, 1) := by decide +kernel
theorem dX8_glue_41 : decode cX8_glue 41 = .ok (.iconst 1, 1) := by decide +kernel
theorem dX8_glue_42 : decode cX8_glue 42 = .ok (.invokevirtual 101, 3) := by decide +kernel
theorem dX8_glue_45 : decode cX8_glue 45 = .ok (.ireturn, 1) := by decide +kernel
theorem dX8_glue_46 : decode cX8_glue 46 = .ok (.aload_n 0, 1) := by decide +kernel
theorem dX8_glue_47 : decode cX8_glue 47 = .ok (.getfield 52, 3) := by decide +kernel
theorem dX8_glue_50 : decode cX8_glue 50 = .ok (.aload_n 0, 1) := by decide +kernel
theorem dX8_glue_51 : decode cX8_glue 51 = .ok (.getfield 11, 3) := by decide +kernel
theorem dX8_glue_54 : decode cX8_glue 54 = .ok (.iload_n 1, 1) := by decide +kernel
theorem dX8_glue_55 : decode cX8_glue 55 = .ok (.aaload, 1) := by decide +kernel
theorem dX8_glue_56 : decode cX8_glue 56 = .ok (.getfield 125, 3) := by decide +kernel
theorem dX8_glue_59 : decode cX8_glue 59 = .ok (.invokevirtual 215, 3) := by decide +kernel
theorem dX8_glue_62 : decode cX8_glue 62 = .ok (.ifCond .eq 26, 3) := by decide +kernel
theorem dX8_glue_65 : decode cX8_glue 65 = .ok (.aload_n 0, 1) := by decide +kernel
theorem dX8_glue_66 : decode cX8_glue 66 = .ok (.getfield 59, 3) := by decide +kernel
theorem dX8_glue_69 : decode cX8_glue 69 = .ok (.aload_n 0, 1) := by decide +kernel
theorem dX8_glue_70 : decode cX8_glue 70 = .ok (.getfield 23, 3) := by decide +kernel
theorem dX8_glue_73 : decode cX8_glue 73 = .ok (.iload_n 2, 1) := by decide +kernel
theorem dX8_glue_74 : decode cX8_glue 74 = .ok (.aaload, 1) := by decide +kernel
theorem dX8_glue_75 : decode cX8_glue 75 = .ok (.aload_n 0, 1) := by decide +kernel
theorem dX8_glue_76 : decode cX8_glue 76 = .ok (.getfield 52, 3) := by decide +kernel
theorem dX8_glue_79 : decode cX8_glue 79 = .ok (.getfield 218, 3) := by decide +kernel
theorem dX8_glue_82 : decode cX8_glue 82 = .ok (.invokevirtual 240, 3) := by decide +kernel
theorem dX8_glue_85 : decode cX8_glue 85 = .ok (.ifCond .ne 6, 3) := by decide +kernel
theorem dX8_glue_88 : decode cX8_glue 88 = .ok (.bipush (-4), 2) := by decide +kernel
theorem dX8_glue_90 : decode cX8_glue 90 = .ok (.ireturn, 1) := by decide +kernel
theorem dX8_glue_91 : decode cX8_glue 91 = .ok (.aload_n 0, 1) := by decide +kernel
theorem dX8_glue_92 : decode cX8_glue 92 = .ok (.getfield 59, 3) := by decide +kernel
theorem dX8_glue_95 : decode cX8_glue 95 = .ok (.aload_n 0, 1) := by decide +kernel
theorem dX8_glue_96 : decode cX8_glue 96 = .ok (.getfield 52, 3) := by decide +kernel
theorem dX8_glue_99 : decode cX8_glue 99 = .ok (.invokevirtual 244, 3) := by decide +kernel
theorem dX8_glue_102 : decode cX8_glue 102 = .ok (.aload_n 0, 1) := by decide +kernel
theorem dX8_glue_103 : decode cX8_glue 103 = .ok (.aload_n 0, 1) := by decide +kernel
theorem dX8_glue_104 : decode cX8_glue 104 = .ok (.getfield 59, 3) := by decide +kernel
theorem dX8_glue_107 : decode cX8_glue 107 = .ok (.invokevirtual 248, 3) := by decide +kernel
theorem dX8_glue_110 : decode cX8_glue 110 = .ok (.ifCond .eq 7, 3) := by decide +kernel
theorem dX8_glue_113 : decode cX8_glue 113 = .ok (.lconst 1, 1) := by decide +kernel
theorem dX8_glue_114 : decode cX8_glue 114 = .ok (.goto 4, 3) := by decide +kernel
theorem dX8_glue_117 : decode cX8_glue 117 = .ok (.lconst 0, 1) := by decide +kernel
theorem dX8_glue_118 : decode cX8_glue 118 = .ok (.putfield 147, 3) := by decide +kernel
theorem dX8_glue_121 : decode cX8_glue 121 = .ok (.aload_n 0, 1) := by decide +kernel
theorem dX8_glue_122 : decode cX8_glue 122 = .ok (.getfield 59, 3) := by decide +kernel
theorem dX8_glue_125 : decode cX8_glue 125 = .ok (.invokevirtual 251, 3) := by decide +kernel
theorem dX8_glue_128 : decode cX8_glue 128 = .ok (.ireturn, 1) := by decide +kernel
theorem dX8_tries_0 : decode cX8_tries 0 = .ok (.aload_n 0, 1) := by decide +kernel
theorem dX8_tries_1 : decode cX8_tries 1 = .ok (.getfield 59, 3) := by decide +kernel
theorem dX8_tries_4 : decode cX8_tries 4 = .ok (.getfield 255, 3) := by decide +kernel
theorem dX8_tries_7 : decode cX8_tries 7 = .ok (.ireturn, 1) := by decide +kernel
theorem dX8_meanAngle_0 : decode cX8_meanAngle 0 = .ok (.iload_n 1, 1) := by decide +kernel
theorem dX8_meanAngle_1 : decode cX8_meanAngle 1 = .ok (.invokestatic 79, 3) := by decide +kernel
theorem dX8_meanAngle_4 : decode cX8_meanAngle 4 = .ok (.ifCond .ne 5, 3) := by decide +kernel
theorem dX8_meanAngle_7 : decode cX8_meanAngle 7 = .ok (.iconst (-1), 1) := by decide +kernel
theorem dX8_meanAngle_8 : decode cX8_meanAngle 8 = .ok (.ireturn, 1) := by decide +kernel
theorem dX8_meanAngle_9 : decode cX8_meanAngle 9 = .ok (.aload_n 0, 1) := by decide +kernel
theorem dX8_meanAngle_10 : decode cX8_meanAngle 10 = .ok (.getfield 11, 3) := by decide +kernel
theorem dX8_meanAngle_13 : decode cX8_meanAngle 13 = .ok (.iload_n 1, 1) := by decide +kernel
theorem dX8_meanAngle_14 : decode cX8_meanAngle 14 = .ok (.aaload, 1) := by decide +kernel
theorem dX8_meanAngle_15 : decode cX8_meanAngle 15 = .ok (.invokevirtual 97, 3) := by decide +kernel
theorem dX8_meanAngle_18 : decode cX8_meanAngle 18 = .ok (.ifCond .ne 9, 3) := by decide +kernel
theorem dX8_meanAngle_21 : decode cX8_meanAngle 21 = .ok (.aload_n 0, 1) := by decide +kernel
theorem dX8_meanAngle_22 : decode cX8_meanAngle 22 = .ok (.iconst 1, 1) := by decide +kernel
theorem dX8_meanAngle_23 : decode cX8_meanAngle 23 = .ok (.invokevirtual 101, 3) := by decide +kernel
theorem dX8_meanAngle_26 : decode cX8_meanAngle 26 = .ok (.ireturn, 1) := by decide +kernel
theorem dX8_meanAngle_27 : decode cX8_meanAngle 27 = .ok (.aload_n 0, 1) := by decide +kernel
theorem dX8_meanAngle_28 : decode cX8_meanAngle 28 = .ok (.getfield 52, 3) := by decide +kernel
theorem dX8_meanAngle_31 : decode cX8_meanAngle 31 = .ok (.aload_n 0, 1) := by decide +kernel
theorem dX8_meanAngle_32 : decode cX8_meanAngle 32 = .ok (.getfield 11, 3) := by decide +kernel
theorem dX8_meanAngle_35 : decode cX8_meanAngle 35 = .ok (.iload_n 1, 1) := by decide +kernel
theorem dX8_meanAngle_36 : decode cX8_meanAngle 36 = .ok (.aaload, 1) := by decide +kernel
theorem dX8_meanAngle_37 : decode cX8_meanAngle 37 = .ok (.getfield 125, 3) := by decide +kernel
theorem dX8_meanAngle_40 : decode cX8_meanAngle 40 = .ok (.invokevirtual 215, 3) := by decide +kernel
theorem dX8_meanAngle_43 : decode cX8_meanAngle 43 = .ok (.ifCond .ne 6, 3) := by decide +kernel
theorem dX8_meanAngle_46 : decode cX8_meanAngle 46 = .ok (.bipush (-4), 2) := by decide +kernel
theorem dX8_meanAngle_48 : decode cX8_meanAngle 48 = .ok (.ireturn, 1) := by decide +kernel
theorem dX8_meanAngle_49 : decode cX8_meanAngle 49 = .ok (.aload_n 0, 1) := by decide +kernel
theorem dX8_meanAngle_50 : decode cX8_meanAngle 50 = .ok (.getfield 52, 3) := by decide +kernel
theorem dX8_meanAngle_53 : decode cX8_meanAngle 53 = .ok (.getfield 218, 3) := by decide +kernel
theorem dX8_meanAngle_56 : decode cX8_meanAngle 56 = .ok (.ifCond .le 24, 3) := by decide +kernel
theorem dX8_meanAngle_59 : decode cX8_meanAngle 59 = .ok (.bipush 100, 2) := by decide +kernel
theorem dX8_meanAngle_61 : decode cX8_meanAngle 61 = .ok (.aload_n 0, 1) := by decide +kernel
theorem dX8_meanAngle_62 : decode cX8_meanAngle 62 = .ok (.getfield 52, 3) := by decide +kernel
theorem dX8_meanAngle_65 : decode cX8_meanAngle 65 = .ok (.invokevirtual 258, 3) := by decide +kernel
theorem dX8_meanAngle_68 : decode cX8_meanAngle 68 = .ok (.imul, 1) := by decide +kernel
theorem dX8_meanAngle_69 : decode cX8_meanAngle 69 = .ok (.aload_n 0, 1) := by decide +kernel
theorem dX8_meanAngle_70 : decode cX8_meanAngle 70 = .ok (.getfield 52, 3) := by decide +kernel
theorem dX8_meanAngle_73 : decode cX8_meanAngle 73 = .ok (.getfield 218, 3) := by decide +kernel
theorem dX8_meanAngle_76 : decode cX8_meanAngle 76 = .ok (.idiv, 1) := by decide +kernel
theorem dX8_meanAngle_77 : decode cX8_meanAngle 77 = .ok (.goto 5, 3) := by decide +kernel
theorem dX8_meanAngle_80 : decode cX8_meanAngle 80 = .ok (.bipush (-4), 2) := by decide +kernel
theorem dX8_meanAngle_82 : decode cX8_meanAngle 82 = .ok (.ireturn, 1) := by decide +kernel
theorem dX8_row_0 : decode cX8_row 0 = .ok (.iload_n 1, 1) := by decide +kernel
theorem dX8_row_1 : decode cX8_row 1 = .ok (.invokestatic 207, 3) := by decide +kernel
theorem dX8_row_4 : decode cX8_row 4 = .ok (.ifCond .eq 9, 3) := by decide +kernel
theorem dX8_row_7 : decode cX8_row 7 = .ok (.iload_n 2, 1) := by decide +kernel
theorem dX8_row_8 : decode cX8_row 8 = .ok (.bipush 24, 2) := by decide +kernel
theorem dX8_row_10 : decode cX8_row 10 = .ok (.if_icmp .le 5, 3) := by decide +kernel
theorem dX8_row_13 : decode cX8_row 13 = .ok (.iconst (-1), 1) := by decide +kernel
theorem dX8_row_14 : decode cX8_row 14 = .ok (.ireturn, 1) := by decide +kernel
theorem dX8_row_15 : decode cX8_row 15 = .ok (.iload_n 2, 1) := by decide +kernel
theorem dX8_row_16 : decode cX8_row 16 = .ok (.ifCond .ge 9, 3) := by decide +kernel
theorem dX8_row_19 : decode cX8_row 19 = .ok (.aload_n 0, 1) := by decide +kernel
theorem dX8_row_20 : decode cX8_row 20 = .ok (.iconst 5, 1) := by decide +kernel
theorem dX8_row_21 : decode cX8_row 21 = .ok (.invokevirtual 101, 3) := by decide +kernel
theorem dX8_row_24 : decode cX8_row 24 = .ok (.ireturn, 1) := by decide +kernel
theorem dX8_row_25 : decode cX8_row 25 = .ok (.aload_n 0, 1) := by decide +kernel
theorem dX8_row_26 : decode cX8_row 26 = .ok (.getfield 23, 3) := by decide +kernel
theorem dX8_row_29 : decode cX8_row 29 = .ok (.iload_n 1, 1) := by decide +kernel
theorem dX8_row_30 : decode cX8_row 30 = .ok (.aaload, 1) := by decide +kernel
theorem dX8_row_31 : decode cX8_row 31 = .ok (.iload_n 2, 1) := by decide +kernel
theorem dX8_row_32 : decode cX8_row 32 = .ok (.invokevirtual 69, 3) := by decide +kernel
theorem dX8_row_35 : decode cX8_row 35 = .ok (.iload_n 2, 1) := by decide +kernel
theorem dX8_row_36 : decode cX8_row 36 = .ok (.ireturn, 1) := by decide +kernel
theorem dX8_lay_0 : decode cX8_lay 0 = .ok (.iload_n 1, 1) := by decide +kernel
theorem dX8_lay_1 : decode cX8_lay 1 = .ok (.invokestatic 207, 3) := by decide +kernel
theorem dX8_lay_4 : decode cX8_lay 4 = .ok (.ifCond .ne 5, 3) := by decide +kernel
theorem dX8_lay_7 : decode cX8_lay 7 = .ok (.iconst (-1), 1) := by decide +kernel
theorem dX8_lay_8 : decode cX8_lay 8 = .ok (.ireturn, 1) := by decide +kernel
theorem dX8_lay_9 : decode cX8_lay 9 = .ok (.aload_n 0, 1) := by decide +kernel
theorem dX8_lay_10 : decode cX8_lay 10 = .ok (.getfield 23, 3) := by decide +kernel
theorem dX8_lay_13 : decode cX8_lay 13 = .ok (.iload_n 1, 1) := by decide +kernel
theorem dX8_lay_14 : decode cX8_lay 14 = .ok (.aaload, 1) := by decide +kernel
theorem dX8_lay_15 : decode cX8_lay 15 = .ok (.invokevirtual 210, 3) := by decide +kernel
theorem dX8_lay_18 : decode cX8_lay 18 = .ok (.ifCond .ne 9, 3) := by decide +kernel
theorem dX8_lay_21 : decode cX8_lay 21 = .ok (.aload_n 0, 1) := by decide +kernel
theorem dX8_lay_22 : decode cX8_lay 22 = .ok (.iconst 1, 1) := by decide +kernel
theorem dX8_lay_23 : decode cX8_lay 23 = .ok (.invokevirtual 101, 3) := by decide +kernel
theorem dX8_lay_26 : decode cX8_lay 26 = .ok (.ireturn, 1) := by decide +kernel
theorem dX8_lay_27 : decode cX8_lay 27 = .ok (.aload_n 0, 1) := by decide +kernel
theorem dX8_lay_28 : decode cX8_lay 28 = .ok (.getfield 23, 3) := by decide +kernel
theorem dX8_lay_31 : decode cX8_lay 31 = .ok (.iload_n 1, 1) := by decide +kernel
theorem dX8_lay_32 : decode cX8_lay 32 = .ok (.aaload, 1) := by decide +kernel
theorem dX8_lay_33 : decode cX8_lay 33 = .ok (.iload_n 2, 1) := by decide +kernel
theorem dX8_lay_34 : decode cX8_lay 34 = .ok (.invokevirtual 261, 3) := by decide +kernel
theorem dX8_lay_37 : decode cX8_lay 37 = .ok (.ifCond .ne 9, 3) := by decide +kernel
theorem dX8_lay_40 : decode cX8_lay 40 = .ok (.aload_n 0, 1) := by decide +kernel
theorem dX8_lay_41 : decode cX8_lay 41 = .ok (.iconst 2, 1) := by decide +kernel
theorem dX8_lay_42 : decode cX8_lay 42 = .ok (.invokevirtual 101, 3) := by decide +kernel
theorem dX8_lay_45 : decode cX8_lay 45 = .ok (.ireturn, 1) := by decide +kernel
theorem dX8_lay_46 : decode cX8_lay 46 = .ok (.aload_n 0, 1) := by decide +kernel
theorem dX8_lay_47 : decode cX8_lay 47 = .ok (.aload_n 0, 1) := by decide +kernel
theorem dX8_lay_48 : decode cX8_lay 48 = .ok (.getfield 23, 3) := by decide +kernel
theorem dX8_lay_51 : decode cX8_lay 51 = .ok (.iload_n 1, 1) := by decide +kernel
theorem dX8_lay_52 : decode cX8_lay 52 = .ok (.aaload, 1) := by decide +kernel
theorem dX8_lay_53 : decode cX8_lay 53 = .ok (.getfield 264, 3) := by decide +kernel
theorem dX8_lay_56 : decode cX8_lay 56 = .ok (.iload_n 2, 1) := by decide +kernel
theorem dX8_lay_57 : decode cX8_lay 57 = .ok (.iaload, 1) := by decide +kernel
theorem dX8_lay_58 : decode cX8_lay 58 = .ok (.i2l, 1) := by decide +kernel
theorem dX8_lay_59 : decode cX8_lay 59 = .ok (.putfield 147, 3) := by decide +kernel
theorem dX8_lay_62 : decode cX8_lay 62 = .ok (.aload_n 0, 1) := by decide +kernel
theorem dX8_lay_63 : decode cX8_lay 63 = .ok (.getfield 23, 3) := by decide +kernel
theorem dX8_lay_66 : decode cX8_lay 66 = .ok (.iload_n 1, 1) := by decide +kernel
theorem dX8_lay_67 : decode cX8_lay 67 = .ok (.aaload, 1) := by decide +kernel
theorem dX8_lay_68 : decode cX8_lay 68 = .ok (.getfield 264, 3) := by decide +kernel
theorem dX8_lay_71 : decode cX8_lay 71 = .ok (.iload_n 2, 1) := by decide +kernel
theorem dX8_lay_72 : decode cX8_lay 72 = .ok (.iload_n 3, 1) := by decide +kernel
theorem dX8_lay_73 : decode cX8_lay 73 = .ok (.iastore, 1) := by decide +kernel
theorem dX8_lay_74 : decode cX8_lay 74 = .ok (.iconst 1, 1) := by decide +kernel
theorem dX8_lay_75 : decode cX8_lay 75 = .ok (.ireturn, 1) := by decide +kernel
theorem dX8_tear_0 : decode cX8_tear 0 = .ok (.iload_n 1, 1) := by decide +kernel
theorem dX8_tear_1 : decode cX8_tear 1 = .ok (.invokestatic 207, 3) := by decide +kernel
theorem dX8_tear_4 : decode cX8_tear 4 = .ok (.ifCond .ne 5, 3) := by decide +kernel
theorem dX8_tear_7 : decode cX8_tear 7 = .ok (.iconst (-1), 1) := by decide +kernel
theorem dX8_tear_8 : decode cX8_tear 8 = .ok (.ireturn, 1) := by decide +kernel
theorem dX8_tear_9 : decode cX8_tear 9 = .ok (.aload_n 0, 1) := by decide +kernel
theorem dX8_tear_10 : decode cX8_tear 10 = .ok (.getfield 23, 3) := by decide +kernel
theorem dX8_tear_13 : decode cX8_tear 13 = .ok (.iload_n 1, 1) := by decide +kernel
theorem dX8_tear_14 : decode cX8_tear 14 = .ok (.aaload, 1) := by decide +kernel
theorem dX8_tear_15 : decode cX8_tear 15 = .ok (.invokevirtual 210, 3) := by decide +kernel
theorem dX8_tear_18 : decode cX8_tear 18 = .ok (.ifCond .ne 9, 3) := by decide +kernel
theorem dX8_tear_21 : decode cX8_tear 21 = .ok (.aload_n 0, 1) := by decide +kernel
theorem dX8_tear_22 : decode cX8_tear 22 = .ok (.iconst 1, 1) := by decide +kernel
theorem dX8_tear_23 : decode cX8_tear 23 = .ok (.invokevirtual 101, 3) := by decide +kernel
theorem dX8_tear_26 : decode cX8_tear 26 = .ok (.ireturn, 1) := by decide +kernel
theorem dX8_tear_27 : decode cX8_tear 27 = .ok (.aload_n 0, 1) := by decide +kernel
theorem dX8_tear_28 : decode cX8_tear 28 = .ok (.getfield 23, 3) := by decide +kernel
theorem dX8_tear_31 : decode cX8_tear 31 = .ok (.iload_n 1, 1) := by decide +kernel
theorem dX8_tear_32 : decode cX8_tear 32 = .ok (.aaload, 1) := by decide +kernel
theorem dX8_tear_33 : decode cX8_tear 33 = .ok (.invokevirtual 267, 3) := by decide +kernel
theorem dX8_tear_36 : decode cX8_tear 36 = .ok (.iconst 1, 1) := by decide +kernel
theorem dX8_tear_37 : decode cX8_tear 37 = .ok (.ireturn, 1) := by decide +kernel
theorem dX8_copy_0 : decode cX8_copy 0 = .ok (.iload_n 1, 1) := by decide +kernel
theorem dX8_copy_1 : decode cX8_copy 1 = .ok (.invokestatic 207, 3) := by decide +kernel
theorem dX8_copy_4 : decode cX8_copy 4 = .ok (.ifCond .eq 10, 3) := by decide +kernel
theorem dX8_copy_7 : decode cX8_copy 7 = .ok (.iload_n 3, 1) := by decide +kernel
theorem dX8_copy_8 : decode cX8_copy 8 = .ok (.invokestatic 207, 3) := by decide +kernel
theorem dX8_copy_11 : decode cX8_copy 11 = .ok (.ifCond .ne 5, 3) := by decide +kernel
theorem dX8_copy_14 : decode cX8_copy 14 = .ok (.iconst (-1), 1) := by decide +kernel
theorem dX8_copy_15 : decode cX8_copy 15 = .ok (.ireturn, 1) := by decide +kernel
theorem dX8_copy_16 : decode cX8_copy 16 = .ok (.iload 5, 2) := by decide +kernel
theorem dX8_copy_18 : decode cX8_copy 18 = .ok (.ifCond .ge 9, 3) := by decide +kernel
theorem dX8_copy_21 : decode cX8_copy 21 = .ok (.aload_n 0, 1) := by decide +kernel
theorem dX8_copy_22 : decode cX8_copy 22 = .ok (.iconst 5, 1) := by decide +kernel
theorem dX8_copy_23 : decode cX8_copy 23 = .ok (.invokevirtual 101, 3) := by decide +kernel
theorem dX8_copy_26 : decode cX8_copy 26 = .ok (.ireturn, 1) := by decide +kernel
theorem dX8_copy_27 : decode cX8_copy 27 = .ok (.aload_n 0, 1) := by decide +kernel
theorem dX8_copy_28 : decode cX8_copy 28 = .ok (.getfield 23, 3) := by decide +kernel
theorem dX8_copy_31 : decode cX8_copy 31 = .ok (.iload_n 1, 1) := by decide +kernel
theorem dX8_copy_32 : decode cX8_copy 32 = .ok (.aaload, 1) := by decide +kernel
theorem dX8_copy_33 : decode cX8_copy 33 = .ok (.invokevirtual 210, 3) := by decide +kernel
theorem dX8_copy_36 : decode cX8_copy 36 = .ok (.ifCond .eq 15, 3) := by decide +kernel
theorem dX8_copy_39 : decode cX8_copy 39 = .ok (.aload_n 0, 1) := by decide +kernel
theorem dX8_copy_40 : decode cX8_copy 40 = .ok (.getfield 23, 3) := by decide +kernel
theorem dX8_copy_43 : decode cX8_copy 43 = .ok (.iload_n 3, 1) := by decide +kernel
theorem dX8_copy_44 : decode cX8_copy 44 = .ok (.aaload, 1) := by decide +kernel
theorem dX8_copy_45 : decode cX8_copy 45 = .ok (.invokevirtual 210, 3) := by decide +kernel
theorem dX8_copy_48 : decode cX8_copy 48 = .ok (.ifCond .ne 9, 3) := by decide +kernel
theorem dX8_copy_51 : decode cX8_copy 51 = .ok (.aload_n 0, 1) := by decide +kernel
theorem dX8_copy_52 : decode cX8_copy 52 = .ok (.iconst 1, 1) := by decide +kernel
theorem dX8_copy_53 : decode cX8_copy 53 = .ok (.invokevirtual 101, 3) := by decide +kernel
theorem dX8_copy_56 : decode cX8_copy 56 = .ok (.ireturn, 1) := by decide +kernel
theorem dX8_copy_57 : decode cX8_copy 57 = .ok (.aload_n 0, 1) := by decide +kernel
theorem dX8_copy_58 : decode cX8_copy 58 = .ok (.getfield 23, 3) := by decide +kernel
theorem dX8_copy_61 : decode cX8_copy 61 = .ok (.iload_n 1, 1) := by decide +kernel
theorem dX8_copy_62 : decode cX8_copy 62 = .ok (.aaload, 1) := by decide +kernel
theorem dX8_copy_63 : decode cX8_copy 63 = .ok (.iload_n 2, 1) := by decide +kernel
theorem dX8_copy_64 : decode cX8_copy 64 = .ok (.iload 5, 2) := by decide +kernel
theorem dX8_copy_66 : decode cX8_copy 66 = .ok (.invokevirtual 268, 3) := by decide +kernel
theorem dX8_copy_69 : decode cX8_copy 69 = .ok (.ifCond .eq 19, 3) := by decide +kernel
theorem dX8_copy_72 : decode cX8_copy 72 = .ok (.aload_n 0, 1) := by decide +kernel
theorem dX8_copy_73 : decode cX8_copy 73 = .ok (.getfield 23, 3) := by decide +kernel
theorem dX8_copy_76 : decode cX8_copy 76 = .ok (.iload_n 3, 1) := by decide +kernel
theorem dX8_copy_77 : decode cX8_copy 77 = .ok (.aaload, 1) := by decide +kernel
theorem dX8_copy_78 : decode cX8_copy 78 = .ok (.iload 4, 2) := by decide +kernel
theorem dX8_copy_80 : decode cX8_copy 80 = .ok (.iload 5, 2) := by decide +kernel
theorem dX8_copy_82 : decode cX8_copy 82 = .ok (.invokevirtual 268, 3) := by decide +kernel
theorem dX8_copy_85 : decode cX8_copy 85 = .ok (.ifCond .ne 9, 3) := by decide +kernel
theorem dX8_copy_88 : decode cX8_copy 88 = .ok (.aload_n 0, 1) := by decide +kernel
theorem dX8_copy_89 : decode cX8_copy 89 = .ok (.iconst 2, 1) := by decide +kernel
theorem dX8_copy_90 : decode cX8_copy 90 = .ok (.invokevirtual 101, 3) := by decide +kernel
theorem dX8_copy_93 : decode cX8_copy 93 = .ok (.ireturn, 1) := by decide +kernel
theorem dX8_copy_94 : decode cX8_copy 94 = .ok (.aload_n 0, 1) := by decide +kernel
theorem dX8_copy_95 : decode cX8_copy 95 = .ok (.getfield 23, 3) := by decide +kernel
theorem dX8_copy_98 : decode cX8_copy 98 = .ok (.iload_n 1, 1) := by decide +kernel
theorem dX8_copy_99 : decode cX8_copy 99 = .ok (.aaload, 1) := by decide +kernel
theorem dX8_copy_100 : decode cX8_copy 100 = .ok (.getfield 264, 3) := by decide +kernel
theorem dX8_copy_103 : decode cX8_copy 103 = .ok (.iload_n 2, 1) := by decide +kernel
theorem dX8_copy_104 : decode cX8_copy 104 = .ok (.aload_n 0, 1) := by decide +kernel
theorem dX8_copy_105 : decode cX8_copy 105 = .ok (.getfield 23, 3) := by decide +kernel
theorem dX8_copy_108 : decode cX8_copy 108 = .ok (.iload_n 3, 1) := by decide +kernel
theorem dX8_copy_109 : decode cX8_copy 109 = .ok (.aaload, 1) := by decide +kernel
theorem dX8_copy_110 : decode cX8_copy 110 = .ok (.getfield 264, 3) := by decide +kernel
theorem dX8_copy_113 : decode cX8_copy 113 = .ok (.iload 4, 2) := by decide +kernel
theorem dX8_copy_115 : decode cX8_copy 115 = .ok (.iload 5, 2) := by decide +kernel
theorem dX8_copy_117 : decode cX8_copy 117 = .ok (.invokestatic 272, 3) := by decide +kernel
theorem dX8_copy_120 : decode cX8_copy 120 = .ok (.iconst 1, 1) := by decide +kernel
theorem dX8_copy_121 : decode cX8_copy 121 = .ok (.ireturn, 1) := by decide +kernel
theorem dX8_meanRow_0 : decode cX8_meanRow 0 = .ok (.iload_n 1, 1) := by decide +kernel
theorem dX8_meanRow_1 : decode cX8_meanRow 1 = .ok (.invokestatic 207, 3) := by decide +kernel
theorem dX8_meanRow_4 : decode cX8_meanRow 4 = .ok (.ifCond .ne 5, 3) := by decide +kernel
theorem dX8_meanRow_7 : decode cX8_meanRow 7 = .ok (.iconst (-1), 1) := by decide +kernel
theorem dX8_meanRow_8 : decode cX8_meanRow 8 = .ok (.ireturn, 1) := by decide +kernel
theorem dX8_meanRow_9 : decode cX8_meanRow 9 = .ok (.aload_n 0, 1) := by decide +kernel
theorem dX8_meanRow_10 : decode cX8_meanRow 10 = .ok (.getfield 23, 3) := by decide +kernel
theorem dX8_meanRow_13 : decode cX8_meanRow 13 = .ok (.iload_n 1, 1) := by decide +kernel
theorem dX8_meanRow_14 : decode cX8_meanRow 14 = .ok (.aaload, 1) := by decide +kernel
theorem dX8_meanRow_15 : decode cX8_meanRow 15 = .ok (.invokevirtual 210, 3) := by decide +kernel
theorem dX8_meanRow_18 : decode cX8_meanRow 18 = .ok (.ifCond .ne 9, 3) := by decide +kernel
theorem dX8_meanRow_21 : decode cX8_meanRow 21 = .ok (.aload_n 0, 1) := by decide +kernel
theorem dX8_meanRow_22 : decode cX8_meanRow 22 = .ok (.iconst 1, 1) := by decide +kernel
theorem dX8_meanRow_23 : decode cX8_meanRow 23 = .ok (.invokevirtual 101, 3) := by decide +kernel
theorem dX8_meanRow_26 : decode cX8_meanRow 26 = .ok (.ireturn, 1) := by decide +kernel
theorem dX8_meanRow_27 : decode cX8_meanRow 27 = .ok (.aload_n 0, 1) := by decide +kernel
theorem dX8_meanRow_28 : decode cX8_meanRow 28 = .ok (.getfield 23, 3) := by decide +kernel
theorem dX8_meanRow_31 : decode cX8_meanRow 31 = .ok (.iload_n 1, 1) := by decide +kernel
theorem dX8_meanRow_32 : decode cX8_meanRow 32 = .ok (.aaload, 1) := by decide +kernel
theorem dX8_meanRow_33 : decode cX8_meanRow 33 = .ok (.getfield 278, 3) := by decide +kernel
theorem dX8_meanRow_36 : decode cX8_meanRow 36 = .ok (.istore_n 2, 1) := by decide +kernel
theorem dX8_meanRow_37 : decode cX8_meanRow 37 = .ok (.iload_n 2, 1) := by decide +kernel
theorem dX8_meanRow_38 : decode cX8_meanRow 38 = .ok (.ifCond .ne 9, 3) := by decide +kernel
theorem dX8_meanRow_41 : decode cX8_meanRow 41 = .ok (.aload_n 0, 1) := by decide +kernel
theorem dX8_meanRow_42 : decode cX8_meanRow 42 = .ok (.iconst 4, 1) := by decide +kernel
theorem dX8_meanRow_43 : decode cX8_meanRow 43 = .ok (.invokevirtual 101, 3) := by decide +kernel
theorem dX8_meanRow_46 : decode cX8_meanRow 46 = .ok (.ireturn, 1) := by decide +kernel
theorem dX8_meanRow_47 : decode cX8_meanRow 47 = .ok (.aload_n 0, 1) := by decide +kernel
theorem dX8_meanRow_48 : decode cX8_meanRow 48 = .ok (.aload_n 0, 1) := by decide +kernel
theorem dX8_meanRow_49 : decode cX8_meanRow 49 = .ok (.getfield 23, 3) := by decide +kernel
theorem dX8_meanRow_52 : decode cX8_meanRow 52 = .ok (.iload_n 1, 1) := by decide +kernel
theorem dX8_meanRow_53 : decode cX8_meanRow 53 = .ok (.aaload, 1) := by decide +kernel
theorem dX8_meanRow_54 : decode cX8_meanRow 54 = .ok (.invokevirtual 281, 3) := by decide +kernel
theorem dX8_meanRow_57 : decode cX8_meanRow 57 = .ok (.iload_n 2, 1) := by decide +kernel
theorem dX8_meanRow_58 : decode cX8_meanRow 58 = .ok (.i2l, 1) := by decide +kernel
theorem dX8_meanRow_59 : decode cX8_meanRow 59 = .ok (.ldiv, 1) := by decide +kernel
theorem dX8_meanRow_60 : decode cX8_meanRow 60 = .ok (.putfield 147, 3) := by decide +kernel
theorem dX8_meanRow_63 : decode cX8_meanRow 63 = .ok (.iconst 1, 1) := by decide +kernel
theorem dX8_meanRow_64 : decode cX8_meanRow 64 = .ok (.ireturn, 1) := by decide +kernel
theorem dX8_asked_0 : decode cX8_asked 0 = .ok (.aload_n 0, 1) := by decide +kernel
theorem dX8_asked_1 : decode cX8_asked 1 = .ok (.getfield 147, 3) := by decide +kernel
theorem dX8_asked_4 : decode cX8_asked 4 = .ok (.lreturn, 1) := by decide +kernel
theorem dX8_count_0 : decode cX8_count 0 = .ok (.iload_n 1, 1) := by decide +kernel
theorem dX8_count_1 : decode cX8_count 1 = .ok (.tableswitch 60 0 4 #[35, 40, 45, 50, 55], 35) := by decide +kernel
theorem dX8_count_36 : decode cX8_count 36 = .ok (.aload_n 0, 1) := by decide +kernel
theorem dX8_count_37 : decode cX8_count 37 = .ok (.invokevirtual 285, 3) := by decide +kernel
theorem dX8_count_40 : decode cX8_count 40 = .ok (.ireturn, 1) := by decide +kernel
theorem dX8_count_41 : decode cX8_count 41 = .ok (.aload_n 0, 1) := by decide +kernel
theorem dX8_count_42 : decode cX8_count 42 = .ok (.invokevirtual 288, 3) := by decide +kernel
theorem dX8_count_45 : decode cX8_count 45 = .ok (.ireturn, 1) := by decide +kernel
theorem dX8_count_46 : decode cX8_count 46 = .ok (.aload_n 0, 1) := by decide +kernel
theorem dX8_count_47 : decode cX8_count 47 = .ok (.invokevirtual 291, 3) := by decide +kernel
theorem dX8_count_50 : decode cX8_count 50 = .ok (.ireturn, 1) := by decide +kernel
theorem dX8_count_51 : decode cX8_count 51 = .ok (.aload_n 0, 1) := by decide +kernel
theorem dX8_count_52 : decode cX8_count 52 = .ok (.invokevirtual 294, 3) := by decide +kernel
theorem dX8_count_55 : decode cX8_count 55 = .ok (.ireturn, 1) := by decide +kernel
theorem dX8_count_56 : decode cX8_count 56 = .ok (.aload_n 0, 1) := by decide +kernel
theorem dX8_count_57 : decode cX8_count 57 = .ok (.invokevirtual 297, 3) := by decide +kernel
theorem dX8_count_60 : decode cX8_count 60 = .ok (.ireturn, 1) := by decide +kernel
theorem dX8_count_61 : decode cX8_count 61 = .ok (.iconst (-1), 1) := by decide +kernel
theorem dX8_count_62 : decode cX8_count 62 = .ok (.ireturn, 1) := by decide +kernel
theorem dX8_finding_0 : decode cX8_finding 0 = .ok (.aload_n 0, 1) := by decide +kernel
theorem dX8_finding_1 : decode cX8_finding 1 = .ok (.getfield 300, 3) := by decide +kernel
theorem dX8_finding_4 : decode cX8_finding 4 = .ok (.ireturn, 1) := by decide +kernel
theorem dX8_findings_0 : decode cX8_findings 0 = .ok (.iload_n 1, 1) := by decide +kernel
theorem dX8_findings_1 : decode cX8_findings 1 = .ok (.iconst 1, 1) := by decide +kernel
theorem dX8_findings_2 : decode cX8_findings 2 = .ok (.iconst 5, 1) := by decide +kernel
theorem dX8_findings_3 : decode cX8_findings 3 = .ok (.invokestatic 83, 3) := by decide +kernel
theorem dX8_findings_6 : decode cX8_findings 6 = .ok (.ifCond .eq 12, 3) := by decide +kernel
theorem dX8_findings_9 : decode cX8_findings 9 = .ok (.aload_n 0, 1) := by decide +kernel
theorem dX8_findings_10 : decode cX8_findings 10 = .ok (.getfield 63, 3) := by decide +kernel
theorem dX8_findings_13 : decode cX8_findings 13 = .ok (.iload_n 1, 1) := by decide +kernel
theorem dX8_findings_14 : decode cX8_findings 14 = .ok (.iaload, 1) := by decide +kernel
theorem dX8_findings_15 : decode cX8_findings 15 = .ok (.goto 4, 3) := by decide +kernel
theorem dX8_findings_18 : decode cX8_findings 18 = .ok (.iconst (-1), 1) := by decide +kernel
theorem dX8_findings_19 : decode cX8_findings 19 = .ok (.ireturn, 1) := by decide +kernel
theorem dX8_digest_0 : decode cX8_digest 0 = .ok (.ldc2_w 303, 3) := by decide +kernel
theorem dX8_digest_3 : decode cX8_digest 3 = .ok (.lstore_n 1, 1) := by decide +kernel
theorem dX8_digest_4 : decode cX8_digest 4 = .ok (.iconst 0, 1) := by decide +kernel
theorem dX8_digest_5 : decode cX8_digest 5 = .ok (.istore_n 3, 1) := by decide +kernel
theorem dX8_digest_6 : decode cX8_digest 6 = .ok (.iload_n 3, 1) := by decide +kernel
theorem dX8_digest_7 : decode cX8_digest 7 = .ok (.bipush 6, 2) := by decide +kernel
theorem dX8_digest_9 : decode cX8_digest 9 = .ok (.if_icmp .ge 20, 3) := by decide +kernel
theorem dX8_digest_12 : decode cX8_digest 12 = .ok (.aload_n 0, 1) := by decide +kernel
theorem dX8_digest_13 : decode cX8_digest 13 = .ok (.getfield 11, 3) := by decide +kernel
theorem dX8_digest_16 : decode cX8_digest 16 = .ok (.iload_n 3, 1) := by decide +kernel
theorem dX8_digest_17 : decode cX8_digest 17 = .ok (.aaload, 1) := by decide +kernel
theorem dX8_digest_18 : decode cX8_digest 18 = .ok (.lload_n 1, 1) := by decide +kernel
theorem dX8_digest_19 : decode cX8_digest 19 = .ok (.invokevirtual 305, 3) := by decide +kernel
theorem dX8_digest_22 : decode cX8_digest 22 = .ok (.lstore_n 1, 1) := by decide +kernel
theorem dX8_digest_23 : decode cX8_digest 23 = .ok (.iinc 3 1, 3) := by decide +kernel
theorem dX8_digest_26 : decode cX8_digest 26 = .ok (.goto (-20), 3) := by decide +kernel
theorem dX8_digest_29 : decode cX8_digest 29 = .ok (.iconst 0, 1) := by decide +kernel
theorem dX8_digest_30 : decode cX8_digest 30 = .ok (.istore_n 3, 1) := by decide +kernel
theorem dX8_digest_31 : decode cX8_digest 31 = .ok (.iload_n 3, 1) := by decide +kernel
theorem dX8_digest_32 : decode cX8_digest 32 = .ok (.iconst 4, 1) := by decide +kernel
theorem dX8_digest_33 : decode cX8_digest 33 = .ok (.if_icmp .ge 20, 3) := by decide +kernel
theorem dX8_digest_36 : decode cX8_digest 36 = .ok (.aload_n 0, 1) := by decide +kernel
theorem dX8_digest_37 : decode cX8_digest 37 = .ok (.getfield 17, 3) := by decide +kernel
theorem dX8_digest_40 : decode cX8_digest 40 = .ok (.iload_n 3, 1) := by decide +kernel
theorem dX8_digest_41 : decode cX8_digest 41 = .ok (.aaload, 1) := by decide +kernel
theorem dX8_digest_42 : decode cX8_digest 42 = .ok (.lload_n 1, 1) := by decide +kernel
theorem dX8_digest_43 : decode cX8_digest 43 = .ok (.invokevirtual 309, 3) := by decide +kernel
theorem dX8_digest_46 : decode cX8_digest 46 = .ok (.lstore_n 1, 1) := by decide +kernel
theorem dX8_digest_47 : decode cX8_digest 47 = .ok (.iinc 3 1, 3) := by decide +kernel
theorem dX8_digest_50 : decode cX8_digest 50 = .ok (.goto (-19), 3) := by decide +kernel
theorem dX8_digest_53 : decode cX8_digest 53 = .ok (.iconst 0, 1) := by decide +kernel
theorem dX8_digest_54 : decode cX8_digest 54 = .ok (.istore_n 3, 1) := by decide +kernel
theorem dX8_digest_55 : decode cX8_digest 55 = .ok (.iload_n 3, 1) := by decide +kernel
theorem dX8_digest_56 : decode cX8_digest 56 = .ok (.iconst 4, 1) := by decide +kernel
theorem dX8_digest_57 : decode cX8_digest 57 = .ok (.if_icmp .ge 20, 3) := by decide +kernel
theorem dX8_digest_60 : decode cX8_digest 60 = .ok (.aload_n 0, 1) := by decide +kernel
theorem dX8_digest_61 : decode cX8_digest 61 = .ok (.getfield 23, 3) := by decide +kernel
theorem dX8_digest_64 : decode cX8_digest 64 = .ok (.iload_n 3, 1) := by decide +kernel
theorem dX8_digest_65 : decode cX8_digest 65 = .ok (.aaload, 1) := by decide +kernel
theorem dX8_digest_66 : decode cX8_digest 66 = .ok (.lload_n 1, 1) := by decide +kernel
theorem dX8_digest_67 : decode cX8_digest 67 = .ok (.invokevirtual 310, 3) := by decide +kernel
theorem dX8_digest_70 : decode cX8_digest 70 = .ok (.lstore_n 1, 1) := by decide +kernel
theorem dX8_digest_71 : decode cX8_digest 71 = .ok (.iinc 3 1, 3) := by decide +kernel
theorem dX8_digest_74 : decode cX8_digest 74 = .ok (.goto (-19), 3) := by decide +kernel
theorem dX8_digest_77 : decode cX8_digest 77 = .ok (.lload_n 1, 1) := by decide +kernel
theorem dX8_digest_78 : decode cX8_digest 78 = .ok (.lreturn, 1) := by decide +kernel
theorem dX8_within_0 : decode cX8_within 0 = .ok (.iload_n 0, 1) := by decide +kernel
theorem dX8_within_1 : decode cX8_within 1 = .ok (.iload_n 1, 1) := by decide +kernel
theorem dX8_within_2 : decode cX8_within 2 = .ok (.if_icmp .lt 12, 3) := by decide +kernel
theorem dX8_within_5 : decode cX8_within 5 = .ok (.iload_n 0, 1) := by decide +kernel
theorem dX8_within_6 : decode cX8_within 6 = .ok (.iload_n 2, 1) := by decide +kernel
theorem dX8_within_7 : decode cX8_within 7 = .ok (.if_icmp .gt 7, 3) := by decide +kernel
theorem dX8_within_10 : decode cX8_within 10 = .ok (.iconst 1, 1) := by decide +kernel
theorem dX8_within_11 : decode cX8_within 11 = .ok (.goto 4, 3) := by decide +kernel
theorem dX8_within_14 : decode cX8_within 14 = .ok (.iconst 0, 1) := by decide +kernel
theorem dX8_within_15 : decode cX8_within 15 = .ok (.ireturn, 1) := by decide +kernel
theorem dX8_isFigure_0 : decode cX8_isFigure 0 = .ok (.iload_n 0, 1) := by decide +kernel
theorem dX8_isFigure_1 : decode cX8_isFigure 1 = .ok (.iconst 0, 1) := by decide +kernel
theorem dX8_isFigure_2 : decode cX8_isFigure 2 = .ok (.iconst 5, 1) := by decide +kernel
theorem dX8_isFigure_3 : decode cX8_isFigure 3 = .ok (.invokestatic 83, 3) := by decide +kernel
theorem dX8_isFigure_6 : decode cX8_isFigure 6 = .ok (.ireturn, 1) := by decide +kernel
theorem dX8_isBox_0 : decode cX8_isBox 0 = .ok (.iload_n 0, 1) := by decide +kernel
theorem dX8_isBox_1 : decode cX8_isBox 1 = .ok (.iconst 0, 1) := by decide +kernel
theorem dX8_isBox_2 : decode cX8_isBox 2 = .ok (.iconst 3, 1) := by decide +kernel
theorem dX8_isBox_3 : decode cX8_isBox 3 = .ok (.invokestatic 83, 3) := by decide +kernel
theorem dX8_isBox_6 : decode cX8_isBox 6 = .ok (.ireturn, 1) := by decide +kernel
theorem dX8_isRow_0 : decode cX8_isRow 0 = .ok (.iload_n 0, 1) := by decide +kernel
theorem dX8_isRow_1 : decode cX8_isRow 1 = .ok (.iconst 0, 1) := by decide +kernel
theorem dX8_isRow_2 : decode cX8_isRow 2 = .ok (.iconst 3, 1) := by decide +kernel
theorem dX8_isRow_3 : decode cX8_isRow 3 = .ok (.invokestatic 83, 3) := by decide +kernel
theorem dX8_isRow_6 : decode cX8_isRow 6 = .ok (.ireturn, 1) := by decide +kernel
theorem dX8_isLength_0 : decode cX8_isLength 0 = .ok (.iload_n 0, 1) := by decide +kernel
theorem dX8_isLength_1 : decode cX8_isLength 1 = .ok (.iconst 1, 1) := by decide +kernel
theorem dX8_isLength_2 : decode cX8_isLength 2 = .ok (.iconst 5, 1) := by decide +kernel
theorem dX8_isLength_3 : decode cX8_isLength 3 = .ok (.invokestatic 83, 3) := by decide +kernel
theorem dX8_isLength_6 : decode cX8_isLength 6 = .ok (.ireturn, 1) := by decide +kernel
theorem dX8_isQuarter_0 : decode cX8_isQuarter 0 = .ok (.iload_n 0, 1) := by decide +kernel
theorem dX8_isQuarter_1 : decode cX8_isQuarter 1 = .ok (.iconst 0, 1) := by decide +kernel
theorem dX8_isQuarter_2 : decode cX8_isQuarter 2 = .ok (.iconst 3, 1) := by decide +kernel
theorem dX8_isQuarter_3 : decode cX8_isQuarter 3 = .ok (.invokestatic 83, 3) := by decide +kernel
theorem dX8_isQuarter_6 : decode cX8_isQuarter 6 = .ok (.ireturn, 1) := by decide +kernel
theorem dX8_isSquare_0 : decode cX8_isSquare 0 = .ok (.iload_n 0, 1) := by decide +kernel
theorem dX8_isSquare_1 : decode cX8_isSquare 1 = .ok (.ifCond .lt 13, 3) := by decide +kernel
theorem dX8_isSquare_4 : decode cX8_isSquare 4 = .ok (.iload_n 0, 1) := by decide +kernel
theorem dX8_isSquare_5 : decode cX8_isSquare 5 = .ok (.bipush 64, 2) := by decide +kernel
theorem dX8_isSquare_7 : decode cX8_isSquare 7 = .ok (.if_icmp .ge 7, 3) := by decide +kernel
theorem dX8_isSquare_10 : decode cX8_isSquare 10 = .ok (.iconst 1, 1) := by decide +kernel
theorem dX8_isSquare_11 : decode cX8_isSquare 11 = .ok (.goto 4, 3) := by decide +kernel
theorem dX8_isSquare_14 : decode cX8_isSquare 14 = .ok (.iconst 0, 1) := by decide +kernel
theorem dX8_isSquare_15 : decode cX8_isSquare 15 = .ok (.ireturn, 1) := by decide +kernel
theorem dX8_frameOf_0 : decode cX8_frameOf 0 = .ok (.iconst 4, 1) := by decide +kernel
theorem dX8_frameOf_1 : decode cX8_frameOf 1 = .ok (.iload_n 0, 1) := by decide +kernel
theorem dX8_frameOf_2 : decode cX8_frameOf 2 = .ok (.imul, 1) := by decide +kernel
theorem dX8_frameOf_3 : decode cX8_frameOf 3 = .ok (.iload_n 1, 1) := by decide +kernel
theorem dX8_frameOf_4 : decode cX8_frameOf 4 = .ok (.iadd, 1) := by decide +kernel
theorem dX8_frameOf_5 : decode cX8_frameOf 5 = .ok (.ireturn, 1) := by decide +kernel
theorem dX8_refuse_0 : decode cX8_refuse 0 = .ok (.iload_n 1, 1) := by decide +kernel
theorem dX8_refuse_1 : decode cX8_refuse 1 = .ok (.iconst 1, 1) := by decide +kernel
theorem dX8_refuse_2 : decode cX8_refuse 2 = .ok (.iconst 5, 1) := by decide +kernel
theorem dX8_refuse_3 : decode cX8_refuse 3 = .ok (.invokestatic 83, 3) := by decide +kernel
theorem dX8_refuse_6 : decode cX8_refuse 6 = .ok (.ifCond .eq 18, 3) := by decide +kernel
theorem dX8_refuse_9 : decode cX8_refuse 9 = .ok (.aload_n 0, 1) := by decide +kernel
theorem dX8_refuse_10 : decode cX8_refuse 10 = .ok (.iload_n 1, 1) := by decide +kernel
theorem dX8_refuse_11 : decode cX8_refuse 11 = .ok (.putfield 300, 3) := by decide +kernel
theorem dX8_refuse_14 : decode cX8_refuse 14 = .ok (.aload_n 0, 1) := by decide +kernel
theorem dX8_refuse_15 : decode cX8_refuse 15 = .ok (.getfield 63, 3) := by decide +kernel
theorem dX8_refuse_18 : decode cX8_refuse 18 = .ok (.iload_n 1, 1) := by decide +kernel
theorem dX8_refuse_19 : decode cX8_refuse 19 = .ok (.dup2, 1) := by decide +kernel
theorem dX8_refuse_20 : decode cX8_refuse 20 = .ok (.iaload, 1) := by decide +kernel
theorem dX8_refuse_21 : decode cX8_refuse 21 = .ok (.iconst 1, 1) := by decide +kernel
theorem dX8_refuse_22 : decode cX8_refuse 22 = .ok (.iadd, 1) := by decide +kernel
theorem dX8_refuse_23 : decode cX8_refuse 23 = .ok (.iastore, 1) := by decide +kernel
theorem dX8_refuse_24 : decode cX8_refuse 24 = .ok (.bipush (-3), 2) := by decide +kernel
theorem dX8_refuse_26 : decode cX8_refuse 26 = .ok (.ireturn, 1) := by decide +kernel
theorem dX8_missingCell_0 : decode cX8_missingCell 0 = .ok (.aload_n 0, 1) := by decide +kernel
theorem dX8_missingCell_1 : decode cX8_missingCell 1 = .ok (.invokevirtual 199, 3) := by decide +kernel
theorem dX8_missingCell_4 : decode cX8_missingCell 4 = .ok (.ifCond .ne 5, 3) := by decide +kernel
theorem dX8_missingCell_7 : decode cX8_missingCell 7 = .ok (.iconst 1, 1) := by decide +kernel
theorem dX8_missingCell_8 : decode cX8_missingCell 8 = .ok (.ireturn, 1) := by decide +kernel
theorem dX8_missingCell_9 : decode cX8_missingCell 9 = .ok (.aload_n 0, 1) := by decide +kernel
theorem dX8_missingCell_10 : decode cX8_missingCell 10 = .ok (.iload_n 1, 1) := by decide +kernel
theorem dX8_missingCell_11 : decode cX8_missingCell 11 = .ok (.invokevirtual 311, 3) := by decide +kernel
theorem dX8_missingCell_14 : decode cX8_missingCell 14 = .ok (.ifCond .eq 7, 3) := by decide +kernel
theorem dX8_missingCell_17 : decode cX8_missingCell 17 = .ok (.iconst 0, 1) := by decide +kernel
theorem dX8_missingCell_18 : decode cX8_missingCell 18 = .ok (.goto 4, 3) := by decide +kernel
theorem dX8_missingCell_21 : decode cX8_missingCell 21 = .ok (.iconst 2, 1) := by decide +kernel
theorem dX8_missingCell_22 : decode cX8_missingCell 22 = .ok (.ireturn, 1) := by decide +kernel
theorem dX8_missingToFold_0 : decode cX8_missingToFold 0 = .ok (.aload_n 0, 1) := by decide +kernel
theorem dX8_missingToFold_1 : decode cX8_missingToFold 1 = .ok (.getfield 11, 3) := by decide +kernel
theorem dX8_missingToFold_4 : decode cX8_missingToFold 4 = .ok (.iload_n 1, 1) := by decide +kernel
theorem dX8_missingToFold_5 : decode cX8_missingToFold 5 = .ok (.aaload, 1) := by decide +kernel
theorem dX8_missingToFold_6 : decode cX8_missingToFold 6 = .ok (.invokevirtual 97, 3) := by decide +kernel
theorem dX8_missingToFold_9 : decode cX8_missingToFold 9 = .ok (.ifCond .eq 16, 3) := by decide +kernel
theorem dX8_missingToFold_12 : decode cX8_missingToFold 12 = .ok (.aload_n 0, 1) := by decide +kernel
theorem dX8_missingToFold_13 : decode cX8_missingToFold 13 = .ok (.getfield 17, 3) := by decide +kernel
theorem dX8_missingToFold_16 : decode cX8_missingToFold 16 = .ok (.iload_n 2, 1) := by decide +kernel
theorem dX8_missingToFold_17 : decode cX8_missingToFold 17 = .ok (.aaload, 1) := by decide +kernel
theorem dX8_missingToFold_18 : decode cX8_missingToFold 18 = .ok (.iload_n 3, 1) := by decide +kernel
theorem dX8_missingToFold_19 : decode cX8_missingToFold 19 = .ok (.invokestatic 158, 3) := by decide +kernel
theorem dX8_missingToFold_22 : decode cX8_missingToFold 22 = .ok (.goto 4, 3) := by decide +kernel
theorem dX8_missingToFold_25 : decode cX8_missingToFold 25 = .ok (.iconst 1, 1) := by decide +kernel
theorem dX8_missingToFold_26 : decode cX8_missingToFold 26 = .ok (.ireturn, 1) := by decide +kernel
theorem dX8_layOutTo_0 : decode cX8_layOutTo 0 = .ok (.aload_n 0, 1) := by decide +kernel
theorem dX8_layOutTo_1 : decode cX8_layOutTo 1 = .ok (.getfield 39, 3) := by decide +kernel
theorem dX8_layOutTo_4 : decode cX8_layOutTo 4 = .ok (.aload_n 2, 1) := by decide +kernel
theorem dX8_layOutTo_5 : decode cX8_layOutTo 5 = .ok (.iload_n 3, 1) := by decide +kernel
theorem dX8_layOutTo_6 : decode cX8_layOutTo 6 = .ok (.iconst 0, 1) := by decide +kernel
theorem dX8_layOutTo_7 : decode cX8_layOutTo 7 = .ok (.invokestatic 172, 3) := by decide +kernel
theorem dX8_layOutTo_10 : decode cX8_layOutTo 10 = .ok (.iload 4, 2) := by decide +kernel
theorem dX8_layOutTo_12 : decode cX8_layOutTo 12 = .ok (.aload 5, 2) := by decide +kernel
theorem dX8_layOutTo_14 : decode cX8_layOutTo 14 = .ok (.invokevirtual 314, 3) := by decide +kernel
theorem dX8_layOutTo_17 : decode cX8_layOutTo 17 = .ok (.ifCond .ne 5, 3) := by decide +kernel
theorem dX8_layOutTo_20 : decode cX8_layOutTo 20 = .ok (.iconst 0, 1) := by decide +kernel
theorem dX8_layOutTo_21 : decode cX8_layOutTo 21 = .ok (.ireturn, 1) := by decide +kernel
theorem dX8_layOutTo_22 : decode cX8_layOutTo 22 = .ok (.aload_n 0, 1) := by decide +kernel
theorem dX8_layOutTo_23 : decode cX8_layOutTo 23 = .ok (.getfield 39, 3) := by decide +kernel
theorem dX8_layOutTo_26 : decode cX8_layOutTo 26 = .ok (.aload_n 0, 1) := by decide +kernel
theorem dX8_layOutTo_27 : decode cX8_layOutTo 27 = .ok (.getfield 39, 3) := by decide +kernel
theorem dX8_layOutTo_30 : decode cX8_layOutTo 30 = .ok (.getfield 318, 3) := by decide +kernel
theorem dX8_layOutTo_33 : decode cX8_layOutTo 33 = .ok (.invokestatic 132, 3) := by decide +kernel
theorem dX8_layOutTo_36 : decode cX8_layOutTo 36 = .ok (.invokevirtual 196, 3) := by decide +kernel
theorem dX8_layOutTo_39 : decode cX8_layOutTo 39 = .ok (.istore 6, 2) := by decide +kernel
theorem dX8_layOutTo_41 : decode cX8_layOutTo 41 = .ok (.aload_n 0, 1) := by decide +kernel
theorem dX8_layOutTo_42 : decode cX8_layOutTo 42 = .ok (.getfield 35, 3) := by decide +kernel
theorem dX8_layOutTo_45 : decode cX8_layOutTo 45 = .ok (.aload_n 2, 1) := by decide +kernel
theorem dX8_layOutTo_46 : decode cX8_layOutTo 46 = .ok (.aload_n 0, 1) := by decide +kernel
theorem dX8_layOutTo_47 : decode cX8_layOutTo 47 = .ok (.getfield 39, 3) := by decide +kernel
theorem dX8_layOutTo_50 : decode cX8_layOutTo 50 = .ok (.getfield 318, 3) := by decide +kernel
theorem dX8_layOutTo_53 : decode cX8_layOutTo 53 = .ok (.iload 6, 2) := by decide +kernel
theorem dX8_layOutTo_55 : decode cX8_layOutTo 55 = .ok (.invokevirtual 200, 3) := by decide +kernel
theorem dX8_layOutTo_58 : decode cX8_layOutTo 58 = .ok (.ifCond .ne 5, 3) := by decide +kernel
theorem dX8_layOutTo_61 : decode cX8_layOutTo 61 = .ok (.iconst 1, 1) := by decide +kernel
theorem dX8_layOutTo_62 : decode cX8_layOutTo 62 = .ok (.ireturn, 1) := by decide +kernel
theorem dX8_layOutTo_63 : decode cX8_layOutTo 63 = .ok (.aload_n 1, 1) := by decide +kernel
theorem dX8_layOutTo_64 : decode cX8_layOutTo 64 = .ok (.aload_n 0, 1) := by decide +kernel
theorem dX8_layOutTo_65 : decode cX8_layOutTo 65 = .ok (.getfield 39, 3) := by decide +kernel
theorem dX8_layOutTo_68 : decode cX8_layOutTo 68 = .ok (.getfield 318, 3) := by decide +kernel
theorem dX8_layOutTo_71 : decode cX8_layOutTo 71 = .ok (.iload 6, 2) := by decide +kernel
theorem dX8_layOutTo_73 : decode cX8_layOutTo 73 = .ok (.iconst 2, 1) := by decide +kernel
theorem dX8_layOutTo_74 : decode cX8_layOutTo 74 = .ok (.ishr, 1) := by decide +kernel
theorem dX8_layOutTo_75 : decode cX8_layOutTo 75 = .ok (.aload_n 2, 1) := by decide +kernel
theorem dX8_layOutTo_76 : decode cX8_layOutTo 76 = .ok (.invokevirtual 319, 3) := by decide +kernel
theorem dX8_layOutTo_79 : decode cX8_layOutTo 79 = .ok (.iconst 2, 1) := by decide +kernel
theorem dX8_layOutTo_80 : decode cX8_layOutTo 80 = .ok (.ireturn, 1) := by decide +kernel
theorem dX8_figuresThere_0 : decode cX8_figuresThere 0 = .ok (.iconst 0, 1) := by decide +kernel
theorem dX8_figuresThere_1 : decode cX8_figuresThere 1 = .ok (.istore_n 1, 1) := by decide +kernel
theorem dX8_figuresThere_2 : decode cX8_figuresThere 2 = .ok (.iconst 0, 1) := by decide +kernel
theorem dX8_figuresThere_3 : decode cX8_figuresThere 3 = .ok (.istore_n 2, 1) := by decide +kernel
theorem dX8_figuresThere_4 : decode cX8_figuresThere 4 = .ok (.iload_n 2, 1) := by decide +kernel
theorem dX8_figuresThere_5 : decode cX8_figuresThere 5 = .ok (.bipush 6, 2) := by decide +kernel
theorem dX8_figuresThere_7 : decode cX8_figuresThere 7 = .ok (.if_icmp .ge 29, 3) := by decide +kernel
theorem dX8_figuresThere_10 : decode cX8_figuresThere 10 = .ok (.iload_n 1, 1) := by decide +kernel
theorem dX8_figuresThere_11 : decode cX8_figuresThere 11 = .ok (.aload_n 0, 1) := by decide +kernel
theorem dX8_figuresThere_12 : decode cX8_figuresThere 12 = .ok (.getfield 11, 3) := by decide +kernel
theorem dX8_figuresThere_15 : decode cX8_figuresThere 15 = .ok (.iload_n 2, 1) := by decide +kernel
theorem dX8_figuresThere_16 : decode cX8_figuresThere 16 = .ok (.aaload, 1) := by decide +kernel
theorem dX8_figuresThere_17 : decode cX8_figuresThere 17 = .ok (.invokevirtual 97, 3) := by decide +kernel
theorem dX8_figuresThere_20 : decode cX8_figuresThere 20 = .ok (.ifCond .eq 7, 3) := by decide +kernel
theorem dX8_figuresThere_23 : decode cX8_figuresThere 23 = .ok (.iconst 1, 1) := by decide +kernel
theorem dX8_figuresThere_24 : decode cX8_figuresThere 24 = .ok (.goto 4, 3) := by decide +kernel
theorem dX8_figuresThere_27 : decode cX8_figuresThere 27 = .ok (.iconst 0, 1) := by decide +kernel
theorem dX8_figuresThere_28 : decode cX8_figuresThere 28 = .ok (.iadd, 1) := by decide +kernel
theorem dX8_figuresThere_29 : decode cX8_figuresThere 29 = .ok (.istore_n 1, 1) := by decide +kernel
theorem dX8_figuresThere_30 : decode cX8_figuresThere 30 = .ok (.iinc 2 1, 3) := by decide +kernel
theorem dX8_figuresThere_33 : decode cX8_figuresThere 33 = .ok (.goto (-29), 3) := by decide +kernel
theorem dX8_figuresThere_36 : decode cX8_figuresThere 36 = .ok (.iload_n 1, 1) := by decide +kernel
theorem dX8_figuresThere_37 : decode cX8_figuresThere 37 = .ok (.ireturn, 1) := by decide +kernel
theorem dX8_squaresInAll_0 : decode cX8_squaresInAll 0 = .ok (.iconst 0, 1) := by decide +kernel
theorem dX8_squaresInAll_1 : decode cX8_squaresInAll 1 = .ok (.istore_n 1, 1) := by decide +kernel
theorem dX8_squaresInAll_2 : decode cX8_squaresInAll 2 = .ok (.iconst 0, 1) := by decide +kernel
theorem dX8_squaresInAll_3 : decode cX8_squaresInAll 3 = .ok (.istore_n 2, 1) := by decide +kernel
theorem dX8_squaresInAll_4 : decode cX8_squaresInAll 4 = .ok (.iload_n 2, 1) := by decide +kernel
theorem dX8_squaresInAll_5 : decode cX8_squaresInAll 5 = .ok (.bipush 6, 2) := by decide +kernel
theorem dX8_squaresInAll_7 : decode cX8_squaresInAll 7 = .ok (.if_icmp .ge 24, 3) := by decide +kernel
theorem dX8_squaresInAll_10 : decode cX8_squaresInAll 10 = .ok (.iload_n 1, 1) := by decide +kernel
theorem dX8_squaresInAll_11 : decode cX8_squaresInAll 11 = .ok (.aload_n 0, 1) := by decide +kernel
theorem dX8_squaresInAll_12 : decode cX8_squaresInAll 12 = .ok (.getfield 11, 3) := by decide +kernel
theorem dX8_squaresInAll_15 : decode cX8_squaresInAll 15 = .ok (.iload_n 2, 1) := by decide +kernel
theorem dX8_squaresInAll_16 : decode cX8_squaresInAll 16 = .ok (.aaload, 1) := by decide +kernel
theorem dX8_squaresInAll_17 : decode cX8_squaresInAll 17 = .ok (.getfield 125, 3) := by decide +kernel
theorem dX8_squaresInAll_20 : decode cX8_squaresInAll 20 = .ok (.invokestatic 73, 3) := by decide +kernel
theorem dX8_squaresInAll_23 : decode cX8_squaresInAll 23 = .ok (.iadd, 1) := by decide +kernel
theorem dX8_squaresInAll_24 : decode cX8_squaresInAll 24 = .ok (.istore_n 1, 1) := by decide +kernel
theorem dX8_squaresInAll_25 : decode cX8_squaresInAll 25 = .ok (.iinc 2 1, 3) := by decide +kernel
theorem dX8_squaresInAll_28 : decode cX8_squaresInAll 28 = .ok (.goto (-24), 3) := by decide +kernel
theorem dX8_squaresInAll_31 : decode cX8_squaresInAll 31 = .ok (.iload_n 1, 1) := by decide +kernel
theorem dX8_squaresInAll_32 : decode cX8_squaresInAll 32 = .ok (.ireturn, 1) := by decide +kernel
theorem dX8_boxesThere_0 : decode cX8_boxesThere 0 = .ok (.iconst 0, 1) := by decide +kernel
theorem dX8_boxesThere_1 : decode cX8_boxesThere 1 = .ok (.istore_n 1, 1) := by decide +kernel
theorem dX8_boxesThere_2 : decode cX8_boxesThere 2 = .ok (.iconst 0, 1) := by decide +kernel
theorem dX8_boxesThere_3 : decode cX8_boxesThere 3 = .ok (.istore_n 2, 1) := by decide +kernel
theorem dX8_boxesThere_4 : decode cX8_boxesThere 4 = .ok (.iload_n 2, 1) := by decide +kernel
theorem dX8_boxesThere_5 : decode cX8_boxesThere 5 = .ok (.iconst 4, 1) := by decide +kernel
theorem dX8_boxesThere_6 : decode cX8_boxesThere 6 = .ok (.if_icmp .ge 29, 3) := by decide +kernel
theorem dX8_boxesThere_9 : decode cX8_boxesThere 9 = .ok (.iload_n 1, 1) := by decide +kernel
theorem dX8_boxesThere_10 : decode cX8_boxesThere 10 = .ok (.aload_n 0, 1) := by decide +kernel
theorem dX8_boxesThere_11 : decode cX8_boxesThere 11 = .ok (.getfield 17, 3) := by decide +kernel
theorem dX8_boxesThere_14 : decode cX8_boxesThere 14 = .ok (.iload_n 2, 1) := by decide +kernel
theorem dX8_boxesThere_15 : decode cX8_boxesThere 15 = .ok (.aaload, 1) := by decide +kernel
theorem dX8_boxesThere_16 : decode cX8_boxesThere 16 = .ok (.invokevirtual 199, 3) := by decide +kernel
theorem dX8_boxesThere_19 : decode cX8_boxesThere 19 = .ok (.ifCond .eq 7, 3) := by decide +kernel
theorem dX8_boxesThere_22 : decode cX8_boxesThere 22 = .ok (.iconst 1, 1) := by decide +kernel
theorem dX8_boxesThere_23 : decode cX8_boxesThere 23 = .ok (.goto 4, 3) := by decide +kernel
theorem dX8_boxesThere_26 : decode cX8_boxesThere 26 = .ok (.iconst 0, 1) := by decide +kernel
theorem dX8_boxesThere_27 : decode cX8_boxesThere 27 = .ok (.iadd, 1) := by decide +kernel
theorem dX8_boxesThere_28 : decode cX8_boxesThere 28 = .ok (.istore_n 1, 1) := by decide +kernel
theorem dX8_boxesThere_29 : decode cX8_boxesThere 29 = .ok (.iinc 2 1, 3) := by decide +kernel
theorem dX8_boxesThere_32 : decode cX8_boxesThere 32 = .ok (.goto (-28), 3) := by decide +kernel
theorem dX8_boxesThere_35 : decode cX8_boxesThere 35 = .ok (.iload_n 1, 1) := by decide +kernel
theorem dX8_boxesThere_36 : decode cX8_boxesThere 36 = .ok (.ireturn, 1) := by decide +kernel
theorem dX8_cellsInAll_0 : decode cX8_cellsInAll 0 = .ok (.iconst 0, 1) := by decide +kernel
theorem dX8_cellsInAll_1 : decode cX8_cellsInAll 1 = .ok (.istore_n 1, 1) := by decide +kernel
theorem dX8_cellsInAll_2 : decode cX8_cellsInAll 2 = .ok (.iconst 0, 1) := by decide +kernel
theorem dX8_cellsInAll_3 : decode cX8_cellsInAll 3 = .ok (.istore_n 2, 1) := by decide +kernel
theorem dX8_cellsInAll_4 : decode cX8_cellsInAll 4 = .ok (.iload_n 2, 1) := by decide +kernel
theorem dX8_cellsInAll_5 : decode cX8_cellsInAll 5 = .ok (.iconst 4, 1) := by decide +kernel
theorem dX8_cellsInAll_6 : decode cX8_cellsInAll 6 = .ok (.if_icmp .ge 21, 3) := by decide +kernel
theorem dX8_cellsInAll_9 : decode cX8_cellsInAll 9 = .ok (.iload_n 1, 1) := by decide +kernel
theorem dX8_cellsInAll_10 : decode cX8_cellsInAll 10 = .ok (.aload_n 0, 1) := by decide +kernel
theorem dX8_cellsInAll_11 : decode cX8_cellsInAll 11 = .ok (.getfield 17, 3) := by decide +kernel
theorem dX8_cellsInAll_14 : decode cX8_cellsInAll 14 = .ok (.iload_n 2, 1) := by decide +kernel
theorem dX8_cellsInAll_15 : decode cX8_cellsInAll 15 = .ok (.aaload, 1) := by decide +kernel
theorem dX8_cellsInAll_16 : decode cX8_cellsInAll 16 = .ok (.getfield 118, 3) := by decide +kernel
theorem dX8_cellsInAll_19 : decode cX8_cellsInAll 19 = .ok (.iadd, 1) := by decide +kernel
theorem dX8_cellsInAll_20 : decode cX8_cellsInAll 20 = .ok (.istore_n 1, 1) := by decide +kernel
theorem dX8_cellsInAll_21 : decode cX8_cellsInAll 21 = .ok (.iinc 2 1, 3) := by decide +kernel
theorem dX8_cellsInAll_24 : decode cX8_cellsInAll 24 = .ok (.goto (-20), 3) := by decide +kernel
theorem dX8_cellsInAll_27 : decode cX8_cellsInAll 27 = .ok (.iload_n 1, 1) := by decide +kernel
theorem dX8_cellsInAll_28 : decode cX8_cellsInAll 28 = .ok (.ireturn, 1) := by decide +kernel
theorem dX8_rowsThere_0 : decode cX8_rowsThere 0 = .ok (.iconst 0, 1) := by decide +kernel
theorem dX8_rowsThere_1 : decode cX8_rowsThere 1 = .ok (.istore_n 1, 1) := by decide +kernel
theorem dX8_rowsThere_2 : decode cX8_rowsThere 2 = .ok (.iconst 0, 1) := by decide +kernel
theorem dX8_rowsThere_3 : decode cX8_rowsThere 3 = .ok (.istore_n 2, 1) := by decide +kernel
theorem dX8_rowsThere_4 : decode cX8_rowsThere 4 = .ok (.iload_n 2, 1) := by decide +kernel
theorem dX8_rowsThere_5 : decode cX8_rowsThere 5 = .ok (.iconst 4, 1) := by decide +kernel
theorem dX8_rowsThere_6 : decode cX8_rowsThere 6 = .ok (.if_icmp .ge 29, 3) := by decide +kernel
theorem dX8_rowsThere_9 : decode cX8_rowsThere 9 = .ok (.iload_n 1, 1) := by decide +kernel
theorem dX8_rowsThere_10 : decode cX8_rowsThere 10 = .ok (.aload_n 0, 1) := by decide +kernel
theorem dX8_rowsThere_11 : decode cX8_rowsThere 11 = .ok (.getfield 23, 3) := by decide +kernel
theorem dX8_rowsThere_14 : decode cX8_rowsThere 14 = .ok (.iload_n 2, 1) := by decide +kernel
theorem dX8_rowsThere_15 : decode cX8_rowsThere 15 = .ok (.aaload, 1) := by decide +kernel
theorem dX8_rowsThere_16 : decode cX8_rowsThere 16 = .ok (.invokevirtual 210, 3) := by decide +kernel
theorem dX8_rowsThere_19 : decode cX8_rowsThere 19 = .ok (.ifCond .eq 7, 3) := by decide +kernel
theorem dX8_rowsThere_22 : decode cX8_rowsThere 22 = .ok (.iconst 1, 1) := by decide +kernel
theorem dX8_rowsThere_23 : decode cX8_rowsThere 23 = .ok (.goto 4, 3) := by decide +kernel
theorem dX8_rowsThere_26 : decode cX8_rowsThere 26 = .ok (.iconst 0, 1) := by decide +kernel
theorem dX8_rowsThere_27 : decode cX8_rowsThere 27 = .ok (.iadd, 1) := by decide +kernel
theorem dX8_rowsThere_28 : decode cX8_rowsThere 28 = .ok (.istore_n 1, 1) := by decide +kernel
theorem dX8_rowsThere_29 : decode cX8_rowsThere 29 = .ok (.iinc 2 1, 3) := by decide +kernel
theorem dX8_rowsThere_32 : decode cX8_rowsThere 32 = .ok (.goto (-28), 3) := by decide +kernel
theorem dX8_rowsThere_35 : decode cX8_rowsThere 35 = .ok (.iload_n 1, 1) := by decide +kernel
theorem dX8_rowsThere_36 : decode cX8_rowsThere 36 = .ok (.ireturn, 1) := by decide +kernel
