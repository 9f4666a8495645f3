theorem dX8_init_0 : decode cX8_init 0 = .ok (.aload_n 0, 1) := by decide +kernel
theorem dX8_init_1 : decode cX8_init 1 = .ok (.invokespecial 1, 3) := by decide +kernel
theorem dX8_init_4 : decode cX8_init 4 = .ok (.aload_n 0, 1) := by decide +kernel
theorem dX8_init_5 : decode cX8_init 5 = .ok (.iconst 4, 1) := by decide +kernel
theorem dX8_init_6 : decode cX8_init 6 = .ok (.newarray .int, 2) := by decide +kernel
theorem dX8_init_8 : decode cX8_init 8 = .ok (.putfield 7, 3) := by decide +kernel
theorem dX8_init_11 : decode cX8_init 11 = .ok (.aload_n 0, 1) := by decide +kernel
theorem dX8_init_12 : decode cX8_init 12 = .ok (.iconst 4, 1) := by decide +kernel
theorem dX8_init_13 : decode cX8_init 13 = .ok (.newarray .int, 2) := by decide +kernel
theorem dX8_init_15 : decode cX8_init 15 = .ok (.putfield 13, 3) := by decide +kernel
theorem dX8_init_18 : decode cX8_init 18 = .ok (.aload_n 0, 1) := by decide +kernel
theorem dX8_init_19 : decode cX8_init 19 = .ok (.sipush 240, 3) := by decide +kernel
theorem dX8_init_22 : decode cX8_init 22 = .ok (.newarray .long, 2) := by decide +kernel
theorem dX8_init_24 : decode cX8_init 24 = .ok (.putfield 16, 3) := by decide +kernel
theorem dX8_init_27 : decode cX8_init 27 = .ok (.aload_n 0, 1) := by decide +kernel
theorem dX8_init_28 : decode cX8_init 28 = .ok (.bipush 60, 2) := by decide +kernel
theorem dX8_init_30 : decode cX8_init 30 = .ok (.newarray .long, 2) := by decide +kernel
theorem dX8_init_32 : decode cX8_init 32 = .ok (.putfield 20, 3) := by decide +kernel
theorem dX8_init_35 : decode cX8_init 35 = .ok (.aload_n 0, 1) := by decide +kernel
theorem dX8_init_36 : decode cX8_init 36 = .ok (.sipush 800, 3) := by decide +kernel
theorem dX8_init_39 : decode cX8_init 39 = .ok (.newarray .byte, 2) := by decide +kernel
theorem dX8_init_41 : decode cX8_init 41 = .ok (.putfield 23, 3) := by decide +kernel
theorem dX8_init_44 : decode cX8_init 44 = .ok (.aload_n 0, 1) := by decide +kernel
theorem dX8_init_45 : decode cX8_init 45 = .ok (.iconst (-1), 1) := by decide +kernel
theorem dX8_init_46 : decode cX8_init 46 = .ok (.putfield 27, 3) := by decide +kernel
theorem dX8_init_49 : decode cX8_init 49 = .ok (.aload_n 0, 1) := by decide +kernel
theorem dX8_init_50 : decode cX8_init 50 = .ok (.iconst 5, 1) := by decide +kernel
theorem dX8_init_51 : decode cX8_init 51 = .ok (.newarray .int, 2) := by decide +kernel
theorem dX8_init_53 : decode cX8_init 53 = .ok (.putfield 31, 3) := by decide +kernel
theorem dX8_init_56 : decode cX8_init 56 = .ok (.aload_n 0, 1) := by decide +kernel
theorem dX8_init_57 : decode cX8_init 57 = .ok (.bipush 30, 2) := by decide +kernel
theorem dX8_init_59 : decode cX8_init 59 = .ok (.newarray .int, 2) := by decide +kernel
theorem dX8_init_61 : decode cX8_init 61 = .ok (.putfield 34, 3) := by decide +kernel
theorem dX8_init_64 : decode cX8_init 64 = .ok (.aload_n 0, 1) := by decide +kernel
theorem dX8_init_65 : decode cX8_init 65 = .ok (.sipush 150, 3) := by decide +kernel
theorem dX8_init_68 : decode cX8_init 68 = .ok (.newarray .int, 2) := by decide +kernel
theorem dX8_init_70 : decode cX8_init 70 = .ok (.putfield 37, 3) := by decide +kernel
theorem dX8_init_73 : decode cX8_init 73 = .ok (.aload_n 0, 1) := by decide +kernel
theorem dX8_init_74 : decode cX8_init 74 = .ok (.sipush 800, 3) := by decide +kernel
theorem dX8_init_77 : decode cX8_init 77 = .ok (.newarray .int, 2) := by decide +kernel
theorem dX8_init_79 : decode cX8_init 79 = .ok (.putfield 40, 3) := by decide +kernel
theorem dX8_init_82 : decode cX8_init 82 = .ok (.aload_n 0, 1) := by decide +kernel
theorem dX8_init_83 : decode cX8_init 83 = .ok (.iconst 3, 1) := by decide +kernel
theorem dX8_init_84 : decode cX8_init 84 = .ok (.newarray .boolean, 2) := by decide +kernel
theorem dX8_init_86 : decode cX8_init 86 = .ok (.putfield 43, 3) := by decide +kernel
theorem dX8_init_89 : decode cX8_init 89 = .ok (.aload_n 0, 1) := by decide +kernel
theorem dX8_init_90 : decode cX8_init 90 = .ok (.bipush 30, 2) := by decide +kernel
theorem dX8_init_92 : decode cX8_init 92 = .ok (.newarray .int, 2) := by decide +kernel
theorem dX8_init_94 : decode cX8_init 94 = .ok (.putfield 47, 3) := by decide +kernel
theorem dX8_init_97 : decode cX8_init 97 = .ok (.aload_n 0, 1) := by decide +kernel
theorem dX8_init_98 : decode cX8_init 98 = .ok (.bipush 6, 2) := by decide +kernel
theorem dX8_init_100 : decode cX8_init 100 = .ok (.newarray .int, 2) := by decide +kernel
theorem dX8_init_102 : decode cX8_init 102 = .ok (.putfield 50, 3) := by decide +kernel
theorem dX8_init_105 : decode cX8_init 105 = .ok (.aload_n 0, 1) := by decide +kernel
theorem dX8_init_106 : decode cX8_init 106 = .ok (.bipush 6, 2) := by decide +kernel
theorem dX8_init_108 : decode cX8_init 108 = .ok (.newarray .int, 2) := by decide +kernel
theorem dX8_init_110 : decode cX8_init 110 = .ok (.putfield 53, 3) := by decide +kernel
theorem dX8_init_113 : decode cX8_init 113 = .ok (.aload_n 0, 1) := by decide +kernel
theorem dX8_init_114 : decode cX8_init 114 = .ok (.bipush 6, 2) := by decide +kernel
theorem dX8_init_116 : decode cX8_init 116 = .ok (.newarray .int, 2) := by decide +kernel
theorem dX8_init_118 : decode cX8_init 118 = .ok (.putfield 56, 3) := by decide +kernel
theorem dX8_init_121 : decode cX8_init 121 = .ok (.aload_n 0, 1) := by decide +kernel
theorem dX8_init_122 : decode cX8_init 122 = .ok (.bipush 6, 2) := by decide +kernel
theorem dX8_init_124 : decode cX8_init 124 = .ok (.newarray .int, 2) := by decide +kernel
theorem dX8_init_126 : decode cX8_init 126 = .ok (.putfield 59, 3) := by decide +kernel
theorem dX8_init_129 : decode cX8_init 129 = .ok (.aload_n 0, 1) := by decide +kernel
theorem dX8_init_130 : decode cX8_init 130 = .ok (.bipush 6, 2) := by decide +kernel
theorem dX8_init_132 : decode cX8_init 132 = .ok (.newarray .int, 2) := by decide +kernel
theorem dX8_init_134 : decode cX8_init 134 = .ok (.putfield 62, 3) := by decide +kernel
theorem dX8_init_137 : decode cX8_init 137 = .ok (.aload_n 0, 1) := by decide +kernel
theorem dX8_init_138 : decode cX8_init 138 = .ok (.bipush 6, 2) := by decide +kernel
theorem dX8_init_140 : decode cX8_init 140 = .ok (.newarray .int, 2) := by decide +kernel
theorem dX8_init_142 : decode cX8_init 142 = .ok (.putfield 65, 3) := by decide +kernel
theorem dX8_init_145 : decode cX8_init 145 = .ok (.aload_n 0, 1) := by decide +kernel
theorem dX8_init_146 : decode cX8_init 146 = .ok (.bipush 6, 2) := by decide +kernel
theorem dX8_init_148 : decode cX8_init 148 = .ok (.newarray .int, 2) := by decide +kernel
theorem dX8_init_150 : decode cX8_init 150 = .ok (.putfield 68, 3) := by decide +kernel
theorem dX8_init_153 : decode cX8_init 153 = .ok (.iconst 0, 1) := by decide +kernel
theorem dX8_init_154 : decode cX8_init 154 = .ok (.istore_n 1, 1) := by decide +kernel
theorem dX8_init_155 : decode cX8_init 155 = .ok (.iload_n 1, 1) := by decide +kernel
theorem dX8_init_156 : decode cX8_init 156 = .ok (.iconst 4, 1) := by decide +kernel
theorem dX8_init_157 : decode cX8_init 157 = .ok (.if_icmp .ge 16, 3) := by decide +kernel
theorem dX8_init_160 : decode cX8_init 160 = .ok (.aload_n 0, 1) := by decide +kernel
theorem dX8_init_161 : decode cX8_init 161 = .ok (.getfield 7, 3) := by decide +kernel
theorem dX8_init_164 : decode cX8_init 164 = .ok (.iload_n 1, 1) := by decide +kernel
theorem dX8_init_165 : decode cX8_init 165 = .ok (.iconst (-1), 1) := by decide +kernel
theorem dX8_init_166 : decode cX8_init 166 = .ok (.iastore, 1) := by decide +kernel
theorem dX8_init_167 : decode cX8_init 167 = .ok (.iinc 1 1, 3) := by decide +kernel
theorem dX8_init_170 : decode cX8_init 170 = .ok (.goto (-15), 3) := by decide +kernel
theorem dX8_init_173 : decode cX8_init 173 = .ok (.return_, 1) := by decide +kernel
theorem dX8_in_0 : decode cX8_in 0 = .ok (.lload_n 0, 1) := by decide +kernel
theorem dX8_in_1 : decode cX8_in 1 = .ok (.lload_n 2, 1) := by decide +kernel
theorem dX8_in_2 : decode cX8_in 2 = .ok (.lcmp, 1) := by decide +kernel
theorem dX8_in_3 : decode cX8_in 3 = .ok (.ifCond .lt 14, 3) := by decide +kernel
theorem dX8_in_6 : decode cX8_in 6 = .ok (.lload_n 0, 1) := by decide +kernel
theorem dX8_in_7 : decode cX8_in 7 = .ok (.lload 4, 2) := by decide +kernel
theorem dX8_in_9 : decode cX8_in 9 = .ok (.lcmp, 1) := by decide +kernel
theorem dX8_in_10 : decode cX8_in 10 = .ok (.ifCond .gt 7, 3) := by decide +kernel
theorem dX8_in_13 : decode cX8_in 13 = .ok (.iconst 1, 1) := by decide +kernel
theorem dX8_in_14 : decode cX8_in 14 = .ok (.goto 4, 3) := by decide +kernel
theorem dX8_in_17 : decode cX8_in 17 = .ok (.iconst 0, 1) := by decide +kernel
theorem dX8_in_18 : decode cX8_in 18 = .ok (.ireturn, 1) := by decide +kernel
theorem dX8_isSlot_0 : decode cX8_isSlot 0 = .ok (.iload_n 0, 1) := by decide +kernel
theorem dX8_isSlot_1 : decode cX8_isSlot 1 = .ok (.i2l, 1) := by decide +kernel
theorem dX8_isSlot_2 : decode cX8_isSlot 2 = .ok (.lconst 0, 1) := by decide +kernel
theorem dX8_isSlot_3 : decode cX8_isSlot 3 = .ok (.ldc2_w 74, 3) := by decide +kernel
theorem dX8_isSlot_6 : decode cX8_isSlot 6 = .ok (.invokestatic 76, 3) := by decide +kernel
theorem dX8_isSlot_9 : decode cX8_isSlot 9 = .ok (.ireturn, 1) := by decide +kernel
theorem dX8_row_0 : decode cX8_row 0 = .ok (.aload_n 0, 1) := by decide +kernel
theorem dX8_row_1 : decode cX8_row 1 = .ok (.iconst 0, 1) := by decide +kernel
theorem dX8_row_2 : decode cX8_row 2 = .ok (.putfield 71, 3) := by decide +kernel
theorem dX8_row_5 : decode cX8_row 5 = .ok (.iload_n 1, 1) := by decide +kernel
theorem dX8_row_6 : decode cX8_row 6 = .ok (.invokestatic 80, 3) := by decide +kernel
theorem dX8_row_9 : decode cX8_row 9 = .ok (.ifCond .eq 21, 3) := by decide +kernel
theorem dX8_row_12 : decode cX8_row 12 = .ok (.iload_n 2, 1) := by decide +kernel
theorem dX8_row_13 : decode cX8_row 13 = .ok (.i2l, 1) := by decide +kernel
theorem dX8_row_14 : decode cX8_row 14 = .ok (.lconst 0, 1) := by decide +kernel
theorem dX8_row_15 : decode cX8_row 15 = .ok (.ldc2_w 74, 3) := by decide +kernel
theorem dX8_row_18 : decode cX8_row 18 = .ok (.invokestatic 76, 3) := by decide +kernel
theorem dX8_row_21 : decode cX8_row 21 = .ok (.ifCond .eq 9, 3) := by decide +kernel
theorem dX8_row_24 : decode cX8_row 24 = .ok (.iload_n 3, 1) := by decide +kernel
theorem dX8_row_25 : decode cX8_row 25 = .ok (.bipush 60, 2) := by decide +kernel
theorem dX8_row_27 : decode cX8_row 27 = .ok (.if_icmp .le 6, 3) := by decide +kernel
theorem dX8_row_30 : decode cX8_row 30 = .ok (.bipush (-2), 2) := by decide +kernel
theorem dX8_row_32 : decode cX8_row 32 = .ok (.ireturn, 1) := by decide +kernel
theorem dX8_row_33 : decode cX8_row 33 = .ok (.iload_n 3, 1) := by decide +kernel
theorem dX8_row_34 : decode cX8_row 34 = .ok (.ifCond .ge 6, 3) := by decide +kernel
theorem dX8_row_37 : decode cX8_row 37 = .ok (.bipush (-3), 2) := by decide +kernel
theorem dX8_row_39 : decode cX8_row 39 = .ok (.ireturn, 1) := by decide +kernel
theorem dX8_row_40 : decode cX8_row 40 = .ok (.aload_n 0, 1) := by decide +kernel
theorem dX8_row_41 : decode cX8_row 41 = .ok (.getfield 7, 3) := by decide +kernel
theorem dX8_row_44 : decode cX8_row 44 = .ok (.iload_n 1, 1) := by decide +kernel
theorem dX8_row_45 : decode cX8_row 45 = .ok (.iload_n 2, 1) := by decide +kernel
theorem dX8_row_46 : decode cX8_row 46 = .ok (.iastore, 1) := by decide +kernel
theorem dX8_row_47 : decode cX8_row 47 = .ok (.aload_n 0, 1) := by decide +kernel
theorem dX8_row_48 : decode cX8_row 48 = .ok (.getfield 13, 3) := by decide +kernel
theorem dX8_row_51 : decode cX8_row 51 = .ok (.iload_n 1, 1) := by decide +kernel
theorem dX8_row_52 : decode cX8_row 52 = .ok (.iload_n 3, 1) := by decide +kernel
theorem dX8_row_53 : decode cX8_row 53 = .ok (.iastore, 1) := by decide +kernel
theorem dX8_row_54 : decode cX8_row 54 = .ok (.iconst 0, 1) := by decide +kernel
theorem dX8_row_55 : decode cX8_row 55 = .ok (.istore 4, 2) := by decide +kernel
theorem dX8_row_57 : decode cX8_row 57 = .ok (.iload 4, 2) := by decide +kernel
theorem dX8_row_59 : decode cX8_row 59 = .ok (.iload_n 3, 1) := by decide +kernel
theorem dX8_row_60 : decode cX8_row 60 = .ok (.if_icmp .ge 22, 3) := by decide +kernel
theorem dX8_row_63 : decode cX8_row 63 = .ok (.aload_n 0, 1) := by decide +kernel
theorem dX8_row_64 : decode cX8_row 64 = .ok (.getfield 16, 3) := by decide +kernel
theorem dX8_row_67 : decode cX8_row 67 = .ok (.bipush 60, 2) := by decide +kernel
theorem dX8_row_69 : decode cX8_row 69 = .ok (.iload_n 1, 1) := by decide +kernel
theorem dX8_row_70 : decode cX8_row 70 = .ok (.imul, 1) := by decide +kernel
theorem dX8_row_71 : decode cX8_row 71 = .ok (.iload 4, 2) := by decide +kernel
theorem dX8_row_73 : decode cX8_row 73 = .ok (.iadd, 1) := by decide +kernel
theorem dX8_row_74 : decode cX8_row 74 = .ok (.lconst 0, 1) := by decide +kernel
theorem dX8_row_75 : decode cX8_row 75 = .ok (.lastore, 1) := by decide +kernel
theorem dX8_row_76 : decode cX8_row 76 = .ok (.iinc 4 1, 3) := by decide +kernel
theorem dX8_row_79 : decode cX8_row 79 = .ok (.goto (-22), 3) := by decide +kernel
theorem dX8_row_82 : decode cX8_row 82 = .ok (.iconst 0, 1) := by decide +kernel
theorem dX8_row_83 : decode cX8_row 83 = .ok (.ireturn, 1) := by decide +kernel
theorem dX8_cut_0 : decode cX8_cut 0 = .ok (.iload_n 2, 1) := by decide +kernel
theorem dX8_cut_1 : decode cX8_cut 1 = .ok (.ifCond .ne 10, 3) := by decide +kernel
theorem dX8_cut_4 : decode cX8_cut 4 = .ok (.lload_n 0, 1) := by decide +kernel
theorem dX8_cut_5 : decode cX8_cut 5 = .ok (.l2i, 1) := by decide +kernel
theorem dX8_cut_6 : decode cX8_cut 6 = .ok (.i2b, 1) := by decide +kernel
theorem dX8_cut_7 : decode cX8_cut 7 = .ok (.i2l, 1) := by decide +kernel
theorem dX8_cut_8 : decode cX8_cut 8 = .ok (.goto 27, 3) := by decide +kernel
theorem dX8_cut_11 : decode cX8_cut 11 = .ok (.iload_n 2, 1) := by decide +kernel
theorem dX8_cut_12 : decode cX8_cut 12 = .ok (.iconst 1, 1) := by decide +kernel
theorem dX8_cut_13 : decode cX8_cut 13 = .ok (.if_icmp .ne 10, 3) := by decide +kernel
theorem dX8_cut_16 : decode cX8_cut 16 = .ok (.lload_n 0, 1) := by decide +kernel
theorem dX8_cut_17 : decode cX8_cut 17 = .ok (.l2i, 1) := by decide +kernel
theorem dX8_cut_18 : decode cX8_cut 18 = .ok (.i2s, 1) := by decide +kernel
theorem dX8_cut_19 : decode cX8_cut 19 = .ok (.i2l, 1) := by decide +kernel
theorem dX8_cut_20 : decode cX8_cut 20 = .ok (.goto 15, 3) := by decide +kernel
theorem dX8_cut_23 : decode cX8_cut 23 = .ok (.iload_n 2, 1) := by decide +kernel
theorem dX8_cut_24 : decode cX8_cut 24 = .ok (.iconst 2, 1) := by decide +kernel
theorem dX8_cut_25 : decode cX8_cut 25 = .ok (.if_icmp .ne 9, 3) := by decide +kernel
theorem dX8_cut_28 : decode cX8_cut 28 = .ok (.lload_n 0, 1) := by decide +kernel
theorem dX8_cut_29 : decode cX8_cut 29 = .ok (.l2i, 1) := by decide +kernel
theorem dX8_cut_30 : decode cX8_cut 30 = .ok (.i2l, 1) := by decide +kernel
theorem dX8_cut_31 : decode cX8_cut 31 = .ok (.goto 4, 3) := by decide +kernel
theorem dX8_cut_34 : decode cX8_cut 34 = .ok (.lload_n 0, 1) := by decide +kernel
theorem dX8_cut_35 : decode cX8_cut 35 = .ok (.lreturn, 1) := by decide +kernel
theorem dX8_write_0 : decode cX8_write 0 = .ok (.aload_n 0, 1) := by decide +kernel
theorem dX8_write_1 : decode cX8_write 1 = .ok (.iconst 0, 1) := by decide +kernel
theorem dX8_write_2 : decode cX8_write 2 = .ok (.putfield 71, 3) := by decide +kernel
theorem dX8_write_5 : decode cX8_write 5 = .ok (.iload_n 1, 1) := by decide +kernel
theorem dX8_write_6 : decode cX8_write 6 = .ok (.invokestatic 80, 3) := by decide +kernel
theorem dX8_write_9 : decode cX8_write 9 = .ok (.ifCond .ne 6, 3) := by decide +kernel
theorem dX8_write_12 : decode cX8_write 12 = .ok (.bipush (-2), 2) := by decide +kernel
theorem dX8_write_14 : decode cX8_write 14 = .ok (.ireturn, 1) := by decide +kernel
theorem dX8_write_15 : decode cX8_write 15 = .ok (.aload_n 0, 1) := by decide +kernel
theorem dX8_write_16 : decode cX8_write 16 = .ok (.getfield 7, 3) := by decide +kernel
theorem dX8_write_19 : decode cX8_write 19 = .ok (.iload_n 1, 1) := by decide +kernel
theorem dX8_write_20 : decode cX8_write 20 = .ok (.iaload, 1) := by decide +kernel
theorem dX8_write_21 : decode cX8_write 21 = .ok (.iconst (-1), 1) := by decide +kernel
theorem dX8_write_22 : decode cX8_write 22 = .ok (.if_icmp .ne 6, 3) := by decide +kernel
theorem dX8_write_25 : decode cX8_write 25 = .ok (.bipush (-6), 2) := by decide +kernel
theorem dX8_write_27 : decode cX8_write 27 = .ok (.ireturn, 1) := by decide +kernel
theorem dX8_write_28 : decode cX8_write 28 = .ok (.iload_n 2, 1) := by decide +kernel
theorem dX8_write_29 : decode cX8_write 29 = .ok (.i2l, 1) := by decide +kernel
theorem dX8_write_30 : decode cX8_write 30 = .ok (.lconst 0, 1) := by decide +kernel
theorem dX8_write_31 : decode cX8_write 31 = .ok (.aload_n 0, 1) := by decide +kernel
theorem dX8_write_32 : decode cX8_write 32 = .ok (.getfield 13, 3) := by decide +kernel
theorem dX8_write_35 : decode cX8_write 35 = .ok (.iload_n 1, 1) := by decide +kernel
theorem dX8_write_36 : decode cX8_write 36 = .ok (.iaload, 1) := by decide +kernel
theorem dX8_write_37 : decode cX8_write 37 = .ok (.iconst 1, 1) := by decide +kernel
theorem dX8_write_38 : decode cX8_write 38 = .ok (.isub, 1) := by decide +kernel
theorem dX8_write_39 : decode cX8_write 39 = .ok (.i2l, 1) := by decide +kernel
theorem dX8_write_40 : decode cX8_write 40 = .ok (.invokestatic 76, 3) := by decide +kernel
theorem dX8_write_43 : decode cX8_write 43 = .ok (.ifCond .ne 6, 3) := by decide +kernel
theorem dX8_write_46 : decode cX8_write 46 = .ok (.bipush (-7), 2) := by decide +kernel
theorem dX8_write_48 : decode cX8_write 48 = .ok (.ireturn, 1) := by decide +kernel
theorem dX8_write_49 : decode cX8_write 49 = .ok (.aload_n 0, 1) := by decide +kernel
theorem dX8_write_50 : decode cX8_write 50 = .ok (.getfield 16, 3) := by decide +kernel
theorem dX8_write_53 : decode cX8_write 53 = .ok (.bipush 60, 2) := by decide +kernel
theorem dX8_write_55 : decode cX8_write 55 = .ok (.iload_n 1, 1) := by decide +kernel
theorem dX8_write_56 : decode cX8_write 56 = .ok (.imul, 1) := by decide +kernel
theorem dX8_write_57 : decode cX8_write 57 = .ok (.iload_n 2, 1) := by decide +kernel
theorem dX8_write_58 : decode cX8_write 58 = .ok (.iadd, 1) := by decide +kernel
theorem dX8_write_59 : decode cX8_write 59 = .ok (.lload_n 3, 1) := by decide +kernel
theorem dX8_write_60 : decode cX8_write 60 = .ok (.aload_n 0, 1) := by decide +kernel
theorem dX8_write_61 : decode cX8_write 61 = .ok (.getfield 7, 3) := by decide +kernel
theorem dX8_write_64 : decode cX8_write 64 = .ok (.iload_n 1, 1) := by decide +kernel
theorem dX8_write_65 : decode cX8_write 65 = .ok (.iaload, 1) := by decide +kernel
theorem dX8_write_66 : decode cX8_write 66 = .ok (.invokestatic 84, 3) := by decide +kernel
theorem dX8_write_69 : decode cX8_write 69 = .ok (.lastore, 1) := by decide +kernel
theorem dX8_write_70 : decode cX8_write 70 = .ok (.iconst 0, 1) := by decide +kernel
theorem dX8_write_71 : decode cX8_write 71 = .ok (.ireturn, 1) := by decide +kernel
theorem dX8_paste_0 : decode cX8_paste 0 = .ok (.aload_n 0, 1) := by decide +kernel
theorem dX8_paste_1 : decode cX8_paste 1 = .ok (.iconst 0, 1) := by decide +kernel
theorem dX8_paste_2 : decode cX8_paste 2 = .ok (.putfield 71, 3) := by decide +kernel
theorem dX8_paste_5 : decode cX8_paste 5 = .ok (.iload_n 1, 1) := by decide +kernel
theorem dX8_paste_6 : decode cX8_paste 6 = .ok (.invokestatic 80, 3) := by decide +kernel
theorem dX8_paste_9 : decode cX8_paste 9 = .ok (.ifCond .eq 10, 3) := by decide +kernel
theorem dX8_paste_12 : decode cX8_paste 12 = .ok (.iload_n 3, 1) := by decide +kernel
theorem dX8_paste_13 : decode cX8_paste 13 = .ok (.invokestatic 80, 3) := by decide +kernel
theorem dX8_paste_16 : decode cX8_paste 16 = .ok (.ifCond .ne 6, 3) := by decide +kernel
theorem dX8_paste_19 : decode cX8_paste 19 = .ok (.bipush (-2), 2) := by decide +kernel
theorem dX8_paste_21 : decode cX8_paste 21 = .ok (.ireturn, 1) := by decide +kernel
theorem dX8_paste_22 : decode cX8_paste 22 = .ok (.aload_n 0, 1) := by decide +kernel
theorem dX8_paste_23 : decode cX8_paste 23 = .ok (.getfield 7, 3) := by decide +kernel
theorem dX8_paste_26 : decode cX8_paste 26 = .ok (.iload_n 1, 1) := by decide +kernel
theorem dX8_paste_27 : decode cX8_paste 27 = .ok (.iaload, 1) := by decide +kernel
theorem dX8_paste_28 : decode cX8_paste 28 = .ok (.iconst (-1), 1) := by decide +kernel
theorem dX8_paste_29 : decode cX8_paste 29 = .ok (.if_icmp .eq 13, 3) := by decide +kernel
theorem dX8_paste_32 : decode cX8_paste 32 = .ok (.aload_n 0, 1) := by decide +kernel
theorem dX8_paste_33 : decode cX8_paste 33 = .ok (.getfield 7, 3) := by decide +kernel
theorem dX8_paste_36 : decode cX8_paste 36 = .ok (.iload_n 3, 1) := by decide +kernel
theorem dX8_paste_37 : decode cX8_paste 37 = .ok (.iaload, 1) := by decide +kernel
theorem dX8_paste_38 : decode cX8_paste 38 = .ok (.iconst (-1), 1) := by decide +kernel
theorem dX8_paste_39 : decode cX8_paste 39 = .ok (.if_icmp .ne 6, 3) := by decide +kernel
theorem dX8_paste_42 : decode cX8_paste 42 = .ok (.bipush (-6), 2) := by decide +kernel
theorem dX8_paste_44 : decode cX8_paste 44 = .ok (.ireturn, 1) := by decide +kernel
theorem dX8_paste_45 : decode cX8_paste 45 = .ok (.aload_n 0, 1) := by decide +kernel
theorem dX8_paste_46 : decode cX8_paste 46 = .ok (.getfield 7, 3) := by decide +kernel
theorem dX8_paste_49 : decode cX8_paste 49 = .ok (.iload_n 1, 1) := by decide +kernel
theorem dX8_paste_50 : decode cX8_paste 50 = .ok (.iaload, 1) := by decide +kernel
theorem dX8_paste_51 : decode cX8_paste 51 = .ok (.aload_n 0, 1) := by decide +kernel
theorem dX8_paste_52 : decode cX8_paste 52 = .ok (.getfield 7, 3) := by decide +kernel
theorem dX8_paste_55 : decode cX8_paste 55 = .ok (.iload_n 3, 1) := by decide +kernel
theorem dX8_paste_56 : decode cX8_paste 56 = .ok (.iaload, 1) := by decide +kernel
theorem dX8_paste_57 : decode cX8_paste 57 = .ok (.if_icmp .eq 6, 3) := by decide +kernel
theorem dX8_paste_60 : decode cX8_paste 60 = .ok (.bipush (-8), 2) := by decide +kernel
theorem dX8_paste_62 : decode cX8_paste 62 = .ok (.ireturn, 1) := by decide +kernel
theorem dX8_paste_63 : decode cX8_paste 63 = .ok (.iload_n 2, 1) := by decide +kernel
theorem dX8_paste_64 : decode cX8_paste 64 = .ok (.ifCond .lt 48, 3) := by decide +kernel
theorem dX8_paste_67 : decode cX8_paste 67 = .ok (.iload 4, 2) := by decide +kernel
theorem dX8_paste_69 : decode cX8_paste 69 = .ok (.ifCond .lt 43, 3) := by decide +kernel
theorem dX8_paste_72 : decode cX8_paste 72 = .ok (.iload 5, 2) := by decide +kernel
theorem dX8_paste_74 : decode cX8_paste 74 = .ok (.ifCond .lt 38, 3) := by decide +kernel
theorem dX8_paste_77 : decode cX8_paste 77 = .ok (.iload_n 2, 1) := by decide +kernel
theorem dX8_paste_78 : decode cX8_paste 78 = .ok (.i2l, 1) := by decide +kernel
theorem dX8_paste_79 : decode cX8_paste 79 = .ok (.iload 5, 2) := by decide +kernel
theorem dX8_paste_81 : decode cX8_paste 81 = .ok (.i2l, 1) := by decide +kernel
theorem dX8_paste_82 : decode cX8_paste 82 = .ok (.ladd, 1) := by decide +kernel
theorem dX8_paste_83 : decode cX8_paste 83 = .ok (.aload_n 0, 1) := by decide +kernel
theorem dX8_paste_84 : decode cX8_paste 84 = .ok (.getfield 13, 3) := by decide +kernel
theorem dX8_paste_87 : decode cX8_paste 87 = .ok (.iload_n 1, 1) := by decide +kernel
theorem dX8_paste_88 : decode cX8_paste 88 = .ok (.iaload, 1) := by decide +kernel
theorem dX8_paste_89 : decode cX8_paste 89 = .ok (.i2l, 1) := by decide +kernel
theorem dX8_paste_90 : decode cX8_paste 90 = .ok (.lcmp, 1) := by decide +kernel
theorem dX8_paste_91 : decode cX8_paste 91 = .ok (.ifCond .gt 21, 3) := by decide +kernel
theorem dX8_paste_94 : decode cX8_paste 94 = .ok (.iload 4, 2) := by decide +kernel
theorem dX8_paste_96 : decode cX8_paste 96 = .ok (.i2l, 1) := by decide +kernel
theorem dX8_paste_97 : decode cX8_paste 97 = .ok (.iload 5, 2) := by decide +kernel
theorem dX8_paste_99 : decode cX8_paste 99 = .ok (.i2l, 1) := by decide +kernel
theorem dX8_paste_100 : decode cX8_paste 100 = .ok (.ladd, 1) := by decide +kernel
theorem dX8_paste_101 : decode cX8_paste 101 = .ok (.aload_n 0, 1) := by decide +kernel
theorem dX8_paste_102 : decode cX8_paste 102 = .ok (.getfield 13, 3) := by decide +kernel
theorem dX8_paste_105 : decode cX8_paste 105 = .ok (.iload_n 3, 1) := by decide +kernel
theorem dX8_paste_106 : decode cX8_paste 106 = .ok (.iaload, 1) := by decide +kernel
theorem dX8_paste_107 : decode cX8_paste 107 = .ok (.i2l, 1) := by decide +kernel
theorem dX8_paste_108 : decode cX8_paste 108 = .ok (.lcmp, 1) := by decide +kernel
theorem dX8_paste_109 : decode cX8_paste 109 = .ok (.ifCond .le 6, 3) := by decide +kernel
theorem dX8_paste_112 : decode cX8_paste 112 = .ok (.bipush (-7), 2) := by decide +kernel
theorem dX8_paste_114 : decode cX8_paste 114 = .ok (.ireturn, 1) := by decide +kernel
theorem dX8_paste_115 : decode cX8_paste 115 = .ok (.iconst 0, 1) := by decide +kernel
theorem dX8_paste_116 : decode cX8_paste 116 = .ok (.istore 6, 2) := by decide +kernel
theorem dX8_paste_118 : decode cX8_paste 118 = .ok (.iload 6, 2) := by decide +kernel
theorem dX8_paste_120 : decode cX8_paste 120 = .ok (.iload 5, 2) := by decide +kernel
theorem dX8_paste_122 : decode cX8_paste 122 = .ok (.if_icmp .ge 30, 3) := by decide +kernel
theorem dX8_paste_125 : decode cX8_paste 125 = .ok (.aload_n 0, 1) := by decide +kernel
theorem dX8_paste_126 : decode cX8_paste 126 = .ok (.getfield 20, 3) := by decide +kernel
theorem dX8_paste_129 : decode cX8_paste 129 = .ok (.iload 6, 2) := by decide +kernel
theorem dX8_paste_131 : decode cX8_paste 131 = .ok (.aload_n 0, 1) := by decide +kernel
theorem dX8_paste_132 : decode cX8_paste 132 = .ok (.getfield 16, 3) := by decide +kernel
theorem dX8_paste_135 : decode cX8_paste 135 = .ok (.bipush 60, 2) := by decide +kernel
theorem dX8_paste_137 : decode cX8_paste 137 = .ok (.iload_n 1, 1) := by decide +kernel
theorem dX8_paste_138 : decode cX8_paste 138 = .ok (.imul, 1) := by decide +kernel
theorem dX8_paste_139 : decode cX8_paste 139 = .ok (.iload_n 2, 1) := by decide +kernel
theorem dX8_paste_140 : decode cX8_paste 140 = .ok (.iadd, 1) := by decide +kernel
theorem dX8_paste_141 : decode cX8_paste 141 = .ok (.iload 6, 2) := by decide +kernel
theorem dX8_paste_143 : decode cX8_paste 143 = .ok (.iadd, 1) := by decide +kernel
theorem dX8_paste_144 : decode cX8_paste 144 = .ok (.laload, 1) := by decide +kernel
theorem dX8_paste_145 : decode cX8_paste 145 = .ok (.lastore, 1) := by decide +kernel
theorem dX8_paste_146 : decode cX8_paste 146 = .ok (.iinc 6 1, 3) := by decide +kernel
theorem dX8_paste_149 : decode cX8_paste 149 = .ok (.goto (-31), 3) := by decide +kernel
theorem dX8_paste_152 : decode cX8_paste 152 = .ok (.iconst 0, 1) := by decide +kernel
theorem dX8_paste_153 : decode cX8_paste 153 = .ok (.istore 6, 2) := by decide +kernel
theorem dX8_paste_155 : decode cX8_paste 155 = .ok (.iload 6, 2) := by decide +kernel
theorem dX8_paste_157 : decode cX8_paste 157 = .ok (.iload 5, 2) := by decide +kernel
theorem dX8_paste_159 : decode cX8_paste 159 = .ok (.if_icmp .ge 31, 3) := by decide +kernel
theorem dX8_paste_162 : decode cX8_paste 162 = .ok (.aload_n 0, 1) := by decide +kernel
theorem dX8_paste_163 : decode cX8_paste 163 = .ok (.getfield 16, 3) := by decide +kernel
theorem dX8_paste_166 : decode cX8_paste 166 = .ok (.bipush 60, 2) := by decide +kernel
theorem dX8_paste_168 : decode cX8_paste 168 = .ok (.iload_n 3, 1) := by decide +kernel
theorem dX8_paste_169 : decode cX8_paste 169 = .ok (.imul, 1) := by decide +kernel
theorem dX8_paste_170 : decode cX8_paste 170 = .ok (.iload 4, 2) := by decide +kernel
theorem dX8_paste_172 : decode cX8_paste 172 = .ok (.iadd, 1) := by decide +kernel
theorem dX8_paste_173 : decode cX8_paste 173 = .ok (.iload 6, 2) := by decide +kernel
theorem dX8_paste_175 : decode cX8_paste 175 = .ok (.iadd, 1) := by decide +kernel
theorem dX8_paste_176 : decode cX8_paste 176 = .ok (.aload_n 0, 1) := by decide +kernel
theorem dX8_paste_177 : decode cX8_paste 177 = .ok (.getfield 20, 3) := by decide +kernel
theorem dX8_paste_180 : decode cX8_paste 180 = .ok (.iload 6, 2) := by decide +kernel
theorem dX8_paste_182 : decode cX8_paste 182 = .ok (.laload, 1) := by decide +kernel
theorem dX8_paste_183 : decode cX8_paste 183 = .ok (.lastore, 1) := by decide +kernel
theorem dX8_paste_184 : decode cX8_paste 184 = .ok (.iinc 6 1, 3) := by decide +kernel
theorem dX8_paste_187 : decode cX8_paste 187 = .ok (.goto (-32), 3) := by decide +kernel
theorem dX8_paste_190 : decode cX8_paste 190 = .ok (.iconst 0, 1) := by decide +kernel
theorem dX8_paste_191 : decode cX8_paste 191 = .ok (.ireturn, 1) := by decide +kernel
theorem dX8_feed_0 : decode cX8_feed 0 = .ok (.aload_n 0, 1) := by decide +kernel
theorem dX8_feed_1 : decode cX8_feed 1 = .ok (.iconst 0, 1) := by decide +kernel
theorem dX8_feed_2 : decode cX8_feed 2 = .ok (.putfield 71, 3) := by decide +kernel
theorem dX8_feed_5 : decode cX8_feed 5 = .ok (.aload_n 0, 1) := by decide +kernel
theorem dX8_feed_6 : decode cX8_feed 6 = .ok (.getfield 88, 3) := by decide +kernel
theorem dX8_feed_9 : decode cX8_feed 9 = .ok (.bipush 20, 2) := by decide +kernel
theorem dX8_feed_11 : decode cX8_feed 11 = .ok (.iadd, 1) := by decide +kernel
theorem dX8_feed_12 : decode cX8_feed 12 = .ok (.sipush 800, 3) := by decide +kernel
theorem dX8_feed_15 : decode cX8_feed 15 = .ok (.if_icmp .le 5, 3) := by decide +kernel
theorem dX8_feed_18 : decode cX8_feed 18 = .ok (.iconst (-1), 1) := by decide +kernel
theorem dX8_feed_19 : decode cX8_feed 19 = .ok (.ireturn, 1) := by decide +kernel
theorem dX8_feed_20 : decode cX8_feed 20 = .ok (.aload_n 0, 1) := by decide +kernel
theorem dX8_feed_21 : decode cX8_feed 21 = .ok (.iload_n 1, 1) := by decide +kernel
theorem dX8_feed_22 : decode cX8_feed 22 = .ok (.invokevirtual 91, 3) := by decide +kernel
theorem dX8_feed_25 : decode cX8_feed 25 = .ok (.aload_n 0, 1) := by decide +kernel
theorem dX8_feed_26 : decode cX8_feed 26 = .ok (.iload_n 2, 1) := by decide +kernel
theorem dX8_feed_27 : decode cX8_feed 27 = .ok (.invokevirtual 91, 3) := by decide +kernel
theorem dX8_feed_30 : decode cX8_feed 30 = .ok (.aload_n 0, 1) := by decide +kernel
theorem dX8_feed_31 : decode cX8_feed 31 = .ok (.iload_n 3, 1) := by decide +kernel
theorem dX8_feed_32 : decode cX8_feed 32 = .ok (.invokevirtual 91, 3) := by decide +kernel
theorem dX8_feed_35 : decode cX8_feed 35 = .ok (.aload_n 0, 1) := by decide +kernel
theorem dX8_feed_36 : decode cX8_feed 36 = .ok (.iload 4, 2) := by decide +kernel
theorem dX8_feed_38 : decode cX8_feed 38 = .ok (.invokevirtual 91, 3) := by decide +kernel
theorem dX8_feed_41 : decode cX8_feed 41 = .ok (.aload_n 0, 1) := by decide +kernel
theorem dX8_feed_42 : decode cX8_feed 42 = .ok (.iload 5, 2) := by decide +kernel
theorem dX8_feed_44 : decode cX8_feed 44 = .ok (.invokevirtual 91, 3) := by decide +kernel
theorem dX8_feed_47 : decode cX8_feed 47 = .ok (.aload_n 0, 1) := by decide +kernel
theorem dX8_feed_48 : decode cX8_feed 48 = .ok (.getfield 88, 3) := by decide +kernel
theorem dX8_feed_51 : decode cX8_feed 51 = .ok (.ireturn, 1) := by decide +kernel
theorem dX8_four_0 : decode cX8_four 0 = .ok (.bipush 24, 2) := by decide +kernel
theorem dX8_four_2 : decode cX8_four 2 = .ok (.istore_n 2, 1) := by decide +kernel
theorem dX8_four_3 : decode cX8_four 3 = .ok (.iload_n 2, 1) := by decide +kernel
theorem dX8_four_4 : decode cX8_four 4 = .ok (.ifCond .lt 32, 3) := by decide +kernel
theorem dX8_four_7 : decode cX8_four 7 = .ok (.aload_n 0, 1) := by decide +kernel
theorem dX8_four_8 : decode cX8_four 8 = .ok (.getfield 23, 3) := by decide +kernel
theorem dX8_four_11 : decode cX8_four 11 = .ok (.aload_n 0, 1) := by decide +kernel
theorem dX8_four_12 : decode cX8_four 12 = .ok (.getfield 88, 3) := by decide +kernel
theorem dX8_four_15 : decode cX8_four 15 = .ok (.iload_n 1, 1) := by decide +kernel
theorem dX8_four_16 : decode cX8_four 16 = .ok (.iload_n 2, 1) := by decide +kernel
theorem dX8_four_17 : decode cX8_four 17 = .ok (.ishr, 1) := by decide +kernel
theorem dX8_four_18 : decode cX8_four 18 = .ok (.i2b, 1) := by decide +kernel
theorem dX8_four_19 : decode cX8_four 19 = .ok (.bastore, 1) := by decide +kernel
theorem dX8_four_20 : decode cX8_four 20 = .ok (.aload_n 0, 1) := by decide +kernel
theorem dX8_four_21 : decode cX8_four 21 = .ok (.dup, 1) := by decide +kernel
theorem dX8_four_22 : decode cX8_four 22 = .ok (.getfield 88, 3) := by decide +kernel
theorem dX8_four_25 : decode cX8_four 25 = .ok (.iconst 1, 1) := by decide +kernel
theorem dX8_four_26 : decode cX8_four 26 = .ok (.iadd, 1) := by decide +kernel
theorem dX8_four_27 : decode cX8_four 27 = .ok (.putfield 88, 3) := by decide +kernel
theorem dX8_four_30 : decode cX8_four 30 = .ok (.iinc 2 (-8), 3) := by decide +kernel
theorem dX8_four_33 : decode cX8_four 33 = .ok (.goto (-30), 3) := by decide +kernel
theorem dX8_four_36 : decode cX8_four 36 = .ok (.return_, 1) := by decide +kernel
theorem dX8_end_0 : decode cX8_end 0 = .ok (.aload_n 0, 1) := by decide +kernel
theorem dX8_end_1 : decode cX8_end 1 = .ok (.iconst 0, 1) := by decide +kernel
theorem dX8_end_2 : decode cX8_end 2 = .ok (.putfield 71, 3) := by decide +kernel
theorem dX8_end_5 : decode cX8_end 5 = .ok (.iload_n 1, 1) := by decide +kernel
theorem dX8_end_6 : decode cX8_end 6 = .ok (.i2l, 1) := by decide +kernel
theorem dX8_end_7 : decode cX8_end 7 = .ok (.lconst 0, 1) := by decide +kernel
theorem dX8_end_8 : decode cX8_end 8 = .ok (.aload_n 0, 1) := by decide +kernel
theorem dX8_end_9 : decode cX8_end 9 = .ok (.getfield 88, 3) := by decide +kernel
theorem dX8_end_12 : decode cX8_end 12 = .ok (.i2l, 1) := by decide +kernel
theorem dX8_end_13 : decode cX8_end 13 = .ok (.invokestatic 76, 3) := by decide +kernel
theorem dX8_end_16 : decode cX8_end 16 = .ok (.ifCond .ne 5, 3) := by decide +kernel
theorem dX8_end_19 : decode cX8_end 19 = .ok (.iconst (-1), 1) := by decide +kernel
theorem dX8_end_20 : decode cX8_end 20 = .ok (.ireturn, 1) := by decide +kernel
theorem dX8_end_21 : decode cX8_end 21 = .ok (.aload_n 0, 1) := by decide +kernel
theorem dX8_end_22 : decode cX8_end 22 = .ok (.iload_n 1, 1) := by decide +kernel
theorem dX8_end_23 : decode cX8_end 23 = .ok (.putfield 88, 3) := by decide +kernel
theorem dX8_end_26 : decode cX8_end 26 = .ok (.iload_n 1, 1) := by decide +kernel
theorem dX8_end_27 : decode cX8_end 27 = .ok (.ireturn, 1) := by decide +kernel
theorem dX8_isByte_0 : decode cX8_isByte 0 = .ok (.iload_n 1, 1) := by decide +kernel
theorem dX8_isByte_1 : decode cX8_isByte 1 = .ok (.aload_n 0, 1) := by decide +kernel
theorem dX8_isByte_2 : decode cX8_isByte 2 = .ok (.getfield 88, 3) := by decide +kernel
theorem dX8_isByte_5 : decode cX8_isByte 5 = .ok (.if_icmp .ge 27, 3) := by decide +kernel
theorem dX8_isByte_8 : decode cX8_isByte 8 = .ok (.aload_n 0, 1) := by decide +kernel
theorem dX8_isByte_9 : decode cX8_isByte 9 = .ok (.getfield 23, 3) := by decide +kernel
theorem dX8_isByte_12 : decode cX8_isByte 12 = .ok (.iload_n 1, 1) := by decide +kernel
theorem dX8_isByte_13 : decode cX8_isByte 13 = .ok (.baload, 1) := by decide +kernel
theorem dX8_isByte_14 : decode cX8_isByte 14 = .ok (.iload_n 2, 1) := by decide +kernel
theorem dX8_isByte_15 : decode cX8_isByte 15 = .ok (.if_icmp .lt 17, 3) := by decide +kernel
theorem dX8_isByte_18 : decode cX8_isByte 18 = .ok (.aload_n 0, 1) := by decide +kernel
theorem dX8_isByte_19 : decode cX8_isByte 19 = .ok (.getfield 23, 3) := by decide +kernel
theorem dX8_isByte_22 : decode cX8_isByte 22 = .ok (.iload_n 1, 1) := by decide +kernel
theorem dX8_isByte_23 : decode cX8_isByte 23 = .ok (.baload, 1) := by decide +kernel
theorem dX8_isByte_24 : decode cX8_isByte 24 = .ok (.iload_n 3, 1) := by decide +kernel
theorem dX8_isByte_25 : decode cX8_isByte 25 = .ok (.if_icmp .gt 7, 3) := by decide +kernel
theorem dX8_isByte_28 : decode cX8_isByte 28 = .ok (.iconst 1, 1) := by decide +kernel
theorem dX8_isByte_29 : decode cX8_isByte 29 = .ok (.goto 4, 3) := by decide +kernel
theorem dX8_isByte_32 : decode cX8_isByte 32 = .ok (.iconst 0, 1) := by decide +kernel
theorem dX8_isByte_33 : decode cX8_isByte 33 = .ok (.ireturn, 1) := by decide +kernel
theorem dX8_next_0 : decode cX8_next 0 = .ok (.aload_n 0, 1) := by decide +kernel
theorem dX8_next_1 : decode cX8_next 1 = .ok (.aload_n 0, 1) := by decide +kernel
theorem dX8_next_2 : decode cX8_next 2 = .ok (.getfield 95, 3) := by decide +kernel
theorem dX8_next_5 : decode cX8_next 5 = .ok (.bipush 32, 2) := by decide +kernel
theorem dX8_next_7 : decode cX8_next 7 = .ok (.bipush 32, 2) := by decide +kernel
theorem dX8_next_9 : decode cX8_next 9 = .ok (.invokevirtual 98, 3) := by decide +kernel
theorem dX8_next_12 : decode cX8_next 12 = .ok (.ifCond .ne 18, 3) := by decide +kernel
theorem dX8_next_15 : decode cX8_next 15 = .ok (.aload_n 0, 1) := by decide +kernel
theorem dX8_next_16 : decode cX8_next 16 = .ok (.aload_n 0, 1) := by decide +kernel
theorem dX8_next_17 : decode cX8_next 17 = .ok (.getfield 95, 3) := by decide +kernel
theorem dX8_next_20 : decode cX8_next 20 = .ok (.bipush 10, 2) := by decide +kernel
theorem dX8_next_22 : decode cX8_next 22 = .ok (.bipush 10, 2) := by decide +kernel
theorem dX8_next_24 : decode cX8_next 24 = .ok (.invokevirtual 98, 3) := by decide +kernel
theorem dX8_next_27 : decode cX8_next 27 = .ok (.ifCond .eq 16, 3) := by decide +kernel
theorem dX8_next_30 : decode cX8_next 30 = .ok (.aload_n 0, 1) := by decide +kernel
theorem dX8_next_31 : decode cX8_next 31 = .ok (.dup, 1) := by decide +kernel
theorem dX8_next_32 : decode cX8_next 32 = .ok (.getfield 95, 3) := by decide +kernel
theorem dX8_next_35 : decode cX8_next 35 = .ok (.iconst 1, 1) := by decide +kernel
theorem dX8_next_36 : decode cX8_next 36 = .ok (.iadd, 1) := by decide +kernel
theorem dX8_next_37 : decode cX8_next 37 = .ok (.putfield 95, 3) := by decide +kernel
theorem dX8_next_40 : decode cX8_next 40 = .ok (.goto (-40), 3) := by decide +kernel
theorem dX8_next_43 : decode cX8_next 43 = .ok (.aload_n 0, 1) := by decide +kernel
theorem dX8_next_44 : decode cX8_next 44 = .ok (.aload_n 0, 1) := by decide +kernel
theorem dX8_next_45 : decode cX8_next 45 = .ok (.getfield 95, 3) := by decide +kernel
theorem dX8_next_48 : decode cX8_next 48 = .ok (.putfield 102, 3) := by decide +kernel
theorem dX8_next_51 : decode cX8_next 51 = .ok (.aload_n 0, 1) := by decide +kernel
theorem dX8_next_52 : decode cX8_next 52 = .ok (.iconst 0, 1) := by decide +kernel
theorem dX8_next_53 : decode cX8_next 53 = .ok (.putfield 105, 3) := by decide +kernel
theorem dX8_next_56 : decode cX8_next 56 = .ok (.aload_n 0, 1) := by decide +kernel
theorem dX8_next_57 : decode cX8_next 57 = .ok (.lconst 0, 1) := by decide +kernel
theorem dX8_next_58 : decode cX8_next 58 = .ok (.putfield 108, 3) := by decide +kernel
theorem dX8_next_61 : decode cX8_next 61 = .ok (.aload_n 0, 1) := by decide +kernel
theorem dX8_next_62 : decode cX8_next 62 = .ok (.getfield 95, 3) := by decide +kernel
theorem dX8_next_65 : decode cX8_next 65 = .ok (.aload_n 0, 1) := by decide +kernel
theorem dX8_next_66 : decode cX8_next 66 = .ok (.getfield 88, 3) := by decide +kernel
theorem dX8_next_69 : decode cX8_next 69 = .ok (.if_icmp .ne 11, 3) := by decide +kernel
theorem dX8_next_72 : decode cX8_next 72 = .ok (.aload_n 0, 1) := by decide +kernel
theorem dX8_next_73 : decode cX8_next 73 = .ok (.iconst 0, 1) := by decide +kernel
theorem dX8_next_74 : decode cX8_next 74 = .ok (.putfield 112, 3) := by decide +kernel
theorem dX8_next_77 : decode cX8_next 77 = .ok (.goto 230, 3) := by decide +kernel
theorem dX8_next_80 : decode cX8_next 80 = .ok (.aload_n 0, 1) := by decide +kernel
theorem dX8_next_81 : decode cX8_next 81 = .ok (.aload_n 0, 1) := by decide +kernel
theorem dX8_next_82 : decode cX8_next 82 = .ok (.getfield 95, 3) := by decide +kernel
theorem dX8_next_85 : decode cX8_next 85 = .ok (.bipush 97, 2) := by decide +kernel
theorem dX8_next_87 : decode cX8_next 87 = .ok (.bipush 122, 2) := by decide +kernel
theorem dX8_next_89 : decode cX8_next 89 = .ok (.invokevirtual 98, 3) := by decide +kernel
theorem dX8_next_92 : decode cX8_next 92 = .ok (.ifCond .eq 96, 3) := by decide +kernel
theorem dX8_next_95 : decode cX8_next 95 = .ok (.aload_n 0, 1) := by decide +kernel
theorem dX8_next_96 : decode cX8_next 96 = .ok (.iconst 1, 1) := by decide +kernel
theorem dX8_next_97 : decode cX8_next 97 = .ok (.putfield 112, 3) := by decide +kernel
theorem dX8_next_100 : decode cX8_next 100 = .ok (.iconst 0, 1) := by decide +kernel
theorem dX8_next_101 : decode cX8_next 101 = .ok (.istore_n 1, 1) := by decide +kernel
theorem dX8_next_102 : decode cX8_next 102 = .ok (.aload_n 0, 1) := by decide +kernel
theorem dX8_next_103 : decode cX8_next 103 = .ok (.aload_n 0, 1) := by decide +kernel
theorem dX8_next_104 : decode cX8_next 104 = .ok (.getfield 95, 3) := by decide +kernel
theorem dX8_next_107 : decode cX8_next 107 = .ok (.bipush 97, 2) := by decide +kernel
theorem dX8_next_109 : decode cX8_next 109 = .ok (.bipush 122, 2) := by decide +kernel
theorem dX8_next_111 : decode cX8_next 111 = .ok (.invokevirtual 98, 3) := by decide +kernel
theorem dX8_next_114 : decode cX8_next 114 = .ok (.ifCond .eq 71, 3) := by decide +kernel
theorem dX8_next_117 : decode cX8_next 117 = .ok (.aload_n 0, 1) := by decide +kernel
theorem dX8_next_118 : decode cX8_next 118 = .ok (.iload_n 1, 1) := by decide +kernel
theorem dX8_next_119 : decode cX8_next 119 = .ok (.bipush 11, 2) := by decide +kernel
theorem dX8_next_121 : decode cX8_next 121 = .ok (.if_icmp .le 9, 3) := by decide +kernel
theorem dX8_next_124 : decode cX8_next 124 = .ok (.ldc2_w 115, 3) := by decide +kernel
theorem dX8_next_127 : decode cX8_next 127 = .ok (.goto 26, 3) := by decide +kernel
theorem dX8_next_130 : decode cX8_next 130 = .ok (.ldc2_w 117, 3) := by decide +kernel
theorem dX8_next_133 : decode cX8_next 133 = .ok (.aload_n 0, 1) := by decide +kernel
theorem dX8_next_134 : decode cX8_next 134 = .ok (.getfield 108, 3) := by decide +kernel
theorem dX8_next_137 : decode cX8_next 137 = .ok (.lmul, 1) := by decide +kernel
theorem dX8_next_138 : decode cX8_next 138 = .ok (.aload_n 0, 1) := by decide +kernel
theorem dX8_next_139 : decode cX8_next 139 = .ok (.getfield 23, 3) := by decide +kernel
theorem dX8_next_142 : decode cX8_next 142 = .ok (.aload_n 0, 1) := by decide +kernel
theorem dX8_next_143 : decode cX8_next 143 = .ok (.getfield 95, 3) := by decide +kernel
theorem dX8_next_146 : decode cX8_next 146 = .ok (.baload, 1) := by decide +kernel
theorem dX8_next_147 : decode cX8_next 147 = .ok (.i2l, 1) := by decide +kernel
theorem dX8_next_148 : decode cX8_next 148 = .ok (.ladd, 1) := by decide +kernel
theorem dX8_next_149 : decode cX8_next 149 = .ok (.ldc2_w 119, 3) := by decide +kernel
theorem dX8_next_152 : decode cX8_next 152 = .ok (.lsub, 1) := by decide +kernel
theorem dX8_next_153 : decode cX8_next 153 = .ok (.putfield 108, 3) := by decide +kernel
theorem dX8_next_156 : decode cX8_next 156 = .ok (.iload_n 1, 1) := by decide +kernel
theorem dX8_next_157 : decode cX8_next 157 = .ok (.bipush 11, 2) := by decide +kernel
theorem dX8_next_159 : decode cX8_next 159 = .ok (.if_icmp .le 10, 3) := by decide +kernel
theorem dX8_next_162 : decode cX8_next 162 = .ok (.aload_n 0, 1) := by decide +kernel
theorem dX8_next_163 : decode cX8_next 163 = .ok (.ldc2_w 115, 3) := by decide +kernel
theorem dX8_next_166 : decode cX8_next 166 = .ok (.putfield 108, 3) := by decide +kernel
theorem dX8_next_169 : decode cX8_next 169 = .ok (.aload_n 0, 1) := by decide +kernel
theorem dX8_next_170 : decode cX8_next 170 = .ok (.dup, 1) := by decide +kernel
theorem dX8_next_171 : decode cX8_next 171 = .ok (.getfield 95, 3) := by decide +kernel
theorem dX8_next_174 : decode cX8_next 174 = .ok (.iconst 1, 1) := by decide +kernel
theorem dX8_next_175 : decode cX8_next 175 = .ok (.iadd, 1) := by decide +kernel
theorem dX8_next_176 : decode cX8_next 176 = .ok (.putfield 95, 3) := by decide +kernel
theorem dX8_next_179 : decode cX8_next 179 = .ok (.iinc 1 1, 3) := by decide +kernel
theorem dX8_next_182 : decode cX8_next 182 = .ok (.goto (-80), 3) := by decide +kernel
theorem dX8_next_185 : decode cX8_next 185 = .ok (.goto 122, 3) := by decide +kernel
theorem dX8_next_188 : decode cX8_next 188 = .ok (.aload_n 0, 1) := by decide +kernel
theorem dX8_next_189 : decode cX8_next 189 = .ok (.aload_n 0, 1) := by decide +kernel
theorem dX8_next_190 : decode cX8_next 190 = .ok (.getfield 95, 3) := by decide +kernel
theorem dX8_next_193 : decode cX8_next 193 = .ok (.bipush 48, 2) := by decide +kernel
theorem dX8_next_195 : decode cX8_next 195 = .ok (.bipush 57, 2) := by decide +kernel
theorem dX8_next_197 : decode cX8_next 197 = .ok (.invokevirtual 98, 3) := by decide +kernel
theorem dX8_next_200 : decode cX8_next 200 = .ok (.ifCond .eq 74, 3) := by decide +kernel
theorem dX8_next_203 : decode cX8_next 203 = .ok (.aload_n 0, 1) := by decide +kernel
theorem dX8_next_204 : decode cX8_next 204 = .ok (.iconst 2, 1) := by decide +kernel
theorem dX8_next_205 : decode cX8_next 205 = .ok (.putfield 112, 3) := by decide +kernel
theorem dX8_next_208 : decode cX8_next 208 = .ok (.aload_n 0, 1) := by decide +kernel
theorem dX8_next_209 : decode cX8_next 209 = .ok (.aload_n 0, 1) := by decide +kernel
theorem dX8_next_210 : decode cX8_next 210 = .ok (.getfield 95, 3) := by decide +kernel
theorem dX8_next_213 : decode cX8_next 213 = .ok (.bipush 48, 2) := by decide +kernel
theorem dX8_next_215 : decode cX8_next 215 = .ok (.bipush 57, 2) := by decide +kernel
theorem dX8_next_217 : decode cX8_next 217 = .ok (.invokevirtual 98, 3) := by decide +kernel
theorem dX8_next_220 : decode cX8_next 220 = .ok (.ifCond .eq 87, 3) := by decide +kernel
theorem dX8_next_223 : decode cX8_next 223 = .ok (.aload_n 0, 1) := by decide +kernel
theorem dX8_next_224 : decode cX8_next 224 = .ok (.aload_n 0, 1) := by decide +kernel
theorem dX8_next_225 : decode cX8_next 225 = .ok (.getfield 105, 3) := by decide +kernel
theorem dX8_next_228 : decode cX8_next 228 = .ok (.ldc 121, 2) := by decide +kernel
theorem dX8_next_230 : decode cX8_next 230 = .ok (.if_icmp .le 8, 3) := by decide +kernel
theorem dX8_next_233 : decode cX8_next 233 = .ok (.ldc 122, 2) := by decide +kernel
theorem dX8_next_235 : decode cX8_next 235 = .ok (.goto 23, 3) := by decide +kernel
theorem dX8_next_238 : decode cX8_next 238 = .ok (.bipush 10, 2) := by decide +kernel
theorem dX8_next_240 : decode cX8_next 240 = .ok (.aload_n 0, 1) := by decide +kernel
theorem dX8_next_241 : decode cX8_next 241 = .ok (.getfield 105, 3) := by decide +kernel
theorem dX8_next_244 : decode cX8_next 244 = .ok (.imul, 1) := by decide +kernel
theorem dX8_next_245 : decode cX8_next 245 = .ok (.aload_n 0, 1) := by decide +kernel
theorem dX8_next_246 : decode cX8_next 246 = .ok (.getfield 23, 3) := by decide +kernel
theorem dX8_next_249 : decode cX8_next 249 = .ok (.aload_n 0, 1) := by decide +kernel
theorem dX8_next_250 : decode cX8_next 250 = .ok (.getfield 95, 3) := by decide +kernel
theorem dX8_next_253 : decode cX8_next 253 = .ok (.baload, 1) := by decide +kernel
theorem dX8_next_254 : decode cX8_next 254 = .ok (.iadd, 1) := by decide +kernel
theorem dX8_next_255 : decode cX8_next 255 = .ok (.bipush 48, 2) := by decide +kernel
theorem dX8_next_257 : decode cX8_next 257 = .ok (.isub, 1) := by decide +kernel
theorem dX8_next_258 : decode cX8_next 258 = .ok (.putfield 105, 3) := by decide +kernel
theorem dX8_next_261 : decode cX8_next 261 = .ok (.aload_n 0, 1) := by decide +kernel
theorem dX8_next_262 : decode cX8_next 262 = .ok (.dup, 1) := by decide +kernel
theorem dX8_next_263 : decode cX8_next 263 = .ok (.getfield 95, 3) := by decide +kernel
theorem dX8_next_266 : decode cX8_next 266 = .ok (.iconst 1, 1) := by decide +kernel
theorem dX8_next_267 : decode cX8_next 267 = .ok (.iadd, 1) := by decide +kernel
theorem dX8_next_268 : decode cX8_next 268 = .ok (.putfield 95, 3) := by decide +kernel
theorem dX8_next_271 : decode cX8_next 271 = .ok (.goto (-63), 3) := by decide +kernel
theorem dX8_next_274 : decode cX8_next 274 = .ok (.aload_n 0, 1) := by decide +kernel
theorem dX8_next_275 : decode cX8_next 275 = .ok (.aload_n 0, 1) := by decide +kernel
theorem dX8_next_276 : decode cX8_next 276 = .ok (.getfield 23, 3) := by decide +kernel
theorem dX8_next_279 : decode cX8_next 279 = .ok (.aload_n 0, 1) := by decide +kernel
theorem dX8_next_280 : decode cX8_next 280 = .ok (.getfield 95, 3) := by decide +kernel
theorem dX8_next_283 : decode cX8_next 283 = .ok (.baload, 1) := by decide +kernel
theorem dX8_next_284 : decode cX8_next 284 = .ok (.bipush 59, 2) := by decide +kernel
theorem dX8_next_286 : decode cX8_next 286 = .ok (.if_icmp .ne 7, 3) := by decide +kernel
theorem dX8_next_289 : decode cX8_next 289 = .ok (.iconst 3, 1) := by decide +kernel
theorem dX8_next_290 : decode cX8_next 290 = .ok (.goto 4, 3) := by decide +kernel
theorem dX8_next_293 : decode cX8_next 293 = .ok (.iconst 4, 1) := by decide +kernel
theorem dX8_next_294 : decode cX8_next 294 = .ok (.putfield 112, 3) := by decide +kernel
theorem dX8_next_297 : decode cX8_next 297 = .ok (.aload_n 0, 1) := by decide +kernel
theorem dX8_next_298 : decode cX8_next 298 = .ok (.dup, 1) := by decide +kernel
theorem dX8_next_299 : decode cX8_next 299 = .ok (.getfield 95, 3) := by decide +kernel
theorem dX8_next_302 : decode cX8_next 302 = .ok (.iconst 1, 1) := by decide +kernel
theorem dX8_next_303 : decode cX8_next 303 = .ok (.iadd, 1) := by decide +kernel
theorem dX8_next_304 : decode cX8_next 304 = .ok (.putfield 95, 3) := by decide +kernel
theorem dX8_next_307 : decode cX8_next 307 = .ok (.return_, 1) := by decide +kernel
theorem dX8_isGood_0 : decode cX8_isGood 0 = .ok (.aload_n 0, 1) := by decide +kernel
theorem dX8_isGood_1 : decode cX8_isGood 1 = .ok (.getfield 123, 3) := by decide +kernel
theorem dX8_isGood_4 : decode cX8_isGood 4 = .ok (.ifCond .ne 7, 3) := by decide +kernel
theorem dX8_isGood_7 : decode cX8_isGood 7 = .ok (.iconst 1, 1) := by decide +kernel
theorem dX8_isGood_8 : decode cX8_isGood 8 = .ok (.goto 4, 3) := by decide +kernel
theorem dX8_isGood_11 : decode cX8_isGood 11 = .ok (.iconst 0, 1) := by decide +kernel
theorem dX8_isGood_12 : decode cX8_isGood 12 = .ok (.ireturn, 1) := by decide +kernel
theorem dX8_fails_0 : decode cX8_fails 0 = .ok (.aload_n 0, 1) := by decide +kernel
theorem dX8_fails_1 : decode cX8_fails 1 = .ok (.getfield 123, 3) := by decide +kernel
theorem dX8_fails_4 : decode cX8_fails 4 = .ok (.ifCond .eq 4, 3) := by decide +kernel
theorem dX8_fails_7 : decode cX8_fails 7 = .ok (.return_, 1) := by decide +kernel
theorem dX8_fails_8 : decode cX8_fails 8 = .ok (.aload_n 0, 1) := by decide +kernel
theorem dX8_fails_9 : decode cX8_fails 9 = .ok (.iload_n 1, 1) := by decide +kernel
theorem dX8_fails_10 : decode cX8_fails 10 = .ok (.putfield 123, 3) := by decide +kernel
theorem dX8_fails_13 : decode cX8_fails 13 = .ok (.aload_n 0, 1) := by decide +kernel
theorem dX8_fails_14 : decode cX8_fails 14 = .ok (.aload_n 0, 1) := by decide +kernel
theorem dX8_fails_15 : decode cX8_fails 15 = .ok (.getfield 102, 3) := by decide +kernel
theorem dX8_fails_18 : decode cX8_fails 18 = .ok (.putfield 126, 3) := by decide +kernel
theorem dX8_fails_21 : decode cX8_fails 21 = .ok (.return_, 1) := by decide +kernel
theorem dX8_is_0 : decode cX8_is 0 = .ok (.aload_n 0, 1) := by decide +kernel
theorem dX8_is_1 : decode cX8_is 1 = .ok (.getfield 123, 3) := by decide +kernel
theorem dX8_is_4 : decode cX8_is 4 = .ok (.ifCond .ne 24, 3) := by decide +kernel
theorem dX8_is_7 : decode cX8_is 7 = .ok (.aload_n 0, 1) := by decide +kernel
theorem dX8_is_8 : decode cX8_is 8 = .ok (.getfield 112, 3) := by decide +kernel
theorem dX8_is_11 : decode cX8_is 11 = .ok (.iconst 1, 1) := by decide +kernel
theorem dX8_is_12 : decode cX8_is 12 = .ok (.if_icmp .ne 16, 3) := by decide +kernel
theorem dX8_is_15 : decode cX8_is 15 = .ok (.aload_n 0, 1) := by decide +kernel
theorem dX8_is_16 : decode cX8_is 16 = .ok (.getfield 108, 3) := by decide +kernel
theorem dX8_is_19 : decode cX8_is 19 = .ok (.lload_n 1, 1) := by decide +kernel
theorem dX8_is_20 : decode cX8_is 20 = .ok (.lcmp, 1) := by decide +kernel
theorem dX8_is_21 : decode cX8_is 21 = .ok (.ifCond .ne 7, 3) := by decide +kernel
theorem dX8_is_24 : decode cX8_is 24 = .ok (.iconst 1, 1) := by decide +kernel
theorem dX8_is_25 : decode cX8_is 25 = .ok (.goto 4, 3) := by decide +kernel
theorem dX8_is_28 : decode cX8_is 28 = .ok (.iconst 0, 1) := by decide +kernel
theorem dX8_is_29 : decode cX8_is 29 = .ok (.ireturn, 1) := by decide +kernel
theorem dX8_takes_0 : decode cX8_takes 0 = .ok (.aload_n 0, 1) := by decide +kernel
theorem dX8_takes_1 : decode cX8_takes 1 = .ok (.lload_n 1, 1) := by decide +kernel
theorem dX8_takes_2 : decode cX8_takes 2 = .ok (.invokevirtual 129, 3) := by decide +kernel
theorem dX8_takes_5 : decode cX8_takes 5 = .ok (.ifCond .ne 5, 3) := by decide +kernel
theorem dX8_takes_8 : decode cX8_takes 8 = .ok (.iconst 0, 1) := by decide +kernel
theorem dX8_takes_9 : decode cX8_takes 9 = .ok (.ireturn, 1) := by decide +kernel
theorem dX8_takes_10 : decode cX8_takes 10 = .ok (.aload_n 0, 1) := by decide +kernel
theorem dX8_takes_11 : decode cX8_takes 11 = .ok (.invokevirtual 133, 3) := by decide +kernel
theorem dX8_takes_14 : decode cX8_takes 14 = .ok (.iconst 1, 1) := by decide +kernel
theorem dX8_takes_15 : decode cX8_takes 15 = .ok (.ireturn, 1) := by decide +kernel
theorem dX8_asks_0 : decode cX8_asks 0 = .ok (.aload_n 0, 1) := by decide +kernel
theorem dX8_asks_1 : decode cX8_asks 1 = .ok (.lload_n 1, 1) := by decide +kernel
theorem dX8_asks_2 : decode cX8_asks 2 = .ok (.invokevirtual 136, 3) := by decide +kernel
theorem dX8_asks_5 : decode cX8_asks 5 = .ok (.ifCond .ne 8, 3) := by decide +kernel
theorem dX8_asks_8 : decode cX8_asks 8 = .ok (.aload_n 0, 1) := by decide +kernel
theorem dX8_asks_9 : decode cX8_asks 9 = .ok (.iconst 1, 1) := by decide +kernel
theorem dX8_asks_10 : decode cX8_asks 10 = .ok (.invokevirtual 139, 3) := by decide +kernel
theorem dX8_asks_13 : decode cX8_asks 13 = .ok (.return_, 1) := by decide +kernel
theorem dX8_number_0 : decode cX8_number 0 = .ok (.aload_n 0, 1) := by decide +kernel
theorem dX8_number_1 : decode cX8_number 1 = .ok (.getfield 123, 3) := by decide +kernel
theorem dX8_number_4 : decode cX8_number 4 = .ok (.ifCond .eq 5, 3) := by decide +kernel
theorem dX8_number_7 : decode cX8_number 7 = .ok (.iload_n 1, 1) := by decide +kernel
theorem dX8_number_8 : decode cX8_number 8 = .ok (.ireturn, 1) := by decide +kernel
theorem dX8_number_9 : decode cX8_number 9 = .ok (.aload_n 0, 1) := by decide +kernel
theorem dX8_number_10 : decode cX8_number 10 = .ok (.getfield 112, 3) := by decide +kernel
theorem dX8_number_13 : decode cX8_number 13 = .ok (.iconst 2, 1) := by decide +kernel
theorem dX8_number_14 : decode cX8_number 14 = .ok (.if_icmp .eq 10, 3) := by decide +kernel
theorem dX8_number_17 : decode cX8_number 17 = .ok (.aload_n 0, 1) := by decide +kernel
theorem dX8_number_18 : decode cX8_number 18 = .ok (.iconst 1, 1) := by decide +kernel
theorem dX8_number_19 : decode cX8_number 19 = .ok (.invokevirtual 139, 3) := by decide +kernel
theorem dX8_number_22 : decode cX8_number 22 = .ok (.iload_n 1, 1) := by decide +kernel
theorem dX8_number_23 : decode cX8_number 23 = .ok (.ireturn, 1) := by decide +kernel
theorem dX8_number_24 : decode cX8_number 24 = .ok (.aload_n 0, 1) := by decide +kernel
theorem dX8_number_25 : decode cX8_number 25 = .ok (.getfield 105, 3) := by decide +kernel
theorem dX8_number_28 : decode cX8_number 28 = .ok (.i2l, 1) := by decide +kernel
theorem dX8_number_29 : decode cX8_number 29 = .ok (.iload_n 1, 1) := by decide +kernel
theorem dX8_number_30 : decode cX8_number 30 = .ok (.i2l, 1) := by decide +kernel
theorem dX8_number_31 : decode cX8_number 31 = .ok (.iload_n 2, 1) := by decide +kernel
theorem dX8_number_32 : decode cX8_number 32 = .ok (.i2l, 1) := by decide +kernel
theorem dX8_number_33 : decode cX8_number 33 = .ok (.invokestatic 76, 3) := by decide +kernel
theorem dX8_number_36 : decode cX8_number 36 = .ok (.ifCond .ne 10, 3) := by decide +kernel
theorem dX8_number_39 : decode cX8_number 39 = .ok (.aload_n 0, 1) := by decide +kernel
theorem dX8_number_40 : decode cX8_number 40 = .ok (.iconst 2, 1) := by decide +kernel
theorem dX8_number_41 : decode cX8_number 41 = .ok (.invokevirtual 139, 3) := by decide +kernel
theorem dX8_number_44 : decode cX8_number 44 = .ok (.iload_n 1, 1) := by decide +kernel
theorem dX8_number_45 : decode cX8_number 45 = .ok (.ireturn, 1) := by decide +kernel
theorem dX8_number_46 : decode cX8_number 46 = .ok (.aload_n 0, 1) := by decide +kernel
theorem dX8_number_47 : decode cX8_number 47 = .ok (.getfield 105, 3) := by decide +kernel
theorem dX8_number_50 : decode cX8_number 50 = .ok (.istore_n 3, 1) := by decide +kernel
theorem dX8_number_51 : decode cX8_number 51 = .ok (.aload_n 0, 1) := by decide +kernel
theorem dX8_number_52 : decode cX8_number 52 = .ok (.invokevirtual 133, 3) := by decide +kernel
theorem dX8_number_55 : decode cX8_number 55 = .ok (.iload_n 3, 1) := by decide +kernel
theorem dX8_number_56 : decode cX8_number 56 = .ok (.ireturn, 1) := by decide +kernel
theorem dX8_number__0 : decode cX8_number_ 0 = .ok (.aload_n 0, 1) := by decide +kernel
theorem dX8_number__1 : decode cX8_number_ 1 = .ok (.lload_n 1, 1) := by decide +kernel
theorem dX8_number__2 : decode cX8_number_ 2 = .ok (.invokevirtual 142, 3) := by decide +kernel
theorem dX8_number__5 : decode cX8_number_ 5 = .ok (.aload_n 0, 1) := by decide +kernel
theorem dX8_number__6 : decode cX8_number_ 6 = .ok (.iload_n 3, 1) := by decide +kernel
theorem dX8_number__7 : decode cX8_number_ 7 = .ok (.iload 4, 2) := by decide +kernel
theorem dX8_number__9 : decode cX8_number_ 9 = .ok (.invokevirtual 146, 3) := by decide +kernel
theorem dX8_number__12 : decode cX8_number_ 12 = .ok (.ireturn, 1) := by decide +kernel
theorem dX8_ends_0 : decode cX8_ends 0 = .ok (.aload_n 0, 1) := by decide +kernel
theorem dX8_ends_1 : decode cX8_ends 1 = .ok (.getfield 112, 3) := by decide +kernel
theorem dX8_ends_4 : decode cX8_ends 4 = .ok (.iconst 3, 1) := by decide +kernel
theorem dX8_ends_5 : decode cX8_ends 5 = .ok (.if_icmp .eq 8, 3) := by decide +kernel
theorem dX8_ends_8 : decode cX8_ends 8 = .ok (.aload_n 0, 1) := by decide +kernel
theorem dX8_ends_9 : decode cX8_ends 9 = .ok (.iconst 1, 1) := by decide +kernel
theorem dX8_ends_10 : decode cX8_ends 10 = .ok (.invokevirtual 139, 3) := by decide +kernel
theorem dX8_ends_13 : decode cX8_ends 13 = .ok (.aload_n 0, 1) := by decide +kernel
theorem dX8_ends_14 : decode cX8_ends 14 = .ok (.getfield 123, 3) := by decide +kernel
theorem dX8_ends_17 : decode cX8_ends 17 = .ok (.ifCond .ne 7, 3) := by decide +kernel
theorem dX8_ends_20 : decode cX8_ends 20 = .ok (.aload_n 0, 1) := by decide +kernel
theorem dX8_ends_21 : decode cX8_ends 21 = .ok (.invokevirtual 133, 3) := by decide +kernel
theorem dX8_ends_24 : decode cX8_ends 24 = .ok (.return_, 1) := by decide +kernel
theorem dX8_begins_0 : decode cX8_begins 0 = .ok (.aload_n 0, 1) := by decide +kernel
theorem dX8_begins_1 : decode cX8_begins 1 = .ok (.iconst 0, 1) := by decide +kernel
theorem dX8_begins_2 : decode cX8_begins 2 = .ok (.putfield 123, 3) := by decide +kernel
theorem dX8_begins_5 : decode cX8_begins 5 = .ok (.aload_n 0, 1) := by decide +kernel
theorem dX8_begins_6 : decode cX8_begins 6 = .ok (.iconst (-1), 1) := by decide +kernel
theorem dX8_begins_7 : decode cX8_begins 7 = .ok (.putfield 126, 3) := by decide +kernel
theorem dX8_begins_10 : decode cX8_begins 10 = .ok (.aload_n 0, 1) := by decide +kernel
theorem dX8_begins_11 : decode cX8_begins 11 = .ok (.iconst 0, 1) := by decide +kernel
theorem dX8_begins_12 : decode cX8_begins 12 = .ok (.putfield 95, 3) := by decide +kernel
theorem dX8_begins_15 : decode cX8_begins 15 = .ok (.aload_n 0, 1) := by decide +kernel
theorem dX8_begins_16 : decode cX8_begins 16 = .ok (.invokevirtual 133, 3) := by decide +kernel
theorem dX8_begins_19 : decode cX8_begins 19 = .ok (.return_, 1) := by decide +kernel
theorem dX8_isOver_0 : decode cX8_isOver 0 = .ok (.aload_n 0, 1) := by decide +kernel
theorem dX8_isOver_1 : decode cX8_isOver 1 = .ok (.iconst 0, 1) := by decide +kernel
theorem dX8_isOver_2 : decode cX8_isOver 2 = .ok (.putfield 88, 3) := by decide +kernel
theorem dX8_isOver_5 : decode cX8_isOver 5 = .ok (.aload_n 0, 1) := by decide +kernel
theorem dX8_isOver_6 : decode cX8_isOver 6 = .ok (.aload_n 0, 1) := by decide +kernel
theorem dX8_isOver_7 : decode cX8_isOver 7 = .ok (.getfield 123, 3) := by decide +kernel
theorem dX8_isOver_10 : decode cX8_isOver 10 = .ok (.putfield 150, 3) := by decide +kernel
theorem dX8_isOver_13 : decode cX8_isOver 13 = .ok (.aload_n 0, 1) := by decide +kernel
theorem dX8_isOver_14 : decode cX8_isOver 14 = .ok (.aload_n 0, 1) := by decide +kernel
theorem dX8_isOver_15 : decode cX8_isOver 15 = .ok (.getfield 123, 3) := by decide +kernel
theorem dX8_isOver_18 : decode cX8_isOver 18 = .ok (.ifCond .ne 7, 3) := by decide +kernel
theorem dX8_isOver_21 : decode cX8_isOver 21 = .ok (.iconst (-1), 1) := by decide +kernel
theorem dX8_isOver_22 : decode cX8_isOver 22 = .ok (.goto 7, 3) := by decide +kernel
theorem dX8_isOver_25 : decode cX8_isOver 25 = .ok (.aload_n 0, 1) := by decide +kernel
theorem dX8_isOver_26 : decode cX8_isOver 26 = .ok (.getfield 126, 3) := by decide +kernel
theorem dX8_isOver_29 : decode cX8_isOver 29 = .ok (.putfield 27, 3) := by decide +kernel
theorem dX8_isOver_32 : decode cX8_isOver 32 = .ok (.return_, 1) := by decide +kernel
theorem dX8_fault_0 : decode cX8_fault 0 = .ok (.aload_n 0, 1) := by decide +kernel
theorem dX8_fault_1 : decode cX8_fault 1 = .ok (.iconst 0, 1) := by decide +kernel
theorem dX8_fault_2 : decode cX8_fault 2 = .ok (.putfield 71, 3) := by decide +kernel
theorem dX8_fault_5 : decode cX8_fault 5 = .ok (.iload_n 1, 1) := by decide +kernel
theorem dX8_fault_6 : decode cX8_fault 6 = .ok (.ifCond .ne 10, 3) := by decide +kernel
theorem dX8_fault_9 : decode cX8_fault 9 = .ok (.aload_n 0, 1) := by decide +kernel
theorem dX8_fault_10 : decode cX8_fault 10 = .ok (.getfield 150, 3) := by decide +kernel
theorem dX8_fault_13 : decode cX8_fault 13 = .ok (.goto 16, 3) := by decide +kernel
theorem dX8_fault_16 : decode cX8_fault 16 = .ok (.iload_n 1, 1) := by decide +kernel
theorem dX8_fault_17 : decode cX8_fault 17 = .ok (.iconst 1, 1) := by decide +kernel
theorem dX8_fault_18 : decode cX8_fault 18 = .ok (.if_icmp .ne 10, 3) := by decide +kernel
theorem dX8_fault_21 : decode cX8_fault 21 = .ok (.aload_n 0, 1) := by decide +kernel
theorem dX8_fault_22 : decode cX8_fault 22 = .ok (.getfield 27, 3) := by decide +kernel
theorem dX8_fault_25 : decode cX8_fault 25 = .ok (.goto 4, 3) := by decide +kernel
theorem dX8_fault_28 : decode cX8_fault 28 = .ok (.iconst (-1), 1) := by decide +kernel
theorem dX8_fault_29 : decode cX8_fault 29 = .ok (.ireturn, 1) := by decide +kernel
theorem dX8_hasRead_0 : decode cX8_hasRead 0 = .ok (.aload_n 0, 1) := by decide +kernel
theorem dX8_hasRead_1 : decode cX8_hasRead 1 = .ok (.getfield 34, 3) := by decide +kernel
theorem dX8_hasRead_4 : decode cX8_hasRead 4 = .ok (.bipush 24, 2) := by decide +kernel
theorem dX8_hasRead_6 : decode cX8_hasRead 6 = .ok (.iload_n 1, 1) := by decide +kernel
theorem dX8_hasRead_7 : decode cX8_hasRead 7 = .ok (.iadd, 1) := by decide +kernel
theorem dX8_hasRead_8 : decode cX8_hasRead 8 = .ok (.iaload, 1) := by decide +kernel
theorem dX8_hasRead_9 : decode cX8_hasRead 9 = .ok (.ireturn, 1) := by decide +kernel
theorem dX8_tells_0 : decode cX8_tells 0 = .ok (.aload_n 0, 1) := by decide +kernel
theorem dX8_tells_1 : decode cX8_tells 1 = .ok (.getfield 34, 3) := by decide +kernel
theorem dX8_tells_4 : decode cX8_tells 4 = .ok (.bipush 24, 2) := by decide +kernel
theorem dX8_tells_6 : decode cX8_tells 6 = .ok (.iload_n 1, 1) := by decide +kernel
theorem dX8_tells_7 : decode cX8_tells 7 = .ok (.iadd, 1) := by decide +kernel
theorem dX8_tells_8 : decode cX8_tells 8 = .ok (.iload_n 2, 1) := by decide +kernel
theorem dX8_tells_9 : decode cX8_tells 9 = .ok (.iastore, 1) := by decide +kernel
theorem dX8_tells_10 : decode cX8_tells 10 = .ok (.return_, 1) := by decide +kernel
theorem dX8_personLine_0 : decode cX8_personLine 0 = .ok (.bipush 24, 2) := by decide +kernel
theorem dX8_personLine_2 : decode cX8_personLine 2 = .ok (.aload_n 0, 1) := by decide +kernel
theorem dX8_personLine_3 : decode cX8_personLine 3 = .ok (.iconst 4, 1) := by decide +kernel
theorem dX8_personLine_4 : decode cX8_personLine 4 = .ok (.invokevirtual 153, 3) := by decide +kernel
theorem dX8_personLine_7 : decode cX8_personLine 7 = .ok (.iadd, 1) := by decide +kernel
theorem dX8_personLine_8 : decode cX8_personLine 8 = .ok (.istore_n 1, 1) := by decide +kernel
theorem dX8_personLine_9 : decode cX8_personLine 9 = .ok (.iconst 0, 1) := by decide +kernel
theorem dX8_personLine_10 : decode cX8_personLine 10 = .ok (.istore_n 2, 1) := by decide +kernel
theorem dX8_personLine_11 : decode cX8_personLine 11 = .ok (.iload_n 2, 1) := by decide +kernel
theorem dX8_personLine_12 : decode cX8_personLine 12 = .ok (.iconst 5, 1) := by decide +kernel
theorem dX8_personLine_13 : decode cX8_personLine 13 = .ok (.if_icmp .ge 20, 3) := by decide +kernel
theorem dX8_personLine_16 : decode cX8_personLine 16 = .ok (.aload_n 0, 1) := by decide +kernel
theorem dX8_personLine_17 : decode cX8_personLine 17 = .ok (.getfield 37, 3) := by decide +kernel
theorem dX8_personLine_20 : decode cX8_personLine 20 = .ok (.iconst 5, 1) := by decide +kernel
theorem dX8_personLine_21 : decode cX8_personLine 21 = .ok (.iload_n 1, 1) := by decide +kernel
theorem dX8_personLine_22 : decode cX8_personLine 22 = .ok (.imul, 1) := by decide +kernel
theorem dX8_personLine_23 : decode cX8_personLine 23 = .ok (.iload_n 2, 1) := by decide +kernel
theorem dX8_personLine_24 : decode cX8_personLine 24 = .ok (.iadd, 1) := by decide +kernel
theorem dX8_personLine_25 : decode cX8_personLine 25 = .ok (.iconst 0, 1) := by decide +kernel
theorem dX8_personLine_26 : decode cX8_personLine 26 = .ok (.iastore, 1) := by decide +kernel
theorem dX8_personLine_27 : decode cX8_personLine 27 = .ok (.iinc 2 1, 3) := by decide +kernel
theorem dX8_personLine_30 : decode cX8_personLine 30 = .ok (.goto (-19), 3) := by decide +kernel
theorem dX8_personLine_33 : decode cX8_personLine 33 = .ok (.aload_n 0, 1) := by decide +kernel
theorem dX8_personLine_34 : decode cX8_personLine 34 = .ok (.getfield 123, 3) := by decide +kernel
theorem dX8_personLine_37 : decode cX8_personLine 37 = .ok (.ifCond .ne 96, 3) := by decide +kernel
theorem dX8_personLine_40 : decode cX8_personLine 40 = .ok (.aload_n 0, 1) := by decide +kernel
theorem dX8_personLine_41 : decode cX8_personLine 41 = .ok (.ldc2_w 157, 3) := by decide +kernel
theorem dX8_personLine_44 : decode cX8_personLine 44 = .ok (.invokevirtual 129, 3) := by decide +kernel
theorem dX8_personLine_47 : decode cX8_personLine 47 = .ok (.ifCond .ne 13, 3) := by decide +kernel
theorem dX8_personLine_50 : decode cX8_personLine 50 = .ok (.aload_n 0, 1) := by decide +kernel
theorem dX8_personLine_51 : decode cX8_personLine 51 = .ok (.ldc2_w 159, 3) := by decide +kernel
theorem dX8_personLine_54 : decode cX8_personLine 54 = .ok (.invokevirtual 129, 3) := by decide +kernel
theorem dX8_personLine_57 : decode cX8_personLine 57 = .ok (.ifCond .eq 76, 3) := by decide +kernel
theorem dX8_personLine_60 : decode cX8_personLine 60 = .ok (.aload_n 0, 1) := by decide +kernel
theorem dX8_personLine_61 : decode cX8_personLine 61 = .ok (.ldc2_w 157, 3) := by decide +kernel
theorem dX8_personLine_64 : decode cX8_personLine 64 = .ok (.invokevirtual 136, 3) := by decide +kernel
theorem dX8_personLine_67 : decode cX8_personLine 67 = .ok (.istore_n 2, 1) := by decide +kernel
theorem dX8_personLine_68 : decode cX8_personLine 68 = .ok (.iload_n 2, 1) := by decide +kernel
theorem dX8_personLine_69 : decode cX8_personLine 69 = .ok (.ifCond .ne 10, 3) := by decide +kernel
theorem dX8_personLine_72 : decode cX8_personLine 72 = .ok (.aload_n 0, 1) := by decide +kernel
theorem dX8_personLine_73 : decode cX8_personLine 73 = .ok (.ldc2_w 159, 3) := by decide +kernel
theorem dX8_personLine_76 : decode cX8_personLine 76 = .ok (.invokevirtual 142, 3) := by decide +kernel
theorem dX8_personLine_79 : decode cX8_personLine 79 = .ok (.aload_n 0, 1) := by decide +kernel
theorem dX8_personLine_80 : decode cX8_personLine 80 = .ok (.iconst 0, 1) := by decide +kernel
theorem dX8_personLine_81 : decode cX8_personLine 81 = .ok (.aload_n 0, 1) := by decide +kernel
theorem dX8_personLine_82 : decode cX8_personLine 82 = .ok (.iconst 0, 1) := by decide +kernel
theorem dX8_personLine_83 : decode cX8_personLine 83 = .ok (.invokevirtual 153, 3) := by decide +kernel
theorem dX8_personLine_86 : decode cX8_personLine 86 = .ok (.iconst 1, 1) := by decide +kernel
theorem dX8_personLine_87 : decode cX8_personLine 87 = .ok (.isub, 1) := by decide +kernel
theorem dX8_personLine_88 : decode cX8_personLine 88 = .ok (.invokevirtual 146, 3) := by decide +kernel
theorem dX8_personLine_91 : decode cX8_personLine 91 = .ok (.istore_n 3, 1) := by decide +kernel
theorem dX8_personLine_92 : decode cX8_personLine 92 = .ok (.aload_n 0, 1) := by decide +kernel
theorem dX8_personLine_93 : decode cX8_personLine 93 = .ok (.iconst 1, 1) := by decide +kernel
theorem dX8_personLine_94 : decode cX8_personLine 94 = .ok (.bipush 9, 2) := by decide +kernel
theorem dX8_personLine_96 : decode cX8_personLine 96 = .ok (.invokevirtual 146, 3) := by decide +kernel
theorem dX8_personLine_99 : decode cX8_personLine 99 = .ok (.istore 4, 2) := by decide +kernel
theorem dX8_personLine_101 : decode cX8_personLine 101 = .ok (.aload_n 0, 1) := by decide +kernel
theorem dX8_personLine_102 : decode cX8_personLine 102 = .ok (.getfield 123, 3) := by decide +kernel
theorem dX8_personLine_105 : decode cX8_personLine 105 = .ok (.ifCond .ne 25, 3) := by decide +kernel
theorem dX8_personLine_108 : decode cX8_personLine 108 = .ok (.aload_n 0, 1) := by decide +kernel
theorem dX8_personLine_109 : decode cX8_personLine 109 = .ok (.getfield 37, 3) := by decide +kernel
theorem dX8_personLine_112 : decode cX8_personLine 112 = .ok (.iconst 5, 1) := by decide +kernel
theorem dX8_personLine_113 : decode cX8_personLine 113 = .ok (.iload_n 1, 1) := by decide +kernel
theorem dX8_personLine_114 : decode cX8_personLine 114 = .ok (.imul, 1) := by decide +kernel
theorem dX8_personLine_115 : decode cX8_personLine 115 = .ok (.iload_n 3, 1) := by decide +kernel
theorem dX8_personLine_116 : decode cX8_personLine 116 = .ok (.iadd, 1) := by decide +kernel
theorem dX8_personLine_117 : decode cX8_personLine 117 = .ok (.iload_n 2, 1) := by decide +kernel
theorem dX8_personLine_118 : decode cX8_personLine 118 = .ok (.ifCond .eq 8, 3) := by decide +kernel
theorem dX8_personLine_121 : decode cX8_personLine 121 = .ok (.iload 4, 2) := by decide +kernel
theorem dX8_personLine_123 : decode cX8_personLine 123 = .ok (.goto 6, 3) := by decide +kernel
theorem dX8_personLine_126 : decode cX8_personLine 126 = .ok (.iload 4, 2) := by decide +kernel
theorem dX8_personLine_128 : decode cX8_personLine 128 = .ok (.ineg, 1) := by decide +kernel
theorem dX8_personLine_129 : decode cX8_personLine 129 = .ok (.iastore, 1) := by decide +kernel
theorem dX8_personLine_130 : decode cX8_personLine 130 = .ok (.goto (-97), 3) := by decide +kernel
theorem dX8_personLine_133 : decode cX8_personLine 133 = .ok (.aload_n 0, 1) := by decide +kernel
theorem dX8_personLine_134 : decode cX8_personLine 134 = .ok (.iconst 4, 1) := by decide +kernel
theorem dX8_personLine_135 : decode cX8_personLine 135 = .ok (.aload_n 0, 1) := by decide +kernel
theorem dX8_personLine_136 : decode cX8_personLine 136 = .ok (.iconst 4, 1) := by decide +kernel
theorem dX8_personLine_137 : decode cX8_personLine 137 = .ok (.invokevirtual 153, 3) := by decide +kernel
theorem dX8_personLine_140 : decode cX8_personLine 140 = .ok (.iconst 1, 1) := by decide +kernel
theorem dX8_personLine_141 : decode cX8_personLine 141 = .ok (.iadd, 1) := by decide +kernel
theorem dX8_personLine_142 : decode cX8_personLine 142 = .ok (.invokevirtual 161, 3) := by decide +kernel
theorem dX8_personLine_145 : decode cX8_personLine 145 = .ok (.return_, 1) := by decide +kernel
theorem dX8_lineHere_0 : decode cX8_lineHere 0 = .ok (.aload_n 0, 1) := by decide +kernel
theorem dX8_lineHere_1 : decode cX8_lineHere 1 = .ok (.ldc2_w 165, 3) := by decide +kernel
theorem dX8_lineHere_4 : decode cX8_lineHere 4 = .ok (.invokevirtual 129, 3) := by decide +kernel
theorem dX8_lineHere_7 : decode cX8_lineHere 7 = .ok (.ifCond .ne 11, 3) := by decide +kernel
theorem dX8_lineHere_10 : decode cX8_lineHere 10 = .ok (.aload_n 0, 1) := by decide +kernel
theorem dX8_lineHere_11 : decode cX8_lineHere 11 = .ok (.iconst 1, 1) := by decide +kernel
theorem dX8_lineHere_12 : decode cX8_lineHere 12 = .ok (.invokevirtual 139, 3) := by decide +kernel
theorem dX8_lineHere_15 : decode cX8_lineHere 15 = .ok (.goto 18, 3) := by decide +kernel
theorem dX8_lineHere_18 : decode cX8_lineHere 18 = .ok (.aload_n 0, 1) := by decide +kernel
theorem dX8_lineHere_19 : decode cX8_lineHere 19 = .ok (.iconst 4, 1) := by decide +kernel
theorem dX8_lineHere_20 : decode cX8_lineHere 20 = .ok (.invokevirtual 153, 3) := by decide +kernel
theorem dX8_lineHere_23 : decode cX8_lineHere 23 = .ok (.bipush 6, 2) := by decide +kernel
theorem dX8_lineHere_25 : decode cX8_lineHere 25 = .ok (.if_icmp .ne 8, 3) := by decide +kernel
theorem dX8_lineHere_28 : decode cX8_lineHere 28 = .ok (.aload_n 0, 1) := by decide +kernel
theorem dX8_lineHere_29 : decode cX8_lineHere 29 = .ok (.iconst 3, 1) := by decide +kernel
theorem dX8_lineHere_30 : decode cX8_lineHere 30 = .ok (.invokevirtual 139, 3) := by decide +kernel
theorem dX8_lineHere_33 : decode cX8_lineHere 33 = .ok (.aload_n 0, 1) := by decide +kernel
theorem dX8_lineHere_34 : decode cX8_lineHere 34 = .ok (.getfield 123, 3) := by decide +kernel
theorem dX8_lineHere_37 : decode cX8_lineHere 37 = .ok (.ifCond .eq 4, 3) := by decide +kernel
theorem dX8_lineHere_40 : decode cX8_lineHere 40 = .ok (.return_, 1) := by decide +kernel
theorem dX8_lineHere_41 : decode cX8_lineHere 41 = .ok (.aload_n 0, 1) := by decide +kernel
theorem dX8_lineHere_42 : decode cX8_lineHere 42 = .ok (.invokevirtual 133, 3) := by decide +kernel
theorem dX8_lineHere_45 : decode cX8_lineHere 45 = .ok (.aload_n 0, 1) := by decide +kernel
theorem dX8_lineHere_46 : decode cX8_lineHere 46 = .ok (.invokevirtual 167, 3) := by decide +kernel
theorem dX8_lineHere_49 : decode cX8_lineHere 49 = .ok (.return_, 1) := by decide +kernel
theorem dX8_clears_0 : decode cX8_clears 0 = .ok (.aload_n 0, 1) := by decide +kernel
theorem dX8_clears_1 : decode cX8_clears 1 = .ok (.getfield 31, 3) := by decide +kernel
theorem dX8_clears_4 : decode cX8_clears 4 = .ok (.iconst 4, 1) := by decide +kernel
theorem dX8_clears_5 : decode cX8_clears 5 = .ok (.iconst 0, 1) := by decide +kernel
theorem dX8_clears_6 : decode cX8_clears 6 = .ok (.iastore, 1) := by decide +kernel
theorem dX8_clears_7 : decode cX8_clears 7 = .ok (.iconst 0, 1) := by decide +kernel
theorem dX8_clears_8 : decode cX8_clears 8 = .ok (.istore_n 1, 1) := by decide +kernel
theorem dX8_clears_9 : decode cX8_clears 9 = .ok (.iload_n 1, 1) := by decide +kernel
theorem dX8_clears_10 : decode cX8_clears 10 = .ok (.bipush 6, 2) := by decide +kernel
theorem dX8_clears_12 : decode cX8_clears 12 = .ok (.if_icmp .ge 15, 3) := by decide +kernel
theorem dX8_clears_15 : decode cX8_clears 15 = .ok (.aload_n 0, 1) := by decide +kernel
theorem dX8_clears_16 : decode cX8_clears 16 = .ok (.iload_n 1, 1) := by decide +kernel
theorem dX8_clears_17 : decode cX8_clears 17 = .ok (.iconst 0, 1) := by decide +kernel
theorem dX8_clears_18 : decode cX8_clears 18 = .ok (.invokevirtual 161, 3) := by decide +kernel
theorem dX8_clears_21 : decode cX8_clears 21 = .ok (.iinc 1 1, 3) := by decide +kernel
theorem dX8_clears_24 : decode cX8_clears 24 = .ok (.goto (-15), 3) := by decide +kernel
theorem dX8_clears_27 : decode cX8_clears 27 = .ok (.return_, 1) := by decide +kernel
theorem dX8_field_0 : decode cX8_field 0 = .ok (.aload_n 0, 1) := by decide +kernel
theorem dX8_field_1 : decode cX8_field 1 = .ok (.iconst 0, 1) := by decide +kernel
theorem dX8_field_2 : decode cX8_field 2 = .ok (.putfield 71, 3) := by decide +kernel
theorem dX8_field_5 : decode cX8_field 5 = .ok (.aload_n 0, 1) := by decide +kernel
theorem dX8_field_6 : decode cX8_field 6 = .ok (.invokevirtual 170, 3) := by decide +kernel
theorem dX8_field_9 : decode cX8_field 9 = .ok (.aload_n 0, 1) := by decide +kernel
theorem dX8_field_10 : decode cX8_field 10 = .ok (.invokevirtual 173, 3) := by decide +kernel
theorem dX8_field_13 : decode cX8_field 13 = .ok (.aload_n 0, 1) := by decide +kernel
theorem dX8_field_14 : decode cX8_field 14 = .ok (.invokevirtual 176, 3) := by decide +kernel
theorem dX8_field_17 : decode cX8_field 17 = .ok (.ifCond .eq 114, 3) := by decide +kernel
theorem dX8_field_20 : decode cX8_field 20 = .ok (.aload_n 0, 1) := by decide +kernel
theorem dX8_field_21 : decode cX8_field 21 = .ok (.getfield 112, 3) := by decide +kernel
theorem dX8_field_24 : decode cX8_field 24 = .ok (.ifCond .eq 107, 3) := by decide +kernel
theorem dX8_field_27 : decode cX8_field 27 = .ok (.aload_n 0, 1) := by decide +kernel
theorem dX8_field_28 : decode cX8_field 28 = .ok (.getfield 31, 3) := by decide +kernel
theorem dX8_field_31 : decode cX8_field 31 = .ok (.iconst 4, 1) := by decide +kernel
theorem dX8_field_32 : decode cX8_field 32 = .ok (.iaload, 1) := by decide +kernel
theorem dX8_field_33 : decode cX8_field 33 = .ok (.ifCond .ne 70, 3) := by decide +kernel
theorem dX8_field_36 : decode cX8_field 36 = .ok (.aload_n 0, 1) := by decide +kernel
theorem dX8_field_37 : decode cX8_field 37 = .ok (.ldc2_w 180, 3) := by decide +kernel
theorem dX8_field_40 : decode cX8_field 40 = .ok (.invokevirtual 142, 3) := by decide +kernel
theorem dX8_field_43 : decode cX8_field 43 = .ok (.aload_n 0, 1) := by decide +kernel
theorem dX8_field_44 : decode cX8_field 44 = .ok (.iconst 0, 1) := by decide +kernel
theorem dX8_field_45 : decode cX8_field 45 = .ok (.aload_n 0, 1) := by decide +kernel
theorem dX8_field_46 : decode cX8_field 46 = .ok (.ldc2_w 182, 3) := by decide +kernel
theorem dX8_field_49 : decode cX8_field 49 = .ok (.iconst 1, 1) := by decide +kernel
theorem dX8_field_50 : decode cX8_field 50 = .ok (.iconst 5, 1) := by decide +kernel
theorem dX8_field_51 : decode cX8_field 51 = .ok (.invokevirtual 184, 3) := by decide +kernel
theorem dX8_field_54 : decode cX8_field 54 = .ok (.invokevirtual 161, 3) := by decide +kernel
theorem dX8_field_57 : decode cX8_field 57 = .ok (.aload_n 0, 1) := by decide +kernel
theorem dX8_field_58 : decode cX8_field 58 = .ok (.iconst 1, 1) := by decide +kernel
theorem dX8_field_59 : decode cX8_field 59 = .ok (.aload_n 0, 1) := by decide +kernel
theorem dX8_field_60 : decode cX8_field 60 = .ok (.ldc2_w 187, 3) := by decide +kernel
theorem dX8_field_63 : decode cX8_field 63 = .ok (.iconst 0, 1) := by decide +kernel
theorem dX8_field_64 : decode cX8_field 64 = .ok (.iconst 3, 1) := by decide +kernel
theorem dX8_field_65 : decode cX8_field 65 = .ok (.invokevirtual 184, 3) := by decide +kernel
theorem dX8_field_68 : decode cX8_field 68 = .ok (.invokevirtual 161, 3) := by decide +kernel
theorem dX8_field_71 : decode cX8_field 71 = .ok (.aload_n 0, 1) := by decide +kernel
theorem dX8_field_72 : decode cX8_field 72 = .ok (.iconst 2, 1) := by decide +kernel
theorem dX8_field_73 : decode cX8_field 73 = .ok (.aload_n 0, 1) := by decide +kernel
theorem dX8_field_74 : decode cX8_field 74 = .ok (.ldc2_w 189, 3) := by decide +kernel
theorem dX8_field_77 : decode cX8_field 77 = .ok (.iconst 0, 1) := by decide +kernel
theorem dX8_field_78 : decode cX8_field 78 = .ok (.iconst 3, 1) := by decide +kernel
theorem dX8_field_79 : decode cX8_field 79 = .ok (.invokevirtual 184, 3) := by decide +kernel
theorem dX8_field_82 : decode cX8_field 82 = .ok (.invokevirtual 161, 3) := by decide +kernel
theorem dX8_field_85 : decode cX8_field 85 = .ok (.aload_n 0, 1) := by decide +kernel
theorem dX8_field_86 : decode cX8_field 86 = .ok (.iconst 3, 1) := by decide +kernel
theorem dX8_field_87 : decode cX8_field 87 = .ok (.aload_n 0, 1) := by decide +kernel
theorem dX8_field_88 : decode cX8_field 88 = .ok (.ldc2_w 191, 3) := by decide +kernel
theorem dX8_field_91 : decode cX8_field 91 = .ok (.iconst 0, 1) := by decide +kernel
theorem dX8_field_92 : decode cX8_field 92 = .ok (.bipush 10, 2) := by decide +kernel
theorem dX8_field_94 : decode cX8_field 94 = .ok (.invokevirtual 184, 3) := by decide +kernel
theorem dX8_field_97 : decode cX8_field 97 = .ok (.invokevirtual 161, 3) := by decide +kernel
theorem dX8_field_100 : decode cX8_field 100 = .ok (.goto 7, 3) := by decide +kernel
theorem dX8_field_103 : decode cX8_field 103 = .ok (.aload_n 0, 1) := by decide +kernel
theorem dX8_field_104 : decode cX8_field 104 = .ok (.invokevirtual 193, 3) := by decide +kernel
theorem dX8_field_107 : decode cX8_field 107 = .ok (.aload_n 0, 1) := by decide +kernel
theorem dX8_field_108 : decode cX8_field 108 = .ok (.invokevirtual 176, 3) := by decide +kernel
theorem dX8_field_111 : decode cX8_field 111 = .ok (.ifCond .eq 7, 3) := by decide +kernel
theorem dX8_field_114 : decode cX8_field 114 = .ok (.aload_n 0, 1) := by decide +kernel
theorem dX8_field_115 : decode cX8_field 115 = .ok (.invokevirtual 196, 3) := by decide +kernel
theorem dX8_field_118 : decode cX8_field 118 = .ok (.aload_n 0, 1) := by decide +kernel
theorem dX8_field_119 : decode cX8_field 119 = .ok (.getfield 31, 3) := by decide +kernel
theorem dX8_field_122 : decode cX8_field 122 = .ok (.iconst 4, 1) := by decide +kernel
theorem dX8_field_123 : decode cX8_field 123 = .ok (.dup2, 1) := by decide +kernel
theorem dX8_field_124 : decode cX8_field 124 = .ok (.iaload, 1) := by decide +kernel
theorem dX8_field_125 : decode cX8_field 125 = .ok (.iconst 1, 1) := by decide +kernel
theorem dX8_field_126 : decode cX8_field 126 = .ok (.iadd, 1) := by decide +kernel
theorem dX8_field_127 : decode cX8_field 127 = .ok (.iastore, 1) := by decide +kernel
theorem dX8_field_128 : decode cX8_field 128 = .ok (.goto (-115), 3) := by decide +kernel
theorem dX8_field_131 : decode cX8_field 131 = .ok (.aload_n 0, 1) := by decide +kernel
theorem dX8_field_132 : decode cX8_field 132 = .ok (.invokevirtual 199, 3) := by decide +kernel
theorem dX8_field_135 : decode cX8_field 135 = .ok (.aload_n 0, 1) := by decide +kernel
theorem dX8_field_136 : decode cX8_field 136 = .ok (.getfield 123, 3) := by decide +kernel
theorem dX8_field_139 : decode cX8_field 139 = .ok (.ifCond .eq 6, 3) := by decide +kernel
theorem dX8_field_142 : decode cX8_field 142 = .ok (.bipush (-4), 2) := by decide +kernel
theorem dX8_field_144 : decode cX8_field 144 = .ok (.ireturn, 1) := by decide +kernel
theorem dX8_field_145 : decode cX8_field 145 = .ok (.aload_n 0, 1) := by decide +kernel
theorem dX8_field_146 : decode cX8_field 146 = .ok (.iconst 4, 1) := by decide +kernel
theorem dX8_field_147 : decode cX8_field 147 = .ok (.iconst 0, 1) := by decide +kernel
theorem dX8_field_148 : decode cX8_field 148 = .ok (.invokevirtual 202, 3) := by decide +kernel
theorem dX8_field_151 : decode cX8_field 151 = .ok (.aload_n 0, 1) := by decide +kernel
theorem dX8_field_152 : decode cX8_field 152 = .ok (.getfield 31, 3) := by decide +kernel
theorem dX8_field_155 : decode cX8_field 155 = .ok (.iconst 0, 1) := by decide +kernel
theorem dX8_field_156 : decode cX8_field 156 = .ok (.iaload, 1) := by decide +kernel
theorem dX8_field_157 : decode cX8_field 157 = .ok (.ireturn, 1) := by decide +kernel
theorem dX8_copyRow_0 : decode cX8_copyRow 0 = .ok (.iconst 0, 1) := by decide +kernel
theorem dX8_copyRow_1 : decode cX8_copyRow 1 = .ok (.istore 4, 2) := by decide +kernel
theorem dX8_copyRow_3 : decode cX8_copyRow 3 = .ok (.iload 4, 2) := by decide +kernel
theorem dX8_copyRow_5 : decode cX8_copyRow 5 = .ok (.iload_n 1, 1) := by decide +kernel
theorem dX8_copyRow_6 : decode cX8_copyRow 6 = .ok (.if_icmp .ge 25, 3) := by decide +kernel
theorem dX8_copyRow_9 : decode cX8_copyRow 9 = .ok (.aload_n 0, 1) := by decide +kernel
theorem dX8_copyRow_10 : decode cX8_copyRow 10 = .ok (.iload_n 1, 1) := by decide +kernel
theorem dX8_copyRow_11 : decode cX8_copyRow 11 = .ok (.iload_n 3, 1) := by decide +kernel
theorem dX8_copyRow_12 : decode cX8_copyRow 12 = .ok (.imul, 1) := by decide +kernel
theorem dX8_copyRow_13 : decode cX8_copyRow 13 = .ok (.iload 4, 2) := by decide +kernel
theorem dX8_copyRow_15 : decode cX8_copyRow 15 = .ok (.iadd, 1) := by decide +kernel
theorem dX8_copyRow_16 : decode cX8_copyRow 16 = .ok (.aload_n 0, 1) := by decide +kernel
theorem dX8_copyRow_17 : decode cX8_copyRow 17 = .ok (.iload_n 1, 1) := by decide +kernel
theorem dX8_copyRow_18 : decode cX8_copyRow 18 = .ok (.iload_n 2, 1) := by decide +kernel
theorem dX8_copyRow_19 : decode cX8_copyRow 19 = .ok (.imul, 1) := by decide +kernel
theorem dX8_copyRow_20 : decode cX8_copyRow 20 = .ok (.iload 4, 2) := by decide +kernel
theorem dX8_copyRow_22 : decode cX8_copyRow 22 = .ok (.iadd, 1) := by decide +kernel
theorem dX8_copyRow_23 : decode cX8_copyRow 23 = .ok (.iaload, 1) := by decide +kernel
theorem dX8_copyRow_24 : decode cX8_copyRow 24 = .ok (.iastore, 1) := by decide +kernel
theorem dX8_copyRow_25 : decode cX8_copyRow 25 = .ok (.iinc 4 1, 3) := by decide +kernel
theorem dX8_copyRow_28 : decode cX8_copyRow 28 = .ok (.goto (-25), 3) := by decide +kernel
theorem dX8_copyRow_31 : decode cX8_copyRow 31 = .ok (.return_, 1) := by decide +kernel
theorem dX8_copyField_0 : decode cX8_copyField 0 = .ok (.aload_n 0, 1) := by decide +kernel
theorem dX8_copyField_1 : decode cX8_copyField 1 = .ok (.getfield 31, 3) := by decide +kernel
theorem dX8_copyField_4 : decode cX8_copyField 4 = .ok (.iconst 1, 1) := by decide +kernel
theorem dX8_copyField_5 : decode cX8_copyField 5 = .ok (.iload_n 1, 1) := by decide +kernel
theorem dX8_copyField_6 : decode cX8_copyField 6 = .ok (.iload_n 2, 1) := by decide +kernel
theorem dX8_copyField_7 : decode cX8_copyField 7 = .ok (.invokestatic 205, 3) := by decide +kernel
theorem dX8_copyField_10 : decode cX8_copyField 10 = .ok (.aload_n 0, 1) := by decide +kernel
theorem dX8_copyField_11 : decode cX8_copyField 11 = .ok (.getfield 34, 3) := by decide +kernel
theorem dX8_copyField_14 : decode cX8_copyField 14 = .ok (.bipush 6, 2) := by decide +kernel
theorem dX8_copyField_16 : decode cX8_copyField 16 = .ok (.iload_n 1, 1) := by decide +kernel
theorem dX8_copyField_17 : decode cX8_copyField 17 = .ok (.iload_n 2, 1) := by decide +kernel
theorem dX8_copyField_18 : decode cX8_copyField 18 = .ok (.invokestatic 205, 3) := by decide +kernel
theorem dX8_copyField_21 : decode cX8_copyField 21 = .ok (.aload_n 0, 1) := by decide +kernel
theorem dX8_copyField_22 : decode cX8_copyField 22 = .ok (.getfield 37, 3) := by decide +kernel
theorem dX8_copyField_25 : decode cX8_copyField 25 = .ok (.bipush 30, 2) := by decide +kernel
theorem dX8_copyField_27 : decode cX8_copyField 27 = .ok (.iload_n 1, 1) := by decide +kernel
theorem dX8_copyField_28 : decode cX8_copyField 28 = .ok (.iload_n 2, 1) := by decide +kernel
theorem dX8_copyField_29 : decode cX8_copyField 29 = .ok (.invokestatic 205, 3) := by decide +kernel
theorem dX8_copyField_32 : decode cX8_copyField 32 = .ok (.aload_n 0, 1) := by decide +kernel
theorem dX8_copyField_33 : decode cX8_copyField 33 = .ok (.getfield 40, 3) := by decide +kernel
theorem dX8_copyField_36 : decode cX8_copyField 36 = .ok (.sipush 160, 3) := by decide +kernel
theorem dX8_copyField_39 : decode cX8_copyField 39 = .ok (.iload_n 1, 1) := by decide +kernel
theorem dX8_copyField_40 : decode cX8_copyField 40 = .ok (.iload_n 2, 1) := by decide +kernel
theorem dX8_copyField_41 : decode cX8_copyField 41 = .ok (.invokestatic 205, 3) := by decide +kernel
theorem dX8_copyField_44 : decode cX8_copyField 44 = .ok (.return_, 1) := by decide +kernel
theorem dX8_isField_0 : decode cX8_isField 0 = .ok (.aload_n 0, 1) := by decide +kernel
theorem dX8_isField_1 : decode cX8_isField 1 = .ok (.getfield 31, 3) := by decide +kernel
theorem dX8_isField_4 : decode cX8_isField 4 = .ok (.iconst 0, 1) := by decide +kernel
theorem dX8_isField_5 : decode cX8_isField 5 = .ok (.iaload, 1) := by decide +kernel
theorem dX8_isField_6 : decode cX8_isField 6 = .ok (.ifCond .le 7, 3) := by decide +kernel
theorem dX8_isField_9 : decode cX8_isField 9 = .ok (.iconst 1, 1) := by decide +kernel
theorem dX8_isField_10 : decode cX8_isField 10 = .ok (.goto 4, 3) := by decide +kernel
theorem dX8_isField_13 : decode cX8_isField 13 = .ok (.iconst 0, 1) := by decide +kernel
theorem dX8_isField_14 : decode cX8_isField 14 = .ok (.ireturn, 1) := by decide +kernel
theorem dX8_kindsAll_0 : decode cX8_kindsAll 0 = .ok (.aload_n 0, 1) := by decide +kernel
theorem dX8_kindsAll_1 : decode cX8_kindsAll 1 = .ok (.getfield 34, 3) := by decide +kernel
theorem dX8_kindsAll_4 : decode cX8_kindsAll 4 = .ok (.iconst 0, 1) := by decide +kernel
theorem dX8_kindsAll_5 : decode cX8_kindsAll 5 = .ok (.iaload, 1) := by decide +kernel
theorem dX8_kindsAll_6 : decode cX8_kindsAll 6 = .ok (.ireturn, 1) := by decide +kernel
theorem dX8_people_0 : decode cX8_people 0 = .ok (.aload_n 0, 1) := by decide +kernel
theorem dX8_people_1 : decode cX8_people 1 = .ok (.getfield 34, 3) := by decide +kernel
theorem dX8_people_4 : decode cX8_people 4 = .ok (.iconst 4, 1) := by decide +kernel
theorem dX8_people_5 : decode cX8_people 5 = .ok (.iaload, 1) := by decide +kernel
theorem dX8_people_6 : decode cX8_people 6 = .ok (.ireturn, 1) := by decide +kernel
theorem dX8_isKind_0 : decode cX8_isKind 0 = .ok (.aload_n 0, 1) := by decide +kernel
theorem dX8_isKind_1 : decode cX8_isKind 1 = .ok (.invokevirtual 209, 3) := by decide +kernel
theorem dX8_isKind_4 : decode cX8_isKind 4 = .ok (.ifCond .eq 22, 3) := by decide +kernel
theorem dX8_isKind_7 : decode cX8_isKind 7 = .ok (.lload_n 1, 1) := by decide +kernel
theorem dX8_isKind_8 : decode cX8_isKind 8 = .ok (.lconst 0, 1) := by decide +kernel
theorem dX8_isKind_9 : decode cX8_isKind 9 = .ok (.aload_n 0, 1) := by decide +kernel
theorem dX8_isKind_10 : decode cX8_isKind 10 = .ok (.invokevirtual 212, 3) := by decide +kernel
theorem dX8_isKind_13 : decode cX8_isKind 13 = .ok (.i2l, 1) := by decide +kernel
theorem dX8_isKind_14 : decode cX8_isKind 14 = .ok (.lconst 1, 1) := by decide +kernel
theorem dX8_isKind_15 : decode cX8_isKind 15 = .ok (.lsub, 1) := by decide +kernel
theorem dX8_isKind_16 : decode cX8_isKind 16 = .ok (.invokestatic 76, 3) := by decide +kernel
theorem dX8_isKind_19 : decode cX8_isKind 19 = .ok (.ifCond .eq 7, 3) := by decide +kernel
theorem dX8_isKind_22 : decode cX8_isKind 22 = .ok (.iconst 1, 1) := by decide +kernel
theorem dX8_isKind_23 : decode cX8_isKind 23 = .ok (.goto 4, 3) := by decide +kernel
theorem dX8_isKind_26 : decode cX8_isKind 26 = .ok (.iconst 0, 1) := by decide +kernel
theorem dX8_isKind_27 : decode cX8_isKind 27 = .ok (.ireturn, 1) := by decide +kernel
theorem dX8_isPerson_0 : decode cX8_isPerson 0 = .ok (.lload_n 1, 1) := by decide +kernel
theorem dX8_isPerson_1 : decode cX8_isPerson 1 = .ok (.lconst 0, 1) := by decide +kernel
theorem dX8_isPerson_2 : decode cX8_isPerson 2 = .ok (.aload_n 0, 1) := by decide +kernel
theorem dX8_isPerson_3 : decode cX8_isPerson 3 = .ok (.invokevirtual 216, 3) := by decide +kernel
theorem dX8_isPerson_6 : decode cX8_isPerson 6 = .ok (.i2l, 1) := by decide +kernel
theorem dX8_isPerson_7 : decode cX8_isPerson 7 = .ok (.lconst 1, 1) := by decide +kernel
theorem dX8_isPerson_8 : decode cX8_isPerson 8 = .ok (.lsub, 1) := by decide +kernel
theorem dX8_isPerson_9 : decode cX8_isPerson 9 = .ok (.invokestatic 76, 3) := by decide +kernel
theorem dX8_isPerson_12 : decode cX8_isPerson 12 = .ok (.ireturn, 1) := by decide +kernel
theorem dX8_areTwo_0 : decode cX8_areTwo 0 = .ok (.aload_n 0, 1) := by decide +kernel
theorem dX8_areTwo_1 : decode cX8_areTwo 1 = .ok (.iload_n 1, 1) := by decide +kernel
theorem dX8_areTwo_2 : decode cX8_areTwo 2 = .ok (.i2l, 1) := by decide +kernel
theorem dX8_areTwo_3 : decode cX8_areTwo 3 = .ok (.invokevirtual 219, 3) := by decide +kernel
theorem dX8_areTwo_6 : decode cX8_areTwo 6 = .ok (.ifCond .eq 21, 3) := by decide +kernel
theorem dX8_areTwo_9 : decode cX8_areTwo 9 = .ok (.aload_n 0, 1) := by decide +kernel
theorem dX8_areTwo_10 : decode cX8_areTwo 10 = .ok (.iload_n 2, 1) := by decide +kernel
theorem dX8_areTwo_11 : decode cX8_areTwo 11 = .ok (.i2l, 1) := by decide +kernel
theorem dX8_areTwo_12 : decode cX8_areTwo 12 = .ok (.invokevirtual 219, 3) := by decide +kernel
theorem dX8_areTwo_15 : decode cX8_areTwo 15 = .ok (.ifCond .eq 12, 3) := by decide +kernel
theorem dX8_areTwo_18 : decode cX8_areTwo 18 = .ok (.iload_n 1, 1) := by decide +kernel
theorem dX8_areTwo_19 : decode cX8_areTwo 19 = .ok (.iload_n 2, 1) := by decide +kernel
theorem dX8_areTwo_20 : decode cX8_areTwo 20 = .ok (.if_icmp .eq 7, 3) := by decide +kernel
theorem dX8_areTwo_23 : decode cX8_areTwo 23 = .ok (.iconst 1, 1) := by decide +kernel
theorem dX8_areTwo_24 : decode cX8_areTwo 24 = .ok (.goto 4, 3) := by decide +kernel
theorem dX8_areTwo_27 : decode cX8_areTwo 27 = .ok (.iconst 0, 1) := by decide +kernel
theorem dX8_areTwo_28 : decode cX8_areTwo 28 = .ok (.ireturn, 1) := by decide +kernel
theorem dX8_isSeason_0 : decode cX8_isSeason 0 = .ok (.iload_n 0, 1) := by decide +kernel
theorem dX8_isSeason_1 : decode cX8_isSeason 1 = .ok (.i2l, 1) := by decide +kernel
theorem dX8_isSeason_2 : decode cX8_isSeason 2 = .ok (.lconst 0, 1) := by decide +kernel
theorem dX8_isSeason_3 : decode cX8_isSeason 3 = .ok (.ldc2_w 222, 3) := by decide +kernel
theorem dX8_isSeason_6 : decode cX8_isSeason 6 = .ok (.invokestatic 76, 3) := by decide +kernel
theorem dX8_isSeason_9 : decode cX8_isSeason 9 = .ok (.ireturn, 1) := by decide +kernel
theorem dX8_isTime_0 : decode cX8_isTime 0 = .ok (.aload_n 0, 1) := by decide +kernel
theorem dX8_isTime_1 : decode cX8_isTime 1 = .ok (.invokevirtual 209, 3) := by decide +kernel
theorem dX8_isTime_4 : decode cX8_isTime 4 = .ok (.ifCond .eq 14, 3) := by decide +kernel
theorem dX8_isTime_7 : decode cX8_isTime 7 = .ok (.iload_n 1, 1) := by decide +kernel
theorem dX8_isTime_8 : decode cX8_isTime 8 = .ok (.invokestatic 224, 3) := by decide +kernel
theorem dX8_isTime_11 : decode cX8_isTime 11 = .ok (.ifCond .eq 7, 3) := by decide +kernel
theorem dX8_isTime_14 : decode cX8_isTime 14 = .ok (.iconst 1, 1) := by decide +kernel
theorem dX8_isTime_15 : decode cX8_isTime 15 = .ok (.goto 4, 3) := by decide +kernel
theorem dX8_isTime_18 : decode cX8_isTime 18 = .ok (.iconst 0, 1) := by decide +kernel
theorem dX8_isTime_19 : decode cX8_isTime 19 = .ok (.ireturn, 1) := by decide +kernel
theorem dX8_isHalf_0 : decode cX8_isHalf 0 = .ok (.iload_n 0, 1) := by decide +kernel
theorem dX8_isHalf_1 : decode cX8_isHalf 1 = .ok (.i2l, 1) := by decide +kernel
theorem dX8_isHalf_2 : decode cX8_isHalf 2 = .ok (.lconst 0, 1) := by decide +kernel
theorem dX8_isHalf_3 : decode cX8_isHalf 3 = .ok (.lconst 1, 1) := by decide +kernel
theorem dX8_isHalf_4 : decode cX8_isHalf 4 = .ok (.invokestatic 76, 3) := by decide +kernel
theorem dX8_isHalf_7 : decode cX8_isHalf 7 = .ok (.ireturn, 1) := by decide +kernel
theorem dX8_isBit_0 : decode cX8_isBit 0 = .ok (.iload_n 0, 1) := by decide +kernel
theorem dX8_isBit_1 : decode cX8_isBit 1 = .ok (.iload_n 1, 1) := by decide +kernel
theorem dX8_isBit_2 : decode cX8_isBit 2 = .ok (.ishr, 1) := by decide +kernel
theorem dX8_isBit_3 : decode cX8_isBit 3 = .ok (.iconst 1, 1) := by decide +kernel
theorem dX8_isBit_4 : decode cX8_isBit 4 = .ok (.iand, 1) := by decide +kernel
theorem dX8_isBit_5 : decode cX8_isBit 5 = .ok (.iconst 1, 1) := by decide +kernel
theorem dX8_isBit_6 : decode cX8_isBit 6 = .ok (.if_icmp .ne 7, 3) := by decide +kernel
theorem dX8_isBit_9 : decode cX8_isBit 9 = .ok (.iconst 1, 1) := by decide +kernel
theorem dX8_isBit_10 : decode cX8_isBit 10 = .ok (.goto 4, 3) := by decide +kernel
theorem dX8_isBit_13 : decode cX8_isBit 13 = .ok (.iconst 0, 1) := by decide +kernel
theorem dX8_isBit_14 : decode cX8_isBit 14 = .ok (.ireturn, 1) := by decide +kernel
theorem dX8_sizeOf_0 : decode cX8_sizeOf 0 = .ok (.iconst 0, 1) := by decide +kernel
theorem dX8_sizeOf_1 : decode cX8_sizeOf 1 = .ok (.istore_n 1, 1) := by decide +kernel
theorem dX8_sizeOf_2 : decode cX8_sizeOf 2 = .ok (.iload_n 0, 1) := by decide +kernel
theorem dX8_sizeOf_3 : decode cX8_sizeOf 3 = .ok (.istore_n 2, 1) := by decide +kernel
theorem dX8_sizeOf_4 : decode cX8_sizeOf 4 = .ok (.iload_n 2, 1) := by decide +kernel
theorem dX8_sizeOf_5 : decode cX8_sizeOf 5 = .ok (.ifCond .eq 15, 3) := by decide +kernel
theorem dX8_sizeOf_8 : decode cX8_sizeOf 8 = .ok (.iinc 1 1, 3) := by decide +kernel
theorem dX8_sizeOf_11 : decode cX8_sizeOf 11 = .ok (.iload_n 2, 1) := by decide +kernel
theorem dX8_sizeOf_12 : decode cX8_sizeOf 12 = .ok (.iload_n 2, 1) := by decide +kernel
theorem dX8_sizeOf_13 : decode cX8_sizeOf 13 = .ok (.iconst 1, 1) := by decide +kernel
theorem dX8_sizeOf_14 : decode cX8_sizeOf 14 = .ok (.isub, 1) := by decide +kernel
theorem dX8_sizeOf_15 : decode cX8_sizeOf 15 = .ok (.iand, 1) := by decide +kernel
theorem dX8_sizeOf_16 : decode cX8_sizeOf 16 = .ok (.istore_n 2, 1) := by decide +kernel
theorem dX8_sizeOf_17 : decode cX8_sizeOf 17 = .ok (.goto (-13), 3) := by decide +kernel
theorem dX8_sizeOf_20 : decode cX8_sizeOf 20 = .ok (.iload_n 1, 1) := by decide +kernel
theorem dX8_sizeOf_21 : decode cX8_sizeOf 21 = .ok (.ireturn, 1) := by decide +kernel
theorem dX8_acts_0 : decode cX8_acts 0 = .ok (.iconst 0, 1) := by decide +kernel
theorem dX8_acts_1 : decode cX8_acts 1 = .ok (.istore_n 2, 1) := by decide +kernel
theorem dX8_acts_2 : decode cX8_acts 2 = .ok (.iload_n 2, 1) := by decide +kernel
theorem dX8_acts_3 : decode cX8_acts 3 = .ok (.aload_n 0, 1) := by decide +kernel
theorem dX8_acts_4 : decode cX8_acts 4 = .ok (.getfield 34, 3) := by decide +kernel
theorem dX8_acts_7 : decode cX8_acts 7 = .ok (.iconst 5, 1) := by decide +kernel
theorem dX8_acts_8 : decode cX8_acts 8 = .ok (.iaload, 1) := by decide +kernel
theorem dX8_acts_9 : decode cX8_acts 9 = .ok (.if_icmp .ge 115, 3) := by decide +kernel
theorem dX8_acts_12 : decode cX8_acts 12 = .ok (.aload_n 0, 1) := by decide +kernel
theorem dX8_acts_13 : decode cX8_acts 13 = .ok (.getfield 40, 3) := by decide +kernel
theorem dX8_acts_16 : decode cX8_acts 16 = .ok (.iconst 4, 1) := by decide +kernel
theorem dX8_acts_17 : decode cX8_acts 17 = .ok (.iload_n 2, 1) := by decide +kernel
theorem dX8_acts_18 : decode cX8_acts 18 = .ok (.imul, 1) := by decide +kernel
theorem dX8_acts_19 : decode cX8_acts 19 = .ok (.iconst 3, 1) := by decide +kernel
theorem dX8_acts_20 : decode cX8_acts 20 = .ok (.iadd, 1) := by decide +kernel
theorem dX8_acts_21 : decode cX8_acts 21 = .ok (.iaload, 1) := by decide +kernel
theorem dX8_acts_22 : decode cX8_acts 22 = .ok (.iload_n 1, 1) := by decide +kernel
theorem dX8_acts_23 : decode cX8_acts 23 = .ok (.if_icmp .eq 6, 3) := by decide +kernel
theorem dX8_acts_26 : decode cX8_acts 26 = .ok (.goto 92, 3) := by decide +kernel
theorem dX8_acts_29 : decode cX8_acts 29 = .ok (.aload_n 0, 1) := by decide +kernel
theorem dX8_acts_30 : decode cX8_acts 30 = .ok (.getfield 40, 3) := by decide +kernel
theorem dX8_acts_33 : decode cX8_acts 33 = .ok (.iconst 4, 1) := by decide +kernel
theorem dX8_acts_34 : decode cX8_acts 34 = .ok (.iload_n 2, 1) := by decide +kernel
theorem dX8_acts_35 : decode cX8_acts 35 = .ok (.imul, 1) := by decide +kernel
theorem dX8_acts_36 : decode cX8_acts 36 = .ok (.iconst 1, 1) := by decide +kernel
theorem dX8_acts_37 : decode cX8_acts 37 = .ok (.iadd, 1) := by decide +kernel
theorem dX8_acts_38 : decode cX8_acts 38 = .ok (.iaload, 1) := by decide +kernel
theorem dX8_acts_39 : decode cX8_acts 39 = .ok (.istore_n 3, 1) := by decide +kernel
theorem dX8_acts_40 : decode cX8_acts 40 = .ok (.aload_n 0, 1) := by decide +kernel
theorem dX8_acts_41 : decode cX8_acts 41 = .ok (.getfield 40, 3) := by decide +kernel
theorem dX8_acts_44 : decode cX8_acts 44 = .ok (.iconst 4, 1) := by decide +kernel
theorem dX8_acts_45 : decode cX8_acts 45 = .ok (.iload_n 2, 1) := by decide +kernel
theorem dX8_acts_46 : decode cX8_acts 46 = .ok (.imul, 1) := by decide +kernel
theorem dX8_acts_47 : decode cX8_acts 47 = .ok (.iconst 2, 1) := by decide +kernel
theorem dX8_acts_48 : decode cX8_acts 48 = .ok (.iadd, 1) := by decide +kernel
theorem dX8_acts_49 : decode cX8_acts 49 = .ok (.iaload, 1) := by decide +kernel
theorem dX8_acts_50 : decode cX8_acts 50 = .ok (.istore 4, 2) := by decide +kernel
theorem dX8_acts_52 : decode cX8_acts 52 = .ok (.aload_n 0, 1) := by decide +kernel
theorem dX8_acts_53 : decode cX8_acts 53 = .ok (.getfield 40, 3) := by decide +kernel
theorem dX8_acts_56 : decode cX8_acts 56 = .ok (.iconst 4, 1) := by decide +kernel
theorem dX8_acts_57 : decode cX8_acts 57 = .ok (.iload_n 2, 1) := by decide +kernel
theorem dX8_acts_58 : decode cX8_acts 58 = .ok (.imul, 1) := by decide +kernel
theorem dX8_acts_59 : decode cX8_acts 59 = .ok (.iaload, 1) := by decide +kernel
theorem dX8_acts_60 : decode cX8_acts 60 = .ok (.ifCond .ne 13, 3) := by decide +kernel
theorem dX8_acts_63 : decode cX8_acts 63 = .ok (.aload_n 0, 1) := by decide +kernel
theorem dX8_acts_64 : decode cX8_acts 64 = .ok (.iload_n 3, 1) := by decide +kernel
theorem dX8_acts_65 : decode cX8_acts 65 = .ok (.iload 4, 2) := by decide +kernel
theorem dX8_acts_67 : decode cX8_acts 67 = .ok (.invokevirtual 227, 3) := by decide +kernel
theorem dX8_acts_70 : decode cX8_acts 70 = .ok (.goto 48, 3) := by decide +kernel
theorem dX8_acts_73 : decode cX8_acts 73 = .ok (.aload_n 0, 1) := by decide +kernel
theorem dX8_acts_74 : decode cX8_acts 74 = .ok (.getfield 56, 3) := by decide +kernel
theorem dX8_acts_77 : decode cX8_acts 77 = .ok (.iload_n 3, 1) := by decide +kernel
theorem dX8_acts_78 : decode cX8_acts 78 = .ok (.aload_n 0, 1) := by decide +kernel
theorem dX8_acts_79 : decode cX8_acts 79 = .ok (.getfield 40, 3) := by decide +kernel
theorem dX8_acts_82 : decode cX8_acts 82 = .ok (.iconst 4, 1) := by decide +kernel
theorem dX8_acts_83 : decode cX8_acts 83 = .ok (.iload_n 2, 1) := by decide +kernel
theorem dX8_acts_84 : decode cX8_acts 84 = .ok (.imul, 1) := by decide +kernel
theorem dX8_acts_85 : decode cX8_acts 85 = .ok (.iaload, 1) := by decide +kernel
theorem dX8_acts_86 : decode cX8_acts 86 = .ok (.iconst 1, 1) := by decide +kernel
theorem dX8_acts_87 : decode cX8_acts 87 = .ok (.if_icmp .ne 17, 3) := by decide +kernel
theorem dX8_acts_90 : decode cX8_acts 90 = .ok (.aload_n 0, 1) := by decide +kernel
theorem dX8_acts_91 : decode cX8_acts 91 = .ok (.getfield 56, 3) := by decide +kernel
theorem dX8_acts_94 : decode cX8_acts 94 = .ok (.iload_n 3, 1) := by decide +kernel
theorem dX8_acts_95 : decode cX8_acts 95 = .ok (.iaload, 1) := by decide +kernel
theorem dX8_acts_96 : decode cX8_acts 96 = .ok (.iconst 1, 1) := by decide +kernel
theorem dX8_acts_97 : decode cX8_acts 97 = .ok (.iload 4, 2) := by decide +kernel
theorem dX8_acts_99 : decode cX8_acts 99 = .ok (.ishl, 1) := by decide +kernel
theorem dX8_acts_100 : decode cX8_acts 100 = .ok (.ior, 1) := by decide +kernel
theorem dX8_acts_101 : decode cX8_acts 101 = .ok (.goto 16, 3) := by decide +kernel
theorem dX8_acts_104 : decode cX8_acts 104 = .ok (.aload_n 0, 1) := by decide +kernel
theorem dX8_acts_105 : decode cX8_acts 105 = .ok (.getfield 56, 3) := by decide +kernel
theorem dX8_acts_108 : decode cX8_acts 108 = .ok (.iload_n 3, 1) := by decide +kernel
theorem dX8_acts_109 : decode cX8_acts 109 = .ok (.iaload, 1) := by decide +kernel
theorem dX8_acts_110 : decode cX8_acts 110 = .ok (.iconst 1, 1) := by decide +kernel
theorem dX8_acts_111 : decode cX8_acts 111 = .ok (.iload 4, 2) := by decide +kernel
theorem dX8_acts_113 : decode cX8_acts 113 = .ok (.ishl, 1) := by decide +kernel
theorem dX8_acts_114 : decode cX8_acts 114 = .ok (.iconst (-1), 1) := by decide +kernel
theorem dX8_acts_115 : decode cX8_acts 115 = .ok (.ixor, 1) := by decide +kernel
theorem dX8_acts_116 : decode cX8_acts 116 = .ok (.iand, 1) := by decide +kernel
theorem dX8_acts_117 : decode cX8_acts 117 = .ok (.iastore, 1) := by decide +kernel
theorem dX8_acts_118 : decode cX8_acts 118 = .ok (.iinc 2 1, 3) := by decide +kernel
theorem dX8_acts_121 : decode cX8_acts 121 = .ok (.goto (-119), 3) := by decide +kernel
theorem dX8_acts_124 : decode cX8_acts 124 = .ok (.return_, 1) := by decide +kernel
theorem dX8_changes_0 : decode cX8_changes 0 = .ok (.aload_n 0, 1) := by decide +kernel
theorem dX8_changes_1 : decode cX8_changes 1 = .ok (.getfield 53, 3) := by decide +kernel
theorem dX8_changes_4 : decode cX8_changes 4 = .ok (.iload_n 1, 1) := by decide +kernel
theorem dX8_changes_5 : decode cX8_changes 5 = .ok (.iaload, 1) := by decide +kernel
theorem dX8_changes_6 : decode cX8_changes 6 = .ok (.istore_n 3, 1) := by decide +kernel
theorem dX8_changes_7 : decode cX8_changes 7 = .ok (.aload_n 0, 1) := by decide +kernel
theorem dX8_changes_8 : decode cX8_changes 8 = .ok (.getfield 53, 3) := by decide +kernel
theorem dX8_changes_11 : decode cX8_changes 11 = .ok (.iload_n 1, 1) := by decide +kernel
theorem dX8_changes_12 : decode cX8_changes 12 = .ok (.aload_n 0, 1) := by decide +kernel
theorem dX8_changes_13 : decode cX8_changes 13 = .ok (.getfield 53, 3) := by decide +kernel
theorem dX8_changes_16 : decode cX8_changes 16 = .ok (.iload_n 2, 1) := by decide +kernel
theorem dX8_changes_17 : decode cX8_changes 17 = .ok (.iaload, 1) := by decide +kernel
theorem dX8_changes_18 : decode cX8_changes 18 = .ok (.iastore, 1) := by decide +kernel
theorem dX8_changes_19 : decode cX8_changes 19 = .ok (.aload_n 0, 1) := by decide +kernel
theorem dX8_changes_20 : decode cX8_changes 20 = .ok (.getfield 53, 3) := by decide +kernel
theorem dX8_changes_23 : decode cX8_changes 23 = .ok (.iload_n 2, 1) := by decide +kernel
theorem dX8_changes_24 : decode cX8_changes 24 = .ok (.iload_n 3, 1) := by decide +kernel
theorem dX8_changes_25 : decode cX8_changes 25 = .ok (.iastore, 1) := by decide +kernel
theorem dX8_changes_26 : decode cX8_changes 26 = .ok (.aload_n 0, 1) := by decide +kernel
theorem dX8_changes_27 : decode cX8_changes 27 = .ok (.getfield 50, 3) := by decide +kernel
theorem dX8_changes_30 : decode cX8_changes 30 = .ok (.aload_n 0, 1) := by decide +kernel
theorem dX8_changes_31 : decode cX8_changes 31 = .ok (.getfield 53, 3) := by decide +kernel
theorem dX8_changes_34 : decode cX8_changes 34 = .ok (.iload_n 1, 1) := by decide +kernel
theorem dX8_changes_35 : decode cX8_changes 35 = .ok (.iaload, 1) := by decide +kernel
theorem dX8_changes_36 : decode cX8_changes 36 = .ok (.iload_n 1, 1) := by decide +kernel
theorem dX8_changes_37 : decode cX8_changes 37 = .ok (.iastore, 1) := by decide +kernel
theorem dX8_changes_38 : decode cX8_changes 38 = .ok (.aload_n 0, 1) := by decide +kernel
theorem dX8_changes_39 : decode cX8_changes 39 = .ok (.getfield 50, 3) := by decide +kernel
theorem dX8_changes_42 : decode cX8_changes 42 = .ok (.aload_n 0, 1) := by decide +kernel
theorem dX8_changes_43 : decode cX8_changes 43 = .ok (.getfield 53, 3) := by decide +kernel
theorem dX8_changes_46 : decode cX8_changes 46 = .ok (.iload_n 2, 1) := by decide +kernel
theorem dX8_changes_47 : decode cX8_changes 47 = .ok (.iaload, 1) := by decide +kernel
theorem dX8_changes_48 : decode cX8_changes 48 = .ok (.iload_n 2, 1) := by decide +kernel
theorem dX8_changes_49 : decode cX8_changes 49 = .ok (.iastore, 1) := by decide +kernel
theorem dX8_changes_50 : decode cX8_changes 50 = .ok (.return_, 1) := by decide +kernel
theorem dX8_begins0_0 : decode cX8_begins0 0 = .ok (.aload_n 0, 1) := by decide +kernel
theorem dX8_begins0_1 : decode cX8_begins0 1 = .ok (.aload_n 0, 1) := by decide +kernel
theorem dX8_begins0_2 : decode cX8_begins0 2 = .ok (.invokevirtual 216, 3) := by decide +kernel
theorem dX8_begins0_5 : decode cX8_begins0 5 = .ok (.putfield 230, 3) := by decide +kernel
theorem dX8_begins0_8 : decode cX8_begins0 8 = .ok (.iconst 0, 1) := by decide +kernel
theorem dX8_begins0_9 : decode cX8_begins0 9 = .ok (.istore_n 1, 1) := by decide +kernel
theorem dX8_begins0_10 : decode cX8_begins0 10 = .ok (.iload_n 1, 1) := by decide +kernel
theorem dX8_begins0_11 : decode cX8_begins0 11 = .ok (.aload_n 0, 1) := by decide +kernel
theorem dX8_begins0_12 : decode cX8_begins0 12 = .ok (.invokevirtual 216, 3) := by decide +kernel
theorem dX8_begins0_15 : decode cX8_begins0 15 = .ok (.if_icmp .ge 70, 3) := by decide +kernel
theorem dX8_begins0_18 : decode cX8_begins0 18 = .ok (.aload_n 0, 1) := by decide +kernel
theorem dX8_begins0_19 : decode cX8_begins0 19 = .ok (.getfield 50, 3) := by decide +kernel
theorem dX8_begins0_22 : decode cX8_begins0 22 = .ok (.iload_n 1, 1) := by decide +kernel
theorem dX8_begins0_23 : decode cX8_begins0 23 = .ok (.iload_n 1, 1) := by decide +kernel
theorem dX8_begins0_24 : decode cX8_begins0 24 = .ok (.iastore, 1) := by decide +kernel
theorem dX8_begins0_25 : decode cX8_begins0 25 = .ok (.aload_n 0, 1) := by decide +kernel
theorem dX8_begins0_26 : decode cX8_begins0 26 = .ok (.getfield 53, 3) := by decide +kernel
theorem dX8_begins0_29 : decode cX8_begins0 29 = .ok (.iload_n 1, 1) := by decide +kernel
theorem dX8_begins0_30 : decode cX8_begins0 30 = .ok (.iload_n 1, 1) := by decide +kernel
theorem dX8_begins0_31 : decode cX8_begins0 31 = .ok (.iastore, 1) := by decide +kernel
theorem dX8_begins0_32 : decode cX8_begins0 32 = .ok (.aload_n 0, 1) := by decide +kernel
theorem dX8_begins0_33 : decode cX8_begins0 33 = .ok (.getfield 56, 3) := by decide +kernel
theorem dX8_begins0_36 : decode cX8_begins0 36 = .ok (.iload_n 1, 1) := by decide +kernel
theorem dX8_begins0_37 : decode cX8_begins0 37 = .ok (.iconst 0, 1) := by decide +kernel
theorem dX8_begins0_38 : decode cX8_begins0 38 = .ok (.iastore, 1) := by decide +kernel
theorem dX8_begins0_39 : decode cX8_begins0 39 = .ok (.aload_n 0, 1) := by decide +kernel
theorem dX8_begins0_40 : decode cX8_begins0 40 = .ok (.getfield 59, 3) := by decide +kernel
theorem dX8_begins0_43 : decode cX8_begins0 43 = .ok (.iload_n 1, 1) := by decide +kernel
theorem dX8_begins0_44 : decode cX8_begins0 44 = .ok (.iconst 0, 1) := by decide +kernel
theorem dX8_begins0_45 : decode cX8_begins0 45 = .ok (.iastore, 1) := by decide +kernel
theorem dX8_begins0_46 : decode cX8_begins0 46 = .ok (.iconst 0, 1) := by decide +kernel
theorem dX8_begins0_47 : decode cX8_begins0 47 = .ok (.istore_n 2, 1) := by decide +kernel
theorem dX8_begins0_48 : decode cX8_begins0 48 = .ok (.iload_n 2, 1) := by decide +kernel
theorem dX8_begins0_49 : decode cX8_begins0 49 = .ok (.iconst 5, 1) := by decide +kernel
theorem dX8_begins0_50 : decode cX8_begins0 50 = .ok (.if_icmp .ge 29, 3) := by decide +kernel
theorem dX8_begins0_53 : decode cX8_begins0 53 = .ok (.aload_n 0, 1) := by decide +kernel
theorem dX8_begins0_54 : decode cX8_begins0 54 = .ok (.getfield 47, 3) := by decide +kernel
theorem dX8_begins0_57 : decode cX8_begins0 57 = .ok (.iconst 5, 1) := by decide +kernel
theorem dX8_begins0_58 : decode cX8_begins0 58 = .ok (.iload_n 1, 1) := by decide +kernel
theorem dX8_begins0_59 : decode cX8_begins0 59 = .ok (.imul, 1) := by decide +kernel
theorem dX8_begins0_60 : decode cX8_begins0 60 = .ok (.iload_n 2, 1) := by decide +kernel
theorem dX8_begins0_61 : decode cX8_begins0 61 = .ok (.iadd, 1) := by decide +kernel
theorem dX8_begins0_62 : decode cX8_begins0 62 = .ok (.aload_n 0, 1) := by decide +kernel
theorem dX8_begins0_63 : decode cX8_begins0 63 = .ok (.getfield 37, 3) := by decide +kernel
theorem dX8_begins0_66 : decode cX8_begins0 66 = .ok (.iconst 5, 1) := by decide +kernel
theorem dX8_begins0_67 : decode cX8_begins0 67 = .ok (.iload_n 1, 1) := by decide +kernel
theorem dX8_begins0_68 : decode cX8_begins0 68 = .ok (.imul, 1) := by decide +kernel
theorem dX8_begins0_69 : decode cX8_begins0 69 = .ok (.iload_n 2, 1) := by decide +kernel
theorem dX8_begins0_70 : decode cX8_begins0 70 = .ok (.iadd, 1) := by decide +kernel
theorem dX8_begins0_71 : decode cX8_begins0 71 = .ok (.iaload, 1) := by decide +kernel
theorem dX8_begins0_72 : decode cX8_begins0 72 = .ok (.iastore, 1) := by decide +kernel
theorem dX8_begins0_73 : decode cX8_begins0 73 = .ok (.iinc 2 1, 3) := by decide +kernel
theorem dX8_begins0_76 : decode cX8_begins0 76 = .ok (.goto (-28), 3) := by decide +kernel
theorem dX8_begins0_79 : decode cX8_begins0 79 = .ok (.iinc 1 1, 3) := by decide +kernel
theorem dX8_begins0_82 : decode cX8_begins0 82 = .ok (.goto (-72), 3) := by decide +kernel
theorem dX8_begins0_85 : decode cX8_begins0 85 = .ok (.aload_n 0, 1) := by decide +kernel
theorem dX8_begins0_86 : decode cX8_begins0 86 = .ok (.iconst 0, 1) := by decide +kernel
theorem dX8_begins0_87 : decode cX8_begins0 87 = .ok (.invokevirtual 233, 3) := by decide +kernel
theorem dX8_begins0_90 : decode cX8_begins0 90 = .ok (.return_, 1) := by decide +kernel
theorem dX8_tasteOf_0 : decode cX8_tasteOf 0 = .ok (.aload_n 0, 1) := by decide +kernel
theorem dX8_tasteOf_1 : decode cX8_tasteOf 1 = .ok (.getfield 47, 3) := by decide +kernel
theorem dX8_tasteOf_4 : decode cX8_tasteOf 4 = .ok (.iconst 5, 1) := by decide +kernel
theorem dX8_tasteOf_5 : decode cX8_tasteOf 5 = .ok (.iload_n 1, 1) := by decide +kernel
theorem dX8_tasteOf_6 : decode cX8_tasteOf 6 = .ok (.imul, 1) := by decide +kernel
theorem dX8_tasteOf_7 : decode cX8_tasteOf 7 = .ok (.iload_n 2, 1) := by decide +kernel
theorem dX8_tasteOf_8 : decode cX8_tasteOf 8 = .ok (.iadd, 1) := by decide +kernel
theorem dX8_tasteOf_9 : decode cX8_tasteOf 9 = .ok (.iaload, 1) := by decide +kernel
theorem dX8_tasteOf_10 : decode cX8_tasteOf 10 = .ok (.ireturn, 1) := by decide +kernel
theorem dX8_hatesOf_0 : decode cX8_hatesOf 0 = .ok (.iconst 0, 1) := by decide +kernel
theorem dX8_hatesOf_1 : decode cX8_hatesOf 1 = .ok (.istore_n 2, 1) := by decide +kernel
theorem dX8_hatesOf_2 : decode cX8_hatesOf 2 = .ok (.iconst 0, 1) := by decide +kernel
theorem dX8_hatesOf_3 : decode cX8_hatesOf 3 = .ok (.istore_n 3, 1) := by decide +kernel
theorem dX8_hatesOf_4 : decode cX8_hatesOf 4 = .ok (.iload_n 3, 1) := by decide +kernel
theorem dX8_hatesOf_5 : decode cX8_hatesOf 5 = .ok (.aload_n 0, 1) := by decide +kernel
theorem dX8_hatesOf_6 : decode cX8_hatesOf 6 = .ok (.invokevirtual 212, 3) := by decide +kernel
theorem dX8_hatesOf_9 : decode cX8_hatesOf 9 = .ok (.if_icmp .ge 28, 3) := by decide +kernel
theorem dX8_hatesOf_12 : decode cX8_hatesOf 12 = .ok (.iload_n 2, 1) := by decide +kernel
theorem dX8_hatesOf_13 : decode cX8_hatesOf 13 = .ok (.aload_n 0, 1) := by decide +kernel
theorem dX8_hatesOf_14 : decode cX8_hatesOf 14 = .ok (.iload_n 1, 1) := by decide +kernel
theorem dX8_hatesOf_15 : decode cX8_hatesOf 15 = .ok (.iload_n 3, 1) := by decide +kernel
theorem dX8_hatesOf_16 : decode cX8_hatesOf 16 = .ok (.invokevirtual 236, 3) := by decide +kernel
theorem dX8_hatesOf_19 : decode cX8_hatesOf 19 = .ok (.ifCond .ge 9, 3) := by decide +kernel
theorem dX8_hatesOf_22 : decode cX8_hatesOf 22 = .ok (.iconst 1, 1) := by decide +kernel
theorem dX8_hatesOf_23 : decode cX8_hatesOf 23 = .ok (.iload_n 3, 1) := by decide +kernel
theorem dX8_hatesOf_24 : decode cX8_hatesOf 24 = .ok (.ishl, 1) := by decide +kernel
theorem dX8_hatesOf_25 : decode cX8_hatesOf 25 = .ok (.goto 4, 3) := by decide +kernel
theorem dX8_hatesOf_28 : decode cX8_hatesOf 28 = .ok (.iconst 0, 1) := by decide +kernel
theorem dX8_hatesOf_29 : decode cX8_hatesOf 29 = .ok (.ior, 1) := by decide +kernel
theorem dX8_hatesOf_30 : decode cX8_hatesOf 30 = .ok (.istore_n 2, 1) := by decide +kernel
theorem dX8_hatesOf_31 : decode cX8_hatesOf 31 = .ok (.iinc 3 1, 3) := by decide +kernel
theorem dX8_hatesOf_34 : decode cX8_hatesOf 34 = .ok (.goto (-30), 3) := by decide +kernel
theorem dX8_hatesOf_37 : decode cX8_hatesOf 37 = .ok (.iload_n 2, 1) := by decide +kernel
theorem dX8_hatesOf_38 : decode cX8_hatesOf 38 = .ok (.ireturn, 1) := by decide +kernel
theorem dX8_openOf_0 : decode cX8_openOf 0 = .ok (.aload_n 0, 1) := by decide +kernel
theorem dX8_openOf_1 : decode cX8_openOf 1 = .ok (.iload_n 1, 1) := by decide +kernel
theorem dX8_openOf_2 : decode cX8_openOf 2 = .ok (.invokevirtual 239, 3) := by decide +kernel
theorem dX8_openOf_5 : decode cX8_openOf 5 = .ok (.aload_n 0, 1) := by decide +kernel
theorem dX8_openOf_6 : decode cX8_openOf 6 = .ok (.getfield 56, 3) := by decide +kernel
theorem dX8_openOf_9 : decode cX8_openOf 9 = .ok (.iload_n 1, 1) := by decide +kernel
theorem dX8_openOf_10 : decode cX8_openOf 10 = .ok (.iaload, 1) := by decide +kernel
theorem dX8_openOf_11 : decode cX8_openOf 11 = .ok (.iconst (-1), 1) := by decide +kernel
theorem dX8_openOf_12 : decode cX8_openOf 12 = .ok (.ixor, 1) := by decide +kernel
theorem dX8_openOf_13 : decode cX8_openOf 13 = .ok (.iand, 1) := by decide +kernel
theorem dX8_openOf_14 : decode cX8_openOf 14 = .ok (.aload_n 0, 1) := by decide +kernel
theorem dX8_openOf_15 : decode cX8_openOf 15 = .ok (.getfield 59, 3) := by decide +kernel
theorem dX8_openOf_18 : decode cX8_openOf 18 = .ok (.iload_n 1, 1) := by decide +kernel
theorem dX8_openOf_19 : decode cX8_openOf 19 = .ok (.iaload, 1) := by decide +kernel
theorem dX8_openOf_20 : decode cX8_openOf 20 = .ok (.iconst (-1), 1) := by decide +kernel
theorem dX8_openOf_21 : decode cX8_openOf 21 = .ok (.ixor, 1) := by decide +kernel
theorem dX8_openOf_22 : decode cX8_openOf 22 = .ok (.iand, 1) := by decide +kernel
theorem dX8_openOf_23 : decode cX8_openOf 23 = .ok (.ireturn, 1) := by decide +kernel
theorem dX8_decidesFor_0 : decode cX8_decidesFor 0 = .ok (.aload_n 0, 1) := by decide +kernel
theorem dX8_decidesFor_1 : decode cX8_decidesFor 1 = .ok (.getfield 53, 3) := by decide +kernel
theorem dX8_decidesFor_4 : decode cX8_decidesFor 4 = .ok (.iload_n 1, 1) := by decide +kernel
theorem dX8_decidesFor_5 : decode cX8_decidesFor 5 = .ok (.iaload, 1) := by decide +kernel
theorem dX8_decidesFor_6 : decode cX8_decidesFor 6 = .ok (.istore_n 2, 1) := by decide +kernel
theorem dX8_decidesFor_7 : decode cX8_decidesFor 7 = .ok (.iload_n 2, 1) := by decide +kernel
theorem dX8_decidesFor_8 : decode cX8_decidesFor 8 = .ok (.iconst 1, 1) := by decide +kernel
theorem dX8_decidesFor_9 : decode cX8_decidesFor 9 = .ok (.iadd, 1) := by decide +kernel
theorem dX8_decidesFor_10 : decode cX8_decidesFor 10 = .ok (.aload_n 0, 1) := by decide +kernel
theorem dX8_decidesFor_11 : decode cX8_decidesFor 11 = .ok (.getfield 230, 3) := by decide +kernel
theorem dX8_decidesFor_14 : decode cX8_decidesFor 14 = .ok (.if_icmp .ge 12, 3) := by decide +kernel
theorem dX8_decidesFor_17 : decode cX8_decidesFor 17 = .ok (.aload_n 0, 1) := by decide +kernel
theorem dX8_decidesFor_18 : decode cX8_decidesFor 18 = .ok (.getfield 50, 3) := by decide +kernel
theorem dX8_decidesFor_21 : decode cX8_decidesFor 21 = .ok (.iload_n 2, 1) := by decide +kernel
theorem dX8_decidesFor_22 : decode cX8_decidesFor 22 = .ok (.iconst 1, 1) := by decide +kernel
theorem dX8_decidesFor_23 : decode cX8_decidesFor 23 = .ok (.iadd, 1) := by decide +kernel
theorem dX8_decidesFor_24 : decode cX8_decidesFor 24 = .ok (.iaload, 1) := by decide +kernel
theorem dX8_decidesFor_25 : decode cX8_decidesFor 25 = .ok (.ireturn, 1) := by decide +kernel
theorem dX8_decidesFor_26 : decode cX8_decidesFor 26 = .ok (.aload_n 0, 1) := by decide +kernel
theorem dX8_decidesFor_27 : decode cX8_decidesFor 27 = .ok (.getfield 34, 3) := by decide +kernel
theorem dX8_decidesFor_30 : decode cX8_decidesFor 30 = .ok (.iconst 1, 1) := by decide +kernel
theorem dX8_decidesFor_31 : decode cX8_decidesFor 31 = .ok (.iaload, 1) := by decide +kernel
theorem dX8_decidesFor_32 : decode cX8_decidesFor 32 = .ok (.iconst 2, 1) := by decide +kernel
theorem dX8_decidesFor_33 : decode cX8_decidesFor 33 = .ok (.if_icmp .ne 12, 3) := by decide +kernel
theorem dX8_decidesFor_36 : decode cX8_decidesFor 36 = .ok (.aload_n 0, 1) := by decide +kernel
theorem dX8_decidesFor_37 : decode cX8_decidesFor 37 = .ok (.getfield 50, 3) := by decide +kernel
theorem dX8_decidesFor_40 : decode cX8_decidesFor 40 = .ok (.iconst 0, 1) := by decide +kernel
theorem dX8_decidesFor_41 : decode cX8_decidesFor 41 = .ok (.iaload, 1) := by decide +kernel
theorem dX8_decidesFor_42 : decode cX8_decidesFor 42 = .ok (.goto 33, 3) := by decide +kernel
theorem dX8_decidesFor_45 : decode cX8_decidesFor 45 = .ok (.aload_n 0, 1) := by decide +kernel
theorem dX8_decidesFor_46 : decode cX8_decidesFor 46 = .ok (.getfield 34, 3) := by decide +kernel
theorem dX8_decidesFor_49 : decode cX8_decidesFor 49 = .ok (.iconst 1, 1) := by decide +kernel
theorem dX8_decidesFor_50 : decode cX8_decidesFor 50 = .ok (.iaload, 1) := by decide +kernel
theorem dX8_decidesFor_51 : decode cX8_decidesFor 51 = .ok (.iconst 3, 1) := by decide +kernel
theorem dX8_decidesFor_52 : decode cX8_decidesFor 52 = .ok (.if_icmp .ne 22, 3) := by decide +kernel
theorem dX8_decidesFor_55 : decode cX8_decidesFor 55 = .ok (.aload_n 0, 1) := by decide +kernel
theorem dX8_decidesFor_56 : decode cX8_decidesFor 56 = .ok (.getfield 230, 3) := by decide +kernel
theorem dX8_decidesFor_59 : decode cX8_decidesFor 59 = .ok (.iconst 1, 1) := by decide +kernel
theorem dX8_decidesFor_60 : decode cX8_decidesFor 60 = .ok (.if_icmp .le 14, 3) := by decide +kernel
theorem dX8_decidesFor_63 : decode cX8_decidesFor 63 = .ok (.aload_n 0, 1) := by decide +kernel
theorem dX8_decidesFor_64 : decode cX8_decidesFor 64 = .ok (.getfield 50, 3) := by decide +kernel
theorem dX8_decidesFor_67 : decode cX8_decidesFor 67 = .ok (.iload_n 2, 1) := by decide +kernel
theorem dX8_decidesFor_68 : decode cX8_decidesFor 68 = .ok (.iconst 1, 1) := by decide +kernel
theorem dX8_decidesFor_69 : decode cX8_decidesFor 69 = .ok (.isub, 1) := by decide +kernel
theorem dX8_decidesFor_70 : decode cX8_decidesFor 70 = .ok (.iaload, 1) := by decide +kernel
theorem dX8_decidesFor_71 : decode cX8_decidesFor 71 = .ok (.goto 4, 3) := by decide +kernel
theorem dX8_decidesFor_74 : decode cX8_decidesFor 74 = .ok (.iconst (-1), 1) := by decide +kernel
theorem dX8_decidesFor_75 : decode cX8_decidesFor 75 = .ok (.ireturn, 1) := by decide +kernel
theorem dX8_mayOf_0 : decode cX8_mayOf 0 = .ok (.aload_n 0, 1) := by decide +kernel
theorem dX8_mayOf_1 : decode cX8_mayOf 1 = .ok (.iload_n 1, 1) := by decide +kernel
theorem dX8_mayOf_2 : decode cX8_mayOf 2 = .ok (.invokevirtual 242, 3) := by decide +kernel
theorem dX8_mayOf_5 : decode cX8_mayOf 5 = .ok (.istore_n 2, 1) := by decide +kernel
theorem dX8_mayOf_6 : decode cX8_mayOf 6 = .ok (.iload_n 2, 1) := by decide +kernel
theorem dX8_mayOf_7 : decode cX8_mayOf 7 = .ok (.iconst (-1), 1) := by decide +kernel
theorem dX8_mayOf_8 : decode cX8_mayOf 8 = .ok (.if_icmp .eq 11, 3) := by decide +kernel
theorem dX8_mayOf_11 : decode cX8_mayOf 11 = .ok (.aload_n 0, 1) := by decide +kernel
theorem dX8_mayOf_12 : decode cX8_mayOf 12 = .ok (.iload_n 2, 1) := by decide +kernel
theorem dX8_mayOf_13 : decode cX8_mayOf 13 = .ok (.invokevirtual 245, 3) := by decide +kernel
theorem dX8_mayOf_16 : decode cX8_mayOf 16 = .ok (.goto 25, 3) := by decide +kernel
theorem dX8_mayOf_19 : decode cX8_mayOf 19 = .ok (.aload_n 0, 1) := by decide +kernel
theorem dX8_mayOf_20 : decode cX8_mayOf 20 = .ok (.getfield 34, 3) := by decide +kernel
theorem dX8_mayOf_23 : decode cX8_mayOf 23 = .ok (.iconst 1, 1) := by decide +kernel
theorem dX8_mayOf_24 : decode cX8_mayOf 24 = .ok (.iaload, 1) := by decide +kernel
theorem dX8_mayOf_25 : decode cX8_mayOf 25 = .ok (.iconst 1, 1) := by decide +kernel
theorem dX8_mayOf_26 : decode cX8_mayOf 26 = .ok (.if_icmp .ne 14, 3) := by decide +kernel
theorem dX8_mayOf_29 : decode cX8_mayOf 29 = .ok (.iconst 1, 1) := by decide +kernel
theorem dX8_mayOf_30 : decode cX8_mayOf 30 = .ok (.aload_n 0, 1) := by decide +kernel
theorem dX8_mayOf_31 : decode cX8_mayOf 31 = .ok (.invokevirtual 212, 3) := by decide +kernel
theorem dX8_mayOf_34 : decode cX8_mayOf 34 = .ok (.ishl, 1) := by decide +kernel
theorem dX8_mayOf_35 : decode cX8_mayOf 35 = .ok (.iconst 1, 1) := by decide +kernel
theorem dX8_mayOf_36 : decode cX8_mayOf 36 = .ok (.isub, 1) := by decide +kernel
theorem dX8_mayOf_37 : decode cX8_mayOf 37 = .ok (.goto 4, 3) := by decide +kernel
theorem dX8_mayOf_40 : decode cX8_mayOf 40 = .ok (.iconst 0, 1) := by decide +kernel
theorem dX8_mayOf_41 : decode cX8_mayOf 41 = .ok (.ireturn, 1) := by decide +kernel
theorem dX8_likedOf_0 : decode cX8_likedOf 0 = .ok (.iconst (-1), 1) := by decide +kernel
theorem dX8_likedOf_1 : decode cX8_likedOf 1 = .ok (.istore_n 3, 1) := by decide +kernel
theorem dX8_likedOf_2 : decode cX8_likedOf 2 = .ok (.iconst 0, 1) := by decide +kernel
theorem dX8_likedOf_3 : decode cX8_likedOf 3 = .ok (.istore 4, 2) := by decide +kernel
theorem dX8_likedOf_5 : decode cX8_likedOf 5 = .ok (.iload 4, 2) := by decide +kernel
theorem dX8_likedOf_7 : decode cX8_likedOf 7 = .ok (.aload_n 0, 1) := by decide +kernel
theorem dX8_likedOf_8 : decode cX8_likedOf 8 = .ok (.invokevirtual 212, 3) := by decide +kernel
theorem dX8_likedOf_11 : decode cX8_likedOf 11 = .ok (.if_icmp .ge 42, 3) := by decide +kernel
theorem dX8_likedOf_14 : decode cX8_likedOf 14 = .ok (.iload_n 2, 1) := by decide +kernel
theorem dX8_likedOf_15 : decode cX8_likedOf 15 = .ok (.iload 4, 2) := by decide +kernel
theorem dX8_likedOf_17 : decode cX8_likedOf 17 = .ok (.invokestatic 248, 3) := by decide +kernel
theorem dX8_likedOf_20 : decode cX8_likedOf 20 = .ok (.ifCond .eq 27, 3) := by decide +kernel
theorem dX8_likedOf_23 : decode cX8_likedOf 23 = .ok (.iload_n 3, 1) := by decide +kernel
theorem dX8_likedOf_24 : decode cX8_likedOf 24 = .ok (.iconst (-1), 1) := by decide +kernel
theorem dX8_likedOf_25 : decode cX8_likedOf 25 = .ok (.if_icmp .eq 19, 3) := by decide +kernel
theorem dX8_likedOf_28 : decode cX8_likedOf 28 = .ok (.aload_n 0, 1) := by decide +kernel
theorem dX8_likedOf_29 : decode cX8_likedOf 29 = .ok (.iload_n 1, 1) := by decide +kernel
theorem dX8_likedOf_30 : decode cX8_likedOf 30 = .ok (.iload 4, 2) := by decide +kernel
theorem dX8_likedOf_32 : decode cX8_likedOf 32 = .ok (.invokevirtual 236, 3) := by decide +kernel
theorem dX8_likedOf_35 : decode cX8_likedOf 35 = .ok (.aload_n 0, 1) := by decide +kernel
theorem dX8_likedOf_36 : decode cX8_likedOf 36 = .ok (.iload_n 1, 1) := by decide +kernel
theorem dX8_likedOf_37 : decode cX8_likedOf 37 = .ok (.iload_n 3, 1) := by decide +kernel
theorem dX8_likedOf_38 : decode cX8_likedOf 38 = .ok (.invokevirtual 236, 3) := by decide +kernel
theorem dX8_likedOf_41 : decode cX8_likedOf 41 = .ok (.if_icmp .le 6, 3) := by decide +kernel
theorem dX8_likedOf_44 : decode cX8_likedOf 44 = .ok (.iload 4, 2) := by decide +kernel
theorem dX8_likedOf_46 : decode cX8_likedOf 46 = .ok (.istore_n 3, 1) := by decide +kernel
theorem dX8_likedOf_47 : decode cX8_likedOf 47 = .ok (.iinc 4 1, 3) := by decide +kernel
theorem dX8_likedOf_50 : decode cX8_likedOf 50 = .ok (.goto (-45), 3) := by decide +kernel
theorem dX8_likedOf_53 : decode cX8_likedOf 53 = .ok (.iload_n 3, 1) := by decide +kernel
theorem dX8_likedOf_54 : decode cX8_likedOf 54 = .ok (.ireturn, 1) := by decide +kernel
theorem dX8_grow_0 : decode cX8_grow 0 = .ok (.iconst 0, 1) := by decide +kernel
theorem dX8_grow_1 : decode cX8_grow 1 = .ok (.istore_n 1, 1) := by decide +kernel
theorem dX8_grow_2 : decode cX8_grow 2 = .ok (.iload_n 1, 1) := by decide +kernel
theorem dX8_grow_3 : decode cX8_grow 3 = .ok (.aload_n 0, 1) := by decide +kernel
theorem dX8_grow_4 : decode cX8_grow 4 = .ok (.getfield 230, 3) := by decide +kernel
theorem dX8_grow_7 : decode cX8_grow 7 = .ok (.if_icmp .ge 40, 3) := by decide +kernel
theorem dX8_grow_10 : decode cX8_grow 10 = .ok (.aload_n 0, 1) := by decide +kernel
theorem dX8_grow_11 : decode cX8_grow 11 = .ok (.getfield 62, 3) := by decide +kernel
theorem dX8_grow_14 : decode cX8_grow 14 = .ok (.aload_n 0, 1) := by decide +kernel
theorem dX8_grow_15 : decode cX8_grow 15 = .ok (.getfield 50, 3) := by decide +kernel
theorem dX8_grow_18 : decode cX8_grow 18 = .ok (.iload_n 1, 1) := by decide +kernel
theorem dX8_grow_19 : decode cX8_grow 19 = .ok (.iaload, 1) := by decide +kernel
theorem dX8_grow_20 : decode cX8_grow 20 = .ok (.aload_n 0, 1) := by decide +kernel
theorem dX8_grow_21 : decode cX8_grow 21 = .ok (.aload_n 0, 1) := by decide +kernel
theorem dX8_grow_22 : decode cX8_grow 22 = .ok (.getfield 50, 3) := by decide +kernel
theorem dX8_grow_25 : decode cX8_grow 25 = .ok (.iload_n 1, 1) := by decide +kernel
theorem dX8_grow_26 : decode cX8_grow 26 = .ok (.iaload, 1) := by decide +kernel
theorem dX8_grow_27 : decode cX8_grow 27 = .ok (.aload_n 0, 1) := by decide +kernel
theorem dX8_grow_28 : decode cX8_grow 28 = .ok (.aload_n 0, 1) := by decide +kernel
theorem dX8_grow_29 : decode cX8_grow 29 = .ok (.getfield 50, 3) := by decide +kernel
theorem dX8_grow_32 : decode cX8_grow 32 = .ok (.iload_n 1, 1) := by decide +kernel
theorem dX8_grow_33 : decode cX8_grow 33 = .ok (.iaload, 1) := by decide +kernel
theorem dX8_grow_34 : decode cX8_grow 34 = .ok (.invokevirtual 252, 3) := by decide +kernel
theorem dX8_grow_37 : decode cX8_grow 37 = .ok (.invokevirtual 255, 3) := by decide +kernel
theorem dX8_grow_40 : decode cX8_grow 40 = .ok (.iastore, 1) := by decide +kernel
theorem dX8_grow_41 : decode cX8_grow 41 = .ok (.iinc 1 1, 3) := by decide +kernel
theorem dX8_grow_44 : decode cX8_grow 44 = .ok (.goto (-42), 3) := by decide +kernel
theorem dX8_grow_47 : decode cX8_grow 47 = .ok (.return_, 1) := by decide +kernel
theorem dX8_hasOf_0 : decode cX8_hasOf 0 = .ok (.aload_n 0, 1) := by decide +kernel
theorem dX8_hasOf_1 : decode cX8_hasOf 1 = .ok (.getfield 62, 3) := by decide +kernel
theorem dX8_hasOf_4 : decode cX8_hasOf 4 = .ok (.iload_n 1, 1) := by decide +kernel
theorem dX8_hasOf_5 : decode cX8_hasOf 5 = .ok (.iaload, 1) := by decide +kernel
theorem dX8_hasOf_6 : decode cX8_hasOf 6 = .ok (.iconst (-1), 1) := by decide +kernel
theorem dX8_hasOf_7 : decode cX8_hasOf 7 = .ok (.if_icmp .ne 7, 3) := by decide +kernel
theorem dX8_hasOf_10 : decode cX8_hasOf 10 = .ok (.iconst 0, 1) := by decide +kernel
theorem dX8_hasOf_11 : decode cX8_hasOf 11 = .ok (.goto 14, 3) := by decide +kernel
theorem dX8_hasOf_14 : decode cX8_hasOf 14 = .ok (.aload_n 0, 1) := by decide +kernel
theorem dX8_hasOf_15 : decode cX8_hasOf 15 = .ok (.iload_n 1, 1) := by decide +kernel
theorem dX8_hasOf_16 : decode cX8_hasOf 16 = .ok (.aload_n 0, 1) := by decide +kernel
theorem dX8_hasOf_17 : decode cX8_hasOf 17 = .ok (.getfield 62, 3) := by decide +kernel
theorem dX8_hasOf_20 : decode cX8_hasOf 20 = .ok (.iload_n 1, 1) := by decide +kernel
theorem dX8_hasOf_21 : decode cX8_hasOf 21 = .ok (.iaload, 1) := by decide +kernel
theorem dX8_hasOf_22 : decode cX8_hasOf 22 = .ok (.invokevirtual 236, 3) := by decide +kernel
theorem dX8_hasOf_25 : decode cX8_hasOf 25 = .ok (.istore_n 2, 1) := by decide +kernel
theorem dX8_hasOf_26 : decode cX8_hasOf 26 = .ok (.iconst 0, 1) := by decide +kernel
theorem dX8_hasOf_27 : decode cX8_hasOf 27 = .ok (.istore_n 3, 1) := by decide +kernel
theorem dX8_hasOf_28 : decode cX8_hasOf 28 = .ok (.iload_n 3, 1) := by decide +kernel
theorem dX8_hasOf_29 : decode cX8_hasOf 29 = .ok (.aload_n 0, 1) := by decide +kernel
theorem dX8_hasOf_30 : decode cX8_hasOf 30 = .ok (.getfield 230, 3) := by decide +kernel
theorem dX8_hasOf_33 : decode cX8_hasOf 33 = .ok (.if_icmp .ge 74, 3) := by decide +kernel
theorem dX8_hasOf_36 : decode cX8_hasOf 36 = .ok (.aload_n 0, 1) := by decide +kernel
theorem dX8_hasOf_37 : decode cX8_hasOf 37 = .ok (.getfield 50, 3) := by decide +kernel
theorem dX8_hasOf_40 : decode cX8_hasOf 40 = .ok (.iload_n 3, 1) := by decide +kernel
theorem dX8_hasOf_41 : decode cX8_hasOf 41 = .ok (.iaload, 1) := by decide +kernel
theorem dX8_hasOf_42 : decode cX8_hasOf 42 = .ok (.istore 4, 2) := by decide +kernel
theorem dX8_hasOf_44 : decode cX8_hasOf 44 = .ok (.iload 4, 2) := by decide +kernel
theorem dX8_hasOf_46 : decode cX8_hasOf 46 = .ok (.iload_n 1, 1) := by decide +kernel
theorem dX8_hasOf_47 : decode cX8_hasOf 47 = .ok (.if_icmp .eq 54, 3) := by decide +kernel
theorem dX8_hasOf_50 : decode cX8_hasOf 50 = .ok (.aload_n 0, 1) := by decide +kernel
theorem dX8_hasOf_51 : decode cX8_hasOf 51 = .ok (.iload 4, 2) := by decide +kernel
theorem dX8_hasOf_53 : decode cX8_hasOf 53 = .ok (.invokevirtual 242, 3) := by decide +kernel
theorem dX8_hasOf_56 : decode cX8_hasOf 56 = .ok (.iload_n 1, 1) := by decide +kernel
theorem dX8_hasOf_57 : decode cX8_hasOf 57 = .ok (.if_icmp .ne 44, 3) := by decide +kernel
theorem dX8_hasOf_60 : decode cX8_hasOf 60 = .ok (.aload_n 0, 1) := by decide +kernel
theorem dX8_hasOf_61 : decode cX8_hasOf 61 = .ok (.getfield 62, 3) := by decide +kernel
theorem dX8_hasOf_64 : decode cX8_hasOf 64 = .ok (.iload 4, 2) := by decide +kernel
theorem dX8_hasOf_66 : decode cX8_hasOf 66 = .ok (.iaload, 1) := by decide +kernel
theorem dX8_hasOf_67 : decode cX8_hasOf 67 = .ok (.iconst (-1), 1) := by decide +kernel
theorem dX8_hasOf_68 : decode cX8_hasOf 68 = .ok (.if_icmp .eq 33, 3) := by decide +kernel
theorem dX8_hasOf_71 : decode cX8_hasOf 71 = .ok (.aload_n 0, 1) := by decide +kernel
theorem dX8_hasOf_72 : decode cX8_hasOf 72 = .ok (.iload_n 1, 1) := by decide +kernel
theorem dX8_hasOf_73 : decode cX8_hasOf 73 = .ok (.aload_n 0, 1) := by decide +kernel
theorem dX8_hasOf_74 : decode cX8_hasOf 74 = .ok (.getfield 62, 3) := by decide +kernel
theorem dX8_hasOf_77 : decode cX8_hasOf 77 = .ok (.iload 4, 2) := by decide +kernel
theorem dX8_hasOf_79 : decode cX8_hasOf 79 = .ok (.iaload, 1) := by decide +kernel
theorem dX8_hasOf_80 : decode cX8_hasOf 80 = .ok (.invokevirtual 236, 3) := by decide +kernel
theorem dX8_hasOf_83 : decode cX8_hasOf 83 = .ok (.ifCond .ge 18, 3) := by decide +kernel
theorem dX8_hasOf_86 : decode cX8_hasOf 86 = .ok (.iload_n 2, 1) := by decide +kernel
theorem dX8_hasOf_87 : decode cX8_hasOf 87 = .ok (.aload_n 0, 1) := by decide +kernel
theorem dX8_hasOf_88 : decode cX8_hasOf 88 = .ok (.iload_n 1, 1) := by decide +kernel
theorem dX8_hasOf_89 : decode cX8_hasOf 89 = .ok (.aload_n 0, 1) := by decide +kernel
theorem dX8_hasOf_90 : decode cX8_hasOf 90 = .ok (.getfield 62, 3) := by decide +kernel
theorem dX8_hasOf_93 : decode cX8_hasOf 93 = .ok (.iload 4, 2) := by decide +kernel
theorem dX8_hasOf_95 : decode cX8_hasOf 95 = .ok (.iaload, 1) := by decide +kernel
theorem dX8_hasOf_96 : decode cX8_hasOf 96 = .ok (.invokevirtual 236, 3) := by decide +kernel
theorem dX8_hasOf_99 : decode cX8_hasOf 99 = .ok (.iadd, 1) := by decide +kernel
theorem dX8_hasOf_100 : decode cX8_hasOf 100 = .ok (.istore_n 2, 1) := by decide +kernel
theorem dX8_hasOf_101 : decode cX8_hasOf 101 = .ok (.iinc 3 1, 3) := by decide +kernel
theorem dX8_hasOf_104 : decode cX8_hasOf 104 = .ok (.goto (-76), 3) := by decide +kernel
theorem dX8_hasOf_107 : decode cX8_hasOf 107 = .ok (.iload_n 2, 1) := by decide +kernel
theorem dX8_hasOf_108 : decode cX8_hasOf 108 = .ok (.ireturn, 1) := by decide +kernel
theorem dX8_hasAll_0 : decode cX8_hasAll 0 = .ok (.iconst 0, 1) := by decide +kernel
theorem dX8_hasAll_1 : decode cX8_hasAll 1 = .ok (.istore_n 1, 1) := by decide +kernel
theorem dX8_hasAll_2 : decode cX8_hasAll 2 = .ok (.iconst 0, 1) := by decide +kernel
theorem dX8_hasAll_3 : decode cX8_hasAll 3 = .ok (.istore_n 2, 1) := by decide +kernel
theorem dX8_hasAll_4 : decode cX8_hasAll 4 = .ok (.iload_n 2, 1) := by decide +kernel
theorem dX8_hasAll_5 : decode cX8_hasAll 5 = .ok (.aload_n 0, 1) := by decide +kernel
theorem dX8_hasAll_6 : decode cX8_hasAll 6 = .ok (.getfield 230, 3) := by decide +kernel
theorem dX8_hasAll_9 : decode cX8_hasAll 9 = .ok (.if_icmp .ge 22, 3) := by decide +kernel
theorem dX8_hasAll_12 : decode cX8_hasAll 12 = .ok (.iload_n 1, 1) := by decide +kernel
theorem dX8_hasAll_13 : decode cX8_hasAll 13 = .ok (.aload_n 0, 1) := by decide +kernel
theorem dX8_hasAll_14 : decode cX8_hasAll 14 = .ok (.aload_n 0, 1) := by decide +kernel
theorem dX8_hasAll_15 : decode cX8_hasAll 15 = .ok (.getfield 50, 3) := by decide +kernel
theorem dX8_hasAll_18 : decode cX8_hasAll 18 = .ok (.iload_n 2, 1) := by decide +kernel
theorem dX8_hasAll_19 : decode cX8_hasAll 19 = .ok (.iaload, 1) := by decide +kernel
theorem dX8_hasAll_20 : decode cX8_hasAll 20 = .ok (.invokevirtual 258, 3) := by decide +kernel
theorem dX8_hasAll_23 : decode cX8_hasAll 23 = .ok (.iadd, 1) := by decide +kernel
theorem dX8_hasAll_24 : decode cX8_hasAll 24 = .ok (.istore_n 1, 1) := by decide +kernel
theorem dX8_hasAll_25 : decode cX8_hasAll 25 = .ok (.iinc 2 1, 3) := by decide +kernel
theorem dX8_hasAll_28 : decode cX8_hasAll 28 = .ok (.goto (-24), 3) := by decide +kernel
theorem dX8_hasAll_31 : decode cX8_hasAll 31 = .ok (.iload_n 1, 1) := by decide +kernel
theorem dX8_hasAll_32 : decode cX8_hasAll 32 = .ok (.ireturn, 1) := by decide +kernel
theorem dX8_bareOf_0 : decode cX8_bareOf 0 = .ok (.iconst 0, 1) := by decide +kernel
theorem dX8_bareOf_1 : decode cX8_bareOf 1 = .ok (.istore_n 1, 1) := by decide +kernel
theorem dX8_bareOf_2 : decode cX8_bareOf 2 = .ok (.iconst 0, 1) := by decide +kernel
theorem dX8_bareOf_3 : decode cX8_bareOf 3 = .ok (.istore_n 2, 1) := by decide +kernel
theorem dX8_bareOf_4 : decode cX8_bareOf 4 = .ok (.iload_n 2, 1) := by decide +kernel
theorem dX8_bareOf_5 : decode cX8_bareOf 5 = .ok (.aload_n 0, 1) := by decide +kernel
theorem dX8_bareOf_6 : decode cX8_bareOf 6 = .ok (.getfield 230, 3) := by decide +kernel
theorem dX8_bareOf_9 : decode cX8_bareOf 9 = .ok (.if_icmp .ge 39, 3) := by decide +kernel
theorem dX8_bareOf_12 : decode cX8_bareOf 12 = .ok (.iload_n 1, 1) := by decide +kernel
theorem dX8_bareOf_13 : decode cX8_bareOf 13 = .ok (.aload_n 0, 1) := by decide +kernel
theorem dX8_bareOf_14 : decode cX8_bareOf 14 = .ok (.getfield 62, 3) := by decide +kernel
theorem dX8_bareOf_17 : decode cX8_bareOf 17 = .ok (.aload_n 0, 1) := by decide +kernel
theorem dX8_bareOf_18 : decode cX8_bareOf 18 = .ok (.getfield 50, 3) := by decide +kernel
theorem dX8_bareOf_21 : decode cX8_bareOf 21 = .ok (.iload_n 2, 1) := by decide +kernel
theorem dX8_bareOf_22 : decode cX8_bareOf 22 = .ok (.iaload, 1) := by decide +kernel
theorem dX8_bareOf_23 : decode cX8_bareOf 23 = .ok (.iaload, 1) := by decide +kernel
theorem dX8_bareOf_24 : decode cX8_bareOf 24 = .ok (.iconst (-1), 1) := by decide +kernel
theorem dX8_bareOf_25 : decode cX8_bareOf 25 = .ok (.if_icmp .ne 14, 3) := by decide +kernel
theorem dX8_bareOf_28 : decode cX8_bareOf 28 = .ok (.iconst 1, 1) := by decide +kernel
theorem dX8_bareOf_29 : decode cX8_bareOf 29 = .ok (.aload_n 0, 1) := by decide +kernel
theorem dX8_bareOf_30 : decode cX8_bareOf 30 = .ok (.getfield 50, 3) := by decide +kernel
theorem dX8_bareOf_33 : decode cX8_bareOf 33 = .ok (.iload_n 2, 1) := by decide +kernel
theorem dX8_bareOf_34 : decode cX8_bareOf 34 = .ok (.iaload, 1) := by decide +kernel
theorem dX8_bareOf_35 : decode cX8_bareOf 35 = .ok (.ishl, 1) := by decide +kernel
theorem dX8_bareOf_36 : decode cX8_bareOf 36 = .ok (.goto 4, 3) := by decide +kernel
theorem dX8_bareOf_39 : decode cX8_bareOf 39 = .ok (.iconst 0, 1) := by decide +kernel
theorem dX8_bareOf_40 : decode cX8_bareOf 40 = .ok (.ior, 1) := by decide +kernel
theorem dX8_bareOf_41 : decode cX8_bareOf 41 = .ok (.istore_n 1, 1) := by decide +kernel
theorem dX8_bareOf_42 : decode cX8_bareOf 42 = .ok (.iinc 2 1, 3) := by decide +kernel
theorem dX8_bareOf_45 : decode cX8_bareOf 45 = .ok (.goto (-41), 3) := by decide +kernel
theorem dX8_bareOf_48 : decode cX8_bareOf 48 = .ok (.iload_n 1, 1) := by decide +kernel
theorem dX8_bareOf_49 : decode cX8_bareOf 49 = .ok (.ireturn, 1) := by decide +kernel
theorem dX8_passes_0 : decode cX8_passes 0 = .ok (.iconst 0, 1) := by decide +kernel
theorem dX8_passes_1 : decode cX8_passes 1 = .ok (.istore_n 2, 1) := by decide +kernel
theorem dX8_passes_2 : decode cX8_passes 2 = .ok (.iload_n 2, 1) := by decide +kernel
theorem dX8_passes_3 : decode cX8_passes 3 = .ok (.aload_n 0, 1) := by decide +kernel
theorem dX8_passes_4 : decode cX8_passes 4 = .ok (.invokevirtual 216, 3) := by decide +kernel
theorem dX8_passes_7 : decode cX8_passes 7 = .ok (.if_icmp .ge 118, 3) := by decide +kernel
theorem dX8_passes_10 : decode cX8_passes 10 = .ok (.aload_n 0, 1) := by decide +kernel
theorem dX8_passes_11 : decode cX8_passes 11 = .ok (.getfield 62, 3) := by decide +kernel
theorem dX8_passes_14 : decode cX8_passes 14 = .ok (.iload_n 2, 1) := by decide +kernel
theorem dX8_passes_15 : decode cX8_passes 15 = .ok (.iaload, 1) := by decide +kernel
theorem dX8_passes_16 : decode cX8_passes 16 = .ok (.iconst (-1), 1) := by decide +kernel
theorem dX8_passes_17 : decode cX8_passes 17 = .ok (.if_icmp .eq 38, 3) := by decide +kernel
theorem dX8_passes_20 : decode cX8_passes 20 = .ok (.aload_n 0, 1) := by decide +kernel
theorem dX8_passes_21 : decode cX8_passes 21 = .ok (.iload_n 2, 1) := by decide +kernel
theorem dX8_passes_22 : decode cX8_passes 22 = .ok (.aload_n 0, 1) := by decide +kernel
theorem dX8_passes_23 : decode cX8_passes 23 = .ok (.getfield 62, 3) := by decide +kernel
theorem dX8_passes_26 : decode cX8_passes 26 = .ok (.iload_n 2, 1) := by decide +kernel
theorem dX8_passes_27 : decode cX8_passes 27 = .ok (.iaload, 1) := by decide +kernel
theorem dX8_passes_28 : decode cX8_passes 28 = .ok (.invokevirtual 236, 3) := by decide +kernel
theorem dX8_passes_31 : decode cX8_passes 31 = .ok (.bipush 9, 2) := by decide +kernel
theorem dX8_passes_33 : decode cX8_passes 33 = .ok (.if_icmp .ge 22, 3) := by decide +kernel
theorem dX8_passes_36 : decode cX8_passes 36 = .ok (.aload_n 0, 1) := by decide +kernel
theorem dX8_passes_37 : decode cX8_passes 37 = .ok (.getfield 47, 3) := by decide +kernel
theorem dX8_passes_40 : decode cX8_passes 40 = .ok (.iconst 5, 1) := by decide +kernel
theorem dX8_passes_41 : decode cX8_passes 41 = .ok (.iload_n 2, 1) := by decide +kernel
theorem dX8_passes_42 : decode cX8_passes 42 = .ok (.imul, 1) := by decide +kernel
theorem dX8_passes_43 : decode cX8_passes 43 = .ok (.aload_n 0, 1) := by decide +kernel
theorem dX8_passes_44 : decode cX8_passes 44 = .ok (.getfield 62, 3) := by decide +kernel
theorem dX8_passes_47 : decode cX8_passes 47 = .ok (.iload_n 2, 1) := by decide +kernel
theorem dX8_passes_48 : decode cX8_passes 48 = .ok (.iaload, 1) := by decide +kernel
theorem dX8_passes_49 : decode cX8_passes 49 = .ok (.iadd, 1) := by decide +kernel
theorem dX8_passes_50 : decode cX8_passes 50 = .ok (.dup2, 1) := by decide +kernel
theorem dX8_passes_51 : decode cX8_passes 51 = .ok (.iaload, 1) := by decide +kernel
theorem dX8_passes_52 : decode cX8_passes 52 = .ok (.iconst 1, 1) := by decide +kernel
theorem dX8_passes_53 : decode cX8_passes 53 = .ok (.iadd, 1) := by decide +kernel
theorem dX8_passes_54 : decode cX8_passes 54 = .ok (.iastore, 1) := by decide +kernel
theorem dX8_passes_55 : decode cX8_passes 55 = .ok (.iconst 0, 1) := by decide +kernel
theorem dX8_passes_56 : decode cX8_passes 56 = .ok (.istore_n 3, 1) := by decide +kernel
theorem dX8_passes_57 : decode cX8_passes 57 = .ok (.iload_n 3, 1) := by decide +kernel
theorem dX8_passes_58 : decode cX8_passes 58 = .ok (.aload_n 0, 1) := by decide +kernel
theorem dX8_passes_59 : decode cX8_passes 59 = .ok (.invokevirtual 212, 3) := by decide +kernel
theorem dX8_passes_62 : decode cX8_passes 62 = .ok (.if_icmp .ge 57, 3) := by decide +kernel
theorem dX8_passes_65 : decode cX8_passes 65 = .ok (.aload_n 0, 1) := by decide +kernel
theorem dX8_passes_66 : decode cX8_passes 66 = .ok (.iload_n 2, 1) := by decide +kernel
theorem dX8_passes_67 : decode cX8_passes 67 = .ok (.iload_n 3, 1) := by decide +kernel
theorem dX8_passes_68 : decode cX8_passes 68 = .ok (.invokevirtual 236, 3) := by decide +kernel
theorem dX8_passes_71 : decode cX8_passes 71 = .ok (.istore 4, 2) := by decide +kernel
theorem dX8_passes_73 : decode cX8_passes 73 = .ok (.iload 4, 2) := by decide +kernel
theorem dX8_passes_75 : decode cX8_passes 75 = .ok (.ifCond .ge 38, 3) := by decide +kernel
theorem dX8_passes_78 : decode cX8_passes 78 = .ok (.aload_n 0, 1) := by decide +kernel
theorem dX8_passes_79 : decode cX8_passes 79 = .ok (.getfield 47, 3) := by decide +kernel
theorem dX8_passes_82 : decode cX8_passes 82 = .ok (.iconst 5, 1) := by decide +kernel
theorem dX8_passes_83 : decode cX8_passes 83 = .ok (.iload_n 2, 1) := by decide +kernel
theorem dX8_passes_84 : decode cX8_passes 84 = .ok (.imul, 1) := by decide +kernel
theorem dX8_passes_85 : decode cX8_passes 85 = .ok (.iload_n 3, 1) := by decide +kernel
theorem dX8_passes_86 : decode cX8_passes 86 = .ok (.iadd, 1) := by decide +kernel
theorem dX8_passes_87 : decode cX8_passes 87 = .ok (.iload 4, 2) := by decide +kernel
theorem dX8_passes_89 : decode cX8_passes 89 = .ok (.aload_n 0, 1) := by decide +kernel
theorem dX8_passes_90 : decode cX8_passes 90 = .ok (.getfield 34, 3) := by decide +kernel
theorem dX8_passes_93 : decode cX8_passes 93 = .ok (.iconst 2, 1) := by decide +kernel
theorem dX8_passes_94 : decode cX8_passes 94 = .ok (.iaload, 1) := by decide +kernel
theorem dX8_passes_95 : decode cX8_passes 95 = .ok (.iadd, 1) := by decide +kernel
theorem dX8_passes_96 : decode cX8_passes 96 = .ok (.ifCond .le 7, 3) := by decide +kernel
theorem dX8_passes_99 : decode cX8_passes 99 = .ok (.iconst 0, 1) := by decide +kernel
theorem dX8_passes_100 : decode cX8_passes 100 = .ok (.goto 12, 3) := by decide +kernel
theorem dX8_passes_103 : decode cX8_passes 103 = .ok (.iload 4, 2) := by decide +kernel
theorem dX8_passes_105 : decode cX8_passes 105 = .ok (.aload_n 0, 1) := by decide +kernel
theorem dX8_passes_106 : decode cX8_passes 106 = .ok (.getfield 34, 3) := by decide +kernel
theorem dX8_passes_109 : decode cX8_passes 109 = .ok (.iconst 2, 1) := by decide +kernel
theorem dX8_passes_110 : decode cX8_passes 110 = .ok (.iaload, 1) := by decide +kernel
theorem dX8_passes_111 : decode cX8_passes 111 = .ok (.iadd, 1) := by decide +kernel
theorem dX8_passes_112 : decode cX8_passes 112 = .ok (.iastore, 1) := by decide +kernel
theorem dX8_passes_113 : decode cX8_passes 113 = .ok (.iinc 3 1, 3) := by decide +kernel
theorem dX8_passes_116 : decode cX8_passes 116 = .ok (.goto (-59), 3) := by decide +kernel
theorem dX8_passes_119 : decode cX8_passes 119 = .ok (.iinc 2 1, 3) := by decide +kernel
theorem dX8_passes_122 : decode cX8_passes 122 = .ok (.goto (-120), 3) := by decide +kernel
theorem dX8_passes_125 : decode cX8_passes 125 = .ok (.aload_n 0, 1) := by decide +kernel
theorem dX8_passes_126 : decode cX8_passes 126 = .ok (.iload_n 1, 1) := by decide +kernel
theorem dX8_passes_127 : decode cX8_passes 127 = .ok (.iconst 1, 1) := by decide +kernel
theorem dX8_passes_128 : decode cX8_passes 128 = .ok (.iadd, 1) := by decide +kernel
theorem dX8_passes_129 : decode cX8_passes 129 = .ok (.invokevirtual 233, 3) := by decide +kernel
theorem dX8_passes_132 : decode cX8_passes 132 = .ok (.aload_n 0, 1) := by decide +kernel
theorem dX8_passes_133 : decode cX8_passes 133 = .ok (.invokevirtual 261, 3) := by decide +kernel
theorem dX8_passes_136 : decode cX8_passes 136 = .ok (.return_, 1) := by decide +kernel
theorem dX8_laysFirst_0 : decode cX8_laysFirst 0 = .ok (.aload_n 0, 1) := by decide +kernel
theorem dX8_laysFirst_1 : decode cX8_laysFirst 1 = .ok (.invokevirtual 264, 3) := by decide +kernel
theorem dX8_laysFirst_4 : decode cX8_laysFirst 4 = .ok (.aload_n 0, 1) := by decide +kernel
theorem dX8_laysFirst_5 : decode cX8_laysFirst 5 = .ok (.invokevirtual 261, 3) := by decide +kernel
theorem dX8_laysFirst_8 : decode cX8_laysFirst 8 = .ok (.return_, 1) := by decide +kernel
theorem dX8_lays_0 : decode cX8_lays 0 = .ok (.aload_n 0, 1) := by decide +kernel
theorem dX8_lays_1 : decode cX8_lays 1 = .ok (.invokevirtual 267, 3) := by decide +kernel
theorem dX8_lays_4 : decode cX8_lays 4 = .ok (.iconst 0, 1) := by decide +kernel
theorem dX8_lays_5 : decode cX8_lays 5 = .ok (.istore_n 2, 1) := by decide +kernel
theorem dX8_lays_6 : decode cX8_lays 6 = .ok (.iload_n 2, 1) := by decide +kernel
theorem dX8_lays_7 : decode cX8_lays 7 = .ok (.iload_n 1, 1) := by decide +kernel
theorem dX8_lays_8 : decode cX8_lays 8 = .ok (.if_icmp .ge 14, 3) := by decide +kernel
theorem dX8_lays_11 : decode cX8_lays 11 = .ok (.aload_n 0, 1) := by decide +kernel
theorem dX8_lays_12 : decode cX8_lays 12 = .ok (.iload_n 2, 1) := by decide +kernel
theorem dX8_lays_13 : decode cX8_lays 13 = .ok (.invokevirtual 270, 3) := by decide +kernel
theorem dX8_lays_16 : decode cX8_lays 16 = .ok (.iinc 2 1, 3) := by decide +kernel
theorem dX8_lays_19 : decode cX8_lays 19 = .ok (.goto (-13), 3) := by decide +kernel
theorem dX8_lays_22 : decode cX8_lays 22 = .ok (.return_, 1) := by decide +kernel
theorem dX8_taste_0 : decode cX8_taste 0 = .ok (.aload_n 0, 1) := by decide +kernel
theorem dX8_taste_1 : decode cX8_taste 1 = .ok (.iconst 0, 1) := by decide +kernel
theorem dX8_taste_2 : decode cX8_taste 2 = .ok (.putfield 71, 3) := by decide +kernel
theorem dX8_taste_5 : decode cX8_taste 5 = .ok (.aload_n 0, 1) := by decide +kernel
theorem dX8_taste_6 : decode cX8_taste 6 = .ok (.iload_n 1, 1) := by decide +kernel
theorem dX8_taste_7 : decode cX8_taste 7 = .ok (.i2l, 1) := by decide +kernel
theorem dX8_taste_8 : decode cX8_taste 8 = .ok (.invokevirtual 219, 3) := by decide +kernel
theorem dX8_taste_11 : decode cX8_taste 11 = .ok (.ifCond .eq 25, 3) := by decide +kernel
theorem dX8_taste_14 : decode cX8_taste 14 = .ok (.aload_n 0, 1) := by decide +kernel
theorem dX8_taste_15 : decode cX8_taste 15 = .ok (.iload_n 2, 1) := by decide +kernel
theorem dX8_taste_16 : decode cX8_taste 16 = .ok (.i2l, 1) := by decide +kernel
theorem dX8_taste_17 : decode cX8_taste 17 = .ok (.invokevirtual 273, 3) := by decide +kernel
theorem dX8_taste_20 : decode cX8_taste 20 = .ok (.ifCond .eq 16, 3) := by decide +kernel
theorem dX8_taste_23 : decode cX8_taste 23 = .ok (.aload_n 0, 1) := by decide +kernel
theorem dX8_taste_24 : decode cX8_taste 24 = .ok (.getfield 37, 3) := by decide +kernel
theorem dX8_taste_27 : decode cX8_taste 27 = .ok (.iconst 5, 1) := by decide +kernel
theorem dX8_taste_28 : decode cX8_taste 28 = .ok (.iload_n 1, 1) := by decide +kernel
theorem dX8_taste_29 : decode cX8_taste 29 = .ok (.imul, 1) := by decide +kernel
theorem dX8_taste_30 : decode cX8_taste 30 = .ok (.iload_n 2, 1) := by decide +kernel
theorem dX8_taste_31 : decode cX8_taste 31 = .ok (.iadd, 1) := by decide +kernel
theorem dX8_taste_32 : decode cX8_taste 32 = .ok (.iaload, 1) := by decide +kernel
theorem dX8_taste_33 : decode cX8_taste 33 = .ok (.goto 5, 3) := by decide +kernel
theorem dX8_taste_36 : decode cX8_taste 36 = .ok (.bipush (-100), 2) := by decide +kernel
theorem dX8_taste_38 : decode cX8_taste 38 = .ok (.ireturn, 1) := by decide +kernel
theorem dX8_likes_0 : decode cX8_likes 0 = .ok (.aload_n 0, 1) := by decide +kernel
theorem dX8_likes_1 : decode cX8_likes 1 = .ok (.iconst 0, 1) := by decide +kernel
theorem dX8_likes_2 : decode cX8_likes 2 = .ok (.putfield 71, 3) := by decide +kernel
theorem dX8_likes_5 : decode cX8_likes 5 = .ok (.aload_n 0, 1) := by decide +kernel
theorem dX8_likes_6 : decode cX8_likes 6 = .ok (.iload_n 1, 1) := by decide +kernel
theorem dX8_likes_7 : decode cX8_likes 7 = .ok (.i2l, 1) := by decide +kernel
theorem dX8_likes_8 : decode cX8_likes 8 = .ok (.invokevirtual 219, 3) := by decide +kernel
theorem dX8_likes_11 : decode cX8_likes 11 = .ok (.ifCond .eq 19, 3) := by decide +kernel
theorem dX8_likes_14 : decode cX8_likes 14 = .ok (.aload_n 0, 1) := by decide +kernel
theorem dX8_likes_15 : decode cX8_likes 15 = .ok (.iload_n 2, 1) := by decide +kernel
theorem dX8_likes_16 : decode cX8_likes 16 = .ok (.i2l, 1) := by decide +kernel
theorem dX8_likes_17 : decode cX8_likes 17 = .ok (.invokevirtual 273, 3) := by decide +kernel
theorem dX8_likes_20 : decode cX8_likes 20 = .ok (.ifCond .eq 10, 3) := by decide +kernel
theorem dX8_likes_23 : decode cX8_likes 23 = .ok (.iload_n 3, 1) := by decide +kernel
theorem dX8_likes_24 : decode cX8_likes 24 = .ok (.invokestatic 224, 3) := by decide +kernel
theorem dX8_likes_27 : decode cX8_likes 27 = .ok (.ifCond .ne 6, 3) := by decide +kernel
theorem dX8_likes_30 : decode cX8_likes 30 = .ok (.bipush (-100), 2) := by decide +kernel
theorem dX8_likes_32 : decode cX8_likes 32 = .ok (.ireturn, 1) := by decide +kernel
theorem dX8_likes_33 : decode cX8_likes 33 = .ok (.aload_n 0, 1) := by decide +kernel
theorem dX8_likes_34 : decode cX8_likes 34 = .ok (.iload_n 3, 1) := by decide +kernel
theorem dX8_likes_35 : decode cX8_likes 35 = .ok (.invokevirtual 276, 3) := by decide +kernel
theorem dX8_likes_38 : decode cX8_likes 38 = .ok (.aload_n 0, 1) := by decide +kernel
theorem dX8_likes_39 : decode cX8_likes 39 = .ok (.iload_n 1, 1) := by decide +kernel
theorem dX8_likes_40 : decode cX8_likes 40 = .ok (.iload_n 2, 1) := by decide +kernel
theorem dX8_likes_41 : decode cX8_likes 41 = .ok (.invokevirtual 236, 3) := by decide +kernel
theorem dX8_likes_44 : decode cX8_likes 44 = .ok (.ireturn, 1) := by decide +kernel
theorem dX8_hates_0 : decode cX8_hates 0 = .ok (.aload_n 0, 1) := by decide +kernel
theorem dX8_hates_1 : decode cX8_hates 1 = .ok (.iconst 0, 1) := by decide +kernel
theorem dX8_hates_2 : decode cX8_hates 2 = .ok (.putfield 71, 3) := by decide +kernel
theorem dX8_hates_5 : decode cX8_hates 5 = .ok (.aload_n 0, 1) := by decide +kernel
theorem dX8_hates_6 : decode cX8_hates 6 = .ok (.iload_n 1, 1) := by decide +kernel
theorem dX8_hates_7 : decode cX8_hates 7 = .ok (.i2l, 1) := by decide +kernel
theorem dX8_hates_8 : decode cX8_hates 8 = .ok (.invokevirtual 219, 3) := by decide +kernel
theorem dX8_hates_11 : decode cX8_hates 11 = .ok (.ifCond .eq 10, 3) := by decide +kernel
theorem dX8_hates_14 : decode cX8_hates 14 = .ok (.iload_n 2, 1) := by decide +kernel
theorem dX8_hates_15 : decode cX8_hates 15 = .ok (.invokestatic 224, 3) := by decide +kernel
theorem dX8_hates_18 : decode cX8_hates 18 = .ok (.ifCond .ne 6, 3) := by decide +kernel
theorem dX8_hates_21 : decode cX8_hates 21 = .ok (.bipush (-2), 2) := by decide +kernel
theorem dX8_hates_23 : decode cX8_hates 23 = .ok (.ireturn, 1) := by decide +kernel
theorem dX8_hates_24 : decode cX8_hates 24 = .ok (.aload_n 0, 1) := by decide +kernel
theorem dX8_hates_25 : decode cX8_hates 25 = .ok (.iload_n 2, 1) := by decide +kernel
theorem dX8_hates_26 : decode cX8_hates 26 = .ok (.invokevirtual 276, 3) := by decide +kernel
theorem dX8_hates_29 : decode cX8_hates 29 = .ok (.aload_n 0, 1) := by decide +kernel
theorem dX8_hates_30 : decode cX8_hates 30 = .ok (.iload_n 1, 1) := by decide +kernel
theorem dX8_hates_31 : decode cX8_hates 31 = .ok (.invokevirtual 239, 3) := by decide +kernel
theorem dX8_hates_34 : decode cX8_hates 34 = .ok (.ireturn, 1) := by decide +kernel
theorem dX8_open_0 : decode cX8_open 0 = .ok (.aload_n 0, 1) := by decide +kernel
theorem dX8_open_1 : decode cX8_open 1 = .ok (.iconst 0, 1) := by decide +kernel
theorem dX8_open_2 : decode cX8_open 2 = .ok (.putfield 71, 3) := by decide +kernel
theorem dX8_open_5 : decode cX8_open 5 = .ok (.aload_n 0, 1) := by decide +kernel
theorem dX8_open_6 : decode cX8_open 6 = .ok (.iload_n 1, 1) := by decide +kernel
theorem dX8_open_7 : decode cX8_open 7 = .ok (.i2l, 1) := by decide +kernel
theorem dX8_open_8 : decode cX8_open 8 = .ok (.invokevirtual 219, 3) := by decide +kernel
theorem dX8_open_11 : decode cX8_open 11 = .ok (.ifCond .eq 10, 3) := by decide +kernel
theorem dX8_open_14 : decode cX8_open 14 = .ok (.iload_n 2, 1) := by decide +kernel
theorem dX8_open_15 : decode cX8_open 15 = .ok (.invokestatic 224, 3) := by decide +kernel
theorem dX8_open_18 : decode cX8_open 18 = .ok (.ifCond .ne 6, 3) := by decide +kernel
theorem dX8_open_21 : decode cX8_open 21 = .ok (.bipush (-2), 2) := by decide +kernel
theorem dX8_open_23 : decode cX8_open 23 = .ok (.ireturn, 1) := by decide +kernel
theorem dX8_open_24 : decode cX8_open 24 = .ok (.aload_n 0, 1) := by decide +kernel
theorem dX8_open_25 : decode cX8_open 25 = .ok (.iload_n 2, 1) := by decide +kernel
theorem dX8_open_26 : decode cX8_open 26 = .ok (.invokevirtual 276, 3) := by decide +kernel
theorem dX8_open_29 : decode cX8_open 29 = .ok (.aload_n 0, 1) := by decide +kernel
theorem dX8_open_30 : decode cX8_open 30 = .ok (.iload_n 1, 1) := by decide +kernel
theorem dX8_open_31 : decode cX8_open 31 = .ok (.invokevirtual 245, 3) := by decide +kernel
theorem dX8_open_34 : decode cX8_open 34 = .ok (.ireturn, 1) := by decide +kernel
theorem dX8_haters_0 : decode cX8_haters 0 = .ok (.aload_n 0, 1) := by decide +kernel
theorem dX8_haters_1 : decode cX8_haters 1 = .ok (.iconst 0, 1) := by decide +kernel
theorem dX8_haters_2 : decode cX8_haters 2 = .ok (.putfield 71, 3) := by decide +kernel
theorem dX8_haters_5 : decode cX8_haters 5 = .ok (.aload_n 0, 1) := by decide +kernel
theorem dX8_haters_6 : decode cX8_haters 6 = .ok (.iload_n 1, 1) := by decide +kernel
theorem dX8_haters_7 : decode cX8_haters 7 = .ok (.i2l, 1) := by decide +kernel
theorem dX8_haters_8 : decode cX8_haters 8 = .ok (.invokevirtual 273, 3) := by decide +kernel
theorem dX8_haters_11 : decode cX8_haters 11 = .ok (.ifCond .eq 10, 3) := by decide +kernel
theorem dX8_haters_14 : decode cX8_haters 14 = .ok (.iload_n 2, 1) := by decide +kernel
theorem dX8_haters_15 : decode cX8_haters 15 = .ok (.invokestatic 224, 3) := by decide +kernel
theorem dX8_haters_18 : decode cX8_haters 18 = .ok (.ifCond .ne 6, 3) := by decide +kernel
theorem dX8_haters_21 : decode cX8_haters 21 = .ok (.bipush (-2), 2) := by decide +kernel
theorem dX8_haters_23 : decode cX8_haters 23 = .ok (.ireturn, 1) := by decide +kernel
theorem dX8_haters_24 : decode cX8_haters 24 = .ok (.aload_n 0, 1) := by decide +kernel
theorem dX8_haters_25 : decode cX8_haters 25 = .ok (.iload_n 2, 1) := by decide +kernel
theorem dX8_haters_26 : decode cX8_haters 26 = .ok (.invokevirtual 276, 3) := by decide +kernel
theorem dX8_haters_29 : decode cX8_haters 29 = .ok (.iconst 0, 1) := by decide +kernel
theorem dX8_haters_30 : decode cX8_haters 30 = .ok (.istore_n 3, 1) := by decide +kernel
theorem dX8_haters_31 : decode cX8_haters 31 = .ok (.iconst 0, 1) := by decide +kernel
theorem dX8_haters_32 : decode cX8_haters 32 = .ok (.istore 4, 2) := by decide +kernel
theorem dX8_haters_34 : decode cX8_haters 34 = .ok (.iload 4, 2) := by decide +kernel
theorem dX8_haters_36 : decode cX8_haters 36 = .ok (.aload_n 0, 1) := by decide +kernel
theorem dX8_haters_37 : decode cX8_haters 37 = .ok (.invokevirtual 216, 3) := by decide +kernel
theorem dX8_haters_40 : decode cX8_haters 40 = .ok (.if_icmp .ge 33, 3) := by decide +kernel
theorem dX8_haters_43 : decode cX8_haters 43 = .ok (.iload_n 3, 1) := by decide +kernel
theorem dX8_haters_44 : decode cX8_haters 44 = .ok (.aload_n 0, 1) := by decide +kernel
theorem dX8_haters_45 : decode cX8_haters 45 = .ok (.iload 4, 2) := by decide +kernel
theorem dX8_haters_47 : decode cX8_haters 47 = .ok (.invokevirtual 245, 3) := by decide +kernel
theorem dX8_haters_50 : decode cX8_haters 50 = .ok (.iload_n 1, 1) := by decide +kernel
theorem dX8_haters_51 : decode cX8_haters 51 = .ok (.invokestatic 248, 3) := by decide +kernel
theorem dX8_haters_54 : decode cX8_haters 54 = .ok (.ifCond .eq 10, 3) := by decide +kernel
theorem dX8_haters_57 : decode cX8_haters 57 = .ok (.iconst 1, 1) := by decide +kernel
theorem dX8_haters_58 : decode cX8_haters 58 = .ok (.iload 4, 2) := by decide +kernel
theorem dX8_haters_60 : decode cX8_haters 60 = .ok (.ishl, 1) := by decide +kernel
theorem dX8_haters_61 : decode cX8_haters 61 = .ok (.goto 4, 3) := by decide +kernel
theorem dX8_haters_64 : decode cX8_haters 64 = .ok (.iconst 0, 1) := by decide +kernel
theorem dX8_haters_65 : decode cX8_haters 65 = .ok (.ior, 1) := by decide +kernel
theorem dX8_haters_66 : decode cX8_haters 66 = .ok (.istore_n 3, 1) := by decide +kernel
theorem dX8_haters_67 : decode cX8_haters 67 = .ok (.iinc 4 1, 3) := by decide +kernel
theorem dX8_haters_70 : decode cX8_haters 70 = .ok (.goto (-36), 3) := by decide +kernel
theorem dX8_haters_73 : decode cX8_haters 73 = .ok (.iload_n 3, 1) := by decide +kernel
theorem dX8_haters_74 : decode cX8_haters 74 = .ok (.ireturn, 1) := by decide +kernel
theorem dX8_on_0 : decode cX8_on 0 = .ok (.aload_n 0, 1) := by decide +kernel
theorem dX8_on_1 : decode cX8_on 1 = .ok (.iconst 0, 1) := by decide +kernel
theorem dX8_on_2 : decode cX8_on 2 = .ok (.putfield 71, 3) := by decide +kernel
theorem dX8_on_5 : decode cX8_on 5 = .ok (.aload_n 0, 1) := by decide +kernel
theorem dX8_on_6 : decode cX8_on 6 = .ok (.iload_n 1, 1) := by decide +kernel
theorem dX8_on_7 : decode cX8_on 7 = .ok (.i2l, 1) := by decide +kernel
theorem dX8_on_8 : decode cX8_on 8 = .ok (.invokevirtual 219, 3) := by decide +kernel
theorem dX8_on_11 : decode cX8_on 11 = .ok (.ifCond .eq 10, 3) := by decide +kernel
theorem dX8_on_14 : decode cX8_on 14 = .ok (.iload_n 2, 1) := by decide +kernel
theorem dX8_on_15 : decode cX8_on 15 = .ok (.invokestatic 224, 3) := by decide +kernel
theorem dX8_on_18 : decode cX8_on 18 = .ok (.ifCond .ne 6, 3) := by decide +kernel
theorem dX8_on_21 : decode cX8_on 21 = .ok (.bipush (-2), 2) := by decide +kernel
theorem dX8_on_23 : decode cX8_on 23 = .ok (.ireturn, 1) := by decide +kernel
theorem dX8_on_24 : decode cX8_on 24 = .ok (.aload_n 0, 1) := by decide +kernel
theorem dX8_on_25 : decode cX8_on 25 = .ok (.iload_n 2, 1) := by decide +kernel
theorem dX8_on_26 : decode cX8_on 26 = .ok (.invokevirtual 276, 3) := by decide +kernel
theorem dX8_on_29 : decode cX8_on 29 = .ok (.aload_n 0, 1) := by decide +kernel
theorem dX8_on_30 : decode cX8_on 30 = .ok (.getfield 50, 3) := by decide +kernel
theorem dX8_on_33 : decode cX8_on 33 = .ok (.iload_n 1, 1) := by decide +kernel
theorem dX8_on_34 : decode cX8_on 34 = .ok (.iaload, 1) := by decide +kernel
theorem dX8_on_35 : decode cX8_on 35 = .ok (.ireturn, 1) := by decide +kernel
theorem dX8_plot_0 : decode cX8_plot 0 = .ok (.aload_n 0, 1) := by decide +kernel
theorem dX8_plot_1 : decode cX8_plot 1 = .ok (.iconst 0, 1) := by decide +kernel
theorem dX8_plot_2 : decode cX8_plot 2 = .ok (.putfield 71, 3) := by decide +kernel
theorem dX8_plot_5 : decode cX8_plot 5 = .ok (.aload_n 0, 1) := by decide +kernel
theorem dX8_plot_6 : decode cX8_plot 6 = .ok (.iload_n 1, 1) := by decide +kernel
theorem dX8_plot_7 : decode cX8_plot 7 = .ok (.i2l, 1) := by decide +kernel
theorem dX8_plot_8 : decode cX8_plot 8 = .ok (.invokevirtual 219, 3) := by decide +kernel
theorem dX8_plot_11 : decode cX8_plot 11 = .ok (.ifCond .eq 10, 3) := by decide +kernel
theorem dX8_plot_14 : decode cX8_plot 14 = .ok (.iload_n 2, 1) := by decide +kernel
theorem dX8_plot_15 : decode cX8_plot 15 = .ok (.invokestatic 224, 3) := by decide +kernel
theorem dX8_plot_18 : decode cX8_plot 18 = .ok (.ifCond .ne 6, 3) := by decide +kernel
theorem dX8_plot_21 : decode cX8_plot 21 = .ok (.bipush (-2), 2) := by decide +kernel
theorem dX8_plot_23 : decode cX8_plot 23 = .ok (.ireturn, 1) := by decide +kernel
theorem dX8_plot_24 : decode cX8_plot 24 = .ok (.aload_n 0, 1) := by decide +kernel
theorem dX8_plot_25 : decode cX8_plot 25 = .ok (.iload_n 2, 1) := by decide +kernel
theorem dX8_plot_26 : decode cX8_plot 26 = .ok (.invokevirtual 276, 3) := by decide +kernel
theorem dX8_plot_29 : decode cX8_plot 29 = .ok (.aload_n 0, 1) := by decide +kernel
theorem dX8_plot_30 : decode cX8_plot 30 = .ok (.getfield 53, 3) := by decide +kernel
theorem dX8_plot_33 : decode cX8_plot 33 = .ok (.iload_n 1, 1) := by decide +kernel
theorem dX8_plot_34 : decode cX8_plot 34 = .ok (.iaload, 1) := by decide +kernel
theorem dX8_plot_35 : decode cX8_plot 35 = .ok (.ireturn, 1) := by decide +kernel
theorem dX8_decides_0 : decode cX8_decides 0 = .ok (.aload_n 0, 1) := by decide +kernel
theorem dX8_decides_1 : decode cX8_decides 1 = .ok (.iconst 0, 1) := by decide +kernel
theorem dX8_decides_2 : decode cX8_decides 2 = .ok (.putfield 71, 3) := by decide +kernel
theorem dX8_decides_5 : decode cX8_decides 5 = .ok (.aload_n 0, 1) := by decide +kernel
theorem dX8_decides_6 : decode cX8_decides 6 = .ok (.iload_n 1, 1) := by decide +kernel
theorem dX8_decides_7 : decode cX8_decides 7 = .ok (.i2l, 1) := by decide +kernel
theorem dX8_decides_8 : decode cX8_decides 8 = .ok (.invokevirtual 219, 3) := by decide +kernel
theorem dX8_decides_11 : decode cX8_decides 11 = .ok (.ifCond .eq 10, 3) := by decide +kernel
theorem dX8_decides_14 : decode cX8_decides 14 = .ok (.iload_n 2, 1) := by decide +kernel
theorem dX8_decides_15 : decode cX8_decides 15 = .ok (.invokestatic 224, 3) := by decide +kernel
theorem dX8_decides_18 : decode cX8_decides 18 = .ok (.ifCond .ne 6, 3) := by decide +kernel
theorem dX8_decides_21 : decode cX8_decides 21 = .ok (.bipush (-2), 2) := by decide +kernel
theorem dX8_decides_23 : decode cX8_decides 23 = .ok (.ireturn, 1) := by decide +kernel
theorem dX8_decides_24 : decode cX8_decides 24 = .ok (.aload_n 0, 1) := by decide +kernel
theorem dX8_decides_25 : decode cX8_decides 25 = .ok (.iload_n 2, 1) := by decide +kernel
theorem dX8_decides_26 : decode cX8_decides 26 = .ok (.invokevirtual 276, 3) := by decide +kernel
theorem dX8_decides_29 : decode cX8_decides 29 = .ok (.aload_n 0, 1) := by decide +kernel
theorem dX8_decides_30 : decode cX8_decides 30 = .ok (.iload_n 1, 1) := by decide +kernel
theorem dX8_decides_31 : decode cX8_decides 31 = .ok (.invokevirtual 242, 3) := by decide +kernel
theorem dX8_decides_34 : decode cX8_decides 34 = .ok (.ireturn, 1) := by decide +kernel
theorem dX8_may_0 : decode cX8_may 0 = .ok (.aload_n 0, 1) := by decide +kernel
theorem dX8_may_1 : decode cX8_may 1 = .ok (.iconst 0, 1) := by decide +kernel
theorem dX8_may_2 : decode cX8_may 2 = .ok (.putfield 71, 3) := by decide +kernel
theorem dX8_may_5 : decode cX8_may 5 = .ok (.aload_n 0, 1) := by decide +kernel
theorem dX8_may_6 : decode cX8_may 6 = .ok (.iload_n 1, 1) := by decide +kernel
theorem dX8_may_7 : decode cX8_may 7 = .ok (.i2l, 1) := by decide +kernel
theorem dX8_may_8 : decode cX8_may 8 = .ok (.invokevirtual 219, 3) := by decide +kernel
theorem dX8_may_11 : decode cX8_may 11 = .ok (.ifCond .eq 10, 3) := by decide +kernel
theorem dX8_may_14 : decode cX8_may 14 = .ok (.iload_n 2, 1) := by decide +kernel
theorem dX8_may_15 : decode cX8_may 15 = .ok (.invokestatic 224, 3) := by decide +kernel
theorem dX8_may_18 : decode cX8_may 18 = .ok (.ifCond .ne 6, 3) := by decide +kernel
theorem dX8_may_21 : decode cX8_may 21 = .ok (.bipush (-2), 2) := by decide +kernel
theorem dX8_may_23 : decode cX8_may 23 = .ok (.ireturn, 1) := by decide +kernel
theorem dX8_may_24 : decode cX8_may 24 = .ok (.aload_n 0, 1) := by decide +kernel
theorem dX8_may_25 : decode cX8_may 25 = .ok (.iload_n 2, 1) := by decide +kernel
theorem dX8_may_26 : decode cX8_may 26 = .ok (.invokevirtual 276, 3) := by decide +kernel
theorem dX8_may_29 : decode cX8_may 29 = .ok (.aload_n 0, 1) := by decide +kernel
theorem dX8_may_30 : decode cX8_may 30 = .ok (.iload_n 1, 1) := by decide +kernel
theorem dX8_may_31 : decode cX8_may 31 = .ok (.invokevirtual 252, 3) := by decide +kernel
theorem dX8_may_34 : decode cX8_may 34 = .ok (.ireturn, 1) := by decide +kernel
theorem dX8_grows_0 : decode cX8_grows 0 = .ok (.aload_n 0, 1) := by decide +kernel
theorem dX8_grows_1 : decode cX8_grows 1 = .ok (.iconst 0, 1) := by decide +kernel
theorem dX8_grows_2 : decode cX8_grows 2 = .ok (.putfield 71, 3) := by decide +kernel
theorem dX8_grows_5 : decode cX8_grows 5 = .ok (.aload_n 0, 1) := by decide +kernel
theorem dX8_grows_6 : decode cX8_grows 6 = .ok (.iload_n 1, 1) := by decide +kernel
theorem dX8_grows_7 : decode cX8_grows 7 = .ok (.i2l, 1) := by decide +kernel
theorem dX8_grows_8 : decode cX8_grows 8 = .ok (.invokevirtual 219, 3) := by decide +kernel
theorem dX8_grows_11 : decode cX8_grows 11 = .ok (.ifCond .eq 10, 3) := by decide +kernel
theorem dX8_grows_14 : decode cX8_grows 14 = .ok (.iload_n 2, 1) := by decide +kernel
theorem dX8_grows_15 : decode cX8_grows 15 = .ok (.invokestatic 224, 3) := by decide +kernel
theorem dX8_grows_18 : decode cX8_grows 18 = .ok (.ifCond .ne 6, 3) := by decide +kernel
theorem dX8_grows_21 : decode cX8_grows 21 = .ok (.bipush (-2), 2) := by decide +kernel
theorem dX8_grows_23 : decode cX8_grows 23 = .ok (.ireturn, 1) := by decide +kernel
theorem dX8_grows_24 : decode cX8_grows 24 = .ok (.aload_n 0, 1) := by decide +kernel
theorem dX8_grows_25 : decode cX8_grows 25 = .ok (.iload_n 2, 1) := by decide +kernel
theorem dX8_grows_26 : decode cX8_grows 26 = .ok (.invokevirtual 276, 3) := by decide +kernel
theorem dX8_grows_29 : decode cX8_grows 29 = .ok (.aload_n 0, 1) := by decide +kernel
theorem dX8_grows_30 : decode cX8_grows 30 = .ok (.getfield 62, 3) := by decide +kernel
theorem dX8_grows_33 : decode cX8_grows 33 = .ok (.iload_n 1, 1) := by decide +kernel
theorem dX8_grows_34 : decode cX8_grows 34 = .ok (.iaload, 1) := by decide +kernel
theorem dX8_grows_35 : decode cX8_grows 35 = .ok (.ireturn, 1) := by decide +kernel
theorem dX8_bare_0 : decode cX8_bare 0 = .ok (.aload_n 0, 1) := by decide +kernel
theorem dX8_bare_1 : decode cX8_bare 1 = .ok (.iconst 0, 1) := by decide +kernel
theorem dX8_bare_2 : decode cX8_bare 2 = .ok (.putfield 71, 3) := by decide +kernel
theorem dX8_bare_5 : decode cX8_bare 5 = .ok (.aload_n 0, 1) := by decide +kernel
theorem dX8_bare_6 : decode cX8_bare 6 = .ok (.iload_n 1, 1) := by decide +kernel
theorem dX8_bare_7 : decode cX8_bare 7 = .ok (.invokevirtual 279, 3) := by decide +kernel
theorem dX8_bare_10 : decode cX8_bare 10 = .ok (.ifCond .ne 6, 3) := by decide +kernel
theorem dX8_bare_13 : decode cX8_bare 13 = .ok (.bipush (-2), 2) := by decide +kernel
theorem dX8_bare_15 : decode cX8_bare 15 = .ok (.ireturn, 1) := by decide +kernel
theorem dX8_bare_16 : decode cX8_bare 16 = .ok (.aload_n 0, 1) := by decide +kernel
theorem dX8_bare_17 : decode cX8_bare 17 = .ok (.iload_n 1, 1) := by decide +kernel
theorem dX8_bare_18 : decode cX8_bare 18 = .ok (.invokevirtual 276, 3) := by decide +kernel
theorem dX8_bare_21 : decode cX8_bare 21 = .ok (.aload_n 0, 1) := by decide +kernel
theorem dX8_bare_22 : decode cX8_bare 22 = .ok (.invokevirtual 282, 3) := by decide +kernel
theorem dX8_bare_25 : decode cX8_bare 25 = .ok (.ireturn, 1) := by decide +kernel
theorem dX8_growersOf_0 : decode cX8_growersOf 0 = .ok (.iconst 0, 1) := by decide +kernel
theorem dX8_growersOf_1 : decode cX8_growersOf 1 = .ok (.istore_n 2, 1) := by decide +kernel
theorem dX8_growersOf_2 : decode cX8_growersOf 2 = .ok (.iconst 0, 1) := by decide +kernel
theorem dX8_growersOf_3 : decode cX8_growersOf 3 = .ok (.istore_n 3, 1) := by decide +kernel
theorem dX8_growersOf_4 : decode cX8_growersOf 4 = .ok (.iload_n 3, 1) := by decide +kernel
theorem dX8_growersOf_5 : decode cX8_growersOf 5 = .ok (.aload_n 0, 1) := by decide +kernel
theorem dX8_growersOf_6 : decode cX8_growersOf 6 = .ok (.invokevirtual 216, 3) := by decide +kernel
theorem dX8_growersOf_9 : decode cX8_growersOf 9 = .ok (.if_icmp .ge 29, 3) := by decide +kernel
theorem dX8_growersOf_12 : decode cX8_growersOf 12 = .ok (.iload_n 2, 1) := by decide +kernel
theorem dX8_growersOf_13 : decode cX8_growersOf 13 = .ok (.aload_n 0, 1) := by decide +kernel
theorem dX8_growersOf_14 : decode cX8_growersOf 14 = .ok (.getfield 62, 3) := by decide +kernel
theorem dX8_growersOf_17 : decode cX8_growersOf 17 = .ok (.iload_n 3, 1) := by decide +kernel
theorem dX8_growersOf_18 : decode cX8_growersOf 18 = .ok (.iaload, 1) := by decide +kernel
theorem dX8_growersOf_19 : decode cX8_growersOf 19 = .ok (.iload_n 1, 1) := by decide +kernel
theorem dX8_growersOf_20 : decode cX8_growersOf 20 = .ok (.if_icmp .ne 9, 3) := by decide +kernel
theorem dX8_growersOf_23 : decode cX8_growersOf 23 = .ok (.iconst 1, 1) := by decide +kernel
theorem dX8_growersOf_24 : decode cX8_growersOf 24 = .ok (.iload_n 3, 1) := by decide +kernel
theorem dX8_growersOf_25 : decode cX8_growersOf 25 = .ok (.ishl, 1) := by decide +kernel
theorem dX8_growersOf_26 : decode cX8_growersOf 26 = .ok (.goto 4, 3) := by decide +kernel
theorem dX8_growersOf_29 : decode cX8_growersOf 29 = .ok (.iconst 0, 1) := by decide +kernel
theorem dX8_growersOf_30 : decode cX8_growersOf 30 = .ok (.ior, 1) := by decide +kernel
theorem dX8_growersOf_31 : decode cX8_growersOf 31 = .ok (.istore_n 2, 1) := by decide +kernel
theorem dX8_growersOf_32 : decode cX8_growersOf 32 = .ok (.iinc 3 1, 3) := by decide +kernel
theorem dX8_growersOf_35 : decode cX8_growersOf 35 = .ok (.goto (-31), 3) := by decide +kernel
theorem dX8_growersOf_38 : decode cX8_growersOf 38 = .ok (.iload_n 2, 1) := by decide +kernel
theorem dX8_growersOf_39 : decode cX8_growersOf 39 = .ok (.ireturn, 1) := by decide +kernel
theorem dX8_growers_0 : decode cX8_growers 0 = .ok (.aload_n 0, 1) := by decide +kernel
theorem dX8_growers_1 : decode cX8_growers 1 = .ok (.iconst 0, 1) := by decide +kernel
theorem dX8_growers_2 : decode cX8_growers 2 = .ok (.putfield 71, 3) := by decide +kernel
theorem dX8_growers_5 : decode cX8_growers 5 = .ok (.aload_n 0, 1) := by decide +kernel
theorem dX8_growers_6 : decode cX8_growers 6 = .ok (.iload_n 1, 1) := by decide +kernel
theorem dX8_growers_7 : decode cX8_growers 7 = .ok (.i2l, 1) := by decide +kernel
theorem dX8_growers_8 : decode cX8_growers 8 = .ok (.invokevirtual 273, 3) := by decide +kernel
theorem dX8_growers_11 : decode cX8_growers 11 = .ok (.ifCond .eq 10, 3) := by decide +kernel
theorem dX8_growers_14 : decode cX8_growers 14 = .ok (.iload_n 2, 1) := by decide +kernel
theorem dX8_growers_15 : decode cX8_growers 15 = .ok (.invokestatic 224, 3) := by decide +kernel
theorem dX8_growers_18 : decode cX8_growers 18 = .ok (.ifCond .ne 6, 3) := by decide +kernel
theorem dX8_growers_21 : decode cX8_growers 21 = .ok (.bipush (-2), 2) := by decide +kernel
theorem dX8_growers_23 : decode cX8_growers 23 = .ok (.ireturn, 1) := by decide +kernel
theorem dX8_growers_24 : decode cX8_growers 24 = .ok (.aload_n 0, 1) := by decide +kernel
theorem dX8_growers_25 : decode cX8_growers 25 = .ok (.iload_n 2, 1) := by decide +kernel
theorem dX8_growers_26 : decode cX8_growers 26 = .ok (.invokevirtual 276, 3) := by decide +kernel
theorem dX8_growers_29 : decode cX8_growers 29 = .ok (.aload_n 0, 1) := by decide +kernel
theorem dX8_growers_30 : decode cX8_growers 30 = .ok (.iload_n 1, 1) := by decide +kernel
theorem dX8_growers_31 : decode cX8_growers 31 = .ok (.invokevirtual 285, 3) := by decide +kernel
theorem dX8_growers_34 : decode cX8_growers 34 = .ok (.ireturn, 1) := by decide +kernel
theorem dX8_kinds_0 : decode cX8_kinds 0 = .ok (.aload_n 0, 1) := by decide +kernel
theorem dX8_kinds_1 : decode cX8_kinds 1 = .ok (.iconst 0, 1) := by decide +kernel
theorem dX8_kinds_2 : decode cX8_kinds 2 = .ok (.putfield 71, 3) := by decide +kernel
theorem dX8_kinds_5 : decode cX8_kinds 5 = .ok (.aload_n 0, 1) := by decide +kernel
theorem dX8_kinds_6 : decode cX8_kinds 6 = .ok (.iload_n 1, 1) := by decide +kernel
theorem dX8_kinds_7 : decode cX8_kinds 7 = .ok (.invokevirtual 279, 3) := by decide +kernel
theorem dX8_kinds_10 : decode cX8_kinds 10 = .ok (.ifCond .ne 6, 3) := by decide +kernel
theorem dX8_kinds_13 : decode cX8_kinds 13 = .ok (.bipush (-2), 2) := by decide +kernel
theorem dX8_kinds_15 : decode cX8_kinds 15 = .ok (.ireturn, 1) := by decide +kernel
theorem dX8_kinds_16 : decode cX8_kinds 16 = .ok (.aload_n 0, 1) := by decide +kernel
theorem dX8_kinds_17 : decode cX8_kinds 17 = .ok (.iload_n 1, 1) := by decide +kernel
theorem dX8_kinds_18 : decode cX8_kinds 18 = .ok (.invokevirtual 276, 3) := by decide +kernel
theorem dX8_kinds_21 : decode cX8_kinds 21 = .ok (.iconst 0, 1) := by decide +kernel
theorem dX8_kinds_22 : decode cX8_kinds 22 = .ok (.istore_n 2, 1) := by decide +kernel
theorem dX8_kinds_23 : decode cX8_kinds 23 = .ok (.iconst 0, 1) := by decide +kernel
theorem dX8_kinds_24 : decode cX8_kinds 24 = .ok (.istore_n 3, 1) := by decide +kernel
theorem dX8_kinds_25 : decode cX8_kinds 25 = .ok (.iload_n 3, 1) := by decide +kernel
theorem dX8_kinds_26 : decode cX8_kinds 26 = .ok (.aload_n 0, 1) := by decide +kernel
theorem dX8_kinds_27 : decode cX8_kinds 27 = .ok (.invokevirtual 212, 3) := by decide +kernel
theorem dX8_kinds_30 : decode cX8_kinds 30 = .ok (.if_icmp .ge 25, 3) := by decide +kernel
theorem dX8_kinds_33 : decode cX8_kinds 33 = .ok (.iload_n 2, 1) := by decide +kernel
theorem dX8_kinds_34 : decode cX8_kinds 34 = .ok (.aload_n 0, 1) := by decide +kernel
theorem dX8_kinds_35 : decode cX8_kinds 35 = .ok (.iload_n 3, 1) := by decide +kernel
theorem dX8_kinds_36 : decode cX8_kinds 36 = .ok (.invokevirtual 285, 3) := by decide +kernel
theorem dX8_kinds_39 : decode cX8_kinds 39 = .ok (.ifCond .ne 7, 3) := by decide +kernel
theorem dX8_kinds_42 : decode cX8_kinds 42 = .ok (.iconst 0, 1) := by decide +kernel
theorem dX8_kinds_43 : decode cX8_kinds 43 = .ok (.goto 4, 3) := by decide +kernel
theorem dX8_kinds_46 : decode cX8_kinds 46 = .ok (.iconst 1, 1) := by decide +kernel
theorem dX8_kinds_47 : decode cX8_kinds 47 = .ok (.iadd, 1) := by decide +kernel
theorem dX8_kinds_48 : decode cX8_kinds 48 = .ok (.istore_n 2, 1) := by decide +kernel
theorem dX8_kinds_49 : decode cX8_kinds 49 = .ok (.iinc 3 1, 3) := by decide +kernel
theorem dX8_kinds_52 : decode cX8_kinds 52 = .ok (.goto (-27), 3) := by decide +kernel
theorem dX8_kinds_55 : decode cX8_kinds 55 = .ok (.iload_n 2, 1) := by decide +kernel
theorem dX8_kinds_56 : decode cX8_kinds 56 = .ok (.ireturn, 1) := by decide +kernel
theorem dX8_has_0 : decode cX8_has 0 = .ok (.aload_n 0, 1) := by decide +kernel
theorem dX8_has_1 : decode cX8_has 1 = .ok (.iconst 0, 1) := by decide +kernel
theorem dX8_has_2 : decode cX8_has 2 = .ok (.putfield 71, 3) := by decide +kernel
theorem dX8_has_5 : decode cX8_has 5 = .ok (.aload_n 0, 1) := by decide +kernel
theorem dX8_has_6 : decode cX8_has 6 = .ok (.iload_n 1, 1) := by decide +kernel
theorem dX8_has_7 : decode cX8_has 7 = .ok (.i2l, 1) := by decide +kernel
theorem dX8_has_8 : decode cX8_has 8 = .ok (.invokevirtual 219, 3) := by decide +kernel
theorem dX8_has_11 : decode cX8_has 11 = .ok (.ifCond .eq 10, 3) := by decide +kernel
theorem dX8_has_14 : decode cX8_has 14 = .ok (.iload_n 2, 1) := by decide +kernel
theorem dX8_has_15 : decode cX8_has 15 = .ok (.invokestatic 224, 3) := by decide +kernel
theorem dX8_has_18 : decode cX8_has 18 = .ok (.ifCond .ne 7, 3) := by decide +kernel
theorem dX8_has_21 : decode cX8_has 21 = .ok (.sipush (-1000), 3) := by decide +kernel
theorem dX8_has_24 : decode cX8_has 24 = .ok (.ireturn, 1) := by decide +kernel
theorem dX8_has_25 : decode cX8_has 25 = .ok (.aload_n 0, 1) := by decide +kernel
theorem dX8_has_26 : decode cX8_has 26 = .ok (.iload_n 2, 1) := by decide +kernel
theorem dX8_has_27 : decode cX8_has 27 = .ok (.invokevirtual 276, 3) := by decide +kernel
theorem dX8_has_30 : decode cX8_has 30 = .ok (.aload_n 0, 1) := by decide +kernel
theorem dX8_has_31 : decode cX8_has 31 = .ok (.iload_n 1, 1) := by decide +kernel
theorem dX8_has_32 : decode cX8_has 32 = .ok (.invokevirtual 258, 3) := by decide +kernel
theorem dX8_has_35 : decode cX8_has 35 = .ok (.ireturn, 1) := by decide +kernel
theorem dX8_life_0 : decode cX8_life 0 = .ok (.aload_n 0, 1) := by decide +kernel
theorem dX8_life_1 : decode cX8_life 1 = .ok (.iconst 0, 1) := by decide +kernel
theorem dX8_life_2 : decode cX8_life 2 = .ok (.putfield 71, 3) := by decide +kernel
theorem dX8_life_5 : decode cX8_life 5 = .ok (.aload_n 0, 1) := by decide +kernel
theorem dX8_life_6 : decode cX8_life 6 = .ok (.iload_n 1, 1) := by decide +kernel
theorem dX8_life_7 : decode cX8_life 7 = .ok (.i2l, 1) := by decide +kernel
theorem dX8_life_8 : decode cX8_life 8 = .ok (.invokevirtual 219, 3) := by decide +kernel
theorem dX8_life_11 : decode cX8_life 11 = .ok (.ifCond .ne 7, 3) := by decide +kernel
theorem dX8_life_14 : decode cX8_life 14 = .ok (.sipush (-1000), 3) := by decide +kernel
theorem dX8_life_17 : decode cX8_life 17 = .ok (.ireturn, 1) := by decide +kernel
theorem dX8_life_18 : decode cX8_life 18 = .ok (.aload_n 0, 1) := by decide +kernel
theorem dX8_life_19 : decode cX8_life 19 = .ok (.invokevirtual 267, 3) := by decide +kernel
theorem dX8_life_22 : decode cX8_life 22 = .ok (.aload_n 0, 1) := by decide +kernel
theorem dX8_life_23 : decode cX8_life 23 = .ok (.iload_n 1, 1) := by decide +kernel
theorem dX8_life_24 : decode cX8_life 24 = .ok (.invokevirtual 258, 3) := by decide +kernel
theorem dX8_life_27 : decode cX8_life 27 = .ok (.istore_n 2, 1) := by decide +kernel
theorem dX8_life_28 : decode cX8_life 28 = .ok (.iconst 0, 1) := by decide +kernel
theorem dX8_life_29 : decode cX8_life 29 = .ok (.istore_n 3, 1) := by decide +kernel
theorem dX8_life_30 : decode cX8_life 30 = .ok (.iload_n 3, 1) := by decide +kernel
theorem dX8_life_31 : decode cX8_life 31 = .ok (.bipush 12, 2) := by decide +kernel
theorem dX8_life_33 : decode cX8_life 33 = .ok (.if_icmp .ge 22, 3) := by decide +kernel
theorem dX8_life_36 : decode cX8_life 36 = .ok (.aload_n 0, 1) := by decide +kernel
theorem dX8_life_37 : decode cX8_life 37 = .ok (.iload_n 3, 1) := by decide +kernel
theorem dX8_life_38 : decode cX8_life 38 = .ok (.invokevirtual 270, 3) := by decide +kernel
theorem dX8_life_41 : decode cX8_life 41 = .ok (.iload_n 2, 1) := by decide +kernel
theorem dX8_life_42 : decode cX8_life 42 = .ok (.aload_n 0, 1) := by decide +kernel
theorem dX8_life_43 : decode cX8_life 43 = .ok (.iload_n 1, 1) := by decide +kernel
theorem dX8_life_44 : decode cX8_life 44 = .ok (.invokevirtual 258, 3) := by decide +kernel
theorem dX8_life_47 : decode cX8_life 47 = .ok (.iadd, 1) := by decide +kernel
theorem dX8_life_48 : decode cX8_life 48 = .ok (.istore_n 2, 1) := by decide +kernel
theorem dX8_life_49 : decode cX8_life 49 = .ok (.iinc 3 1, 3) := by decide +kernel
theorem dX8_life_52 : decode cX8_life 52 = .ok (.goto (-22), 3) := by decide +kernel
theorem dX8_life_55 : decode cX8_life 55 = .ok (.iload_n 2, 1) := by decide +kernel
theorem dX8_life_56 : decode cX8_life 56 = .ok (.ireturn, 1) := by decide +kernel
theorem dX8_all_0 : decode cX8_all 0 = .ok (.aload_n 0, 1) := by decide +kernel
theorem dX8_all_1 : decode cX8_all 1 = .ok (.iconst 0, 1) := by decide +kernel
theorem dX8_all_2 : decode cX8_all 2 = .ok (.putfield 71, 3) := by decide +kernel
theorem dX8_all_5 : decode cX8_all 5 = .ok (.aload_n 0, 1) := by decide +kernel
theorem dX8_all_6 : decode cX8_all 6 = .ok (.iload_n 1, 1) := by decide +kernel
theorem dX8_all_7 : decode cX8_all 7 = .ok (.invokevirtual 279, 3) := by decide +kernel
theorem dX8_all_10 : decode cX8_all 10 = .ok (.ifCond .ne 7, 3) := by decide +kernel
theorem dX8_all_13 : decode cX8_all 13 = .ok (.sipush (-10000), 3) := by decide +kernel
theorem dX8_all_16 : decode cX8_all 16 = .ok (.ireturn, 1) := by decide +kernel
theorem dX8_all_17 : decode cX8_all 17 = .ok (.aload_n 0, 1) := by decide +kernel
theorem dX8_all_18 : decode cX8_all 18 = .ok (.iload_n 1, 1) := by decide +kernel
theorem dX8_all_19 : decode cX8_all 19 = .ok (.invokevirtual 276, 3) := by decide +kernel
theorem dX8_all_22 : decode cX8_all 22 = .ok (.aload_n 0, 1) := by decide +kernel
theorem dX8_all_23 : decode cX8_all 23 = .ok (.invokevirtual 288, 3) := by decide +kernel
theorem dX8_all_26 : decode cX8_all 26 = .ok (.ireturn, 1) := by decide +kernel
theorem dX8_happiest_0 : decode cX8_happiest 0 = .ok (.aload_n 0, 1) := by decide +kernel
theorem dX8_happiest_1 : decode cX8_happiest 1 = .ok (.iconst 0, 1) := by decide +kernel
theorem dX8_happiest_2 : decode cX8_happiest 2 = .ok (.putfield 71, 3) := by decide +kernel
theorem dX8_happiest_5 : decode cX8_happiest 5 = .ok (.aload_n 0, 1) := by decide +kernel
theorem dX8_happiest_6 : decode cX8_happiest 6 = .ok (.iload_n 1, 1) := by decide +kernel
theorem dX8_happiest_7 : decode cX8_happiest 7 = .ok (.invokevirtual 279, 3) := by decide +kernel
theorem dX8_happiest_10 : decode cX8_happiest 10 = .ok (.ifCond .ne 6, 3) := by decide +kernel
theorem dX8_happiest_13 : decode cX8_happiest 13 = .ok (.bipush (-2), 2) := by decide +kernel
theorem dX8_happiest_15 : decode cX8_happiest 15 = .ok (.ireturn, 1) := by decide +kernel
theorem dX8_happiest_16 : decode cX8_happiest 16 = .ok (.aload_n 0, 1) := by decide +kernel
theorem dX8_happiest_17 : decode cX8_happiest 17 = .ok (.iload_n 1, 1) := by decide +kernel
theorem dX8_happiest_18 : decode cX8_happiest 18 = .ok (.invokevirtual 276, 3) := by decide +kernel
theorem dX8_happiest_21 : decode cX8_happiest 21 = .ok (.iconst (-1), 1) := by decide +kernel
theorem dX8_happiest_22 : decode cX8_happiest 22 = .ok (.istore_n 2, 1) := by decide +kernel
theorem dX8_happiest_23 : decode cX8_happiest 23 = .ok (.iconst 0, 1) := by decide +kernel
theorem dX8_happiest_24 : decode cX8_happiest 24 = .ok (.istore_n 3, 1) := by decide +kernel
theorem dX8_happiest_25 : decode cX8_happiest 25 = .ok (.iload_n 3, 1) := by decide +kernel
theorem dX8_happiest_26 : decode cX8_happiest 26 = .ok (.aload_n 0, 1) := by decide +kernel
theorem dX8_happiest_27 : decode cX8_happiest 27 = .ok (.invokevirtual 216, 3) := by decide +kernel
theorem dX8_happiest_30 : decode cX8_happiest 30 = .ok (.if_icmp .ge 29, 3) := by decide +kernel
theorem dX8_happiest_33 : decode cX8_happiest 33 = .ok (.iload_n 2, 1) := by decide +kernel
theorem dX8_happiest_34 : decode cX8_happiest 34 = .ok (.iconst (-1), 1) := by decide +kernel
theorem dX8_happiest_35 : decode cX8_happiest 35 = .ok (.if_icmp .eq 16, 3) := by decide +kernel
theorem dX8_happiest_38 : decode cX8_happiest 38 = .ok (.aload_n 0, 1) := by decide +kernel
theorem dX8_happiest_39 : decode cX8_happiest 39 = .ok (.iload_n 3, 1) := by decide +kernel
theorem dX8_happiest_40 : decode cX8_happiest 40 = .ok (.invokevirtual 258, 3) := by decide +kernel
theorem dX8_happiest_43 : decode cX8_happiest 43 = .ok (.aload_n 0, 1) := by decide +kernel
theorem dX8_happiest_44 : decode cX8_happiest 44 = .ok (.iload_n 2, 1) := by decide +kernel
theorem dX8_happiest_45 : decode cX8_happiest 45 = .ok (.invokevirtual 258, 3) := by decide +kernel
theorem dX8_happiest_48 : decode cX8_happiest 48 = .ok (.if_icmp .le 5, 3) := by decide +kernel
theorem dX8_happiest_51 : decode cX8_happiest 51 = .ok (.iload_n 3, 1) := by decide +kernel
theorem dX8_happiest_52 : decode cX8_happiest 52 = .ok (.istore_n 2, 1) := by decide +kernel
theorem dX8_happiest_53 : decode cX8_happiest 53 = .ok (.iinc 3 1, 3) := by decide +kernel
theorem dX8_happiest_56 : decode cX8_happiest 56 = .ok (.goto (-31), 3) := by decide +kernel
theorem dX8_happiest_59 : decode cX8_happiest 59 = .ok (.iload_n 2, 1) := by decide +kernel
theorem dX8_happiest_60 : decode cX8_happiest 60 = .ok (.ireturn, 1) := by decide +kernel
theorem dX8_fails__0 : decode cX8_fails_ 0 = .ok (.aload_n 0, 1) := by decide +kernel
theorem dX8_fails__1 : decode cX8_fails_ 1 = .ok (.iconst 0, 1) := by decide +kernel
theorem dX8_fails__2 : decode cX8_fails_ 2 = .ok (.putfield 71, 3) := by decide +kernel
theorem dX8_fails__5 : decode cX8_fails_ 5 = .ok (.aload_n 0, 1) := by decide +kernel
theorem dX8_fails__6 : decode cX8_fails_ 6 = .ok (.invokevirtual 209, 3) := by decide +kernel
theorem dX8_fails__9 : decode cX8_fails_ 9 = .ok (.ifCond .ne 6, 3) := by decide +kernel
theorem dX8_fails__12 : decode cX8_fails_ 12 = .ok (.bipush (-2), 2) := by decide +kernel
theorem dX8_fails__14 : decode cX8_fails_ 14 = .ok (.ireturn, 1) := by decide +kernel
theorem dX8_fails__15 : decode cX8_fails_ 15 = .ok (.aload_n 0, 1) := by decide +kernel
theorem dX8_fails__16 : decode cX8_fails_ 16 = .ok (.invokevirtual 267, 3) := by decide +kernel
theorem dX8_fails__19 : decode cX8_fails_ 19 = .ok (.iconst 0, 1) := by decide +kernel
theorem dX8_fails__20 : decode cX8_fails_ 20 = .ok (.istore_n 1, 1) := by decide +kernel
theorem dX8_fails__21 : decode cX8_fails_ 21 = .ok (.iload_n 1, 1) := by decide +kernel
theorem dX8_fails__22 : decode cX8_fails_ 22 = .ok (.bipush 12, 2) := by decide +kernel
theorem dX8_fails__24 : decode cX8_fails_ 24 = .ok (.if_icmp .gt 23, 3) := by decide +kernel
theorem dX8_fails__27 : decode cX8_fails_ 27 = .ok (.aload_n 0, 1) := by decide +kernel
theorem dX8_fails__28 : decode cX8_fails_ 28 = .ok (.invokevirtual 282, 3) := by decide +kernel
theorem dX8_fails__31 : decode cX8_fails_ 31 = .ok (.ifCond .eq 5, 3) := by decide +kernel
theorem dX8_fails__34 : decode cX8_fails_ 34 = .ok (.iload_n 1, 1) := by decide +kernel
theorem dX8_fails__35 : decode cX8_fails_ 35 = .ok (.ireturn, 1) := by decide +kernel
theorem dX8_fails__36 : decode cX8_fails_ 36 = .ok (.aload_n 0, 1) := by decide +kernel
theorem dX8_fails__37 : decode cX8_fails_ 37 = .ok (.iload_n 1, 1) := by decide +kernel
theorem dX8_fails__38 : decode cX8_fails_ 38 = .ok (.invokevirtual 270, 3) := by decide +kernel
theorem dX8_fails__41 : decode cX8_fails_ 41 = .ok (.iinc 1 1, 3) := by decide +kernel
theorem dX8_fails__44 : decode cX8_fails_ 44 = .ok (.goto (-23), 3) := by decide +kernel
theorem dX8_fails__47 : decode cX8_fails_ 47 = .ok (.iconst (-1), 1) := by decide +kernel
theorem dX8_fails__48 : decode cX8_fails_ 48 = .ok (.ireturn, 1) := by decide +kernel
theorem dX8_peace_0 : decode cX8_peace 0 = .ok (.aload_n 0, 1) := by decide +kernel
theorem dX8_peace_1 : decode cX8_peace 1 = .ok (.iconst 0, 1) := by decide +kernel
theorem dX8_peace_2 : decode cX8_peace 2 = .ok (.putfield 71, 3) := by decide +kernel
theorem dX8_peace_5 : decode cX8_peace 5 = .ok (.aload_n 0, 1) := by decide +kernel
theorem dX8_peace_6 : decode cX8_peace 6 = .ok (.invokevirtual 209, 3) := by decide +kernel
theorem dX8_peace_9 : decode cX8_peace 9 = .ok (.ifCond .ne 6, 3) := by decide +kernel
theorem dX8_peace_12 : decode cX8_peace 12 = .ok (.bipush (-2), 2) := by decide +kernel
theorem dX8_peace_14 : decode cX8_peace 14 = .ok (.ireturn, 1) := by decide +kernel
theorem dX8_peace_15 : decode cX8_peace 15 = .ok (.aload_n 0, 1) := by decide +kernel
theorem dX8_peace_16 : decode cX8_peace 16 = .ok (.invokevirtual 267, 3) := by decide +kernel
theorem dX8_peace_19 : decode cX8_peace 19 = .ok (.iconst 0, 1) := by decide +kernel
theorem dX8_peace_20 : decode cX8_peace 20 = .ok (.istore_n 1, 1) := by decide +kernel
theorem dX8_peace_21 : decode cX8_peace 21 = .ok (.iload_n 1, 1) := by decide +kernel
theorem dX8_peace_22 : decode cX8_peace 22 = .ok (.bipush 12, 2) := by decide +kernel
theorem dX8_peace_24 : decode cX8_peace 24 = .ok (.if_icmp .gt 54, 3) := by decide +kernel
theorem dX8_peace_27 : decode cX8_peace 27 = .ok (.iconst 1, 1) := by decide +kernel
theorem dX8_peace_28 : decode cX8_peace 28 = .ok (.istore_n 2, 1) := by decide +kernel
theorem dX8_peace_29 : decode cX8_peace 29 = .ok (.iconst 0, 1) := by decide +kernel
theorem dX8_peace_30 : decode cX8_peace 30 = .ok (.istore_n 3, 1) := by decide +kernel
theorem dX8_peace_31 : decode cX8_peace 31 = .ok (.iload_n 3, 1) := by decide +kernel
theorem dX8_peace_32 : decode cX8_peace 32 = .ok (.aload_n 0, 1) := by decide +kernel
theorem dX8_peace_33 : decode cX8_peace 33 = .ok (.invokevirtual 216, 3) := by decide +kernel
theorem dX8_peace_36 : decode cX8_peace 36 = .ok (.if_icmp .ge 25, 3) := by decide +kernel
theorem dX8_peace_39 : decode cX8_peace 39 = .ok (.iload_n 2, 1) := by decide +kernel
theorem dX8_peace_40 : decode cX8_peace 40 = .ok (.aload_n 0, 1) := by decide +kernel
theorem dX8_peace_41 : decode cX8_peace 41 = .ok (.iload_n 3, 1) := by decide +kernel
theorem dX8_peace_42 : decode cX8_peace 42 = .ok (.invokevirtual 239, 3) := by decide +kernel
theorem dX8_peace_45 : decode cX8_peace 45 = .ok (.ifCond .ne 7, 3) := by decide +kernel
theorem dX8_peace_48 : decode cX8_peace 48 = .ok (.iconst 1, 1) := by decide +kernel
theorem dX8_peace_49 : decode cX8_peace 49 = .ok (.goto 4, 3) := by decide +kernel
theorem dX8_peace_52 : decode cX8_peace 52 = .ok (.iconst 0, 1) := by decide +kernel
theorem dX8_peace_53 : decode cX8_peace 53 = .ok (.iand, 1) := by decide +kernel
theorem dX8_peace_54 : decode cX8_peace 54 = .ok (.istore_n 2, 1) := by decide +kernel
theorem dX8_peace_55 : decode cX8_peace 55 = .ok (.iinc 3 1, 3) := by decide +kernel
theorem dX8_peace_58 : decode cX8_peace 58 = .ok (.goto (-27), 3) := by decide +kernel
theorem dX8_peace_61 : decode cX8_peace 61 = .ok (.iload_n 2, 1) := by decide +kernel
theorem dX8_peace_62 : decode cX8_peace 62 = .ok (.ifCond .eq 5, 3) := by decide +kernel
theorem dX8_peace_65 : decode cX8_peace 65 = .ok (.iload_n 1, 1) := by decide +kernel
theorem dX8_peace_66 : decode cX8_peace 66 = .ok (.ireturn, 1) := by decide +kernel
theorem dX8_peace_67 : decode cX8_peace 67 = .ok (.aload_n 0, 1) := by decide +kernel
theorem dX8_peace_68 : decode cX8_peace 68 = .ok (.iload_n 1, 1) := by decide +kernel
theorem dX8_peace_69 : decode cX8_peace 69 = .ok (.invokevirtual 270, 3) := by decide +kernel
theorem dX8_peace_72 : decode cX8_peace 72 = .ok (.iinc 1 1, 3) := by decide +kernel
theorem dX8_peace_75 : decode cX8_peace 75 = .ok (.goto (-54), 3) := by decide +kernel
theorem dX8_peace_78 : decode cX8_peace 78 = .ok (.iconst (-1), 1) := by decide +kernel
theorem dX8_peace_79 : decode cX8_peace 79 = .ok (.ireturn, 1) := by decide +kernel
theorem dX8_joyOf_0 : decode cX8_joyOf 0 = .ok (.aload_n 0, 1) := by decide +kernel
theorem dX8_joyOf_1 : decode cX8_joyOf 1 = .ok (.getfield 62, 3) := by decide +kernel
theorem dX8_joyOf_4 : decode cX8_joyOf 4 = .ok (.iload_n 1, 1) := by decide +kernel
theorem dX8_joyOf_5 : decode cX8_joyOf 5 = .ok (.iaload, 1) := by decide +kernel
theorem dX8_joyOf_6 : decode cX8_joyOf 6 = .ok (.iconst (-1), 1) := by decide +kernel
theorem dX8_joyOf_7 : decode cX8_joyOf 7 = .ok (.if_icmp .ne 7, 3) := by decide +kernel
theorem dX8_joyOf_10 : decode cX8_joyOf 10 = .ok (.iconst 0, 1) := by decide +kernel
theorem dX8_joyOf_11 : decode cX8_joyOf 11 = .ok (.goto 14, 3) := by decide +kernel
theorem dX8_joyOf_14 : decode cX8_joyOf 14 = .ok (.aload_n 0, 1) := by decide +kernel
theorem dX8_joyOf_15 : decode cX8_joyOf 15 = .ok (.iload_n 1, 1) := by decide +kernel
theorem dX8_joyOf_16 : decode cX8_joyOf 16 = .ok (.aload_n 0, 1) := by decide +kernel
theorem dX8_joyOf_17 : decode cX8_joyOf 17 = .ok (.getfield 62, 3) := by decide +kernel
theorem dX8_joyOf_20 : decode cX8_joyOf 20 = .ok (.iload_n 1, 1) := by decide +kernel
theorem dX8_joyOf_21 : decode cX8_joyOf 21 = .ok (.iaload, 1) := by decide +kernel
theorem dX8_joyOf_22 : decode cX8_joyOf 22 = .ok (.invokevirtual 236, 3) := by decide +kernel
theorem dX8_joyOf_25 : decode cX8_joyOf 25 = .ok (.ireturn, 1) := by decide +kernel
theorem dX8_joy_0 : decode cX8_joy 0 = .ok (.aload_n 0, 1) := by decide +kernel
theorem dX8_joy_1 : decode cX8_joy 1 = .ok (.iconst 0, 1) := by decide +kernel
theorem dX8_joy_2 : decode cX8_joy 2 = .ok (.putfield 71, 3) := by decide +kernel
theorem dX8_joy_5 : decode cX8_joy 5 = .ok (.aload_n 0, 1) := by decide +kernel
theorem dX8_joy_6 : decode cX8_joy 6 = .ok (.iload_n 1, 1) := by decide +kernel
theorem dX8_joy_7 : decode cX8_joy 7 = .ok (.i2l, 1) := by decide +kernel
theorem dX8_joy_8 : decode cX8_joy 8 = .ok (.invokevirtual 219, 3) := by decide +kernel
theorem dX8_joy_11 : decode cX8_joy 11 = .ok (.ifCond .eq 10, 3) := by decide +kernel
theorem dX8_joy_14 : decode cX8_joy 14 = .ok (.iload_n 2, 1) := by decide +kernel
theorem dX8_joy_15 : decode cX8_joy 15 = .ok (.invokestatic 224, 3) := by decide +kernel
theorem dX8_joy_18 : decode cX8_joy 18 = .ok (.ifCond .ne 7, 3) := by decide +kernel
theorem dX8_joy_21 : decode cX8_joy 21 = .ok (.sipush (-1000), 3) := by decide +kernel
theorem dX8_joy_24 : decode cX8_joy 24 = .ok (.ireturn, 1) := by decide +kernel
theorem dX8_joy_25 : decode cX8_joy 25 = .ok (.aload_n 0, 1) := by decide +kernel
theorem dX8_joy_26 : decode cX8_joy 26 = .ok (.iload_n 2, 1) := by decide +kernel
theorem dX8_joy_27 : decode cX8_joy 27 = .ok (.invokevirtual 276, 3) := by decide +kernel
theorem dX8_joy_30 : decode cX8_joy 30 = .ok (.aload_n 0, 1) := by decide +kernel
theorem dX8_joy_31 : decode cX8_joy 31 = .ok (.iload_n 1, 1) := by decide +kernel
theorem dX8_joy_32 : decode cX8_joy 32 = .ok (.invokevirtual 291, 3) := by decide +kernel
theorem dX8_joy_35 : decode cX8_joy 35 = .ok (.ireturn, 1) := by decide +kernel
theorem dX8_smell_0 : decode cX8_smell 0 = .ok (.aload_n 0, 1) := by decide +kernel
theorem dX8_smell_1 : decode cX8_smell 1 = .ok (.iconst 0, 1) := by decide +kernel
theorem dX8_smell_2 : decode cX8_smell 2 = .ok (.putfield 71, 3) := by decide +kernel
theorem dX8_smell_5 : decode cX8_smell 5 = .ok (.aload_n 0, 1) := by decide +kernel
theorem dX8_smell_6 : decode cX8_smell 6 = .ok (.iload_n 1, 1) := by decide +kernel
theorem dX8_smell_7 : decode cX8_smell 7 = .ok (.i2l, 1) := by decide +kernel
theorem dX8_smell_8 : decode cX8_smell 8 = .ok (.invokevirtual 219, 3) := by decide +kernel
theorem dX8_smell_11 : decode cX8_smell 11 = .ok (.ifCond .eq 10, 3) := by decide +kernel
theorem dX8_smell_14 : decode cX8_smell 14 = .ok (.iload_n 2, 1) := by decide +kernel
theorem dX8_smell_15 : decode cX8_smell 15 = .ok (.invokestatic 224, 3) := by decide +kernel
theorem dX8_smell_18 : decode cX8_smell 18 = .ok (.ifCond .ne 6, 3) := by decide +kernel
theorem dX8_smell_21 : decode cX8_smell 21 = .ok (.bipush (-2), 2) := by decide +kernel
theorem dX8_smell_23 : decode cX8_smell 23 = .ok (.ireturn, 1) := by decide +kernel
theorem dX8_smell_24 : decode cX8_smell 24 = .ok (.aload_n 0, 1) := by decide +kernel
theorem dX8_smell_25 : decode cX8_smell 25 = .ok (.iload_n 2, 1) := by decide +kernel
theorem dX8_smell_26 : decode cX8_smell 26 = .ok (.invokevirtual 276, 3) := by decide +kernel
theorem dX8_smell_29 : decode cX8_smell 29 = .ok (.aload_n 0, 1) := by decide +kernel
theorem dX8_smell_30 : decode cX8_smell 30 = .ok (.iload_n 1, 1) := by decide +kernel
theorem dX8_smell_31 : decode cX8_smell 31 = .ok (.invokevirtual 291, 3) := by decide +kernel
theorem dX8_smell_34 : decode cX8_smell 34 = .ok (.aload_n 0, 1) := by decide +kernel
theorem dX8_smell_35 : decode cX8_smell 35 = .ok (.iload_n 1, 1) := by decide +kernel
theorem dX8_smell_36 : decode cX8_smell 36 = .ok (.invokevirtual 258, 3) := by decide +kernel
theorem dX8_smell_39 : decode cX8_smell 39 = .ok (.isub, 1) := by decide +kernel
theorem dX8_smell_40 : decode cX8_smell 40 = .ok (.ireturn, 1) := by decide +kernel
theorem dX8_foe_0 : decode cX8_foe 0 = .ok (.aload_n 0, 1) := by decide +kernel
theorem dX8_foe_1 : decode cX8_foe 1 = .ok (.iconst 0, 1) := by decide +kernel
theorem dX8_foe_2 : decode cX8_foe 2 = .ok (.putfield 71, 3) := by decide +kernel
theorem dX8_foe_5 : decode cX8_foe 5 = .ok (.aload_n 0, 1) := by decide +kernel
theorem dX8_foe_6 : decode cX8_foe 6 = .ok (.iload_n 1, 1) := by decide +kernel
theorem dX8_foe_7 : decode cX8_foe 7 = .ok (.invokevirtual 279, 3) := by decide +kernel
theorem dX8_foe_10 : decode cX8_foe 10 = .ok (.ifCond .ne 6, 3) := by decide +kernel
theorem dX8_foe_13 : decode cX8_foe 13 = .ok (.bipush (-2), 2) := by decide +kernel
theorem dX8_foe_15 : decode cX8_foe 15 = .ok (.ireturn, 1) := by decide +kernel
theorem dX8_foe_16 : decode cX8_foe 16 = .ok (.aload_n 0, 1) := by decide +kernel
theorem dX8_foe_17 : decode cX8_foe 17 = .ok (.iload_n 1, 1) := by decide +kernel
theorem dX8_foe_18 : decode cX8_foe 18 = .ok (.invokevirtual 276, 3) := by decide +kernel
theorem dX8_foe_21 : decode cX8_foe 21 = .ok (.iconst (-1), 1) := by decide +kernel
theorem dX8_foe_22 : decode cX8_foe 22 = .ok (.istore_n 2, 1) := by decide +kernel
theorem dX8_foe_23 : decode cX8_foe 23 = .ok (.iconst 0, 1) := by decide +kernel
theorem dX8_foe_24 : decode cX8_foe 24 = .ok (.istore_n 3, 1) := by decide +kernel
theorem dX8_foe_25 : decode cX8_foe 25 = .ok (.iconst 0, 1) := by decide +kernel
theorem dX8_foe_26 : decode cX8_foe 26 = .ok (.istore 4, 2) := by decide +kernel
theorem dX8_foe_28 : decode cX8_foe 28 = .ok (.iload 4, 2) := by decide +kernel
theorem dX8_foe_30 : decode cX8_foe 30 = .ok (.aload_n 0, 1) := by decide +kernel
theorem dX8_foe_31 : decode cX8_foe 31 = .ok (.invokevirtual 212, 3) := by decide +kernel
theorem dX8_foe_34 : decode cX8_foe 34 = .ok (.if_icmp .ge 74, 3) := by decide +kernel
theorem dX8_foe_37 : decode cX8_foe 37 = .ok (.iconst 0, 1) := by decide +kernel
theorem dX8_foe_38 : decode cX8_foe 38 = .ok (.istore 5, 2) := by decide +kernel
theorem dX8_foe_40 : decode cX8_foe 40 = .ok (.iconst 0, 1) := by decide +kernel
theorem dX8_foe_41 : decode cX8_foe 41 = .ok (.istore 6, 2) := by decide +kernel
theorem dX8_foe_43 : decode cX8_foe 43 = .ok (.iload 6, 2) := by decide +kernel
theorem dX8_foe_45 : decode cX8_foe 45 = .ok (.aload_n 0, 1) := by decide +kernel
theorem dX8_foe_46 : decode cX8_foe 46 = .ok (.invokevirtual 216, 3) := by decide +kernel
theorem dX8_foe_49 : decode cX8_foe 49 = .ok (.if_icmp .ge 38, 3) := by decide +kernel
theorem dX8_foe_52 : decode cX8_foe 52 = .ok (.iload 5, 2) := by decide +kernel
theorem dX8_foe_54 : decode cX8_foe 54 = .ok (.aload_n 0, 1) := by decide +kernel
theorem dX8_foe_55 : decode cX8_foe 55 = .ok (.iload 6, 2) := by decide +kernel
theorem dX8_foe_57 : decode cX8_foe 57 = .ok (.iload 4, 2) := by decide +kernel
theorem dX8_foe_59 : decode cX8_foe 59 = .ok (.invokevirtual 236, 3) := by decide +kernel
theorem dX8_foe_62 : decode cX8_foe 62 = .ok (.ifCond .ge 15, 3) := by decide +kernel
theorem dX8_foe_65 : decode cX8_foe 65 = .ok (.aload_n 0, 1) := by decide +kernel
theorem dX8_foe_66 : decode cX8_foe 66 = .ok (.iload 6, 2) := by decide +kernel
theorem dX8_foe_68 : decode cX8_foe 68 = .ok (.iload 4, 2) := by decide +kernel
theorem dX8_foe_70 : decode cX8_foe 70 = .ok (.invokevirtual 236, 3) := by decide +kernel
theorem dX8_foe_73 : decode cX8_foe 73 = .ok (.ineg, 1) := by decide +kernel
theorem dX8_foe_74 : decode cX8_foe 74 = .ok (.goto 4, 3) := by decide +kernel
theorem dX8_foe_77 : decode cX8_foe 77 = .ok (.iconst 0, 1) := by decide +kernel
theorem dX8_foe_78 : decode cX8_foe 78 = .ok (.iadd, 1) := by decide +kernel
theorem dX8_foe_79 : decode cX8_foe 79 = .ok (.istore 5, 2) := by decide +kernel
theorem dX8_foe_81 : decode cX8_foe 81 = .ok (.iinc 6 1, 3) := by decide +kernel
theorem dX8_foe_84 : decode cX8_foe 84 = .ok (.goto (-41), 3) := by decide +kernel
theorem dX8_foe_87 : decode cX8_foe 87 = .ok (.iload 5, 2) := by decide +kernel
theorem dX8_foe_89 : decode cX8_foe 89 = .ok (.iload_n 3, 1) := by decide +kernel
theorem dX8_foe_90 : decode cX8_foe 90 = .ok (.if_icmp .gt 6, 3) := by decide +kernel
theorem dX8_foe_93 : decode cX8_foe 93 = .ok (.goto 9, 3) := by decide +kernel
theorem dX8_foe_96 : decode cX8_foe 96 = .ok (.iload 4, 2) := by decide +kernel
theorem dX8_foe_98 : decode cX8_foe 98 = .ok (.istore_n 2, 1) := by decide +kernel
theorem dX8_foe_99 : decode cX8_foe 99 = .ok (.iload 5, 2) := by decide +kernel
theorem dX8_foe_101 : decode cX8_foe 101 = .ok (.istore_n 3, 1) := by decide +kernel
theorem dX8_foe_102 : decode cX8_foe 102 = .ok (.iinc 4 1, 3) := by decide +kernel
theorem dX8_foe_105 : decode cX8_foe 105 = .ok (.goto (-77), 3) := by decide +kernel
theorem dX8_foe_108 : decode cX8_foe 108 = .ok (.iload_n 2, 1) := by decide +kernel
theorem dX8_foe_109 : decode cX8_foe 109 = .ok (.ireturn, 1) := by decide +kernel
theorem dX8_cools_0 : decode cX8_cools 0 = .ok (.aload_n 0, 1) := by decide +kernel
theorem dX8_cools_1 : decode cX8_cools 1 = .ok (.iconst 0, 1) := by decide +kernel
theorem dX8_cools_2 : decode cX8_cools 2 = .ok (.putfield 71, 3) := by decide +kernel
theorem dX8_cools_5 : decode cX8_cools 5 = .ok (.aload_n 0, 1) := by decide +kernel
theorem dX8_cools_6 : decode cX8_cools 6 = .ok (.iload_n 1, 1) := by decide +kernel
theorem dX8_cools_7 : decode cX8_cools 7 = .ok (.i2l, 1) := by decide +kernel
theorem dX8_cools_8 : decode cX8_cools 8 = .ok (.invokevirtual 219, 3) := by decide +kernel
theorem dX8_cools_11 : decode cX8_cools 11 = .ok (.ifCond .eq 12, 3) := by decide +kernel
theorem dX8_cools_14 : decode cX8_cools 14 = .ok (.aload_n 0, 1) := by decide +kernel
theorem dX8_cools_15 : decode cX8_cools 15 = .ok (.iload_n 2, 1) := by decide +kernel
theorem dX8_cools_16 : decode cX8_cools 16 = .ok (.i2l, 1) := by decide +kernel
theorem dX8_cools_17 : decode cX8_cools 17 = .ok (.invokevirtual 273, 3) := by decide +kernel
theorem dX8_cools_20 : decode cX8_cools 20 = .ok (.ifCond .ne 6, 3) := by decide +kernel
theorem dX8_cools_23 : decode cX8_cools 23 = .ok (.bipush (-2), 2) := by decide +kernel
theorem dX8_cools_25 : decode cX8_cools 25 = .ok (.ireturn, 1) := by decide +kernel
theorem dX8_cools_26 : decode cX8_cools 26 = .ok (.aload_n 0, 1) := by decide +kernel
theorem dX8_cools_27 : decode cX8_cools 27 = .ok (.getfield 37, 3) := by decide +kernel
theorem dX8_cools_30 : decode cX8_cools 30 = .ok (.iconst 5, 1) := by decide +kernel
theorem dX8_cools_31 : decode cX8_cools 31 = .ok (.iload_n 1, 1) := by decide +kernel
theorem dX8_cools_32 : decode cX8_cools 32 = .ok (.imul, 1) := by decide +kernel
theorem dX8_cools_33 : decode cX8_cools 33 = .ok (.iload_n 2, 1) := by decide +kernel
theorem dX8_cools_34 : decode cX8_cools 34 = .ok (.iadd, 1) := by decide +kernel
theorem dX8_cools_35 : decode cX8_cools 35 = .ok (.iaload, 1) := by decide +kernel
theorem dX8_cools_36 : decode cX8_cools 36 = .ok (.ifCond .lt 5, 3) := by decide +kernel
theorem dX8_cools_39 : decode cX8_cools 39 = .ok (.iconst (-1), 1) := by decide +kernel
theorem dX8_cools_40 : decode cX8_cools 40 = .ok (.ireturn, 1) := by decide +kernel
theorem dX8_cools_41 : decode cX8_cools 41 = .ok (.aload_n 0, 1) := by decide +kernel
theorem dX8_cools_42 : decode cX8_cools 42 = .ok (.invokevirtual 267, 3) := by decide +kernel
theorem dX8_cools_45 : decode cX8_cools 45 = .ok (.iconst 0, 1) := by decide +kernel
theorem dX8_cools_46 : decode cX8_cools 46 = .ok (.istore_n 3, 1) := by decide +kernel
theorem dX8_cools_47 : decode cX8_cools 47 = .ok (.iload_n 3, 1) := by decide +kernel
theorem dX8_cools_48 : decode cX8_cools 48 = .ok (.bipush 12, 2) := by decide +kernel
theorem dX8_cools_50 : decode cX8_cools 50 = .ok (.if_icmp .ge 27, 3) := by decide +kernel
theorem dX8_cools_53 : decode cX8_cools 53 = .ok (.aload_n 0, 1) := by decide +kernel
theorem dX8_cools_54 : decode cX8_cools 54 = .ok (.iload_n 3, 1) := by decide +kernel
theorem dX8_cools_55 : decode cX8_cools 55 = .ok (.invokevirtual 270, 3) := by decide +kernel
theorem dX8_cools_58 : decode cX8_cools 58 = .ok (.aload_n 0, 1) := by decide +kernel
theorem dX8_cools_59 : decode cX8_cools 59 = .ok (.iload_n 1, 1) := by decide +kernel
theorem dX8_cools_60 : decode cX8_cools 60 = .ok (.iload_n 2, 1) := by decide +kernel
theorem dX8_cools_61 : decode cX8_cools 61 = .ok (.invokevirtual 236, 3) := by decide +kernel
theorem dX8_cools_64 : decode cX8_cools 64 = .ok (.ifCond .lt 7, 3) := by decide +kernel
theorem dX8_cools_67 : decode cX8_cools 67 = .ok (.iload_n 3, 1) := by decide +kernel
theorem dX8_cools_68 : decode cX8_cools 68 = .ok (.iconst 1, 1) := by decide +kernel
theorem dX8_cools_69 : decode cX8_cools 69 = .ok (.iadd, 1) := by decide +kernel
theorem dX8_cools_70 : decode cX8_cools 70 = .ok (.ireturn, 1) := by decide +kernel
theorem dX8_cools_71 : decode cX8_cools 71 = .ok (.iinc 3 1, 3) := by decide +kernel
theorem dX8_cools_74 : decode cX8_cools 74 = .ok (.goto (-27), 3) := by decide +kernel
theorem dX8_cools_77 : decode cX8_cools 77 = .ok (.iconst (-1), 1) := by decide +kernel
theorem dX8_cools_78 : decode cX8_cools 78 = .ok (.ireturn, 1) := by decide +kernel
theorem dX8_eats_0 : decode cX8_eats 0 = .ok (.aload_n 0, 1) := by decide +kernel
theorem dX8_eats_1 : decode cX8_eats 1 = .ok (.iconst 0, 1) := by decide +kernel
theorem dX8_eats_2 : decode cX8_eats 2 = .ok (.putfield 71, 3) := by decide +kernel
theorem dX8_eats_5 : decode cX8_eats 5 = .ok (.aload_n 0, 1) := by decide +kernel
theorem dX8_eats_6 : decode cX8_eats 6 = .ok (.iload_n 1, 1) := by decide +kernel
theorem dX8_eats_7 : decode cX8_eats 7 = .ok (.i2l, 1) := by decide +kernel
theorem dX8_eats_8 : decode cX8_eats 8 = .ok (.invokevirtual 219, 3) := by decide +kernel
theorem dX8_eats_11 : decode cX8_eats 11 = .ok (.ifCond .eq 12, 3) := by decide +kernel
theorem dX8_eats_14 : decode cX8_eats 14 = .ok (.aload_n 0, 1) := by decide +kernel
theorem dX8_eats_15 : decode cX8_eats 15 = .ok (.iload_n 2, 1) := by decide +kernel
theorem dX8_eats_16 : decode cX8_eats 16 = .ok (.i2l, 1) := by decide +kernel
theorem dX8_eats_17 : decode cX8_eats 17 = .ok (.invokevirtual 273, 3) := by decide +kernel
theorem dX8_eats_20 : decode cX8_eats 20 = .ok (.ifCond .ne 6, 3) := by decide +kernel
theorem dX8_eats_23 : decode cX8_eats 23 = .ok (.bipush (-2), 2) := by decide +kernel
theorem dX8_eats_25 : decode cX8_eats 25 = .ok (.ireturn, 1) := by decide +kernel
theorem dX8_eats_26 : decode cX8_eats 26 = .ok (.aload_n 0, 1) := by decide +kernel
theorem dX8_eats_27 : decode cX8_eats 27 = .ok (.invokevirtual 267, 3) := by decide +kernel
theorem dX8_eats_30 : decode cX8_eats 30 = .ok (.iconst 0, 1) := by decide +kernel
theorem dX8_eats_31 : decode cX8_eats 31 = .ok (.istore_n 3, 1) := by decide +kernel
theorem dX8_eats_32 : decode cX8_eats 32 = .ok (.iconst 0, 1) := by decide +kernel
theorem dX8_eats_33 : decode cX8_eats 33 = .ok (.istore 4, 2) := by decide +kernel
theorem dX8_eats_35 : decode cX8_eats 35 = .ok (.iload 4, 2) := by decide +kernel
theorem dX8_eats_37 : decode cX8_eats 37 = .ok (.bipush 12, 2) := by decide +kernel
theorem dX8_eats_39 : decode cX8_eats 39 = .ok (.if_icmp .gt 33, 3) := by decide +kernel
theorem dX8_eats_42 : decode cX8_eats 42 = .ok (.iload_n 3, 1) := by decide +kernel
theorem dX8_eats_43 : decode cX8_eats 43 = .ok (.aload_n 0, 1) := by decide +kernel
theorem dX8_eats_44 : decode cX8_eats 44 = .ok (.getfield 62, 3) := by decide +kernel
theorem dX8_eats_47 : decode cX8_eats 47 = .ok (.iload_n 1, 1) := by decide +kernel
theorem dX8_eats_48 : decode cX8_eats 48 = .ok (.iaload, 1) := by decide +kernel
theorem dX8_eats_49 : decode cX8_eats 49 = .ok (.iload_n 2, 1) := by decide +kernel
theorem dX8_eats_50 : decode cX8_eats 50 = .ok (.if_icmp .ne 7, 3) := by decide +kernel
theorem dX8_eats_53 : decode cX8_eats 53 = .ok (.iconst 1, 1) := by decide +kernel
theorem dX8_eats_54 : decode cX8_eats 54 = .ok (.goto 4, 3) := by decide +kernel
theorem dX8_eats_57 : decode cX8_eats 57 = .ok (.iconst 0, 1) := by decide +kernel
theorem dX8_eats_58 : decode cX8_eats 58 = .ok (.iadd, 1) := by decide +kernel
theorem dX8_eats_59 : decode cX8_eats 59 = .ok (.istore_n 3, 1) := by decide +kernel
theorem dX8_eats_60 : decode cX8_eats 60 = .ok (.aload_n 0, 1) := by decide +kernel
theorem dX8_eats_61 : decode cX8_eats 61 = .ok (.iload 4, 2) := by decide +kernel
theorem dX8_eats_63 : decode cX8_eats 63 = .ok (.invokevirtual 270, 3) := by decide +kernel
theorem dX8_eats_66 : decode cX8_eats 66 = .ok (.iinc 4 1, 3) := by decide +kernel
theorem dX8_eats_69 : decode cX8_eats 69 = .ok (.goto (-34), 3) := by decide +kernel
theorem dX8_eats_72 : decode cX8_eats 72 = .ok (.iload_n 3, 1) := by decide +kernel
theorem dX8_eats_73 : decode cX8_eats 73 = .ok (.ireturn, 1) := by decide +kernel
theorem dX8_lasts_0 : decode cX8_lasts 0 = .ok (.aload_n 0, 1) := by decide +kernel
theorem dX8_lasts_1 : decode cX8_lasts 1 = .ok (.iconst 0, 1) := by decide +kernel
theorem dX8_lasts_2 : decode cX8_lasts 2 = .ok (.putfield 71, 3) := by decide +kernel
theorem dX8_lasts_5 : decode cX8_lasts 5 = .ok (.aload_n 0, 1) := by decide +kernel
theorem dX8_lasts_6 : decode cX8_lasts 6 = .ok (.iload_n 1, 1) := by decide +kernel
theorem dX8_lasts_7 : decode cX8_lasts 7 = .ok (.i2l, 1) := by decide +kernel
theorem dX8_lasts_8 : decode cX8_lasts 8 = .ok (.invokevirtual 273, 3) := by decide +kernel
theorem dX8_lasts_11 : decode cX8_lasts 11 = .ok (.ifCond .ne 6, 3) := by decide +kernel
theorem dX8_lasts_14 : decode cX8_lasts 14 = .ok (.bipush (-2), 2) := by decide +kernel
theorem dX8_lasts_16 : decode cX8_lasts 16 = .ok (.ireturn, 1) := by decide +kernel
theorem dX8_lasts_17 : decode cX8_lasts 17 = .ok (.aload_n 0, 1) := by decide +kernel
theorem dX8_lasts_18 : decode cX8_lasts 18 = .ok (.invokevirtual 267, 3) := by decide +kernel
theorem dX8_lasts_21 : decode cX8_lasts 21 = .ok (.iconst (-1), 1) := by decide +kernel
theorem dX8_lasts_22 : decode cX8_lasts 22 = .ok (.istore_n 2, 1) := by decide +kernel
theorem dX8_lasts_23 : decode cX8_lasts 23 = .ok (.iconst 0, 1) := by decide +kernel
theorem dX8_lasts_24 : decode cX8_lasts 24 = .ok (.istore_n 3, 1) := by decide +kernel
theorem dX8_lasts_25 : decode cX8_lasts 25 = .ok (.iload_n 3, 1) := by decide +kernel
theorem dX8_lasts_26 : decode cX8_lasts 26 = .ok (.bipush 12, 2) := by decide +kernel
theorem dX8_lasts_28 : decode cX8_lasts 28 = .ok (.if_icmp .gt 28, 3) := by decide +kernel
theorem dX8_lasts_31 : decode cX8_lasts 31 = .ok (.aload_n 0, 1) := by decide +kernel
theorem dX8_lasts_32 : decode cX8_lasts 32 = .ok (.iload_n 1, 1) := by decide +kernel
theorem dX8_lasts_33 : decode cX8_lasts 33 = .ok (.invokevirtual 285, 3) := by decide +kernel
theorem dX8_lasts_36 : decode cX8_lasts 36 = .ok (.ifCond .ne 7, 3) := by decide +kernel
theorem dX8_lasts_39 : decode cX8_lasts 39 = .ok (.iload_n 2, 1) := by decide +kernel
theorem dX8_lasts_40 : decode cX8_lasts 40 = .ok (.goto 4, 3) := by decide +kernel
theorem dX8_lasts_43 : decode cX8_lasts 43 = .ok (.iload_n 3, 1) := by decide +kernel
theorem dX8_lasts_44 : decode cX8_lasts 44 = .ok (.istore_n 2, 1) := by decide +kernel
theorem dX8_lasts_45 : decode cX8_lasts 45 = .ok (.aload_n 0, 1) := by decide +kernel
theorem dX8_lasts_46 : decode cX8_lasts 46 = .ok (.iload_n 3, 1) := by decide +kernel
theorem dX8_lasts_47 : decode cX8_lasts 47 = .ok (.invokevirtual 270, 3) := by decide +kernel
theorem dX8_lasts_50 : decode cX8_lasts 50 = .ok (.iinc 3 1, 3) := by decide +kernel
theorem dX8_lasts_53 : decode cX8_lasts 53 = .ok (.goto (-28), 3) := by decide +kernel
theorem dX8_lasts_56 : decode cX8_lasts 56 = .ok (.iload_n 2, 1) := by decide +kernel
theorem dX8_lasts_57 : decode cX8_lasts 57 = .ok (.ireturn, 1) := by decide +kernel
theorem dX8_lean_0 : decode cX8_lean 0 = .ok (.aload_n 0, 1) := by decide +kernel
theorem dX8_lean_1 : decode cX8_lean 1 = .ok (.iconst 0, 1) := by decide +kernel
theorem dX8_lean_2 : decode cX8_lean 2 = .ok (.putfield 71, 3) := by decide +kernel
theorem dX8_lean_5 : decode cX8_lean 5 = .ok (.aload_n 0, 1) := by decide +kernel
theorem dX8_lean_6 : decode cX8_lean 6 = .ok (.invokevirtual 209, 3) := by decide +kernel
theorem dX8_lean_9 : decode cX8_lean 9 = .ok (.ifCond .ne 6, 3) := by decide +kernel
theorem dX8_lean_12 : decode cX8_lean 12 = .ok (.bipush (-2), 2) := by decide +kernel
theorem dX8_lean_14 : decode cX8_lean 14 = .ok (.ireturn, 1) := by decide +kernel
theorem dX8_lean_15 : decode cX8_lean 15 = .ok (.aload_n 0, 1) := by decide +kernel
theorem dX8_lean_16 : decode cX8_lean 16 = .ok (.invokevirtual 267, 3) := by decide +kernel
theorem dX8_lean_19 : decode cX8_lean 19 = .ok (.iconst 0, 1) := by decide +kernel
theorem dX8_lean_20 : decode cX8_lean 20 = .ok (.istore_n 1, 1) := by decide +kernel
theorem dX8_lean_21 : decode cX8_lean 21 = .ok (.ldc 121, 2) := by decide +kernel
theorem dX8_lean_23 : decode cX8_lean 23 = .ok (.istore_n 2, 1) := by decide +kernel
theorem dX8_lean_24 : decode cX8_lean 24 = .ok (.iconst 0, 1) := by decide +kernel
theorem dX8_lean_25 : decode cX8_lean 25 = .ok (.istore_n 3, 1) := by decide +kernel
theorem dX8_lean_26 : decode cX8_lean 26 = .ok (.iload_n 3, 1) := by decide +kernel
theorem dX8_lean_27 : decode cX8_lean 27 = .ok (.bipush 12, 2) := by decide +kernel
theorem dX8_lean_29 : decode cX8_lean 29 = .ok (.if_icmp .gt 45, 3) := by decide +kernel
theorem dX8_lean_32 : decode cX8_lean 32 = .ok (.aload_n 0, 1) := by decide +kernel
theorem dX8_lean_33 : decode cX8_lean 33 = .ok (.invokevirtual 288, 3) := by decide +kernel
theorem dX8_lean_36 : decode cX8_lean 36 = .ok (.istore 4, 2) := by decide +kernel
theorem dX8_lean_38 : decode cX8_lean 38 = .ok (.iload 4, 2) := by decide +kernel
theorem dX8_lean_40 : decode cX8_lean 40 = .ok (.iload_n 2, 1) := by decide +kernel
theorem dX8_lean_41 : decode cX8_lean 41 = .ok (.if_icmp .ge 7, 3) := by decide +kernel
theorem dX8_lean_44 : decode cX8_lean 44 = .ok (.iload_n 3, 1) := by decide +kernel
theorem dX8_lean_45 : decode cX8_lean 45 = .ok (.goto 4, 3) := by decide +kernel
theorem dX8_lean_48 : decode cX8_lean 48 = .ok (.iload_n 1, 1) := by decide +kernel
theorem dX8_lean_49 : decode cX8_lean 49 = .ok (.istore_n 1, 1) := by decide +kernel
theorem dX8_lean_50 : decode cX8_lean 50 = .ok (.iload 4, 2) := by decide +kernel
theorem dX8_lean_52 : decode cX8_lean 52 = .ok (.iload_n 2, 1) := by decide +kernel
theorem dX8_lean_53 : decode cX8_lean 53 = .ok (.if_icmp .ge 8, 3) := by decide +kernel
theorem dX8_lean_56 : decode cX8_lean 56 = .ok (.iload 4, 2) := by decide +kernel
theorem dX8_lean_58 : decode cX8_lean 58 = .ok (.goto 4, 3) := by decide +kernel
theorem dX8_lean_61 : decode cX8_lean 61 = .ok (.iload_n 2, 1) := by decide +kernel
theorem dX8_lean_62 : decode cX8_lean 62 = .ok (.istore_n 2, 1) := by decide +kernel
theorem dX8_lean_63 : decode cX8_lean 63 = .ok (.aload_n 0, 1) := by decide +kernel
theorem dX8_lean_64 : decode cX8_lean 64 = .ok (.iload_n 3, 1) := by decide +kernel
theorem dX8_lean_65 : decode cX8_lean 65 = .ok (.invokevirtual 270, 3) := by decide +kernel
theorem dX8_lean_68 : decode cX8_lean 68 = .ok (.iinc 3 1, 3) := by decide +kernel
theorem dX8_lean_71 : decode cX8_lean 71 = .ok (.goto (-45), 3) := by decide +kernel
theorem dX8_lean_74 : decode cX8_lean 74 = .ok (.iload_n 1, 1) := by decide +kernel
theorem dX8_lean_75 : decode cX8_lean 75 = .ok (.ireturn, 1) := by decide +kernel
theorem dX8_change_0 : decode cX8_change 0 = .ok (.aload_n 0, 1) := by decide +kernel
theorem dX8_change_1 : decode cX8_change 1 = .ok (.iconst 0, 1) := by decide +kernel
theorem dX8_change_2 : decode cX8_change 2 = .ok (.putfield 71, 3) := by decide +kernel
theorem dX8_change_5 : decode cX8_change 5 = .ok (.aload_n 0, 1) := by decide +kernel
theorem dX8_change_6 : decode cX8_change 6 = .ok (.iload_n 1, 1) := by decide +kernel
theorem dX8_change_7 : decode cX8_change 7 = .ok (.i2l, 1) := by decide +kernel
theorem dX8_change_8 : decode cX8_change 8 = .ok (.invokevirtual 219, 3) := by decide +kernel
theorem dX8_change_11 : decode cX8_change 11 = .ok (.ifCond .ne 6, 3) := by decide +kernel
theorem dX8_change_14 : decode cX8_change 14 = .ok (.bipush (-2), 2) := by decide +kernel
theorem dX8_change_16 : decode cX8_change 16 = .ok (.ireturn, 1) := by decide +kernel
theorem dX8_change_17 : decode cX8_change 17 = .ok (.aload_n 0, 1) := by decide +kernel
theorem dX8_change_18 : decode cX8_change 18 = .ok (.invokevirtual 267, 3) := by decide +kernel
theorem dX8_change_21 : decode cX8_change 21 = .ok (.aload_n 0, 1) := by decide +kernel
theorem dX8_change_22 : decode cX8_change 22 = .ok (.getfield 62, 3) := by decide +kernel
theorem dX8_change_25 : decode cX8_change 25 = .ok (.iload_n 1, 1) := by decide +kernel
theorem dX8_change_26 : decode cX8_change 26 = .ok (.iaload, 1) := by decide +kernel
theorem dX8_change_27 : decode cX8_change 27 = .ok (.istore_n 2, 1) := by decide +kernel
theorem dX8_change_28 : decode cX8_change 28 = .ok (.iconst 0, 1) := by decide +kernel
theorem dX8_change_29 : decode cX8_change 29 = .ok (.istore_n 3, 1) := by decide +kernel
theorem dX8_change_30 : decode cX8_change 30 = .ok (.iload_n 3, 1) := by decide +kernel
theorem dX8_change_31 : decode cX8_change 31 = .ok (.bipush 12, 2) := by decide +kernel
theorem dX8_change_33 : decode cX8_change 33 = .ok (.if_icmp .ge 28, 3) := by decide +kernel
theorem dX8_change_36 : decode cX8_change 36 = .ok (.aload_n 0, 1) := by decide +kernel
theorem dX8_change_37 : decode cX8_change 37 = .ok (.iload_n 3, 1) := by decide +kernel
theorem dX8_change_38 : decode cX8_change 38 = .ok (.invokevirtual 270, 3) := by decide +kernel
theorem dX8_change_41 : decode cX8_change 41 = .ok (.aload_n 0, 1) := by decide +kernel
theorem dX8_change_42 : decode cX8_change 42 = .ok (.getfield 62, 3) := by decide +kernel
theorem dX8_change_45 : decode cX8_change 45 = .ok (.iload_n 1, 1) := by decide +kernel
theorem dX8_change_46 : decode cX8_change 46 = .ok (.iaload, 1) := by decide +kernel
theorem dX8_change_47 : decode cX8_change 47 = .ok (.iload_n 2, 1) := by decide +kernel
theorem dX8_change_48 : decode cX8_change 48 = .ok (.if_icmp .eq 7, 3) := by decide +kernel
theorem dX8_change_51 : decode cX8_change 51 = .ok (.iload_n 3, 1) := by decide +kernel
theorem dX8_change_52 : decode cX8_change 52 = .ok (.iconst 1, 1) := by decide +kernel
theorem dX8_change_53 : decode cX8_change 53 = .ok (.iadd, 1) := by decide +kernel
theorem dX8_change_54 : decode cX8_change 54 = .ok (.ireturn, 1) := by decide +kernel
theorem dX8_change_55 : decode cX8_change 55 = .ok (.iinc 3 1, 3) := by decide +kernel
theorem dX8_change_58 : decode cX8_change 58 = .ok (.goto (-28), 3) := by decide +kernel
theorem dX8_change_61 : decode cX8_change 61 = .ok (.iconst (-1), 1) := by decide +kernel
theorem dX8_change_62 : decode cX8_change 62 = .ok (.ireturn, 1) := by decide +kernel
theorem dX8_uncle_0 : decode cX8_uncle 0 = .ok (.aload_n 0, 1) := by decide +kernel
theorem dX8_uncle_1 : decode cX8_uncle 1 = .ok (.iconst 0, 1) := by decide +kernel
theorem dX8_uncle_2 : decode cX8_uncle 2 = .ok (.putfield 71, 3) := by decide +kernel
theorem dX8_uncle_5 : decode cX8_uncle 5 = .ok (.aload_n 0, 1) := by decide +kernel
theorem dX8_uncle_6 : decode cX8_uncle 6 = .ok (.iload_n 1, 1) := by decide +kernel
theorem dX8_uncle_7 : decode cX8_uncle 7 = .ok (.invokevirtual 279, 3) := by decide +kernel
theorem dX8_uncle_10 : decode cX8_uncle 10 = .ok (.ifCond .ne 6, 3) := by decide +kernel
theorem dX8_uncle_13 : decode cX8_uncle 13 = .ok (.bipush (-2), 2) := by decide +kernel
theorem dX8_uncle_15 : decode cX8_uncle 15 = .ok (.ireturn, 1) := by decide +kernel
theorem dX8_uncle_16 : decode cX8_uncle 16 = .ok (.aload_n 0, 1) := by decide +kernel
theorem dX8_uncle_17 : decode cX8_uncle 17 = .ok (.iload_n 1, 1) := by decide +kernel
theorem dX8_uncle_18 : decode cX8_uncle 18 = .ok (.invokevirtual 276, 3) := by decide +kernel
theorem dX8_uncle_21 : decode cX8_uncle 21 = .ok (.iconst (-1), 1) := by decide +kernel
theorem dX8_uncle_22 : decode cX8_uncle 22 = .ok (.istore_n 2, 1) := by decide +kernel
theorem dX8_uncle_23 : decode cX8_uncle 23 = .ok (.iconst 0, 1) := by decide +kernel
theorem dX8_uncle_24 : decode cX8_uncle 24 = .ok (.istore_n 3, 1) := by decide +kernel
theorem dX8_uncle_25 : decode cX8_uncle 25 = .ok (.iload_n 3, 1) := by decide +kernel
theorem dX8_uncle_26 : decode cX8_uncle 26 = .ok (.aload_n 0, 1) := by decide +kernel
theorem dX8_uncle_27 : decode cX8_uncle 27 = .ok (.invokevirtual 216, 3) := by decide +kernel
theorem dX8_uncle_30 : decode cX8_uncle 30 = .ok (.if_icmp .ge 35, 3) := by decide +kernel
theorem dX8_uncle_33 : decode cX8_uncle 33 = .ok (.iload_n 2, 1) := by decide +kernel
theorem dX8_uncle_34 : decode cX8_uncle 34 = .ok (.iconst (-1), 1) := by decide +kernel
theorem dX8_uncle_35 : decode cX8_uncle 35 = .ok (.if_icmp .eq 22, 3) := by decide +kernel
theorem dX8_uncle_38 : decode cX8_uncle 38 = .ok (.aload_n 0, 1) := by decide +kernel
theorem dX8_uncle_39 : decode cX8_uncle 39 = .ok (.iload_n 3, 1) := by decide +kernel
theorem dX8_uncle_40 : decode cX8_uncle 40 = .ok (.invokevirtual 245, 3) := by decide +kernel
theorem dX8_uncle_43 : decode cX8_uncle 43 = .ok (.invokestatic 294, 3) := by decide +kernel
theorem dX8_uncle_46 : decode cX8_uncle 46 = .ok (.aload_n 0, 1) := by decide +kernel
theorem dX8_uncle_47 : decode cX8_uncle 47 = .ok (.iload_n 2, 1) := by decide +kernel
theorem dX8_uncle_48 : decode cX8_uncle 48 = .ok (.invokevirtual 245, 3) := by decide +kernel
theorem dX8_uncle_51 : decode cX8_uncle 51 = .ok (.invokestatic 294, 3) := by decide +kernel
theorem dX8_uncle_54 : decode cX8_uncle 54 = .ok (.if_icmp .le 5, 3) := by decide +kernel
theorem dX8_uncle_57 : decode cX8_uncle 57 = .ok (.iload_n 3, 1) := by decide +kernel
theorem dX8_uncle_58 : decode cX8_uncle 58 = .ok (.istore_n 2, 1) := by decide +kernel
theorem dX8_uncle_59 : decode cX8_uncle 59 = .ok (.iinc 3 1, 3) := by decide +kernel
theorem dX8_uncle_62 : decode cX8_uncle 62 = .ok (.goto (-37), 3) := by decide +kernel
theorem dX8_uncle_65 : decode cX8_uncle 65 = .ok (.iload_n 2, 1) := by decide +kernel
theorem dX8_uncle_66 : decode cX8_uncle 66 = .ok (.ireturn, 1) := by decide +kernel
theorem dX8_saints_0 : decode cX8_saints 0 = .ok (.aload_n 0, 1) := by decide +kernel
theorem dX8_saints_1 : decode cX8_saints 1 = .ok (.iconst 0, 1) := by decide +kernel
theorem dX8_saints_2 : decode cX8_saints 2 = .ok (.putfield 71, 3) := by decide +kernel
theorem dX8_saints_5 : decode cX8_saints 5 = .ok (.aload_n 0, 1) := by decide +kernel
theorem dX8_saints_6 : decode cX8_saints 6 = .ok (.iload_n 1, 1) := by decide +kernel
theorem dX8_saints_7 : decode cX8_saints 7 = .ok (.invokevirtual 279, 3) := by decide +kernel
theorem dX8_saints_10 : decode cX8_saints 10 = .ok (.ifCond .ne 6, 3) := by decide +kernel
theorem dX8_saints_13 : decode cX8_saints 13 = .ok (.bipush (-2), 2) := by decide +kernel
theorem dX8_saints_15 : decode cX8_saints 15 = .ok (.ireturn, 1) := by decide +kernel
theorem dX8_saints_16 : decode cX8_saints 16 = .ok (.aload_n 0, 1) := by decide +kernel
theorem dX8_saints_17 : decode cX8_saints 17 = .ok (.iload_n 1, 1) := by decide +kernel
theorem dX8_saints_18 : decode cX8_saints 18 = .ok (.invokevirtual 276, 3) := by decide +kernel
theorem dX8_saints_21 : decode cX8_saints 21 = .ok (.iconst 0, 1) := by decide +kernel
theorem dX8_saints_22 : decode cX8_saints 22 = .ok (.istore_n 2, 1) := by decide +kernel
theorem dX8_saints_23 : decode cX8_saints 23 = .ok (.iconst 0, 1) := by decide +kernel
theorem dX8_saints_24 : decode cX8_saints 24 = .ok (.istore_n 3, 1) := by decide +kernel
theorem dX8_saints_25 : decode cX8_saints 25 = .ok (.iload_n 3, 1) := by decide +kernel
theorem dX8_saints_26 : decode cX8_saints 26 = .ok (.aload_n 0, 1) := by decide +kernel
theorem dX8_saints_27 : decode cX8_saints 27 = .ok (.invokevirtual 216, 3) := by decide +kernel
theorem dX8_saints_30 : decode cX8_saints 30 = .ok (.if_icmp .ge 27, 3) := by decide +kernel
theorem dX8_saints_33 : decode cX8_saints 33 = .ok (.iload_n 2, 1) := by decide +kernel
theorem dX8_saints_34 : decode cX8_saints 34 = .ok (.aload_n 0, 1) := by decide +kernel
theorem dX8_saints_35 : decode cX8_saints 35 = .ok (.iload_n 3, 1) := by decide +kernel
theorem dX8_saints_36 : decode cX8_saints 36 = .ok (.invokevirtual 245, 3) := by decide +kernel
theorem dX8_saints_39 : decode cX8_saints 39 = .ok (.ifCond .ne 9, 3) := by decide +kernel
theorem dX8_saints_42 : decode cX8_saints 42 = .ok (.iconst 1, 1) := by decide +kernel
theorem dX8_saints_43 : decode cX8_saints 43 = .ok (.iload_n 3, 1) := by decide +kernel
theorem dX8_saints_44 : decode cX8_saints 44 = .ok (.ishl, 1) := by decide +kernel
theorem dX8_saints_45 : decode cX8_saints 45 = .ok (.goto 4, 3) := by decide +kernel
theorem dX8_saints_48 : decode cX8_saints 48 = .ok (.iconst 0, 1) := by decide +kernel
theorem dX8_saints_49 : decode cX8_saints 49 = .ok (.ior, 1) := by decide +kernel
theorem dX8_saints_50 : decode cX8_saints 50 = .ok (.istore_n 2, 1) := by decide +kernel
theorem dX8_saints_51 : decode cX8_saints 51 = .ok (.iinc 3 1, 3) := by decide +kernel
theorem dX8_saints_54 : decode cX8_saints 54 = .ok (.goto (-29), 3) := by decide +kernel
theorem dX8_saints_57 : decode cX8_saints 57 = .ok (.iload_n 2, 1) := by decide +kernel
theorem dX8_saints_58 : decode cX8_saints 58 = .ok (.ireturn, 1) := by decide +kernel
theorem dX8_loves_0 : decode cX8_loves 0 = .ok (.aload_n 0, 1) := by decide +kernel
theorem dX8_loves_1 : decode cX8_loves 1 = .ok (.iconst 0, 1) := by decide +kernel
theorem dX8_loves_2 : decode cX8_loves 2 = .ok (.putfield 71, 3) := by decide +kernel
theorem dX8_loves_5 : decode cX8_loves 5 = .ok (.aload_n 0, 1) := by decide +kernel
theorem dX8_loves_6 : decode cX8_loves 6 = .ok (.iload_n 1, 1) := by decide +kernel
theorem dX8_loves_7 : decode cX8_loves 7 = .ok (.i2l, 1) := by decide +kernel
theorem dX8_loves_8 : decode cX8_loves 8 = .ok (.invokevirtual 219, 3) := by decide +kernel
theorem dX8_loves_11 : decode cX8_loves 11 = .ok (.ifCond .eq 10, 3) := by decide +kernel
theorem dX8_loves_14 : decode cX8_loves 14 = .ok (.iload_n 2, 1) := by decide +kernel
theorem dX8_loves_15 : decode cX8_loves 15 = .ok (.invokestatic 224, 3) := by decide +kernel
theorem dX8_loves_18 : decode cX8_loves 18 = .ok (.ifCond .ne 6, 3) := by decide +kernel
theorem dX8_loves_21 : decode cX8_loves 21 = .ok (.bipush (-2), 2) := by decide +kernel
theorem dX8_loves_23 : decode cX8_loves 23 = .ok (.ireturn, 1) := by decide +kernel
theorem dX8_loves_24 : decode cX8_loves 24 = .ok (.aload_n 0, 1) := by decide +kernel
theorem dX8_loves_25 : decode cX8_loves 25 = .ok (.iload_n 2, 1) := by decide +kernel
theorem dX8_loves_26 : decode cX8_loves 26 = .ok (.invokevirtual 276, 3) := by decide +kernel
theorem dX8_loves_29 : decode cX8_loves 29 = .ok (.iconst 0, 1) := by decide +kernel
theorem dX8_loves_30 : decode cX8_loves 30 = .ok (.istore_n 3, 1) := by decide +kernel
theorem dX8_loves_31 : decode cX8_loves 31 = .ok (.iconst 0, 1) := by decide +kernel
theorem dX8_loves_32 : decode cX8_loves 32 = .ok (.istore 4, 2) := by decide +kernel
theorem dX8_loves_34 : decode cX8_loves 34 = .ok (.iload 4, 2) := by decide +kernel
theorem dX8_loves_36 : decode cX8_loves 36 = .ok (.aload_n 0, 1) := by decide +kernel
theorem dX8_loves_37 : decode cX8_loves 37 = .ok (.invokevirtual 212, 3) := by decide +kernel
theorem dX8_loves_40 : decode cX8_loves 40 = .ok (.if_icmp .ge 30, 3) := by decide +kernel
theorem dX8_loves_43 : decode cX8_loves 43 = .ok (.iload_n 3, 1) := by decide +kernel
theorem dX8_loves_44 : decode cX8_loves 44 = .ok (.aload_n 0, 1) := by decide +kernel
theorem dX8_loves_45 : decode cX8_loves 45 = .ok (.iload_n 1, 1) := by decide +kernel
theorem dX8_loves_46 : decode cX8_loves 46 = .ok (.iload 4, 2) := by decide +kernel
theorem dX8_loves_48 : decode cX8_loves 48 = .ok (.invokevirtual 236, 3) := by decide +kernel
theorem dX8_loves_51 : decode cX8_loves 51 = .ok (.ifCond .le 10, 3) := by decide +kernel
theorem dX8_loves_54 : decode cX8_loves 54 = .ok (.iconst 1, 1) := by decide +kernel
theorem dX8_loves_55 : decode cX8_loves 55 = .ok (.iload 4, 2) := by decide +kernel
theorem dX8_loves_57 : decode cX8_loves 57 = .ok (.ishl, 1) := by decide +kernel
theorem dX8_loves_58 : decode cX8_loves 58 = .ok (.goto 4, 3) := by decide +kernel
theorem dX8_loves_61 : decode cX8_loves 61 = .ok (.iconst 0, 1) := by decide +kernel
theorem dX8_loves_62 : decode cX8_loves 62 = .ok (.ior, 1) := by decide +kernel
theorem dX8_loves_63 : decode cX8_loves 63 = .ok (.istore_n 3, 1) := by decide +kernel
theorem dX8_loves_64 : decode cX8_loves 64 = .ok (.iinc 4 1, 3) := by decide +kernel
theorem dX8_loves_67 : decode cX8_loves 67 = .ok (.goto (-33), 3) := by decide +kernel
theorem dX8_loves_70 : decode cX8_loves 70 = .ok (.iload_n 3, 1) := by decide +kernel
theorem dX8_loves_71 : decode cX8_loves 71 = .ok (.ireturn, 1) := by decide +kernel
theorem dX8_ahead_0 : decode cX8_ahead 0 = .ok (.aload_n 0, 1) := by decide +kernel
theorem dX8_ahead_1 : decode cX8_ahead 1 = .ok (.iconst 0, 1) := by decide +kernel
theorem dX8_ahead_2 : decode cX8_ahead 2 = .ok (.putfield 71, 3) := by decide +kernel
theorem dX8_ahead_5 : decode cX8_ahead 5 = .ok (.aload_n 0, 1) := by decide +kernel
theorem dX8_ahead_6 : decode cX8_ahead 6 = .ok (.iload_n 1, 1) := by decide +kernel
theorem dX8_ahead_7 : decode cX8_ahead 7 = .ok (.iload_n 2, 1) := by decide +kernel
theorem dX8_ahead_8 : decode cX8_ahead 8 = .ok (.invokevirtual 297, 3) := by decide +kernel
theorem dX8_ahead_11 : decode cX8_ahead 11 = .ok (.ifCond .ne 6, 3) := by decide +kernel
theorem dX8_ahead_14 : decode cX8_ahead 14 = .ok (.bipush (-2), 2) := by decide +kernel
theorem dX8_ahead_16 : decode cX8_ahead 16 = .ok (.ireturn, 1) := by decide +kernel
theorem dX8_ahead_17 : decode cX8_ahead 17 = .ok (.aload_n 0, 1) := by decide +kernel
theorem dX8_ahead_18 : decode cX8_ahead 18 = .ok (.invokevirtual 267, 3) := by decide +kernel
theorem dX8_ahead_21 : decode cX8_ahead 21 = .ok (.aload_n 0, 1) := by decide +kernel
theorem dX8_ahead_22 : decode cX8_ahead 22 = .ok (.iload_n 1, 1) := by decide +kernel
theorem dX8_ahead_23 : decode cX8_ahead 23 = .ok (.aload_n 0, 1) := by decide +kernel
theorem dX8_ahead_24 : decode cX8_ahead 24 = .ok (.iload_n 2, 1) := by decide +kernel
theorem dX8_ahead_25 : decode cX8_ahead 25 = .ok (.invokevirtual 245, 3) := by decide +kernel
theorem dX8_ahead_28 : decode cX8_ahead 28 = .ok (.invokevirtual 255, 3) := by decide +kernel
theorem dX8_ahead_31 : decode cX8_ahead 31 = .ok (.ireturn, 1) := by decide +kernel
theorem dX8_match_0 : decode cX8_match 0 = .ok (.aload_n 0, 1) := by decide +kernel
theorem dX8_match_1 : decode cX8_match 1 = .ok (.iconst 0, 1) := by decide +kernel
theorem dX8_match_2 : decode cX8_match 2 = .ok (.putfield 71, 3) := by decide +kernel
theorem dX8_match_5 : decode cX8_match 5 = .ok (.aload_n 0, 1) := by decide +kernel
theorem dX8_match_6 : decode cX8_match 6 = .ok (.iload_n 1, 1) := by decide +kernel
theorem dX8_match_7 : decode cX8_match 7 = .ok (.i2l, 1) := by decide +kernel
theorem dX8_match_8 : decode cX8_match 8 = .ok (.invokevirtual 219, 3) := by decide +kernel
theorem dX8_match_11 : decode cX8_match 11 = .ok (.ifCond .ne 6, 3) := by decide +kernel
theorem dX8_match_14 : decode cX8_match 14 = .ok (.bipush (-2), 2) := by decide +kernel
theorem dX8_match_16 : decode cX8_match 16 = .ok (.ireturn, 1) := by decide +kernel
theorem dX8_match_17 : decode cX8_match 17 = .ok (.aload_n 0, 1) := by decide +kernel
theorem dX8_match_18 : decode cX8_match 18 = .ok (.invokevirtual 267, 3) := by decide +kernel
theorem dX8_match_21 : decode cX8_match 21 = .ok (.iconst (-1), 1) := by decide +kernel
theorem dX8_match_22 : decode cX8_match 22 = .ok (.istore_n 2, 1) := by decide +kernel
theorem dX8_match_23 : decode cX8_match 23 = .ok (.iconst 0, 1) := by decide +kernel
theorem dX8_match_24 : decode cX8_match 24 = .ok (.istore_n 3, 1) := by decide +kernel
theorem dX8_match_25 : decode cX8_match 25 = .ok (.iconst 0, 1) := by decide +kernel
theorem dX8_match_26 : decode cX8_match 26 = .ok (.istore 4, 2) := by decide +kernel
theorem dX8_match_28 : decode cX8_match 28 = .ok (.iload 4, 2) := by decide +kernel
theorem dX8_match_30 : decode cX8_match 30 = .ok (.aload_n 0, 1) := by decide +kernel
theorem dX8_match_31 : decode cX8_match 31 = .ok (.invokevirtual 216, 3) := by decide +kernel
theorem dX8_match_34 : decode cX8_match 34 = .ok (.if_icmp .ge 70, 3) := by decide +kernel
theorem dX8_match_37 : decode cX8_match 37 = .ok (.iload 4, 2) := by decide +kernel
theorem dX8_match_39 : decode cX8_match 39 = .ok (.iload_n 1, 1) := by decide +kernel
theorem dX8_match_40 : decode cX8_match 40 = .ok (.if_icmp .ne 6, 3) := by decide +kernel
theorem dX8_match_43 : decode cX8_match 43 = .ok (.goto 55, 3) := by decide +kernel
theorem dX8_match_46 : decode cX8_match 46 = .ok (.aload_n 0, 1) := by decide +kernel
theorem dX8_match_47 : decode cX8_match 47 = .ok (.iload_n 1, 1) := by decide +kernel
theorem dX8_match_48 : decode cX8_match 48 = .ok (.aload_n 0, 1) := by decide +kernel
theorem dX8_match_49 : decode cX8_match 49 = .ok (.iload 4, 2) := by decide +kernel
theorem dX8_match_51 : decode cX8_match 51 = .ok (.invokevirtual 245, 3) := by decide +kernel
theorem dX8_match_54 : decode cX8_match 54 = .ok (.invokevirtual 255, 3) := by decide +kernel
theorem dX8_match_57 : decode cX8_match 57 = .ok (.istore 5, 2) := by decide +kernel
theorem dX8_match_59 : decode cX8_match 59 = .ok (.iload 5, 2) := by decide +kernel
theorem dX8_match_61 : decode cX8_match 61 = .ok (.iconst (-1), 1) := by decide +kernel
theorem dX8_match_62 : decode cX8_match 62 = .ok (.if_icmp .ne 7, 3) := by decide +kernel
theorem dX8_match_65 : decode cX8_match 65 = .ok (.iconst 0, 1) := by decide +kernel
theorem dX8_match_66 : decode cX8_match 66 = .ok (.goto 10, 3) := by decide +kernel
theorem dX8_match_69 : decode cX8_match 69 = .ok (.aload_n 0, 1) := by decide +kernel
theorem dX8_match_70 : decode cX8_match 70 = .ok (.iload_n 1, 1) := by decide +kernel
theorem dX8_match_71 : decode cX8_match 71 = .ok (.iload 5, 2) := by decide +kernel
theorem dX8_match_73 : decode cX8_match 73 = .ok (.invokevirtual 236, 3) := by decide +kernel
theorem dX8_match_76 : decode cX8_match 76 = .ok (.istore 6, 2) := by decide +kernel
theorem dX8_match_78 : decode cX8_match 78 = .ok (.iload_n 2, 1) := by decide +kernel
theorem dX8_match_79 : decode cX8_match 79 = .ok (.iconst (-1), 1) := by decide +kernel
theorem dX8_match_80 : decode cX8_match 80 = .ok (.if_icmp .eq 12, 3) := by decide +kernel
theorem dX8_match_83 : decode cX8_match 83 = .ok (.iload 6, 2) := by decide +kernel
theorem dX8_match_85 : decode cX8_match 85 = .ok (.iload_n 3, 1) := by decide +kernel
theorem dX8_match_86 : decode cX8_match 86 = .ok (.if_icmp .gt 6, 3) := by decide +kernel
theorem dX8_match_89 : decode cX8_match 89 = .ok (.goto 9, 3) := by decide +kernel
theorem dX8_match_92 : decode cX8_match 92 = .ok (.iload 4, 2) := by decide +kernel
theorem dX8_match_94 : decode cX8_match 94 = .ok (.istore_n 2, 1) := by decide +kernel
theorem dX8_match_95 : decode cX8_match 95 = .ok (.iload 6, 2) := by decide +kernel
theorem dX8_match_97 : decode cX8_match 97 = .ok (.istore_n 3, 1) := by decide +kernel
theorem dX8_match_98 : decode cX8_match 98 = .ok (.iinc 4 1, 3) := by decide +kernel
theorem dX8_match_101 : decode cX8_match 101 = .ok (.goto (-73), 3) := by decide +kernel
theorem dX8_match_104 : decode cX8_match 104 = .ok (.iload_n 2, 1) := by decide +kernel
theorem dX8_match_105 : decode cX8_match 105 = .ok (.ireturn, 1) := by decide +kernel
theorem dX8_stay_0 : decode cX8_stay 0 = .ok (.aload_n 0, 1) := by decide +kernel
theorem dX8_stay_1 : decode cX8_stay 1 = .ok (.iconst 0, 1) := by decide +kernel
theorem dX8_stay_2 : decode cX8_stay 2 = .ok (.putfield 71, 3) := by decide +kernel
theorem dX8_stay_5 : decode cX8_stay 5 = .ok (.aload_n 0, 1) := by decide +kernel
theorem dX8_stay_6 : decode cX8_stay 6 = .ok (.iload_n 1, 1) := by decide +kernel
theorem dX8_stay_7 : decode cX8_stay 7 = .ok (.i2l, 1) := by decide +kernel
theorem dX8_stay_8 : decode cX8_stay 8 = .ok (.invokevirtual 219, 3) := by decide +kernel
theorem dX8_stay_11 : decode cX8_stay 11 = .ok (.ifCond .ne 6, 3) := by decide +kernel
theorem dX8_stay_14 : decode cX8_stay 14 = .ok (.bipush (-2), 2) := by decide +kernel
theorem dX8_stay_16 : decode cX8_stay 16 = .ok (.ireturn, 1) := by decide +kernel
theorem dX8_stay_17 : decode cX8_stay 17 = .ok (.iconst 0, 1) := by decide +kernel
theorem dX8_stay_18 : decode cX8_stay 18 = .ok (.istore_n 2, 1) := by decide +kernel
theorem dX8_stay_19 : decode cX8_stay 19 = .ok (.ldc_w 300, 3) := by decide +kernel
theorem dX8_stay_22 : decode cX8_stay 22 = .ok (.istore_n 3, 1) := by decide +kernel
theorem dX8_stay_23 : decode cX8_stay 23 = .ok (.iconst 0, 1) := by decide +kernel
theorem dX8_stay_24 : decode cX8_stay 24 = .ok (.istore 4, 2) := by decide +kernel
theorem dX8_stay_26 : decode cX8_stay 26 = .ok (.iload 4, 2) := by decide +kernel
theorem dX8_stay_28 : decode cX8_stay 28 = .ok (.aload_n 0, 1) := by decide +kernel
theorem dX8_stay_29 : decode cX8_stay 29 = .ok (.invokevirtual 216, 3) := by decide +kernel
theorem dX8_stay_32 : decode cX8_stay 32 = .ok (.if_icmp .ge 61, 3) := by decide +kernel
theorem dX8_stay_35 : decode cX8_stay 35 = .ok (.aload_n 0, 1) := by decide +kernel
theorem dX8_stay_36 : decode cX8_stay 36 = .ok (.invokevirtual 267, 3) := by decide +kernel
theorem dX8_stay_39 : decode cX8_stay 39 = .ok (.aload_n 0, 1) := by decide +kernel
theorem dX8_stay_40 : decode cX8_stay 40 = .ok (.getfield 50, 3) := by decide +kernel
theorem dX8_stay_43 : decode cX8_stay 43 = .ok (.iload 4, 2) := by decide +kernel
theorem dX8_stay_45 : decode cX8_stay 45 = .ok (.iaload, 1) := by decide +kernel
theorem dX8_stay_46 : decode cX8_stay 46 = .ok (.iload_n 1, 1) := by decide +kernel
theorem dX8_stay_47 : decode cX8_stay 47 = .ok (.if_icmp .eq 15, 3) := by decide +kernel
theorem dX8_stay_50 : decode cX8_stay 50 = .ok (.aload_n 0, 1) := by decide +kernel
theorem dX8_stay_51 : decode cX8_stay 51 = .ok (.iload_n 1, 1) := by decide +kernel
theorem dX8_stay_52 : decode cX8_stay 52 = .ok (.aload_n 0, 1) := by decide +kernel
theorem dX8_stay_53 : decode cX8_stay 53 = .ok (.getfield 50, 3) := by decide +kernel
theorem dX8_stay_56 : decode cX8_stay 56 = .ok (.iload 4, 2) := by decide +kernel
theorem dX8_stay_58 : decode cX8_stay 58 = .ok (.iaload, 1) := by decide +kernel
theorem dX8_stay_59 : decode cX8_stay 59 = .ok (.invokevirtual 227, 3) := by decide +kernel
theorem dX8_stay_62 : decode cX8_stay 62 = .ok (.aload_n 0, 1) := by decide +kernel
theorem dX8_stay_63 : decode cX8_stay 63 = .ok (.invokevirtual 261, 3) := by decide +kernel
theorem dX8_stay_66 : decode cX8_stay 66 = .ok (.aload_n 0, 1) := by decide +kernel
theorem dX8_stay_67 : decode cX8_stay 67 = .ok (.iload_n 1, 1) := by decide +kernel
theorem dX8_stay_68 : decode cX8_stay 68 = .ok (.invokevirtual 258, 3) := by decide +kernel
theorem dX8_stay_71 : decode cX8_stay 71 = .ok (.iload_n 3, 1) := by decide +kernel
theorem dX8_stay_72 : decode cX8_stay 72 = .ok (.if_icmp .gt 6, 3) := by decide +kernel
theorem dX8_stay_75 : decode cX8_stay 75 = .ok (.goto 12, 3) := by decide +kernel
theorem dX8_stay_78 : decode cX8_stay 78 = .ok (.iload 4, 2) := by decide +kernel
theorem dX8_stay_80 : decode cX8_stay 80 = .ok (.istore_n 2, 1) := by decide +kernel
theorem dX8_stay_81 : decode cX8_stay 81 = .ok (.aload_n 0, 1) := by decide +kernel
theorem dX8_stay_82 : decode cX8_stay 82 = .ok (.iload_n 1, 1) := by decide +kernel
theorem dX8_stay_83 : decode cX8_stay 83 = .ok (.invokevirtual 258, 3) := by decide +kernel
theorem dX8_stay_86 : decode cX8_stay 86 = .ok (.istore_n 3, 1) := by decide +kernel
theorem dX8_stay_87 : decode cX8_stay 87 = .ok (.iinc 4 1, 3) := by decide +kernel
theorem dX8_stay_90 : decode cX8_stay 90 = .ok (.goto (-64), 3) := by decide +kernel
theorem dX8_stay_93 : decode cX8_stay 93 = .ok (.iload_n 2, 1) := by decide +kernel
theorem dX8_stay_94 : decode cX8_stay 94 = .ok (.ireturn, 1) := by decide +kernel
theorem dX8_treaties_0 : decode cX8_treaties 0 = .ok (.aload_n 0, 1) := by decide +kernel
theorem dX8_treaties_1 : decode cX8_treaties 1 = .ok (.iconst 0, 1) := by decide +kernel
theorem dX8_treaties_2 : decode cX8_treaties 2 = .ok (.putfield 71, 3) := by decide +kernel
theorem dX8_treaties_5 : decode cX8_treaties 5 = .ok (.aload_n 0, 1) := by decide +kernel
theorem dX8_treaties_6 : decode cX8_treaties 6 = .ok (.invokevirtual 209, 3) := by decide +kernel
theorem dX8_treaties_9 : decode cX8_treaties 9 = .ok (.ifCond .ne 6, 3) := by decide +kernel
theorem dX8_treaties_12 : decode cX8_treaties 12 = .ok (.bipush (-2), 2) := by decide +kernel
theorem dX8_treaties_14 : decode cX8_treaties 14 = .ok (.ireturn, 1) := by decide +kernel
theorem dX8_treaties_15 : decode cX8_treaties 15 = .ok (.iconst 0, 1) := by decide +kernel
theorem dX8_treaties_16 : decode cX8_treaties 16 = .ok (.istore_n 1, 1) := by decide +kernel
theorem dX8_treaties_17 : decode cX8_treaties 17 = .ok (.iconst 0, 1) := by decide +kernel
theorem dX8_treaties_18 : decode cX8_treaties 18 = .ok (.istore_n 2, 1) := by decide +kernel
theorem dX8_treaties_19 : decode cX8_treaties 19 = .ok (.iload_n 2, 1) := by decide +kernel
theorem dX8_treaties_20 : decode cX8_treaties 20 = .ok (.aload_n 0, 1) := by decide +kernel
theorem dX8_treaties_21 : decode cX8_treaties 21 = .ok (.invokevirtual 216, 3) := by decide +kernel
theorem dX8_treaties_24 : decode cX8_treaties 24 = .ok (.if_icmp .ge 77, 3) := by decide +kernel
theorem dX8_treaties_27 : decode cX8_treaties 27 = .ok (.iload_n 2, 1) := by decide +kernel
theorem dX8_treaties_28 : decode cX8_treaties 28 = .ok (.iconst 1, 1) := by decide +kernel
theorem dX8_treaties_29 : decode cX8_treaties 29 = .ok (.iadd, 1) := by decide +kernel
theorem dX8_treaties_30 : decode cX8_treaties 30 = .ok (.istore_n 3, 1) := by decide +kernel
theorem dX8_treaties_31 : decode cX8_treaties 31 = .ok (.iload_n 3, 1) := by decide +kernel
theorem dX8_treaties_32 : decode cX8_treaties 32 = .ok (.aload_n 0, 1) := by decide +kernel
theorem dX8_treaties_33 : decode cX8_treaties 33 = .ok (.invokevirtual 216, 3) := by decide +kernel
theorem dX8_treaties_36 : decode cX8_treaties 36 = .ok (.if_icmp .ge 59, 3) := by decide +kernel
theorem dX8_treaties_39 : decode cX8_treaties 39 = .ok (.iload_n 1, 1) := by decide +kernel
theorem dX8_treaties_40 : decode cX8_treaties 40 = .ok (.aload_n 0, 1) := by decide +kernel
theorem dX8_treaties_41 : decode cX8_treaties 41 = .ok (.iload_n 2, 1) := by decide +kernel
theorem dX8_treaties_42 : decode cX8_treaties 42 = .ok (.iload_n 2, 1) := by decide +kernel
theorem dX8_treaties_43 : decode cX8_treaties 43 = .ok (.iload_n 3, 1) := by decide +kernel
theorem dX8_treaties_44 : decode cX8_treaties 44 = .ok (.iconst 1, 1) := by decide +kernel
theorem dX8_treaties_45 : decode cX8_treaties 45 = .ok (.iconst 1, 1) := by decide +kernel
theorem dX8_treaties_46 : decode cX8_treaties 46 = .ok (.invokevirtual 301, 3) := by decide +kernel
theorem dX8_treaties_49 : decode cX8_treaties 49 = .ok (.aload_n 0, 1) := by decide +kernel
theorem dX8_treaties_50 : decode cX8_treaties 50 = .ok (.iload_n 2, 1) := by decide +kernel
theorem dX8_treaties_51 : decode cX8_treaties 51 = .ok (.iload_n 2, 1) := by decide +kernel
theorem dX8_treaties_52 : decode cX8_treaties 52 = .ok (.iload_n 3, 1) := by decide +kernel
theorem dX8_treaties_53 : decode cX8_treaties 53 = .ok (.iconst 0, 1) := by decide +kernel
theorem dX8_treaties_54 : decode cX8_treaties 54 = .ok (.iconst 0, 1) := by decide +kernel
theorem dX8_treaties_55 : decode cX8_treaties 55 = .ok (.invokevirtual 301, 3) := by decide +kernel
theorem dX8_treaties_58 : decode cX8_treaties 58 = .ok (.if_icmp .le 28, 3) := by decide +kernel
theorem dX8_treaties_61 : decode cX8_treaties 61 = .ok (.aload_n 0, 1) := by decide +kernel
theorem dX8_treaties_62 : decode cX8_treaties 62 = .ok (.iload_n 3, 1) := by decide +kernel
theorem dX8_treaties_63 : decode cX8_treaties 63 = .ok (.iload_n 2, 1) := by decide +kernel
theorem dX8_treaties_64 : decode cX8_treaties 64 = .ok (.iload_n 3, 1) := by decide +kernel
theorem dX8_treaties_65 : decode cX8_treaties 65 = .ok (.iconst 1, 1) := by decide +kernel
theorem dX8_treaties_66 : decode cX8_treaties 66 = .ok (.iconst 1, 1) := by decide +kernel
theorem dX8_treaties_67 : decode cX8_treaties 67 = .ok (.invokevirtual 301, 3) := by decide +kernel
theorem dX8_treaties_70 : decode cX8_treaties 70 = .ok (.aload_n 0, 1) := by decide +kernel
theorem dX8_treaties_71 : decode cX8_treaties 71 = .ok (.iload_n 3, 1) := by decide +kernel
theorem dX8_treaties_72 : decode cX8_treaties 72 = .ok (.iload_n 2, 1) := by decide +kernel
theorem dX8_treaties_73 : decode cX8_treaties 73 = .ok (.iload_n 3, 1) := by decide +kernel
theorem dX8_treaties_74 : decode cX8_treaties 74 = .ok (.iconst 0, 1) := by decide +kernel
theorem dX8_treaties_75 : decode cX8_treaties 75 = .ok (.iconst 0, 1) := by decide +kernel
theorem dX8_treaties_76 : decode cX8_treaties 76 = .ok (.invokevirtual 301, 3) := by decide +kernel
theorem dX8_treaties_79 : decode cX8_treaties 79 = .ok (.if_icmp .le 7, 3) := by decide +kernel
theorem dX8_treaties_82 : decode cX8_treaties 82 = .ok (.iconst 1, 1) := by decide +kernel
theorem dX8_treaties_83 : decode cX8_treaties 83 = .ok (.goto 4, 3) := by decide +kernel
theorem dX8_treaties_86 : decode cX8_treaties 86 = .ok (.iconst 0, 1) := by decide +kernel
theorem dX8_treaties_87 : decode cX8_treaties 87 = .ok (.iadd, 1) := by decide +kernel
theorem dX8_treaties_88 : decode cX8_treaties 88 = .ok (.istore_n 1, 1) := by decide +kernel
theorem dX8_treaties_89 : decode cX8_treaties 89 = .ok (.iinc 3 1, 3) := by decide +kernel
theorem dX8_treaties_92 : decode cX8_treaties 92 = .ok (.goto (-61), 3) := by decide +kernel
theorem dX8_treaties_95 : decode cX8_treaties 95 = .ok (.iinc 2 1, 3) := by decide +kernel
theorem dX8_treaties_98 : decode cX8_treaties 98 = .ok (.goto (-79), 3) := by decide +kernel
theorem dX8_treaties_101 : decode cX8_treaties 101 = .ok (.iload_n 1, 1) := by decide +kernel
theorem dX8_treaties_102 : decode cX8_treaties 102 = .ok (.ireturn, 1) := by decide +kernel
theorem dX8_ordersFrom_0 : decode cX8_ordersFrom 0 = .ok (.iload_n 1, 1) := by decide +kernel
theorem dX8_ordersFrom_1 : decode cX8_ordersFrom 1 = .ok (.aload_n 0, 1) := by decide +kernel
theorem dX8_ordersFrom_2 : decode cX8_ordersFrom 2 = .ok (.invokevirtual 216, 3) := by decide +kernel
theorem dX8_ordersFrom_5 : decode cX8_ordersFrom 5 = .ok (.if_icmp .ne 132, 3) := by decide +kernel
theorem dX8_ordersFrom_8 : decode cX8_ordersFrom 8 = .ok (.aload_n 0, 1) := by decide +kernel
theorem dX8_ordersFrom_9 : decode cX8_ordersFrom 9 = .ok (.invokevirtual 261, 3) := by decide +kernel
theorem dX8_ordersFrom_12 : decode cX8_ordersFrom 12 = .ok (.aload_n 0, 1) := by decide +kernel
theorem dX8_ordersFrom_13 : decode cX8_ordersFrom 13 = .ok (.invokevirtual 288, 3) := by decide +kernel
theorem dX8_ordersFrom_16 : decode cX8_ordersFrom 16 = .ok (.istore_n 3, 1) := by decide +kernel
theorem dX8_ordersFrom_17 : decode cX8_ordersFrom 17 = .ok (.iload_n 3, 1) := by decide +kernel
theorem dX8_ordersFrom_18 : decode cX8_ordersFrom 18 = .ok (.aload_n 0, 1) := by decide +kernel
theorem dX8_ordersFrom_19 : decode cX8_ordersFrom 19 = .ok (.getfield 305, 3) := by decide +kernel
theorem dX8_ordersFrom_22 : decode cX8_ordersFrom 22 = .ok (.if_icmp .le 42, 3) := by decide +kernel
theorem dX8_ordersFrom_25 : decode cX8_ordersFrom 25 = .ok (.aload_n 0, 1) := by decide +kernel
theorem dX8_ordersFrom_26 : decode cX8_ordersFrom 26 = .ok (.iload_n 3, 1) := by decide +kernel
theorem dX8_ordersFrom_27 : decode cX8_ordersFrom 27 = .ok (.putfield 305, 3) := by decide +kernel
theorem dX8_ordersFrom_30 : decode cX8_ordersFrom 30 = .ok (.aload_n 0, 1) := by decide +kernel
theorem dX8_ordersFrom_31 : decode cX8_ordersFrom 31 = .ok (.iconst 0, 1) := by decide +kernel
theorem dX8_ordersFrom_32 : decode cX8_ordersFrom 32 = .ok (.putfield 308, 3) := by decide +kernel
theorem dX8_ordersFrom_35 : decode cX8_ordersFrom 35 = .ok (.iconst 0, 1) := by decide +kernel
theorem dX8_ordersFrom_36 : decode cX8_ordersFrom 36 = .ok (.istore 4, 2) := by decide +kernel
theorem dX8_ordersFrom_38 : decode cX8_ordersFrom 38 = .ok (.iload 4, 2) := by decide +kernel
theorem dX8_ordersFrom_40 : decode cX8_ordersFrom 40 = .ok (.iload_n 1, 1) := by decide +kernel
theorem dX8_ordersFrom_41 : decode cX8_ordersFrom 41 = .ok (.if_icmp .ge 23, 3) := by decide +kernel
theorem dX8_ordersFrom_44 : decode cX8_ordersFrom 44 = .ok (.aload_n 0, 1) := by decide +kernel
theorem dX8_ordersFrom_45 : decode cX8_ordersFrom 45 = .ok (.getfield 65, 3) := by decide +kernel
theorem dX8_ordersFrom_48 : decode cX8_ordersFrom 48 = .ok (.iload 4, 2) := by decide +kernel
theorem dX8_ordersFrom_50 : decode cX8_ordersFrom 50 = .ok (.aload_n 0, 1) := by decide +kernel
theorem dX8_ordersFrom_51 : decode cX8_ordersFrom 51 = .ok (.getfield 50, 3) := by decide +kernel
theorem dX8_ordersFrom_54 : decode cX8_ordersFrom 54 = .ok (.iload 4, 2) := by decide +kernel
theorem dX8_ordersFrom_56 : decode cX8_ordersFrom 56 = .ok (.iaload, 1) := by decide +kernel
theorem dX8_ordersFrom_57 : decode cX8_ordersFrom 57 = .ok (.iastore, 1) := by decide +kernel
theorem dX8_ordersFrom_58 : decode cX8_ordersFrom 58 = .ok (.iinc 4 1, 3) := by decide +kernel
theorem dX8_ordersFrom_61 : decode cX8_ordersFrom 61 = .ok (.goto (-23), 3) := by decide +kernel
theorem dX8_ordersFrom_64 : decode cX8_ordersFrom 64 = .ok (.aload_n 0, 1) := by decide +kernel
theorem dX8_ordersFrom_65 : decode cX8_ordersFrom 65 = .ok (.dup, 1) := by decide +kernel
theorem dX8_ordersFrom_66 : decode cX8_ordersFrom 66 = .ok (.getfield 308, 3) := by decide +kernel
theorem dX8_ordersFrom_69 : decode cX8_ordersFrom 69 = .ok (.iload_n 3, 1) := by decide +kernel
theorem dX8_ordersFrom_70 : decode cX8_ordersFrom 70 = .ok (.aload_n 0, 1) := by decide +kernel
theorem dX8_ordersFrom_71 : decode cX8_ordersFrom 71 = .ok (.getfield 305, 3) := by decide +kernel
theorem dX8_ordersFrom_74 : decode cX8_ordersFrom 74 = .ok (.if_icmp .ne 7, 3) := by decide +kernel
theorem dX8_ordersFrom_77 : decode cX8_ordersFrom 77 = .ok (.iconst 1, 1) := by decide +kernel
theorem dX8_ordersFrom_78 : decode cX8_ordersFrom 78 = .ok (.goto 4, 3) := by decide +kernel
theorem dX8_ordersFrom_81 : decode cX8_ordersFrom 81 = .ok (.iconst 0, 1) := by decide +kernel
theorem dX8_ordersFrom_82 : decode cX8_ordersFrom 82 = .ok (.iadd, 1) := by decide +kernel
theorem dX8_ordersFrom_83 : decode cX8_ordersFrom 83 = .ok (.putfield 308, 3) := by decide +kernel
theorem dX8_ordersFrom_86 : decode cX8_ordersFrom 86 = .ok (.aload_n 0, 1) := by decide +kernel
theorem dX8_ordersFrom_87 : decode cX8_ordersFrom 87 = .ok (.invokevirtual 282, 3) := by decide +kernel
theorem dX8_ordersFrom_90 : decode cX8_ordersFrom 90 = .ok (.invokestatic 294, 3) := by decide +kernel
theorem dX8_ordersFrom_93 : decode cX8_ordersFrom 93 = .ok (.istore 4, 2) := by decide +kernel
theorem dX8_ordersFrom_95 : decode cX8_ordersFrom 95 = .ok (.aload_n 0, 1) := by decide +kernel
theorem dX8_ordersFrom_96 : decode cX8_ordersFrom 96 = .ok (.iload 4, 2) := by decide +kernel
theorem dX8_ordersFrom_98 : decode cX8_ordersFrom 98 = .ok (.aload_n 0, 1) := by decide +kernel
theorem dX8_ordersFrom_99 : decode cX8_ordersFrom 99 = .ok (.getfield 311, 3) := by decide +kernel
theorem dX8_ordersFrom_102 : decode cX8_ordersFrom 102 = .ok (.if_icmp .ge 8, 3) := by decide +kernel
theorem dX8_ordersFrom_105 : decode cX8_ordersFrom 105 = .ok (.iload 4, 2) := by decide +kernel
theorem dX8_ordersFrom_107 : decode cX8_ordersFrom 107 = .ok (.goto 7, 3) := by decide +kernel
theorem dX8_ordersFrom_110 : decode cX8_ordersFrom 110 = .ok (.aload_n 0, 1) := by decide +kernel
theorem dX8_ordersFrom_111 : decode cX8_ordersFrom 111 = .ok (.getfield 311, 3) := by decide +kernel
theorem dX8_ordersFrom_114 : decode cX8_ordersFrom 114 = .ok (.putfield 311, 3) := by decide +kernel
theorem dX8_ordersFrom_117 : decode cX8_ordersFrom 117 = .ok (.aload_n 0, 1) := by decide +kernel
theorem dX8_ordersFrom_118 : decode cX8_ordersFrom 118 = .ok (.dup, 1) := by decide +kernel
theorem dX8_ordersFrom_119 : decode cX8_ordersFrom 119 = .ok (.getfield 314, 3) := by decide +kernel
theorem dX8_ordersFrom_122 : decode cX8_ordersFrom 122 = .ok (.iload 4, 2) := by decide +kernel
theorem dX8_ordersFrom_124 : decode cX8_ordersFrom 124 = .ok (.ifCond .ne 7, 3) := by decide +kernel
theorem dX8_ordersFrom_127 : decode cX8_ordersFrom 127 = .ok (.iconst 1, 1) := by decide +kernel
theorem dX8_ordersFrom_128 : decode cX8_ordersFrom 128 = .ok (.goto 4, 3) := by decide +kernel
theorem dX8_ordersFrom_131 : decode cX8_ordersFrom 131 = .ok (.iconst 0, 1) := by decide +kernel
theorem dX8_ordersFrom_132 : decode cX8_ordersFrom 132 = .ok (.iadd, 1) := by decide +kernel
theorem dX8_ordersFrom_133 : decode cX8_ordersFrom 133 = .ok (.putfield 314, 3) := by decide +kernel
theorem dX8_ordersFrom_136 : decode cX8_ordersFrom 136 = .ok (.return_, 1) := by decide +kernel
theorem dX8_ordersFrom_137 : decode cX8_ordersFrom 137 = .ok (.iconst 0, 1) := by decide +kernel
theorem dX8_ordersFrom_138 : decode cX8_ordersFrom 138 = .ok (.istore_n 3, 1) := by decide +kernel
theorem dX8_ordersFrom_139 : decode cX8_ordersFrom 139 = .ok (.iload_n 3, 1) := by decide +kernel
theorem dX8_ordersFrom_140 : decode cX8_ordersFrom 140 = .ok (.aload_n 0, 1) := by decide +kernel
theorem dX8_ordersFrom_141 : decode cX8_ordersFrom 141 = .ok (.invokevirtual 216, 3) := by decide +kernel
theorem dX8_ordersFrom_144 : decode cX8_ordersFrom 144 = .ok (.if_icmp .ge 46, 3) := by decide +kernel
theorem dX8_ordersFrom_147 : decode cX8_ordersFrom 147 = .ok (.iload_n 2, 1) := by decide +kernel
theorem dX8_ordersFrom_148 : decode cX8_ordersFrom 148 = .ok (.iload_n 3, 1) := by decide +kernel
theorem dX8_ordersFrom_149 : decode cX8_ordersFrom 149 = .ok (.invokestatic 248, 3) := by decide +kernel
theorem dX8_ordersFrom_152 : decode cX8_ordersFrom 152 = .ok (.ifCond .eq 6, 3) := by decide +kernel
theorem dX8_ordersFrom_155 : decode cX8_ordersFrom 155 = .ok (.goto 29, 3) := by decide +kernel
theorem dX8_ordersFrom_158 : decode cX8_ordersFrom 158 = .ok (.aload_n 0, 1) := by decide +kernel
theorem dX8_ordersFrom_159 : decode cX8_ordersFrom 159 = .ok (.getfield 50, 3) := by decide +kernel
theorem dX8_ordersFrom_162 : decode cX8_ordersFrom 162 = .ok (.iload_n 1, 1) := by decide +kernel
theorem dX8_ordersFrom_163 : decode cX8_ordersFrom 163 = .ok (.iload_n 3, 1) := by decide +kernel
theorem dX8_ordersFrom_164 : decode cX8_ordersFrom 164 = .ok (.iastore, 1) := by decide +kernel
theorem dX8_ordersFrom_165 : decode cX8_ordersFrom 165 = .ok (.aload_n 0, 1) := by decide +kernel
theorem dX8_ordersFrom_166 : decode cX8_ordersFrom 166 = .ok (.getfield 53, 3) := by decide +kernel
theorem dX8_ordersFrom_169 : decode cX8_ordersFrom 169 = .ok (.iload_n 3, 1) := by decide +kernel
theorem dX8_ordersFrom_170 : decode cX8_ordersFrom 170 = .ok (.iload_n 1, 1) := by decide +kernel
theorem dX8_ordersFrom_171 : decode cX8_ordersFrom 171 = .ok (.iastore, 1) := by decide +kernel
theorem dX8_ordersFrom_172 : decode cX8_ordersFrom 172 = .ok (.aload_n 0, 1) := by decide +kernel
theorem dX8_ordersFrom_173 : decode cX8_ordersFrom 173 = .ok (.iload_n 1, 1) := by decide +kernel
theorem dX8_ordersFrom_174 : decode cX8_ordersFrom 174 = .ok (.iconst 1, 1) := by decide +kernel
theorem dX8_ordersFrom_175 : decode cX8_ordersFrom 175 = .ok (.iadd, 1) := by decide +kernel
theorem dX8_ordersFrom_176 : decode cX8_ordersFrom 176 = .ok (.iload_n 2, 1) := by decide +kernel
theorem dX8_ordersFrom_177 : decode cX8_ordersFrom 177 = .ok (.iconst 1, 1) := by decide +kernel
theorem dX8_ordersFrom_178 : decode cX8_ordersFrom 178 = .ok (.iload_n 3, 1) := by decide +kernel
theorem dX8_ordersFrom_179 : decode cX8_ordersFrom 179 = .ok (.ishl, 1) := by decide +kernel
theorem dX8_ordersFrom_180 : decode cX8_ordersFrom 180 = .ok (.ior, 1) := by decide +kernel
theorem dX8_ordersFrom_181 : decode cX8_ordersFrom 181 = .ok (.invokevirtual 317, 3) := by decide +kernel
theorem dX8_ordersFrom_184 : decode cX8_ordersFrom 184 = .ok (.iinc 3 1, 3) := by decide +kernel
theorem dX8_ordersFrom_187 : decode cX8_ordersFrom 187 = .ok (.goto (-48), 3) := by decide +kernel
theorem dX8_ordersFrom_190 : decode cX8_ordersFrom 190 = .ok (.return_, 1) := by decide +kernel
theorem dX8_laysOrders_0 : decode cX8_laysOrders 0 = .ok (.aload_n 0, 1) := by decide +kernel
theorem dX8_laysOrders_1 : decode cX8_laysOrders 1 = .ok (.invokevirtual 264, 3) := by decide +kernel
theorem dX8_laysOrders_4 : decode cX8_laysOrders 4 = .ok (.aload_n 0, 1) := by decide +kernel
theorem dX8_laysOrders_5 : decode cX8_laysOrders 5 = .ok (.ldc_w 300, 3) := by decide +kernel
theorem dX8_laysOrders_8 : decode cX8_laysOrders 8 = .ok (.putfield 305, 3) := by decide +kernel
theorem dX8_laysOrders_11 : decode cX8_laysOrders 11 = .ok (.aload_n 0, 1) := by decide +kernel
theorem dX8_laysOrders_12 : decode cX8_laysOrders 12 = .ok (.ldc 121, 2) := by decide +kernel
theorem dX8_laysOrders_14 : decode cX8_laysOrders 14 = .ok (.putfield 311, 3) := by decide +kernel
theorem dX8_laysOrders_17 : decode cX8_laysOrders 17 = .ok (.aload_n 0, 1) := by decide +kernel
theorem dX8_laysOrders_18 : decode cX8_laysOrders 18 = .ok (.iconst 0, 1) := by decide +kernel
theorem dX8_laysOrders_19 : decode cX8_laysOrders 19 = .ok (.putfield 314, 3) := by decide +kernel
theorem dX8_laysOrders_22 : decode cX8_laysOrders 22 = .ok (.aload_n 0, 1) := by decide +kernel
theorem dX8_laysOrders_23 : decode cX8_laysOrders 23 = .ok (.iconst 0, 1) := by decide +kernel
theorem dX8_laysOrders_24 : decode cX8_laysOrders 24 = .ok (.iconst 0, 1) := by decide +kernel
theorem dX8_laysOrders_25 : decode cX8_laysOrders 25 = .ok (.invokevirtual 317, 3) := by decide +kernel
theorem dX8_laysOrders_28 : decode cX8_laysOrders 28 = .ok (.return_, 1) := by decide +kernel
theorem dX8_best_0 : decode cX8_best 0 = .ok (.aload_n 0, 1) := by decide +kernel
theorem dX8_best_1 : decode cX8_best 1 = .ok (.iconst 0, 1) := by decide +kernel
theorem dX8_best_2 : decode cX8_best 2 = .ok (.putfield 71, 3) := by decide +kernel
theorem dX8_best_5 : decode cX8_best 5 = .ok (.aload_n 0, 1) := by decide +kernel
theorem dX8_best_6 : decode cX8_best 6 = .ok (.invokevirtual 209, 3) := by decide +kernel
theorem dX8_best_9 : decode cX8_best 9 = .ok (.ifCond .ne 7, 3) := by decide +kernel
theorem dX8_best_12 : decode cX8_best 12 = .ok (.sipush (-10000), 3) := by decide +kernel
theorem dX8_best_15 : decode cX8_best 15 = .ok (.ireturn, 1) := by decide +kernel
theorem dX8_best_16 : decode cX8_best 16 = .ok (.aload_n 0, 1) := by decide +kernel
theorem dX8_best_17 : decode cX8_best 17 = .ok (.invokevirtual 320, 3) := by decide +kernel
theorem dX8_best_20 : decode cX8_best 20 = .ok (.aload_n 0, 1) := by decide +kernel
theorem dX8_best_21 : decode cX8_best 21 = .ok (.getfield 305, 3) := by decide +kernel
theorem dX8_best_24 : decode cX8_best 24 = .ok (.ireturn, 1) := by decide +kernel
theorem dX8_order_0 : decode cX8_order 0 = .ok (.aload_n 0, 1) := by decide +kernel
theorem dX8_order_1 : decode cX8_order 1 = .ok (.iconst 0, 1) := by decide +kernel
theorem dX8_order_2 : decode cX8_order 2 = .ok (.putfield 71, 3) := by decide +kernel
theorem dX8_order_5 : decode cX8_order 5 = .ok (.aload_n 0, 1) := by decide +kernel
theorem dX8_order_6 : decode cX8_order 6 = .ok (.iload_n 1, 1) := by decide +kernel
theorem dX8_order_7 : decode cX8_order 7 = .ok (.i2l, 1) := by decide +kernel
theorem dX8_order_8 : decode cX8_order 8 = .ok (.invokevirtual 219, 3) := by decide +kernel
theorem dX8_order_11 : decode cX8_order 11 = .ok (.ifCond .ne 6, 3) := by decide +kernel
theorem dX8_order_14 : decode cX8_order 14 = .ok (.bipush (-2), 2) := by decide +kernel
theorem dX8_order_16 : decode cX8_order 16 = .ok (.ireturn, 1) := by decide +kernel
theorem dX8_order_17 : decode cX8_order 17 = .ok (.aload_n 0, 1) := by decide +kernel
theorem dX8_order_18 : decode cX8_order 18 = .ok (.invokevirtual 320, 3) := by decide +kernel
theorem dX8_order_21 : decode cX8_order 21 = .ok (.aload_n 0, 1) := by decide +kernel
theorem dX8_order_22 : decode cX8_order 22 = .ok (.getfield 65, 3) := by decide +kernel
theorem dX8_order_25 : decode cX8_order 25 = .ok (.iload_n 1, 1) := by decide +kernel
theorem dX8_order_26 : decode cX8_order 26 = .ok (.iaload, 1) := by decide +kernel
theorem dX8_order_27 : decode cX8_order 27 = .ok (.ireturn, 1) := by decide +kernel
theorem dX8_ways_0 : decode cX8_ways 0 = .ok (.aload_n 0, 1) := by decide +kernel
theorem dX8_ways_1 : decode cX8_ways 1 = .ok (.iconst 0, 1) := by decide +kernel
theorem dX8_ways_2 : decode cX8_ways 2 = .ok (.putfield 71, 3) := by decide +kernel
theorem dX8_ways_5 : decode cX8_ways 5 = .ok (.aload_n 0, 1) := by decide +kernel
theorem dX8_ways_6 : decode cX8_ways 6 = .ok (.invokevirtual 209, 3) := by decide +kernel
theorem dX8_ways_9 : decode cX8_ways 9 = .ok (.ifCond .ne 6, 3) := by decide +kernel
theorem dX8_ways_12 : decode cX8_ways 12 = .ok (.bipush (-2), 2) := by decide +kernel
theorem dX8_ways_14 : decode cX8_ways 14 = .ok (.ireturn, 1) := by decide +kernel
theorem dX8_ways_15 : decode cX8_ways 15 = .ok (.aload_n 0, 1) := by decide +kernel
theorem dX8_ways_16 : decode cX8_ways 16 = .ok (.invokevirtual 320, 3) := by decide +kernel
theorem dX8_ways_19 : decode cX8_ways 19 = .ok (.aload_n 0, 1) := by decide +kernel
theorem dX8_ways_20 : decode cX8_ways 20 = .ok (.getfield 308, 3) := by decide +kernel
theorem dX8_ways_23 : decode cX8_ways 23 = .ok (.ireturn, 1) := by decide +kernel
theorem dX8_fewest_0 : decode cX8_fewest 0 = .ok (.aload_n 0, 1) := by decide +kernel
theorem dX8_fewest_1 : decode cX8_fewest 1 = .ok (.iconst 0, 1) := by decide +kernel
theorem dX8_fewest_2 : decode cX8_fewest 2 = .ok (.putfield 71, 3) := by decide +kernel
theorem dX8_fewest_5 : decode cX8_fewest 5 = .ok (.aload_n 0, 1) := by decide +kernel
theorem dX8_fewest_6 : decode cX8_fewest 6 = .ok (.invokevirtual 209, 3) := by decide +kernel
theorem dX8_fewest_9 : decode cX8_fewest 9 = .ok (.ifCond .ne 6, 3) := by decide +kernel
theorem dX8_fewest_12 : decode cX8_fewest 12 = .ok (.bipush (-2), 2) := by decide +kernel
theorem dX8_fewest_14 : decode cX8_fewest 14 = .ok (.ireturn, 1) := by decide +kernel
theorem dX8_fewest_15 : decode cX8_fewest 15 = .ok (.aload_n 0, 1) := by decide +kernel
theorem dX8_fewest_16 : decode cX8_fewest 16 = .ok (.invokevirtual 320, 3) := by decide +kernel
theorem dX8_fewest_19 : decode cX8_fewest 19 = .ok (.aload_n 0, 1) := by decide +kernel
theorem dX8_fewest_20 : decode cX8_fewest 20 = .ok (.getfield 311, 3) := by decide +kernel
theorem dX8_fewest_23 : decode cX8_fewest 23 = .ok (.ireturn, 1) := by decide +kernel
theorem dX8_full_0 : decode cX8_full 0 = .ok (.aload_n 0, 1) := by decide +kernel
theorem dX8_full_1 : decode cX8_full 1 = .ok (.iconst 0, 1) := by decide +kernel
theorem dX8_full_2 : decode cX8_full 2 = .ok (.putfield 71, 3) := by decide +kernel
theorem dX8_full_5 : decode cX8_full 5 = .ok (.aload_n 0, 1) := by decide +kernel
theorem dX8_full_6 : decode cX8_full 6 = .ok (.invokevirtual 209, 3) := by decide +kernel
theorem dX8_full_9 : decode cX8_full 9 = .ok (.ifCond .ne 6, 3) := by decide +kernel
theorem dX8_full_12 : decode cX8_full 12 = .ok (.bipush (-2), 2) := by decide +kernel
theorem dX8_full_14 : decode cX8_full 14 = .ok (.ireturn, 1) := by decide +kernel
theorem dX8_full_15 : decode cX8_full 15 = .ok (.aload_n 0, 1) := by decide +kernel
theorem dX8_full_16 : decode cX8_full 16 = .ok (.invokevirtual 320, 3) := by decide +kernel
theorem dX8_full_19 : decode cX8_full 19 = .ok (.aload_n 0, 1) := by decide +kernel
theorem dX8_full_20 : decode cX8_full 20 = .ok (.getfield 314, 3) := by decide +kernel
theorem dX8_full_23 : decode cX8_full 23 = .ok (.ireturn, 1) := by decide +kernel
theorem dX8_clear_0 : decode cX8_clear 0 = .ok (.aload_n 0, 1) := by decide +kernel
theorem dX8_clear_1 : decode cX8_clear 1 = .ok (.iconst 0, 1) := by decide +kernel
theorem dX8_clear_2 : decode cX8_clear 2 = .ok (.putfield 71, 3) := by decide +kernel
theorem dX8_clear_5 : decode cX8_clear 5 = .ok (.aload_n 0, 1) := by decide +kernel
theorem dX8_clear_6 : decode cX8_clear 6 = .ok (.invokevirtual 209, 3) := by decide +kernel
theorem dX8_clear_9 : decode cX8_clear 9 = .ok (.ifCond .ne 6, 3) := by decide +kernel
theorem dX8_clear_12 : decode cX8_clear 12 = .ok (.bipush (-2), 2) := by decide +kernel
theorem dX8_clear_14 : decode cX8_clear 14 = .ok (.ireturn, 1) := by decide +kernel
theorem dX8_clear_15 : decode cX8_clear 15 = .ok (.iconst 1, 1) := by decide +kernel
theorem dX8_clear_16 : decode cX8_clear 16 = .ok (.aload_n 0, 1) := by decide +kernel
theorem dX8_clear_17 : decode cX8_clear 17 = .ok (.invokevirtual 216, 3) := by decide +kernel
theorem dX8_clear_20 : decode cX8_clear 20 = .ok (.ishl, 1) := by decide +kernel
theorem dX8_clear_21 : decode cX8_clear 21 = .ok (.iconst 1, 1) := by decide +kernel
theorem dX8_clear_22 : decode cX8_clear 22 = .ok (.isub, 1) := by decide +kernel
theorem dX8_clear_23 : decode cX8_clear 23 = .ok (.istore_n 1, 1) := by decide +kernel
theorem dX8_clear_24 : decode cX8_clear 24 = .ok (.iconst 0, 1) := by decide +kernel
theorem dX8_clear_25 : decode cX8_clear 25 = .ok (.istore_n 2, 1) := by decide +kernel
theorem dX8_clear_26 : decode cX8_clear 26 = .ok (.iload_n 2, 1) := by decide +kernel
theorem dX8_clear_27 : decode cX8_clear 27 = .ok (.iconst 1, 1) := by decide +kernel
theorem dX8_clear_28 : decode cX8_clear 28 = .ok (.aload_n 0, 1) := by decide +kernel
theorem dX8_clear_29 : decode cX8_clear 29 = .ok (.invokevirtual 216, 3) := by decide +kernel
theorem dX8_clear_32 : decode cX8_clear 32 = .ok (.ishl, 1) := by decide +kernel
theorem dX8_clear_33 : decode cX8_clear 33 = .ok (.if_icmp .ge 113, 3) := by decide +kernel
theorem dX8_clear_36 : decode cX8_clear 36 = .ok (.iload_n 2, 1) := by decide +kernel
theorem dX8_clear_37 : decode cX8_clear 37 = .ok (.invokestatic 294, 3) := by decide +kernel
theorem dX8_clear_40 : decode cX8_clear 40 = .ok (.iload_n 1, 1) := by decide +kernel
theorem dX8_clear_41 : decode cX8_clear 41 = .ok (.invokestatic 294, 3) := by decide +kernel
theorem dX8_clear_44 : decode cX8_clear 44 = .ok (.if_icmp .lt 6, 3) := by decide +kernel
theorem dX8_clear_47 : decode cX8_clear 47 = .ok (.goto 93, 3) := by decide +kernel
theorem dX8_clear_50 : decode cX8_clear 50 = .ok (.aload_n 0, 1) := by decide +kernel
theorem dX8_clear_51 : decode cX8_clear 51 = .ok (.invokevirtual 264, 3) := by decide +kernel
theorem dX8_clear_54 : decode cX8_clear 54 = .ok (.aload_n 0, 1) := by decide +kernel
theorem dX8_clear_55 : decode cX8_clear 55 = .ok (.iconst 0, 1) := by decide +kernel
theorem dX8_clear_56 : decode cX8_clear 56 = .ok (.putfield 230, 3) := by decide +kernel
theorem dX8_clear_59 : decode cX8_clear 59 = .ok (.iconst 0, 1) := by decide +kernel
theorem dX8_clear_60 : decode cX8_clear 60 = .ok (.istore_n 3, 1) := by decide +kernel
theorem dX8_clear_61 : decode cX8_clear 61 = .ok (.iload_n 3, 1) := by decide +kernel
theorem dX8_clear_62 : decode cX8_clear 62 = .ok (.aload_n 0, 1) := by decide +kernel
theorem dX8_clear_63 : decode cX8_clear 63 = .ok (.invokevirtual 216, 3) := by decide +kernel
theorem dX8_clear_66 : decode cX8_clear 66 = .ok (.if_icmp .ge 61, 3) := by decide +kernel
theorem dX8_clear_69 : decode cX8_clear 69 = .ok (.aload_n 0, 1) := by decide +kernel
theorem dX8_clear_70 : decode cX8_clear 70 = .ok (.getfield 50, 3) := by decide +kernel
theorem dX8_clear_73 : decode cX8_clear 73 = .ok (.iload_n 3, 1) := by decide +kernel
theorem dX8_clear_74 : decode cX8_clear 74 = .ok (.iaload, 1) := by decide +kernel
theorem dX8_clear_75 : decode cX8_clear 75 = .ok (.istore 4, 2) := by decide +kernel
theorem dX8_clear_77 : decode cX8_clear 77 = .ok (.iload_n 2, 1) := by decide +kernel
theorem dX8_clear_78 : decode cX8_clear 78 = .ok (.iload 4, 2) := by decide +kernel
theorem dX8_clear_80 : decode cX8_clear 80 = .ok (.invokestatic 248, 3) := by decide +kernel
theorem dX8_clear_83 : decode cX8_clear 83 = .ok (.ifCond .eq 6, 3) := by decide +kernel
theorem dX8_clear_86 : decode cX8_clear 86 = .ok (.goto 35, 3) := by decide +kernel
theorem dX8_clear_89 : decode cX8_clear 89 = .ok (.aload_n 0, 1) := by decide +kernel
theorem dX8_clear_90 : decode cX8_clear 90 = .ok (.getfield 50, 3) := by decide +kernel
theorem dX8_clear_93 : decode cX8_clear 93 = .ok (.aload_n 0, 1) := by decide +kernel
theorem dX8_clear_94 : decode cX8_clear 94 = .ok (.getfield 230, 3) := by decide +kernel
theorem dX8_clear_97 : decode cX8_clear 97 = .ok (.iload 4, 2) := by decide +kernel
theorem dX8_clear_99 : decode cX8_clear 99 = .ok (.iastore, 1) := by decide +kernel
theorem dX8_clear_100 : decode cX8_clear 100 = .ok (.aload_n 0, 1) := by decide +kernel
theorem dX8_clear_101 : decode cX8_clear 101 = .ok (.getfield 53, 3) := by decide +kernel
theorem dX8_clear_104 : decode cX8_clear 104 = .ok (.iload 4, 2) := by decide +kernel
theorem dX8_clear_106 : decode cX8_clear 106 = .ok (.aload_n 0, 1) := by decide +kernel
theorem dX8_clear_107 : decode cX8_clear 107 = .ok (.getfield 230, 3) := by decide +kernel
theorem dX8_clear_110 : decode cX8_clear 110 = .ok (.iastore, 1) := by decide +kernel
theorem dX8_clear_111 : decode cX8_clear 111 = .ok (.aload_n 0, 1) := by decide +kernel
theorem dX8_clear_112 : decode cX8_clear 112 = .ok (.dup, 1) := by decide +kernel
theorem dX8_clear_113 : decode cX8_clear 113 = .ok (.getfield 230, 3) := by decide +kernel
theorem dX8_clear_116 : decode cX8_clear 116 = .ok (.iconst 1, 1) := by decide +kernel
theorem dX8_clear_117 : decode cX8_clear 117 = .ok (.iadd, 1) := by decide +kernel
theorem dX8_clear_118 : decode cX8_clear 118 = .ok (.putfield 230, 3) := by decide +kernel
theorem dX8_clear_121 : decode cX8_clear 121 = .ok (.iinc 3 1, 3) := by decide +kernel
theorem dX8_clear_124 : decode cX8_clear 124 = .ok (.goto (-63), 3) := by decide +kernel
theorem dX8_clear_127 : decode cX8_clear 127 = .ok (.aload_n 0, 1) := by decide +kernel
theorem dX8_clear_128 : decode cX8_clear 128 = .ok (.invokevirtual 261, 3) := by decide +kernel
theorem dX8_clear_131 : decode cX8_clear 131 = .ok (.aload_n 0, 1) := by decide +kernel
theorem dX8_clear_132 : decode cX8_clear 132 = .ok (.invokevirtual 282, 3) := by decide +kernel
theorem dX8_clear_135 : decode cX8_clear 135 = .ok (.ifCond .ne 5, 3) := by decide +kernel
theorem dX8_clear_138 : decode cX8_clear 138 = .ok (.iload_n 2, 1) := by decide +kernel
theorem dX8_clear_139 : decode cX8_clear 139 = .ok (.istore_n 1, 1) := by decide +kernel
theorem dX8_clear_140 : decode cX8_clear 140 = .ok (.iinc 2 1, 3) := by decide +kernel
theorem dX8_clear_143 : decode cX8_clear 143 = .ok (.goto (-117), 3) := by decide +kernel
theorem dX8_clear_146 : decode cX8_clear 146 = .ok (.iload_n 1, 1) := by decide +kernel
theorem dX8_clear_147 : decode cX8_clear 147 = .ok (.ireturn, 1) := by decide +kernel
theorem dX8_hasHiding_0 : decode cX8_hasHiding 0 = .ok (.aload_n 0, 1) := by decide +kernel
theorem dX8_hasHiding_1 : decode cX8_hasHiding 1 = .ok (.invokevirtual 264, 3) := by decide +kernel
theorem dX8_hasHiding_4 : decode cX8_hasHiding 4 = .ok (.aload_n 0, 1) := by decide +kernel
theorem dX8_hasHiding_5 : decode cX8_hasHiding 5 = .ok (.getfield 56, 3) := by decide +kernel
theorem dX8_hasHiding_8 : decode cX8_hasHiding 8 = .ok (.iload_n 1, 1) := by decide +kernel
theorem dX8_hasHiding_9 : decode cX8_hasHiding 9 = .ok (.dup2, 1) := by decide +kernel
theorem dX8_hasHiding_10 : decode cX8_hasHiding 10 = .ok (.iaload, 1) := by decide +kernel
theorem dX8_hasHiding_11 : decode cX8_hasHiding 11 = .ok (.iload_n 2, 1) := by decide +kernel
theorem dX8_hasHiding_12 : decode cX8_hasHiding 12 = .ok (.ior, 1) := by decide +kernel
theorem dX8_hasHiding_13 : decode cX8_hasHiding 13 = .ok (.iastore, 1) := by decide +kernel
theorem dX8_hasHiding_14 : decode cX8_hasHiding 14 = .ok (.aload_n 0, 1) := by decide +kernel
theorem dX8_hasHiding_15 : decode cX8_hasHiding 15 = .ok (.invokevirtual 261, 3) := by decide +kernel
theorem dX8_hasHiding_18 : decode cX8_hasHiding 18 = .ok (.aload_n 0, 1) := by decide +kernel
theorem dX8_hasHiding_19 : decode cX8_hasHiding 19 = .ok (.iload_n 1, 1) := by decide +kernel
theorem dX8_hasHiding_20 : decode cX8_hasHiding 20 = .ok (.invokevirtual 258, 3) := by decide +kernel
theorem dX8_hasHiding_23 : decode cX8_hasHiding 23 = .ok (.ireturn, 1) := by decide +kernel
theorem dX8_lieOf_0 : decode cX8_lieOf 0 = .ok (.aload_n 0, 1) := by decide +kernel
theorem dX8_lieOf_1 : decode cX8_lieOf 1 = .ok (.iload_n 1, 1) := by decide +kernel
theorem dX8_lieOf_2 : decode cX8_lieOf 2 = .ok (.iconst 0, 1) := by decide +kernel
theorem dX8_lieOf_3 : decode cX8_lieOf 3 = .ok (.invokevirtual 323, 3) := by decide +kernel
theorem dX8_lieOf_6 : decode cX8_lieOf 6 = .ok (.istore_n 2, 1) := by decide +kernel
theorem dX8_lieOf_7 : decode cX8_lieOf 7 = .ok (.aload_n 0, 1) := by decide +kernel
theorem dX8_lieOf_8 : decode cX8_lieOf 8 = .ok (.iload_n 1, 1) := by decide +kernel
theorem dX8_lieOf_9 : decode cX8_lieOf 9 = .ok (.invokevirtual 245, 3) := by decide +kernel
theorem dX8_lieOf_12 : decode cX8_lieOf 12 = .ok (.istore_n 3, 1) := by decide +kernel
theorem dX8_lieOf_13 : decode cX8_lieOf 13 = .ok (.iconst 0, 1) := by decide +kernel
theorem dX8_lieOf_14 : decode cX8_lieOf 14 = .ok (.istore 4, 2) := by decide +kernel
theorem dX8_lieOf_16 : decode cX8_lieOf 16 = .ok (.iload 4, 2) := by decide +kernel
theorem dX8_lieOf_18 : decode cX8_lieOf 18 = .ok (.aload_n 0, 1) := by decide +kernel
theorem dX8_lieOf_19 : decode cX8_lieOf 19 = .ok (.invokevirtual 212, 3) := by decide +kernel
theorem dX8_lieOf_22 : decode cX8_lieOf 22 = .ok (.if_icmp .ge 34, 3) := by decide +kernel
theorem dX8_lieOf_25 : decode cX8_lieOf 25 = .ok (.iload_n 3, 1) := by decide +kernel
theorem dX8_lieOf_26 : decode cX8_lieOf 26 = .ok (.iload 4, 2) := by decide +kernel
theorem dX8_lieOf_28 : decode cX8_lieOf 28 = .ok (.invokestatic 248, 3) := by decide +kernel
theorem dX8_lieOf_31 : decode cX8_lieOf 31 = .ok (.ifCond .eq 19, 3) := by decide +kernel
theorem dX8_lieOf_34 : decode cX8_lieOf 34 = .ok (.aload_n 0, 1) := by decide +kernel
theorem dX8_lieOf_35 : decode cX8_lieOf 35 = .ok (.iload_n 1, 1) := by decide +kernel
theorem dX8_lieOf_36 : decode cX8_lieOf 36 = .ok (.iconst 1, 1) := by decide +kernel
theorem dX8_lieOf_37 : decode cX8_lieOf 37 = .ok (.iload 4, 2) := by decide +kernel
theorem dX8_lieOf_39 : decode cX8_lieOf 39 = .ok (.ishl, 1) := by decide +kernel
theorem dX8_lieOf_40 : decode cX8_lieOf 40 = .ok (.invokevirtual 323, 3) := by decide +kernel
theorem dX8_lieOf_43 : decode cX8_lieOf 43 = .ok (.iload_n 2, 1) := by decide +kernel
theorem dX8_lieOf_44 : decode cX8_lieOf 44 = .ok (.if_icmp .le 6, 3) := by decide +kernel
theorem dX8_lieOf_47 : decode cX8_lieOf 47 = .ok (.iload 4, 2) := by decide +kernel
theorem dX8_lieOf_49 : decode cX8_lieOf 49 = .ok (.ireturn, 1) := by decide +kernel
theorem dX8_lieOf_50 : decode cX8_lieOf 50 = .ok (.iinc 4 1, 3) := by decide +kernel
theorem dX8_lieOf_53 : decode cX8_lieOf 53 = .ok (.goto (-37), 3) := by decide +kernel
theorem dX8_lieOf_56 : decode cX8_lieOf 56 = .ok (.iconst (-1), 1) := by decide +kernel
theorem dX8_lieOf_57 : decode cX8_lieOf 57 = .ok (.ireturn, 1) := by decide +kernel
theorem dX8_lie_0 : decode cX8_lie 0 = .ok (.aload_n 0, 1) := by decide +kernel
theorem dX8_lie_1 : decode cX8_lie 1 = .ok (.iconst 0, 1) := by decide +kernel
theorem dX8_lie_2 : decode cX8_lie 2 = .ok (.putfield 71, 3) := by decide +kernel
theorem dX8_lie_5 : decode cX8_lie 5 = .ok (.aload_n 0, 1) := by decide +kernel
theorem dX8_lie_6 : decode cX8_lie 6 = .ok (.iload_n 1, 1) := by decide +kernel
theorem dX8_lie_7 : decode cX8_lie 7 = .ok (.i2l, 1) := by decide +kernel
theorem dX8_lie_8 : decode cX8_lie 8 = .ok (.invokevirtual 219, 3) := by decide +kernel
theorem dX8_lie_11 : decode cX8_lie 11 = .ok (.ifCond .eq 11, 3) := by decide +kernel
theorem dX8_lie_14 : decode cX8_lie 14 = .ok (.aload_n 0, 1) := by decide +kernel
theorem dX8_lie_15 : decode cX8_lie 15 = .ok (.iload_n 1, 1) := by decide +kernel
theorem dX8_lie_16 : decode cX8_lie 16 = .ok (.invokevirtual 326, 3) := by decide +kernel
theorem dX8_lie_19 : decode cX8_lie 19 = .ok (.goto 5, 3) := by decide +kernel
theorem dX8_lie_22 : decode cX8_lie 22 = .ok (.bipush (-2), 2) := by decide +kernel
theorem dX8_lie_24 : decode cX8_lie 24 = .ok (.ireturn, 1) := by decide +kernel
theorem dX8_lies_0 : decode cX8_lies 0 = .ok (.aload_n 0, 1) := by decide +kernel
theorem dX8_lies_1 : decode cX8_lies 1 = .ok (.iconst 0, 1) := by decide +kernel
theorem dX8_lies_2 : decode cX8_lies 2 = .ok (.putfield 71, 3) := by decide +kernel
theorem dX8_lies_5 : decode cX8_lies 5 = .ok (.aload_n 0, 1) := by decide +kernel
theorem dX8_lies_6 : decode cX8_lies 6 = .ok (.iload_n 1, 1) := by decide +kernel
theorem dX8_lies_7 : decode cX8_lies 7 = .ok (.i2l, 1) := by decide +kernel
theorem dX8_lies_8 : decode cX8_lies 8 = .ok (.invokevirtual 219, 3) := by decide +kernel
theorem dX8_lies_11 : decode cX8_lies 11 = .ok (.ifCond .ne 6, 3) := by decide +kernel
theorem dX8_lies_14 : decode cX8_lies 14 = .ok (.bipush (-2), 2) := by decide +kernel
theorem dX8_lies_16 : decode cX8_lies 16 = .ok (.ireturn, 1) := by decide +kernel
theorem dX8_lies_17 : decode cX8_lies 17 = .ok (.aload_n 0, 1) := by decide +kernel
theorem dX8_lies_18 : decode cX8_lies 18 = .ok (.iload_n 1, 1) := by decide +kernel
theorem dX8_lies_19 : decode cX8_lies 19 = .ok (.iconst 0, 1) := by decide +kernel
theorem dX8_lies_20 : decode cX8_lies 20 = .ok (.invokevirtual 323, 3) := by decide +kernel
theorem dX8_lies_23 : decode cX8_lies 23 = .ok (.istore_n 2, 1) := by decide +kernel
theorem dX8_lies_24 : decode cX8_lies 24 = .ok (.aload_n 0, 1) := by decide +kernel
theorem dX8_lies_25 : decode cX8_lies 25 = .ok (.iload_n 1, 1) := by decide +kernel
theorem dX8_lies_26 : decode cX8_lies 26 = .ok (.invokevirtual 245, 3) := by decide +kernel
theorem dX8_lies_29 : decode cX8_lies 29 = .ok (.istore_n 3, 1) := by decide +kernel
theorem dX8_lies_30 : decode cX8_lies 30 = .ok (.iconst 0, 1) := by decide +kernel
theorem dX8_lies_31 : decode cX8_lies 31 = .ok (.istore 4, 2) := by decide +kernel
theorem dX8_lies_33 : decode cX8_lies 33 = .ok (.iconst 1, 1) := by decide +kernel
theorem dX8_lies_34 : decode cX8_lies 34 = .ok (.istore 5, 2) := by decide +kernel
theorem dX8_lies_36 : decode cX8_lies 36 = .ok (.iload 5, 2) := by decide +kernel
theorem dX8_lies_38 : decode cX8_lies 38 = .ok (.iconst 1, 1) := by decide +kernel
theorem dX8_lies_39 : decode cX8_lies 39 = .ok (.aload_n 0, 1) := by decide +kernel
theorem dX8_lies_40 : decode cX8_lies 40 = .ok (.invokevirtual 212, 3) := by decide +kernel
theorem dX8_lies_43 : decode cX8_lies 43 = .ok (.ishl, 1) := by decide +kernel
theorem dX8_lies_44 : decode cX8_lies 44 = .ok (.if_icmp .ge 65, 3) := by decide +kernel
theorem dX8_lies_47 : decode cX8_lies 47 = .ok (.iload 5, 2) := by decide +kernel
theorem dX8_lies_49 : decode cX8_lies 49 = .ok (.iload_n 3, 1) := by decide +kernel
theorem dX8_lies_50 : decode cX8_lies 50 = .ok (.iconst (-1), 1) := by decide +kernel
theorem dX8_lies_51 : decode cX8_lies 51 = .ok (.ixor, 1) := by decide +kernel
theorem dX8_lies_52 : decode cX8_lies 52 = .ok (.iand, 1) := by decide +kernel
theorem dX8_lies_53 : decode cX8_lies 53 = .ok (.ifCond .eq 6, 3) := by decide +kernel
theorem dX8_lies_56 : decode cX8_lies 56 = .ok (.goto 47, 3) := by decide +kernel
theorem dX8_lies_59 : decode cX8_lies 59 = .ok (.aload_n 0, 1) := by decide +kernel
theorem dX8_lies_60 : decode cX8_lies 60 = .ok (.iload_n 1, 1) := by decide +kernel
theorem dX8_lies_61 : decode cX8_lies 61 = .ok (.iload 5, 2) := by decide +kernel
theorem dX8_lies_63 : decode cX8_lies 63 = .ok (.invokevirtual 323, 3) := by decide +kernel
theorem dX8_lies_66 : decode cX8_lies 66 = .ok (.istore 6, 2) := by decide +kernel
theorem dX8_lies_68 : decode cX8_lies 68 = .ok (.iload 6, 2) := by decide +kernel
theorem dX8_lies_70 : decode cX8_lies 70 = .ok (.iload_n 2, 1) := by decide +kernel
theorem dX8_lies_71 : decode cX8_lies 71 = .ok (.if_icmp .lt 32, 3) := by decide +kernel
theorem dX8_lies_74 : decode cX8_lies 74 = .ok (.iload 6, 2) := by decide +kernel
theorem dX8_lies_76 : decode cX8_lies 76 = .ok (.iload_n 2, 1) := by decide +kernel
theorem dX8_lies_77 : decode cX8_lies 77 = .ok (.if_icmp .ne 19, 3) := by decide +kernel
theorem dX8_lies_80 : decode cX8_lies 80 = .ok (.iload 5, 2) := by decide +kernel
theorem dX8_lies_82 : decode cX8_lies 82 = .ok (.invokestatic 294, 3) := by decide +kernel
theorem dX8_lies_85 : decode cX8_lies 85 = .ok (.iload 4, 2) := by decide +kernel
theorem dX8_lies_87 : decode cX8_lies 87 = .ok (.invokestatic 294, 3) := by decide +kernel
theorem dX8_lies_90 : decode cX8_lies 90 = .ok (.if_icmp .lt 6, 3) := by decide +kernel
theorem dX8_lies_93 : decode cX8_lies 93 = .ok (.goto 10, 3) := by decide +kernel
theorem dX8_lies_96 : decode cX8_lies 96 = .ok (.iload 5, 2) := by decide +kernel
theorem dX8_lies_98 : decode cX8_lies 98 = .ok (.istore 4, 2) := by decide +kernel
theorem dX8_lies_100 : decode cX8_lies 100 = .ok (.iload 6, 2) := by decide +kernel
theorem dX8_lies_102 : decode cX8_lies 102 = .ok (.istore_n 2, 1) := by decide +kernel
theorem dX8_lies_103 : decode cX8_lies 103 = .ok (.iinc 5 1, 3) := by decide +kernel
theorem dX8_lies_106 : decode cX8_lies 106 = .ok (.goto (-70), 3) := by decide +kernel
theorem dX8_lies_109 : decode cX8_lies 109 = .ok (.iload 4, 2) := by decide +kernel
theorem dX8_lies_111 : decode cX8_lies 111 = .ok (.ireturn, 1) := by decide +kernel
theorem dX8_liars_0 : decode cX8_liars 0 = .ok (.aload_n 0, 1) := by decide +kernel
theorem dX8_liars_1 : decode cX8_liars 1 = .ok (.iconst 0, 1) := by decide +kernel
theorem dX8_liars_2 : decode cX8_liars 2 = .ok (.putfield 71, 3) := by decide +kernel
theorem dX8_liars_5 : decode cX8_liars 5 = .ok (.aload_n 0, 1) := by decide +kernel
theorem dX8_liars_6 : decode cX8_liars 6 = .ok (.invokevirtual 209, 3) := by decide +kernel
theorem dX8_liars_9 : decode cX8_liars 9 = .ok (.ifCond .ne 6, 3) := by decide +kernel
theorem dX8_liars_12 : decode cX8_liars 12 = .ok (.bipush (-2), 2) := by decide +kernel
theorem dX8_liars_14 : decode cX8_liars 14 = .ok (.ireturn, 1) := by decide +kernel
theorem dX8_liars_15 : decode cX8_liars 15 = .ok (.iconst 0, 1) := by decide +kernel
theorem dX8_liars_16 : decode cX8_liars 16 = .ok (.istore_n 1, 1) := by decide +kernel
theorem dX8_liars_17 : decode cX8_liars 17 = .ok (.iconst 0, 1) := by decide +kernel
theorem dX8_liars_18 : decode cX8_liars 18 = .ok (.istore_n 2, 1) := by decide +kernel
theorem dX8_liars_19 : decode cX8_liars 19 = .ok (.iload_n 2, 1) := by decide +kernel
theorem dX8_liars_20 : decode cX8_liars 20 = .ok (.aload_n 0, 1) := by decide +kernel
theorem dX8_liars_21 : decode cX8_liars 21 = .ok (.invokevirtual 216, 3) := by decide +kernel
theorem dX8_liars_24 : decode cX8_liars 24 = .ok (.if_icmp .ge 28, 3) := by decide +kernel
theorem dX8_liars_27 : decode cX8_liars 27 = .ok (.iload_n 1, 1) := by decide +kernel
theorem dX8_liars_28 : decode cX8_liars 28 = .ok (.aload_n 0, 1) := by decide +kernel
theorem dX8_liars_29 : decode cX8_liars 29 = .ok (.iload_n 2, 1) := by decide +kernel
theorem dX8_liars_30 : decode cX8_liars 30 = .ok (.invokevirtual 326, 3) := by decide +kernel
theorem dX8_liars_33 : decode cX8_liars 33 = .ok (.iconst (-1), 1) := by decide +kernel
theorem dX8_liars_34 : decode cX8_liars 34 = .ok (.if_icmp .ne 7, 3) := by decide +kernel
theorem dX8_liars_37 : decode cX8_liars 37 = .ok (.iconst 0, 1) := by decide +kernel
theorem dX8_liars_38 : decode cX8_liars 38 = .ok (.goto 6, 3) := by decide +kernel
theorem dX8_liars_41 : decode cX8_liars 41 = .ok (.iconst 1, 1) := by decide +kernel
theorem dX8_liars_42 : decode cX8_liars 42 = .ok (.iload_n 2, 1) := by decide +kernel
theorem dX8_liars_43 : decode cX8_liars 43 = .ok (.ishl, 1) := by decide +kernel
theorem dX8_liars_44 : decode cX8_liars 44 = .ok (.ior, 1) := by decide +kernel
theorem dX8_liars_45 : decode cX8_liars 45 = .ok (.istore_n 1, 1) := by decide +kernel
theorem dX8_liars_46 : decode cX8_liars 46 = .ok (.iinc 2 1, 3) := by decide +kernel
theorem dX8_liars_49 : decode cX8_liars 49 = .ok (.goto (-30), 3) := by decide +kernel
theorem dX8_liars_52 : decode cX8_liars 52 = .ok (.iload_n 1, 1) := by decide +kernel
theorem dX8_liars_53 : decode cX8_liars 53 = .ok (.ireturn, 1) := by decide +kernel
theorem dX8_getsBy_0 : decode cX8_getsBy 0 = .ok (.aload_n 0, 1) := by decide +kernel
theorem dX8_getsBy_1 : decode cX8_getsBy 1 = .ok (.invokevirtual 264, 3) := by decide +kernel
theorem dX8_getsBy_4 : decode cX8_getsBy 4 = .ok (.iload 4, 2) := by decide +kernel
theorem dX8_getsBy_6 : decode cX8_getsBy 6 = .ok (.iconst 1, 1) := by decide +kernel
theorem dX8_getsBy_7 : decode cX8_getsBy 7 = .ok (.if_icmp .ne 11, 3) := by decide +kernel
theorem dX8_getsBy_10 : decode cX8_getsBy 10 = .ok (.aload_n 0, 1) := by decide +kernel
theorem dX8_getsBy_11 : decode cX8_getsBy 11 = .ok (.getfield 56, 3) := by decide +kernel
theorem dX8_getsBy_14 : decode cX8_getsBy 14 = .ok (.iload_n 2, 1) := by decide +kernel
theorem dX8_getsBy_15 : decode cX8_getsBy 15 = .ok (.bipush 31, 2) := by decide +kernel
theorem dX8_getsBy_17 : decode cX8_getsBy 17 = .ok (.iastore, 1) := by decide +kernel
theorem dX8_getsBy_18 : decode cX8_getsBy 18 = .ok (.iload 5, 2) := by decide +kernel
theorem dX8_getsBy_20 : decode cX8_getsBy 20 = .ok (.iconst 1, 1) := by decide +kernel
theorem dX8_getsBy_21 : decode cX8_getsBy 21 = .ok (.if_icmp .ne 11, 3) := by decide +kernel
theorem dX8_getsBy_24 : decode cX8_getsBy 24 = .ok (.aload_n 0, 1) := by decide +kernel
theorem dX8_getsBy_25 : decode cX8_getsBy 25 = .ok (.getfield 56, 3) := by decide +kernel
theorem dX8_getsBy_28 : decode cX8_getsBy 28 = .ok (.iload_n 3, 1) := by decide +kernel
theorem dX8_getsBy_29 : decode cX8_getsBy 29 = .ok (.bipush 31, 2) := by decide +kernel
theorem dX8_getsBy_31 : decode cX8_getsBy 31 = .ok (.iastore, 1) := by decide +kernel
theorem dX8_getsBy_32 : decode cX8_getsBy 32 = .ok (.aload_n 0, 1) := by decide +kernel
theorem dX8_getsBy_33 : decode cX8_getsBy 33 = .ok (.invokevirtual 261, 3) := by decide +kernel
theorem dX8_getsBy_36 : decode cX8_getsBy 36 = .ok (.aload_n 0, 1) := by decide +kernel
theorem dX8_getsBy_37 : decode cX8_getsBy 37 = .ok (.iload_n 1, 1) := by decide +kernel
theorem dX8_getsBy_38 : decode cX8_getsBy 38 = .ok (.invokevirtual 258, 3) := by decide +kernel
theorem dX8_getsBy_41 : decode cX8_getsBy 41 = .ok (.iconst 2, 1) := by decide +kernel
theorem dX8_getsBy_42 : decode cX8_getsBy 42 = .ok (.iload_n 1, 1) := by decide +kernel
theorem dX8_getsBy_43 : decode cX8_getsBy 43 = .ok (.iload_n 2, 1) := by decide +kernel
theorem dX8_getsBy_44 : decode cX8_getsBy 44 = .ok (.if_icmp .ne 8, 3) := by decide +kernel
theorem dX8_getsBy_47 : decode cX8_getsBy 47 = .ok (.iload 4, 2) := by decide +kernel
theorem dX8_getsBy_49 : decode cX8_getsBy 49 = .ok (.goto 5, 3) := by decide +kernel
theorem dX8_getsBy_52 : decode cX8_getsBy 52 = .ok (.iload 5, 2) := by decide +kernel
theorem dX8_getsBy_54 : decode cX8_getsBy 54 = .ok (.imul, 1) := by decide +kernel
theorem dX8_getsBy_55 : decode cX8_getsBy 55 = .ok (.isub, 1) := by decide +kernel
theorem dX8_getsBy_56 : decode cX8_getsBy 56 = .ok (.ireturn, 1) := by decide +kernel
theorem dX8_rests_0 : decode cX8_rests 0 = .ok (.aload_n 0, 1) := by decide +kernel
theorem dX8_rests_1 : decode cX8_rests 1 = .ok (.iconst 0, 1) := by decide +kernel
theorem dX8_rests_2 : decode cX8_rests 2 = .ok (.putfield 71, 3) := by decide +kernel
theorem dX8_rests_5 : decode cX8_rests 5 = .ok (.aload_n 0, 1) := by decide +kernel
theorem dX8_rests_6 : decode cX8_rests 6 = .ok (.iload_n 1, 1) := by decide +kernel
theorem dX8_rests_7 : decode cX8_rests 7 = .ok (.iload_n 2, 1) := by decide +kernel
theorem dX8_rests_8 : decode cX8_rests 8 = .ok (.invokevirtual 297, 3) := by decide +kernel
theorem dX8_rests_11 : decode cX8_rests 11 = .ok (.ifCond .ne 6, 3) := by decide +kernel
theorem dX8_rests_14 : decode cX8_rests 14 = .ok (.bipush (-2), 2) := by decide +kernel
theorem dX8_rests_16 : decode cX8_rests 16 = .ok (.ireturn, 1) := by decide +kernel
theorem dX8_rests_17 : decode cX8_rests 17 = .ok (.iconst 0, 1) := by decide +kernel
theorem dX8_rests_18 : decode cX8_rests 18 = .ok (.istore_n 3, 1) := by decide +kernel
theorem dX8_rests_19 : decode cX8_rests 19 = .ok (.iconst 0, 1) := by decide +kernel
theorem dX8_rests_20 : decode cX8_rests 20 = .ok (.istore 4, 2) := by decide +kernel
theorem dX8_rests_22 : decode cX8_rests 22 = .ok (.iload 4, 2) := by decide +kernel
theorem dX8_rests_24 : decode cX8_rests 24 = .ok (.iconst 4, 1) := by decide +kernel
theorem dX8_rests_25 : decode cX8_rests 25 = .ok (.if_icmp .ge 98, 3) := by decide +kernel
theorem dX8_rests_28 : decode cX8_rests 28 = .ok (.iload 4, 2) := by decide +kernel
theorem dX8_rests_30 : decode cX8_rests 30 = .ok (.iconst 2, 1) := by decide +kernel
theorem dX8_rests_31 : decode cX8_rests 31 = .ok (.irem, 1) := by decide +kernel
theorem dX8_rests_32 : decode cX8_rests 32 = .ok (.istore 5, 2) := by decide +kernel
theorem dX8_rests_34 : decode cX8_rests 34 = .ok (.iload 4, 2) := by decide +kernel
theorem dX8_rests_36 : decode cX8_rests 36 = .ok (.iconst 2, 1) := by decide +kernel
theorem dX8_rests_37 : decode cX8_rests 37 = .ok (.idiv, 1) := by decide +kernel
theorem dX8_rests_38 : decode cX8_rests 38 = .ok (.istore 6, 2) := by decide +kernel
theorem dX8_rests_40 : decode cX8_rests 40 = .ok (.aload_n 0, 1) := by decide +kernel
theorem dX8_rests_41 : decode cX8_rests 41 = .ok (.iload_n 1, 1) := by decide +kernel
theorem dX8_rests_42 : decode cX8_rests 42 = .ok (.iload_n 1, 1) := by decide +kernel
theorem dX8_rests_43 : decode cX8_rests 43 = .ok (.iload_n 2, 1) := by decide +kernel
theorem dX8_rests_44 : decode cX8_rests 44 = .ok (.iconst 1, 1) := by decide +kernel
theorem dX8_rests_45 : decode cX8_rests 45 = .ok (.iload 5, 2) := by decide +kernel
theorem dX8_rests_47 : decode cX8_rests 47 = .ok (.isub, 1) := by decide +kernel
theorem dX8_rests_48 : decode cX8_rests 48 = .ok (.iload 6, 2) := by decide +kernel
theorem dX8_rests_50 : decode cX8_rests 50 = .ok (.invokevirtual 301, 3) := by decide +kernel
theorem dX8_rests_53 : decode cX8_rests 53 = .ok (.aload_n 0, 1) := by decide +kernel
theorem dX8_rests_54 : decode cX8_rests 54 = .ok (.iload_n 1, 1) := by decide +kernel
theorem dX8_rests_55 : decode cX8_rests 55 = .ok (.iload_n 1, 1) := by decide +kernel
theorem dX8_rests_56 : decode cX8_rests 56 = .ok (.iload_n 2, 1) := by decide +kernel
theorem dX8_rests_57 : decode cX8_rests 57 = .ok (.iload 5, 2) := by decide +kernel
theorem dX8_rests_59 : decode cX8_rests 59 = .ok (.iload 6, 2) := by decide +kernel
theorem dX8_rests_61 : decode cX8_rests 61 = .ok (.invokevirtual 301, 3) := by decide +kernel
theorem dX8_rests_64 : decode cX8_rests 64 = .ok (.if_icmp .gt 34, 3) := by decide +kernel
theorem dX8_rests_67 : decode cX8_rests 67 = .ok (.aload_n 0, 1) := by decide +kernel
theorem dX8_rests_68 : decode cX8_rests 68 = .ok (.iload_n 2, 1) := by decide +kernel
theorem dX8_rests_69 : decode cX8_rests 69 = .ok (.iload_n 1, 1) := by decide +kernel
theorem dX8_rests_70 : decode cX8_rests 70 = .ok (.iload_n 2, 1) := by decide +kernel
theorem dX8_rests_71 : decode cX8_rests 71 = .ok (.iload 5, 2) := by decide +kernel
theorem dX8_rests_73 : decode cX8_rests 73 = .ok (.iconst 1, 1) := by decide +kernel
theorem dX8_rests_74 : decode cX8_rests 74 = .ok (.iload 6, 2) := by decide +kernel
theorem dX8_rests_76 : decode cX8_rests 76 = .ok (.isub, 1) := by decide +kernel
theorem dX8_rests_77 : decode cX8_rests 77 = .ok (.invokevirtual 301, 3) := by decide +kernel
theorem dX8_rests_80 : decode cX8_rests 80 = .ok (.aload_n 0, 1) := by decide +kernel
theorem dX8_rests_81 : decode cX8_rests 81 = .ok (.iload_n 2, 1) := by decide +kernel
theorem dX8_rests_82 : decode cX8_rests 82 = .ok (.iload_n 1, 1) := by decide +kernel
theorem dX8_rests_83 : decode cX8_rests 83 = .ok (.iload_n 2, 1) := by decide +kernel
theorem dX8_rests_84 : decode cX8_rests 84 = .ok (.iload 5, 2) := by decide +kernel
theorem dX8_rests_86 : decode cX8_rests 86 = .ok (.iload 6, 2) := by decide +kernel
theorem dX8_rests_88 : decode cX8_rests 88 = .ok (.invokevirtual 301, 3) := by decide +kernel
theorem dX8_rests_91 : decode cX8_rests 91 = .ok (.if_icmp .gt 7, 3) := by decide +kernel
theorem dX8_rests_94 : decode cX8_rests 94 = .ok (.iconst 1, 1) := by decide +kernel
theorem dX8_rests_95 : decode cX8_rests 95 = .ok (.goto 4, 3) := by decide +kernel
theorem dX8_rests_98 : decode cX8_rests 98 = .ok (.iconst 0, 1) := by decide +kernel
theorem dX8_rests_99 : decode cX8_rests 99 = .ok (.istore 7, 2) := by decide +kernel
theorem dX8_rests_101 : decode cX8_rests 101 = .ok (.iload_n 3, 1) := by decide +kernel
theorem dX8_rests_102 : decode cX8_rests 102 = .ok (.iload 7, 2) := by decide +kernel
theorem dX8_rests_104 : decode cX8_rests 104 = .ok (.ifCond .eq 10, 3) := by decide +kernel
theorem dX8_rests_107 : decode cX8_rests 107 = .ok (.iconst 1, 1) := by decide +kernel
theorem dX8_rests_108 : decode cX8_rests 108 = .ok (.iload 4, 2) := by decide +kernel
theorem dX8_rests_110 : decode cX8_rests 110 = .ok (.ishl, 1) := by decide +kernel
theorem dX8_rests_111 : decode cX8_rests 111 = .ok (.goto 4, 3) := by decide +kernel
theorem dX8_rests_114 : decode cX8_rests 114 = .ok (.iconst 0, 1) := by decide +kernel
theorem dX8_rests_115 : decode cX8_rests 115 = .ok (.ior, 1) := by decide +kernel
theorem dX8_rests_116 : decode cX8_rests 116 = .ok (.istore_n 3, 1) := by decide +kernel
theorem dX8_rests_117 : decode cX8_rests 117 = .ok (.iinc 4 1, 3) := by decide +kernel
theorem dX8_rests_120 : decode cX8_rests 120 = .ok (.goto (-98), 3) := by decide +kernel
theorem dX8_rests_123 : decode cX8_rests 123 = .ok (.iload_n 3, 1) := by decide +kernel
theorem dX8_rests_124 : decode cX8_rests 124 = .ok (.ireturn, 1) := by decide +kernel
theorem dX8_gets_0 : decode cX8_gets 0 = .ok (.aload_n 0, 1) := by decide +kernel
theorem dX8_gets_1 : decode cX8_gets 1 = .ok (.iconst 0, 1) := by decide +kernel
theorem dX8_gets_2 : decode cX8_gets 2 = .ok (.putfield 71, 3) := by decide +kernel
theorem dX8_gets_5 : decode cX8_gets 5 = .ok (.aload_n 0, 1) := by decide +kernel
theorem dX8_gets_6 : decode cX8_gets 6 = .ok (.iload_n 1, 1) := by decide +kernel
theorem dX8_gets_7 : decode cX8_gets 7 = .ok (.iload_n 2, 1) := by decide +kernel
theorem dX8_gets_8 : decode cX8_gets 8 = .ok (.invokevirtual 297, 3) := by decide +kernel
theorem dX8_gets_11 : decode cX8_gets 11 = .ok (.ifCond .eq 31, 3) := by decide +kernel
theorem dX8_gets_14 : decode cX8_gets 14 = .ok (.iload_n 3, 1) := by decide +kernel
theorem dX8_gets_15 : decode cX8_gets 15 = .ok (.invokestatic 329, 3) := by decide +kernel
theorem dX8_gets_18 : decode cX8_gets 18 = .ok (.ifCond .eq 24, 3) := by decide +kernel
theorem dX8_gets_21 : decode cX8_gets 21 = .ok (.iload 4, 2) := by decide +kernel
theorem dX8_gets_23 : decode cX8_gets 23 = .ok (.invokestatic 329, 3) := by decide +kernel
theorem dX8_gets_26 : decode cX8_gets 26 = .ok (.ifCond .eq 16, 3) := by decide +kernel
theorem dX8_gets_29 : decode cX8_gets 29 = .ok (.aload_n 0, 1) := by decide +kernel
theorem dX8_gets_30 : decode cX8_gets 30 = .ok (.iload_n 1, 1) := by decide +kernel
theorem dX8_gets_31 : decode cX8_gets 31 = .ok (.iload_n 1, 1) := by decide +kernel
theorem dX8_gets_32 : decode cX8_gets 32 = .ok (.iload_n 2, 1) := by decide +kernel
theorem dX8_gets_33 : decode cX8_gets 33 = .ok (.iload_n 3, 1) := by decide +kernel
theorem dX8_gets_34 : decode cX8_gets 34 = .ok (.iload 4, 2) := by decide +kernel
theorem dX8_gets_36 : decode cX8_gets 36 = .ok (.invokevirtual 301, 3) := by decide +kernel
theorem dX8_gets_39 : decode cX8_gets 39 = .ok (.goto 6, 3) := by decide +kernel
theorem dX8_gets_42 : decode cX8_gets 42 = .ok (.sipush (-1000), 3) := by decide +kernel
theorem dX8_gets_45 : decode cX8_gets 45 = .ok (.ireturn, 1) := by decide +kernel
theorem dX8_allWith_0 : decode cX8_allWith 0 = .ok (.aload_n 0, 1) := by decide +kernel
theorem dX8_allWith_1 : decode cX8_allWith 1 = .ok (.invokevirtual 264, 3) := by decide +kernel
theorem dX8_allWith_4 : decode cX8_allWith 4 = .ok (.aload_n 0, 1) := by decide +kernel
theorem dX8_allWith_5 : decode cX8_allWith 5 = .ok (.getfield 47, 3) := by decide +kernel
theorem dX8_allWith_8 : decode cX8_allWith 8 = .ok (.iconst 5, 1) := by decide +kernel
theorem dX8_allWith_9 : decode cX8_allWith 9 = .ok (.iload_n 1, 1) := by decide +kernel
theorem dX8_allWith_10 : decode cX8_allWith 10 = .ok (.imul, 1) := by decide +kernel
theorem dX8_allWith_11 : decode cX8_allWith 11 = .ok (.iload_n 2, 1) := by decide +kernel
theorem dX8_allWith_12 : decode cX8_allWith 12 = .ok (.iadd, 1) := by decide +kernel
theorem dX8_allWith_13 : decode cX8_allWith 13 = .ok (.iload_n 3, 1) := by decide +kernel
theorem dX8_allWith_14 : decode cX8_allWith 14 = .ok (.iastore, 1) := by decide +kernel
theorem dX8_allWith_15 : decode cX8_allWith 15 = .ok (.aload_n 0, 1) := by decide +kernel
theorem dX8_allWith_16 : decode cX8_allWith 16 = .ok (.invokevirtual 261, 3) := by decide +kernel
theorem dX8_allWith_19 : decode cX8_allWith 19 = .ok (.aload_n 0, 1) := by decide +kernel
theorem dX8_allWith_20 : decode cX8_allWith 20 = .ok (.invokevirtual 288, 3) := by decide +kernel
theorem dX8_allWith_23 : decode cX8_allWith 23 = .ok (.ireturn, 1) := by decide +kernel
theorem dX8_allNow_0 : decode cX8_allNow 0 = .ok (.aload_n 0, 1) := by decide +kernel
theorem dX8_allNow_1 : decode cX8_allNow 1 = .ok (.invokevirtual 267, 3) := by decide +kernel
theorem dX8_allNow_4 : decode cX8_allNow 4 = .ok (.aload_n 0, 1) := by decide +kernel
theorem dX8_allNow_5 : decode cX8_allNow 5 = .ok (.invokevirtual 288, 3) := by decide +kernel
theorem dX8_allNow_8 : decode cX8_allNow 8 = .ok (.ireturn, 1) := by decide +kernel
theorem dX8_worth_0 : decode cX8_worth 0 = .ok (.aload_n 0, 1) := by decide +kernel
theorem dX8_worth_1 : decode cX8_worth 1 = .ok (.iconst 0, 1) := by decide +kernel
theorem dX8_worth_2 : decode cX8_worth 2 = .ok (.putfield 71, 3) := by decide +kernel
theorem dX8_worth_5 : decode cX8_worth 5 = .ok (.aload_n 0, 1) := by decide +kernel
theorem dX8_worth_6 : decode cX8_worth 6 = .ok (.iload_n 1, 1) := by decide +kernel
theorem dX8_worth_7 : decode cX8_worth 7 = .ok (.i2l, 1) := by decide +kernel
theorem dX8_worth_8 : decode cX8_worth 8 = .ok (.invokevirtual 219, 3) := by decide +kernel
theorem dX8_worth_11 : decode cX8_worth 11 = .ok (.ifCond .eq 41, 3) := by decide +kernel
theorem dX8_worth_14 : decode cX8_worth 14 = .ok (.aload_n 0, 1) := by decide +kernel
theorem dX8_worth_15 : decode cX8_worth 15 = .ok (.iload_n 2, 1) := by decide +kernel
theorem dX8_worth_16 : decode cX8_worth 16 = .ok (.i2l, 1) := by decide +kernel
theorem dX8_worth_17 : decode cX8_worth 17 = .ok (.invokevirtual 273, 3) := by decide +kernel
theorem dX8_worth_20 : decode cX8_worth 20 = .ok (.ifCond .eq 32, 3) := by decide +kernel
theorem dX8_worth_23 : decode cX8_worth 23 = .ok (.iload_n 3, 1) := by decide +kernel
theorem dX8_worth_24 : decode cX8_worth 24 = .ok (.i2l, 1) := by decide +kernel
theorem dX8_worth_25 : decode cX8_worth 25 = .ok (.ldc2_w 332, 3) := by decide +kernel
theorem dX8_worth_28 : decode cX8_worth 28 = .ok (.ldc2_w 334, 3) := by decide +kernel
theorem dX8_worth_31 : decode cX8_worth 31 = .ok (.invokestatic 76, 3) := by decide +kernel
theorem dX8_worth_34 : decode cX8_worth 34 = .ok (.ifCond .eq 18, 3) := by decide +kernel
theorem dX8_worth_37 : decode cX8_worth 37 = .ok (.aload_n 0, 1) := by decide +kernel
theorem dX8_worth_38 : decode cX8_worth 38 = .ok (.iload_n 1, 1) := by decide +kernel
theorem dX8_worth_39 : decode cX8_worth 39 = .ok (.iload_n 2, 1) := by decide +kernel
theorem dX8_worth_40 : decode cX8_worth 40 = .ok (.iload_n 3, 1) := by decide +kernel
theorem dX8_worth_41 : decode cX8_worth 41 = .ok (.invokevirtual 336, 3) := by decide +kernel
theorem dX8_worth_44 : decode cX8_worth 44 = .ok (.aload_n 0, 1) := by decide +kernel
theorem dX8_worth_45 : decode cX8_worth 45 = .ok (.invokevirtual 340, 3) := by decide +kernel
theorem dX8_worth_48 : decode cX8_worth 48 = .ok (.isub, 1) := by decide +kernel
theorem dX8_worth_49 : decode cX8_worth 49 = .ok (.goto 6, 3) := by decide +kernel
theorem dX8_worth_52 : decode cX8_worth 52 = .ok (.sipush (-10000), 3) := by decide +kernel
theorem dX8_worth_55 : decode cX8_worth 55 = .ok (.ireturn, 1) := by decide +kernel
theorem dX8_learn_0 : decode cX8_learn 0 = .ok (.aload_n 0, 1) := by decide +kernel
theorem dX8_learn_1 : decode cX8_learn 1 = .ok (.iconst 0, 1) := by decide +kernel
theorem dX8_learn_2 : decode cX8_learn 2 = .ok (.putfield 71, 3) := by decide +kernel
theorem dX8_learn_5 : decode cX8_learn 5 = .ok (.aload_n 0, 1) := by decide +kernel
theorem dX8_learn_6 : decode cX8_learn 6 = .ok (.iload_n 1, 1) := by decide +kernel
theorem dX8_learn_7 : decode cX8_learn 7 = .ok (.i2l, 1) := by decide +kernel
theorem dX8_learn_8 : decode cX8_learn 8 = .ok (.invokevirtual 219, 3) := by decide +kernel
theorem dX8_learn_11 : decode cX8_learn 11 = .ok (.ifCond .ne 6, 3) := by decide +kernel
theorem dX8_learn_14 : decode cX8_learn 14 = .ok (.bipush (-2), 2) := by decide +kernel
theorem dX8_learn_16 : decode cX8_learn 16 = .ok (.ireturn, 1) := by decide +kernel
theorem dX8_learn_17 : decode cX8_learn 17 = .ok (.iconst (-1), 1) := by decide +kernel
theorem dX8_learn_18 : decode cX8_learn 18 = .ok (.istore_n 2, 1) := by decide +kernel
theorem dX8_learn_19 : decode cX8_learn 19 = .ok (.aload_n 0, 1) := by decide +kernel
theorem dX8_learn_20 : decode cX8_learn 20 = .ok (.invokevirtual 340, 3) := by decide +kernel
theorem dX8_learn_23 : decode cX8_learn 23 = .ok (.istore_n 3, 1) := by decide +kernel
theorem dX8_learn_24 : decode cX8_learn 24 = .ok (.iconst 0, 1) := by decide +kernel
theorem dX8_learn_25 : decode cX8_learn 25 = .ok (.istore 4, 2) := by decide +kernel
theorem dX8_learn_27 : decode cX8_learn 27 = .ok (.iload 4, 2) := by decide +kernel
theorem dX8_learn_29 : decode cX8_learn 29 = .ok (.aload_n 0, 1) := by decide +kernel
theorem dX8_learn_30 : decode cX8_learn 30 = .ok (.invokevirtual 212, 3) := by decide +kernel
theorem dX8_learn_33 : decode cX8_learn 33 = .ok (.if_icmp .ge 34, 3) := by decide +kernel
theorem dX8_learn_36 : decode cX8_learn 36 = .ok (.aload_n 0, 1) := by decide +kernel
theorem dX8_learn_37 : decode cX8_learn 37 = .ok (.iload_n 1, 1) := by decide +kernel
theorem dX8_learn_38 : decode cX8_learn 38 = .ok (.iload 4, 2) := by decide +kernel
theorem dX8_learn_40 : decode cX8_learn 40 = .ok (.iconst (-1), 1) := by decide +kernel
theorem dX8_learn_41 : decode cX8_learn 41 = .ok (.invokevirtual 336, 3) := by decide +kernel
theorem dX8_learn_44 : decode cX8_learn 44 = .ok (.istore 5, 2) := by decide +kernel
theorem dX8_learn_46 : decode cX8_learn 46 = .ok (.iload 5, 2) := by decide +kernel
theorem dX8_learn_48 : decode cX8_learn 48 = .ok (.iload_n 3, 1) := by decide +kernel
theorem dX8_learn_49 : decode cX8_learn 49 = .ok (.if_icmp .gt 6, 3) := by decide +kernel
theorem dX8_learn_52 : decode cX8_learn 52 = .ok (.goto 9, 3) := by decide +kernel
theorem dX8_learn_55 : decode cX8_learn 55 = .ok (.iload 4, 2) := by decide +kernel
theorem dX8_learn_57 : decode cX8_learn 57 = .ok (.istore_n 2, 1) := by decide +kernel
theorem dX8_learn_58 : decode cX8_learn 58 = .ok (.iload 5, 2) := by decide +kernel
theorem dX8_learn_60 : decode cX8_learn 60 = .ok (.istore_n 3, 1) := by decide +kernel
theorem dX8_learn_61 : decode cX8_learn 61 = .ok (.iinc 4 1, 3) := by decide +kernel
theorem dX8_learn_64 : decode cX8_learn 64 = .ok (.goto (-37), 3) := by decide +kernel
theorem dX8_learn_67 : decode cX8_learn 67 = .ok (.iload_n 2, 1) := by decide +kernel
theorem dX8_learn_68 : decode cX8_learn 68 = .ok (.ireturn, 1) := by decide +kernel
theorem dX8_tradesOf_0 : decode cX8_tradesOf 0 = .ok (.iconst 0, 1) := by decide +kernel
theorem dX8_tradesOf_1 : decode cX8_tradesOf 1 = .ok (.istore_n 1, 1) := by decide +kernel
theorem dX8_tradesOf_2 : decode cX8_tradesOf 2 = .ok (.aload_n 0, 1) := by decide +kernel
theorem dX8_tradesOf_3 : decode cX8_tradesOf 3 = .ok (.iconst (-1), 1) := by decide +kernel
theorem dX8_tradesOf_4 : decode cX8_tradesOf 4 = .ok (.putfield 343, 3) := by decide +kernel
theorem dX8_tradesOf_7 : decode cX8_tradesOf 7 = .ok (.iconst 0, 1) := by decide +kernel
theorem dX8_tradesOf_8 : decode cX8_tradesOf 8 = .ok (.istore_n 2, 1) := by decide +kernel
theorem dX8_tradesOf_9 : decode cX8_tradesOf 9 = .ok (.iload_n 2, 1) := by decide +kernel
theorem dX8_tradesOf_10 : decode cX8_tradesOf 10 = .ok (.aload_n 0, 1) := by decide +kernel
theorem dX8_tradesOf_11 : decode cX8_tradesOf 11 = .ok (.invokevirtual 216, 3) := by decide +kernel
theorem dX8_tradesOf_14 : decode cX8_tradesOf 14 = .ok (.if_icmp .ge 67, 3) := by decide +kernel
theorem dX8_tradesOf_17 : decode cX8_tradesOf 17 = .ok (.iload_n 2, 1) := by decide +kernel
theorem dX8_tradesOf_18 : decode cX8_tradesOf 18 = .ok (.iconst 1, 1) := by decide +kernel
theorem dX8_tradesOf_19 : decode cX8_tradesOf 19 = .ok (.iadd, 1) := by decide +kernel
theorem dX8_tradesOf_20 : decode cX8_tradesOf 20 = .ok (.istore_n 3, 1) := by decide +kernel
theorem dX8_tradesOf_21 : decode cX8_tradesOf 21 = .ok (.iload_n 3, 1) := by decide +kernel
theorem dX8_tradesOf_22 : decode cX8_tradesOf 22 = .ok (.aload_n 0, 1) := by decide +kernel
theorem dX8_tradesOf_23 : decode cX8_tradesOf 23 = .ok (.invokevirtual 216, 3) := by decide +kernel
theorem dX8_tradesOf_26 : decode cX8_tradesOf 26 = .ok (.if_icmp .ge 49, 3) := by decide +kernel
theorem dX8_tradesOf_29 : decode cX8_tradesOf 29 = .ok (.aload_n 0, 1) := by decide +kernel
theorem dX8_tradesOf_30 : decode cX8_tradesOf 30 = .ok (.iload_n 2, 1) := by decide +kernel
theorem dX8_tradesOf_31 : decode cX8_tradesOf 31 = .ok (.iload_n 3, 1) := by decide +kernel
theorem dX8_tradesOf_32 : decode cX8_tradesOf 32 = .ok (.iconst 0, 1) := by decide +kernel
theorem dX8_tradesOf_33 : decode cX8_tradesOf 33 = .ok (.invokevirtual 346, 3) := by decide +kernel
theorem dX8_tradesOf_36 : decode cX8_tradesOf 36 = .ok (.ifCond .le 33, 3) := by decide +kernel
theorem dX8_tradesOf_39 : decode cX8_tradesOf 39 = .ok (.aload_n 0, 1) := by decide +kernel
theorem dX8_tradesOf_40 : decode cX8_tradesOf 40 = .ok (.iload_n 2, 1) := by decide +kernel
theorem dX8_tradesOf_41 : decode cX8_tradesOf 41 = .ok (.iload_n 3, 1) := by decide +kernel
theorem dX8_tradesOf_42 : decode cX8_tradesOf 42 = .ok (.iconst 1, 1) := by decide +kernel
theorem dX8_tradesOf_43 : decode cX8_tradesOf 43 = .ok (.invokevirtual 346, 3) := by decide +kernel
theorem dX8_tradesOf_46 : decode cX8_tradesOf 46 = .ok (.ifCond .gt 6, 3) := by decide +kernel
theorem dX8_tradesOf_49 : decode cX8_tradesOf 49 = .ok (.goto 20, 3) := by decide +kernel
theorem dX8_tradesOf_52 : decode cX8_tradesOf 52 = .ok (.iload_n 1, 1) := by decide +kernel
theorem dX8_tradesOf_53 : decode cX8_tradesOf 53 = .ok (.ifCond .ne 13, 3) := by decide +kernel
theorem dX8_tradesOf_56 : decode cX8_tradesOf 56 = .ok (.aload_n 0, 1) := by decide +kernel
theorem dX8_tradesOf_57 : decode cX8_tradesOf 57 = .ok (.bipush 10, 2) := by decide +kernel
theorem dX8_tradesOf_59 : decode cX8_tradesOf 59 = .ok (.iload_n 2, 1) := by decide +kernel
theorem dX8_tradesOf_60 : decode cX8_tradesOf 60 = .ok (.imul, 1) := by decide +kernel
theorem dX8_tradesOf_61 : decode cX8_tradesOf 61 = .ok (.iload_n 3, 1) := by decide +kernel
theorem dX8_tradesOf_62 : decode cX8_tradesOf 62 = .ok (.iadd, 1) := by decide +kernel
theorem dX8_tradesOf_63 : decode cX8_tradesOf 63 = .ok (.putfield 343, 3) := by decide +kernel
theorem dX8_tradesOf_66 : decode cX8_tradesOf 66 = .ok (.iinc 1 1, 3) := by decide +kernel
theorem dX8_tradesOf_69 : decode cX8_tradesOf 69 = .ok (.iinc 3 1, 3) := by decide +kernel
theorem dX8_tradesOf_72 : decode cX8_tradesOf 72 = .ok (.goto (-51), 3) := by decide +kernel
theorem dX8_tradesOf_75 : decode cX8_tradesOf 75 = .ok (.iinc 2 1, 3) := by decide +kernel
theorem dX8_tradesOf_78 : decode cX8_tradesOf 78 = .ok (.goto (-69), 3) := by decide +kernel
theorem dX8_tradesOf_81 : decode cX8_tradesOf 81 = .ok (.iload_n 1, 1) := by decide +kernel
theorem dX8_tradesOf_82 : decode cX8_tradesOf 82 = .ok (.ireturn, 1) := by decide +kernel
theorem dX8_gainOf_0 : decode cX8_gainOf 0 = .ok (.iload_n 3, 1) := by decide +kernel
theorem dX8_gainOf_1 : decode cX8_gainOf 1 = .ok (.ifCond .ne 7, 3) := by decide +kernel
theorem dX8_gainOf_4 : decode cX8_gainOf 4 = .ok (.iload_n 1, 1) := by decide +kernel
theorem dX8_gainOf_5 : decode cX8_gainOf 5 = .ok (.goto 4, 3) := by decide +kernel
theorem dX8_gainOf_8 : decode cX8_gainOf 8 = .ok (.iload_n 2, 1) := by decide +kernel
theorem dX8_gainOf_9 : decode cX8_gainOf 9 = .ok (.istore 4, 2) := by decide +kernel
theorem dX8_gainOf_11 : decode cX8_gainOf 11 = .ok (.aload_n 0, 1) := by decide +kernel
theorem dX8_gainOf_12 : decode cX8_gainOf 12 = .ok (.invokevirtual 267, 3) := by decide +kernel
theorem dX8_gainOf_15 : decode cX8_gainOf 15 = .ok (.aload_n 0, 1) := by decide +kernel
theorem dX8_gainOf_16 : decode cX8_gainOf 16 = .ok (.iload 4, 2) := by decide +kernel
theorem dX8_gainOf_18 : decode cX8_gainOf 18 = .ok (.invokevirtual 258, 3) := by decide +kernel
theorem dX8_gainOf_21 : decode cX8_gainOf 21 = .ok (.istore 5, 2) := by decide +kernel
theorem dX8_gainOf_23 : decode cX8_gainOf 23 = .ok (.aload_n 0, 1) := by decide +kernel
theorem dX8_gainOf_24 : decode cX8_gainOf 24 = .ok (.iload_n 1, 1) := by decide +kernel
theorem dX8_gainOf_25 : decode cX8_gainOf 25 = .ok (.iload_n 2, 1) := by decide +kernel
theorem dX8_gainOf_26 : decode cX8_gainOf 26 = .ok (.invokevirtual 227, 3) := by decide +kernel
theorem dX8_gainOf_29 : decode cX8_gainOf 29 = .ok (.aload_n 0, 1) := by decide +kernel
theorem dX8_gainOf_30 : decode cX8_gainOf 30 = .ok (.invokevirtual 261, 3) := by decide +kernel
theorem dX8_gainOf_33 : decode cX8_gainOf 33 = .ok (.aload_n 0, 1) := by decide +kernel
theorem dX8_gainOf_34 : decode cX8_gainOf 34 = .ok (.iload 4, 2) := by decide +kernel
theorem dX8_gainOf_36 : decode cX8_gainOf 36 = .ok (.invokevirtual 258, 3) := by decide +kernel
theorem dX8_gainOf_39 : decode cX8_gainOf 39 = .ok (.iload 5, 2) := by decide +kernel
theorem dX8_gainOf_41 : decode cX8_gainOf 41 = .ok (.isub, 1) := by decide +kernel
theorem dX8_gainOf_42 : decode cX8_gainOf 42 = .ok (.ireturn, 1) := by decide +kernel
theorem dX8_trades_0 : decode cX8_trades 0 = .ok (.aload_n 0, 1) := by decide +kernel
theorem dX8_trades_1 : decode cX8_trades 1 = .ok (.iconst 0, 1) := by decide +kernel
theorem dX8_trades_2 : decode cX8_trades 2 = .ok (.putfield 71, 3) := by decide +kernel
theorem dX8_trades_5 : decode cX8_trades 5 = .ok (.aload_n 0, 1) := by decide +kernel
theorem dX8_trades_6 : decode cX8_trades 6 = .ok (.invokevirtual 209, 3) := by decide +kernel
theorem dX8_trades_9 : decode cX8_trades 9 = .ok (.ifCond .eq 10, 3) := by decide +kernel
theorem dX8_trades_12 : decode cX8_trades 12 = .ok (.aload_n 0, 1) := by decide +kernel
theorem dX8_trades_13 : decode cX8_trades 13 = .ok (.invokevirtual 349, 3) := by decide +kernel
theorem dX8_trades_16 : decode cX8_trades 16 = .ok (.goto 5, 3) := by decide +kernel
theorem dX8_trades_19 : decode cX8_trades 19 = .ok (.bipush (-2), 2) := by decide +kernel
theorem dX8_trades_21 : decode cX8_trades 21 = .ok (.ireturn, 1) := by decide +kernel
theorem dX8_trade_0 : decode cX8_trade 0 = .ok (.aload_n 0, 1) := by decide +kernel
theorem dX8_trade_1 : decode cX8_trade 1 = .ok (.iconst 0, 1) := by decide +kernel
theorem dX8_trade_2 : decode cX8_trade 2 = .ok (.putfield 71, 3) := by decide +kernel
theorem dX8_trade_5 : decode cX8_trade 5 = .ok (.aload_n 0, 1) := by decide +kernel
theorem dX8_trade_6 : decode cX8_trade 6 = .ok (.invokevirtual 209, 3) := by decide +kernel
theorem dX8_trade_9 : decode cX8_trade 9 = .ok (.ifCond .ne 6, 3) := by decide +kernel
theorem dX8_trade_12 : decode cX8_trade 12 = .ok (.bipush (-2), 2) := by decide +kernel
theorem dX8_trade_14 : decode cX8_trade 14 = .ok (.ireturn, 1) := by decide +kernel
theorem dX8_trade_15 : decode cX8_trade 15 = .ok (.aload_n 0, 1) := by decide +kernel
theorem dX8_trade_16 : decode cX8_trade 16 = .ok (.invokevirtual 349, 3) := by decide +kernel
theorem dX8_trade_19 : decode cX8_trade 19 = .ok (.pop, 1) := by decide +kernel
theorem dX8_trade_20 : decode cX8_trade 20 = .ok (.aload_n 0, 1) := by decide +kernel
theorem dX8_trade_21 : decode cX8_trade 21 = .ok (.getfield 343, 3) := by decide +kernel
theorem dX8_trade_24 : decode cX8_trade 24 = .ok (.ireturn, 1) := by decide +kernel
theorem dX8_gain_0 : decode cX8_gain 0 = .ok (.aload_n 0, 1) := by decide +kernel
theorem dX8_gain_1 : decode cX8_gain 1 = .ok (.iconst 0, 1) := by decide +kernel
theorem dX8_gain_2 : decode cX8_gain 2 = .ok (.putfield 71, 3) := by decide +kernel
theorem dX8_gain_5 : decode cX8_gain 5 = .ok (.aload_n 0, 1) := by decide +kernel
theorem dX8_gain_6 : decode cX8_gain 6 = .ok (.iload_n 1, 1) := by decide +kernel
theorem dX8_gain_7 : decode cX8_gain 7 = .ok (.iload_n 2, 1) := by decide +kernel
theorem dX8_gain_8 : decode cX8_gain 8 = .ok (.invokevirtual 297, 3) := by decide +kernel
theorem dX8_gain_11 : decode cX8_gain 11 = .ok (.ifCond .eq 21, 3) := by decide +kernel
theorem dX8_gain_14 : decode cX8_gain 14 = .ok (.aload_n 0, 1) := by decide +kernel
theorem dX8_gain_15 : decode cX8_gain 15 = .ok (.iload_n 1, 1) := by decide +kernel
theorem dX8_gain_16 : decode cX8_gain 16 = .ok (.iload_n 2, 1) := by decide +kernel
theorem dX8_gain_17 : decode cX8_gain 17 = .ok (.iconst 0, 1) := by decide +kernel
theorem dX8_gain_18 : decode cX8_gain 18 = .ok (.invokevirtual 346, 3) := by decide +kernel
theorem dX8_gain_21 : decode cX8_gain 21 = .ok (.aload_n 0, 1) := by decide +kernel
theorem dX8_gain_22 : decode cX8_gain 22 = .ok (.iload_n 1, 1) := by decide +kernel
theorem dX8_gain_23 : decode cX8_gain 23 = .ok (.iload_n 2, 1) := by decide +kernel
theorem dX8_gain_24 : decode cX8_gain 24 = .ok (.iconst 1, 1) := by decide +kernel
theorem dX8_gain_25 : decode cX8_gain 25 = .ok (.invokevirtual 346, 3) := by decide +kernel
theorem dX8_gain_28 : decode cX8_gain 28 = .ok (.iadd, 1) := by decide +kernel
theorem dX8_gain_29 : decode cX8_gain 29 = .ok (.goto 6, 3) := by decide +kernel
theorem dX8_gain_32 : decode cX8_gain 32 = .ok (.sipush (-1000), 3) := by decide +kernel
theorem dX8_gain_35 : decode cX8_gain 35 = .ok (.ireturn, 1) := by decide +kernel
theorem dX8_whyNot_0 : decode cX8_whyNot 0 = .ok (.iload_n 1, 1) := by decide +kernel
theorem dX8_whyNot_1 : decode cX8_whyNot 1 = .ok (.invokestatic 80, 3) := by decide +kernel
theorem dX8_whyNot_4 : decode cX8_whyNot 4 = .ok (.ifCond .eq 10, 3) := by decide +kernel
theorem dX8_whyNot_7 : decode cX8_whyNot 7 = .ok (.aload_n 0, 1) := by decide +kernel
theorem dX8_whyNot_8 : decode cX8_whyNot 8 = .ok (.invokevirtual 209, 3) := by decide +kernel
theorem dX8_whyNot_11 : decode cX8_whyNot 11 = .ok (.ifCond .ne 6, 3) := by decide +kernel
theorem dX8_whyNot_14 : decode cX8_whyNot 14 = .ok (.bipush (-2), 2) := by decide +kernel
theorem dX8_whyNot_16 : decode cX8_whyNot 16 = .ok (.ireturn, 1) := by decide +kernel
theorem dX8_whyNot_17 : decode cX8_whyNot 17 = .ok (.aload_n 0, 1) := by decide +kernel
theorem dX8_whyNot_18 : decode cX8_whyNot 18 = .ok (.getfield 7, 3) := by decide +kernel
theorem dX8_whyNot_21 : decode cX8_whyNot 21 = .ok (.iload_n 1, 1) := by decide +kernel
theorem dX8_whyNot_22 : decode cX8_whyNot 22 = .ok (.iaload, 1) := by decide +kernel
theorem dX8_whyNot_23 : decode cX8_whyNot 23 = .ok (.iconst (-1), 1) := by decide +kernel
theorem dX8_whyNot_24 : decode cX8_whyNot 24 = .ok (.if_icmp .ne 6, 3) := by decide +kernel
theorem dX8_whyNot_27 : decode cX8_whyNot 27 = .ok (.bipush (-6), 2) := by decide +kernel
theorem dX8_whyNot_29 : decode cX8_whyNot 29 = .ok (.ireturn, 1) := by decide +kernel
theorem dX8_whyNot_30 : decode cX8_whyNot 30 = .ok (.aload_n 0, 1) := by decide +kernel
theorem dX8_whyNot_31 : decode cX8_whyNot 31 = .ok (.getfield 13, 3) := by decide +kernel
theorem dX8_whyNot_34 : decode cX8_whyNot 34 = .ok (.iload_n 1, 1) := by decide +kernel
theorem dX8_whyNot_35 : decode cX8_whyNot 35 = .ok (.iaload, 1) := by decide +kernel
theorem dX8_whyNot_36 : decode cX8_whyNot 36 = .ok (.iconst 2, 1) := by decide +kernel
theorem dX8_whyNot_37 : decode cX8_whyNot 37 = .ok (.irem, 1) := by decide +kernel
theorem dX8_whyNot_38 : decode cX8_whyNot 38 = .ok (.ifCond .eq 6, 3) := by decide +kernel
theorem dX8_whyNot_41 : decode cX8_whyNot 41 = .ok (.bipush (-2), 2) := by decide +kernel
theorem dX8_whyNot_43 : decode cX8_whyNot 43 = .ok (.ireturn, 1) := by decide +kernel
theorem dX8_whyNot_44 : decode cX8_whyNot 44 = .ok (.iconst 0, 1) := by decide +kernel
theorem dX8_whyNot_45 : decode cX8_whyNot 45 = .ok (.istore_n 2, 1) := by decide +kernel
theorem dX8_whyNot_46 : decode cX8_whyNot 46 = .ok (.iload_n 2, 1) := by decide +kernel
theorem dX8_whyNot_47 : decode cX8_whyNot 47 = .ok (.aload_n 0, 1) := by decide +kernel
theorem dX8_whyNot_48 : decode cX8_whyNot 48 = .ok (.getfield 13, 3) := by decide +kernel
theorem dX8_whyNot_51 : decode cX8_whyNot 51 = .ok (.iload_n 1, 1) := by decide +kernel
theorem dX8_whyNot_52 : decode cX8_whyNot 52 = .ok (.iaload, 1) := by decide +kernel
theorem dX8_whyNot_53 : decode cX8_whyNot 53 = .ok (.if_icmp .ge 59, 3) := by decide +kernel
theorem dX8_whyNot_56 : decode cX8_whyNot 56 = .ok (.aload_n 0, 1) := by decide +kernel
theorem dX8_whyNot_57 : decode cX8_whyNot 57 = .ok (.aload_n 0, 1) := by decide +kernel
theorem dX8_whyNot_58 : decode cX8_whyNot 58 = .ok (.getfield 16, 3) := by decide +kernel
theorem dX8_whyNot_61 : decode cX8_whyNot 61 = .ok (.bipush 60, 2) := by decide +kernel
theorem dX8_whyNot_63 : decode cX8_whyNot 63 = .ok (.iload_n 1, 1) := by decide +kernel
theorem dX8_whyNot_64 : decode cX8_whyNot 64 = .ok (.imul, 1) := by decide +kernel
theorem dX8_whyNot_65 : decode cX8_whyNot 65 = .ok (.iload_n 2, 1) := by decide +kernel
theorem dX8_whyNot_66 : decode cX8_whyNot 66 = .ok (.iadd, 1) := by decide +kernel
theorem dX8_whyNot_67 : decode cX8_whyNot 67 = .ok (.laload, 1) := by decide +kernel
theorem dX8_whyNot_68 : decode cX8_whyNot 68 = .ok (.invokevirtual 219, 3) := by decide +kernel
theorem dX8_whyNot_71 : decode cX8_whyNot 71 = .ok (.ifCond .eq 32, 3) := by decide +kernel
theorem dX8_whyNot_74 : decode cX8_whyNot 74 = .ok (.aload_n 0, 1) := by decide +kernel
theorem dX8_whyNot_75 : decode cX8_whyNot 75 = .ok (.getfield 16, 3) := by decide +kernel
theorem dX8_whyNot_78 : decode cX8_whyNot 78 = .ok (.bipush 60, 2) := by decide +kernel
theorem dX8_whyNot_80 : decode cX8_whyNot 80 = .ok (.iload_n 1, 1) := by decide +kernel
theorem dX8_whyNot_81 : decode cX8_whyNot 81 = .ok (.imul, 1) := by decide +kernel
theorem dX8_whyNot_82 : decode cX8_whyNot 82 = .ok (.iload_n 2, 1) := by decide +kernel
theorem dX8_whyNot_83 : decode cX8_whyNot 83 = .ok (.iadd, 1) := by decide +kernel
theorem dX8_whyNot_84 : decode cX8_whyNot 84 = .ok (.iconst 1, 1) := by decide +kernel
theorem dX8_whyNot_85 : decode cX8_whyNot 85 = .ok (.iadd, 1) := by decide +kernel
theorem dX8_whyNot_86 : decode cX8_whyNot 86 = .ok (.laload, 1) := by decide +kernel
theorem dX8_whyNot_87 : decode cX8_whyNot 87 = .ok (.ldc2_w 115, 3) := by decide +kernel
theorem dX8_whyNot_90 : decode cX8_whyNot 90 = .ok (.aload_n 0, 1) := by decide +kernel
theorem dX8_whyNot_91 : decode cX8_whyNot 91 = .ok (.invokevirtual 212, 3) := by decide +kernel
theorem dX8_whyNot_94 : decode cX8_whyNot 94 = .ok (.i2l, 1) := by decide +kernel
theorem dX8_whyNot_95 : decode cX8_whyNot 95 = .ok (.lconst 1, 1) := by decide +kernel
theorem dX8_whyNot_96 : decode cX8_whyNot 96 = .ok (.lsub, 1) := by decide +kernel
theorem dX8_whyNot_97 : decode cX8_whyNot 97 = .ok (.invokestatic 76, 3) := by decide +kernel
theorem dX8_whyNot_100 : decode cX8_whyNot 100 = .ok (.ifCond .ne 6, 3) := by decide +kernel
theorem dX8_whyNot_103 : decode cX8_whyNot 103 = .ok (.bipush (-2), 2) := by decide +kernel
theorem dX8_whyNot_105 : decode cX8_whyNot 105 = .ok (.ireturn, 1) := by decide +kernel
theorem dX8_whyNot_106 : decode cX8_whyNot 106 = .ok (.iinc 2 2, 3) := by decide +kernel
theorem dX8_whyNot_109 : decode cX8_whyNot 109 = .ok (.goto (-63), 3) := by decide +kernel
theorem dX8_whyNot_112 : decode cX8_whyNot 112 = .ok (.aload_n 0, 1) := by decide +kernel
theorem dX8_whyNot_113 : decode cX8_whyNot 113 = .ok (.invokevirtual 264, 3) := by decide +kernel
theorem dX8_whyNot_116 : decode cX8_whyNot 116 = .ok (.iconst 0, 1) := by decide +kernel
theorem dX8_whyNot_117 : decode cX8_whyNot 117 = .ok (.istore_n 2, 1) := by decide +kernel
theorem dX8_whyNot_118 : decode cX8_whyNot 118 = .ok (.iload_n 2, 1) := by decide +kernel
theorem dX8_whyNot_119 : decode cX8_whyNot 119 = .ok (.bipush 30, 2) := by decide +kernel
theorem dX8_whyNot_121 : decode cX8_whyNot 121 = .ok (.if_icmp .ge 21, 3) := by decide +kernel
theorem dX8_whyNot_124 : decode cX8_whyNot 124 = .ok (.aload_n 0, 1) := by decide +kernel
theorem dX8_whyNot_125 : decode cX8_whyNot 125 = .ok (.getfield 47, 3) := by decide +kernel
theorem dX8_whyNot_128 : decode cX8_whyNot 128 = .ok (.iload_n 2, 1) := by decide +kernel
theorem dX8_whyNot_129 : decode cX8_whyNot 129 = .ok (.aload_n 0, 1) := by decide +kernel
theorem dX8_whyNot_130 : decode cX8_whyNot 130 = .ok (.getfield 37, 3) := by decide +kernel
theorem dX8_whyNot_133 : decode cX8_whyNot 133 = .ok (.iload_n 2, 1) := by decide +kernel
theorem dX8_whyNot_134 : decode cX8_whyNot 134 = .ok (.iaload, 1) := by decide +kernel
theorem dX8_whyNot_135 : decode cX8_whyNot 135 = .ok (.iastore, 1) := by decide +kernel
theorem dX8_whyNot_136 : decode cX8_whyNot 136 = .ok (.iinc 2 1, 3) := by decide +kernel
theorem dX8_whyNot_139 : decode cX8_whyNot 139 = .ok (.goto (-21), 3) := by decide +kernel
theorem dX8_whyNot_142 : decode cX8_whyNot 142 = .ok (.iconst 0, 1) := by decide +kernel
theorem dX8_whyNot_143 : decode cX8_whyNot 143 = .ok (.ireturn, 1) := by decide +kernel
theorem dX8_isSo_0 : decode cX8_isSo 0 = .ok (.iconst 0, 1) := by decide +kernel
theorem dX8_isSo_1 : decode cX8_isSo 1 = .ok (.istore_n 3, 1) := by decide +kernel
theorem dX8_isSo_2 : decode cX8_isSo 2 = .ok (.iload_n 3, 1) := by decide +kernel
theorem dX8_isSo_3 : decode cX8_isSo 3 = .ok (.aload_n 0, 1) := by decide +kernel
theorem dX8_isSo_4 : decode cX8_isSo 4 = .ok (.getfield 13, 3) := by decide +kernel
theorem dX8_isSo_7 : decode cX8_isSo 7 = .ok (.iload_n 1, 1) := by decide +kernel
theorem dX8_isSo_8 : decode cX8_isSo 8 = .ok (.iaload, 1) := by decide +kernel
theorem dX8_isSo_9 : decode cX8_isSo 9 = .ok (.if_icmp .ge 46, 3) := by decide +kernel
theorem dX8_isSo_12 : decode cX8_isSo 12 = .ok (.aload_n 0, 1) := by decide +kernel
theorem dX8_isSo_13 : decode cX8_isSo 13 = .ok (.aload_n 0, 1) := by decide +kernel
theorem dX8_isSo_14 : decode cX8_isSo 14 = .ok (.getfield 16, 3) := by decide +kernel
theorem dX8_isSo_17 : decode cX8_isSo 17 = .ok (.bipush 60, 2) := by decide +kernel
theorem dX8_isSo_19 : decode cX8_isSo 19 = .ok (.iload_n 1, 1) := by decide +kernel
theorem dX8_isSo_20 : decode cX8_isSo 20 = .ok (.imul, 1) := by decide +kernel
theorem dX8_isSo_21 : decode cX8_isSo 21 = .ok (.iload_n 3, 1) := by decide +kernel
theorem dX8_isSo_22 : decode cX8_isSo 22 = .ok (.iadd, 1) := by decide +kernel
theorem dX8_isSo_23 : decode cX8_isSo 23 = .ok (.laload, 1) := by decide +kernel
theorem dX8_isSo_24 : decode cX8_isSo 24 = .ok (.l2i, 1) := by decide +kernel
theorem dX8_isSo_25 : decode cX8_isSo 25 = .ok (.iload_n 2, 1) := by decide +kernel
theorem dX8_isSo_26 : decode cX8_isSo 26 = .ok (.invokevirtual 255, 3) := by decide +kernel
theorem dX8_isSo_29 : decode cX8_isSo 29 = .ok (.i2l, 1) := by decide +kernel
theorem dX8_isSo_30 : decode cX8_isSo 30 = .ok (.aload_n 0, 1) := by decide +kernel
theorem dX8_isSo_31 : decode cX8_isSo 31 = .ok (.getfield 16, 3) := by decide +kernel
theorem dX8_isSo_34 : decode cX8_isSo 34 = .ok (.bipush 60, 2) := by decide +kernel
theorem dX8_isSo_36 : decode cX8_isSo 36 = .ok (.iload_n 1, 1) := by decide +kernel
theorem dX8_isSo_37 : decode cX8_isSo 37 = .ok (.imul, 1) := by decide +kernel
theorem dX8_isSo_38 : decode cX8_isSo 38 = .ok (.iload_n 3, 1) := by decide +kernel
theorem dX8_isSo_39 : decode cX8_isSo 39 = .ok (.iadd, 1) := by decide +kernel
theorem dX8_isSo_40 : decode cX8_isSo 40 = .ok (.iconst 1, 1) := by decide +kernel
theorem dX8_isSo_41 : decode cX8_isSo 41 = .ok (.iadd, 1) := by decide +kernel
theorem dX8_isSo_42 : decode cX8_isSo 42 = .ok (.laload, 1) := by decide +kernel
theorem dX8_isSo_43 : decode cX8_isSo 43 = .ok (.lcmp, 1) := by decide +kernel
theorem dX8_isSo_44 : decode cX8_isSo 44 = .ok (.ifCond .eq 5, 3) := by decide +kernel
theorem dX8_isSo_47 : decode cX8_isSo 47 = .ok (.iconst 0, 1) := by decide +kernel
theorem dX8_isSo_48 : decode cX8_isSo 48 = .ok (.ireturn, 1) := by decide +kernel
theorem dX8_isSo_49 : decode cX8_isSo 49 = .ok (.iinc 3 2, 3) := by decide +kernel
theorem dX8_isSo_52 : decode cX8_isSo 52 = .ok (.goto (-50), 3) := by decide +kernel
theorem dX8_isSo_55 : decode cX8_isSo 55 = .ok (.iconst 1, 1) := by decide +kernel
theorem dX8_isSo_56 : decode cX8_isSo 56 = .ok (.ireturn, 1) := by decide +kernel
theorem dX8_laysSpoons_0 : decode cX8_laysSpoons 0 = .ok (.aload_n 0, 1) := by decide +kernel
theorem dX8_laysSpoons_1 : decode cX8_laysSpoons 1 = .ok (.iconst 0, 1) := by decide +kernel
theorem dX8_laysSpoons_2 : decode cX8_laysSpoons 2 = .ok (.putfield 352, 3) := by decide +kernel
theorem dX8_laysSpoons_5 : decode cX8_laysSpoons 5 = .ok (.aload_n 0, 1) := by decide +kernel
theorem dX8_laysSpoons_6 : decode cX8_laysSpoons 6 = .ok (.iconst 1, 1) := by decide +kernel
theorem dX8_laysSpoons_7 : decode cX8_laysSpoons 7 = .ok (.aload_n 0, 1) := by decide +kernel
theorem dX8_laysSpoons_8 : decode cX8_laysSpoons 8 = .ok (.invokevirtual 212, 3) := by decide +kernel
theorem dX8_laysSpoons_11 : decode cX8_laysSpoons 11 = .ok (.ishl, 1) := by decide +kernel
theorem dX8_laysSpoons_12 : decode cX8_laysSpoons 12 = .ok (.iconst 1, 1) := by decide +kernel
theorem dX8_laysSpoons_13 : decode cX8_laysSpoons 13 = .ok (.isub, 1) := by decide +kernel
theorem dX8_laysSpoons_14 : decode cX8_laysSpoons 14 = .ok (.putfield 355, 3) := by decide +kernel
theorem dX8_laysSpoons_17 : decode cX8_laysSpoons 17 = .ok (.aload_n 0, 1) := by decide +kernel
theorem dX8_laysSpoons_18 : decode cX8_laysSpoons 18 = .ok (.iconst 0, 1) := by decide +kernel
theorem dX8_laysSpoons_19 : decode cX8_laysSpoons 19 = .ok (.putfield 358, 3) := by decide +kernel
theorem dX8_laysSpoons_22 : decode cX8_laysSpoons 22 = .ok (.iconst 0, 1) := by decide +kernel
theorem dX8_laysSpoons_23 : decode cX8_laysSpoons 23 = .ok (.istore_n 2, 1) := by decide +kernel
theorem dX8_laysSpoons_24 : decode cX8_laysSpoons 24 = .ok (.iload_n 2, 1) := by decide +kernel
theorem dX8_laysSpoons_25 : decode cX8_laysSpoons 25 = .ok (.iconst 1, 1) := by decide +kernel
theorem dX8_laysSpoons_26 : decode cX8_laysSpoons 26 = .ok (.aload_n 0, 1) := by decide +kernel
theorem dX8_laysSpoons_27 : decode cX8_laysSpoons 27 = .ok (.invokevirtual 212, 3) := by decide +kernel
theorem dX8_laysSpoons_30 : decode cX8_laysSpoons 30 = .ok (.ishl, 1) := by decide +kernel
theorem dX8_laysSpoons_31 : decode cX8_laysSpoons 31 = .ok (.if_icmp .ge 51, 3) := by decide +kernel
theorem dX8_laysSpoons_34 : decode cX8_laysSpoons 34 = .ok (.aload_n 0, 1) := by decide +kernel
theorem dX8_laysSpoons_35 : decode cX8_laysSpoons 35 = .ok (.iload_n 1, 1) := by decide +kernel
theorem dX8_laysSpoons_36 : decode cX8_laysSpoons 36 = .ok (.iload_n 2, 1) := by decide +kernel
theorem dX8_laysSpoons_37 : decode cX8_laysSpoons 37 = .ok (.invokevirtual 361, 3) := by decide +kernel
theorem dX8_laysSpoons_40 : decode cX8_laysSpoons 40 = .ok (.ifCond .ne 6, 3) := by decide +kernel
theorem dX8_laysSpoons_43 : decode cX8_laysSpoons 43 = .ok (.goto 33, 3) := by decide +kernel
theorem dX8_laysSpoons_46 : decode cX8_laysSpoons 46 = .ok (.aload_n 0, 1) := by decide +kernel
theorem dX8_laysSpoons_47 : decode cX8_laysSpoons 47 = .ok (.dup, 1) := by decide +kernel
theorem dX8_laysSpoons_48 : decode cX8_laysSpoons 48 = .ok (.getfield 352, 3) := by decide +kernel
theorem dX8_laysSpoons_51 : decode cX8_laysSpoons 51 = .ok (.iconst 1, 1) := by decide +kernel
theorem dX8_laysSpoons_52 : decode cX8_laysSpoons 52 = .ok (.iadd, 1) := by decide +kernel
theorem dX8_laysSpoons_53 : decode cX8_laysSpoons 53 = .ok (.putfield 352, 3) := by decide +kernel
theorem dX8_laysSpoons_56 : decode cX8_laysSpoons 56 = .ok (.aload_n 0, 1) := by decide +kernel
theorem dX8_laysSpoons_57 : decode cX8_laysSpoons 57 = .ok (.dup, 1) := by decide +kernel
theorem dX8_laysSpoons_58 : decode cX8_laysSpoons 58 = .ok (.getfield 355, 3) := by decide +kernel
theorem dX8_laysSpoons_61 : decode cX8_laysSpoons 61 = .ok (.iload_n 2, 1) := by decide +kernel
theorem dX8_laysSpoons_62 : decode cX8_laysSpoons 62 = .ok (.iand, 1) := by decide +kernel
theorem dX8_laysSpoons_63 : decode cX8_laysSpoons 63 = .ok (.putfield 355, 3) := by decide +kernel
theorem dX8_laysSpoons_66 : decode cX8_laysSpoons 66 = .ok (.aload_n 0, 1) := by decide +kernel
theorem dX8_laysSpoons_67 : decode cX8_laysSpoons 67 = .ok (.dup, 1) := by decide +kernel
theorem dX8_laysSpoons_68 : decode cX8_laysSpoons 68 = .ok (.getfield 358, 3) := by decide +kernel
theorem dX8_laysSpoons_71 : decode cX8_laysSpoons 71 = .ok (.iload_n 2, 1) := by decide +kernel
theorem dX8_laysSpoons_72 : decode cX8_laysSpoons 72 = .ok (.ior, 1) := by decide +kernel
theorem dX8_laysSpoons_73 : decode cX8_laysSpoons 73 = .ok (.putfield 358, 3) := by decide +kernel
theorem dX8_laysSpoons_76 : decode cX8_laysSpoons 76 = .ok (.iinc 2 1, 3) := by decide +kernel
theorem dX8_laysSpoons_79 : decode cX8_laysSpoons 79 = .ok (.goto (-55), 3) := by decide +kernel
theorem dX8_laysSpoons_82 : decode cX8_laysSpoons 82 = .ok (.return_, 1) := by decide +kernel
theorem dX8_spoons_0 : decode cX8_spoons 0 = .ok (.aload_n 0, 1) := by decide +kernel
theorem dX8_spoons_1 : decode cX8_spoons 1 = .ok (.iconst 0, 1) := by decide +kernel
theorem dX8_spoons_2 : decode cX8_spoons 2 = .ok (.putfield 71, 3) := by decide +kernel
theorem dX8_spoons_5 : decode cX8_spoons 5 = .ok (.aload_n 0, 1) := by decide +kernel
theorem dX8_spoons_6 : decode cX8_spoons 6 = .ok (.iload_n 1, 1) := by decide +kernel
theorem dX8_spoons_7 : decode cX8_spoons 7 = .ok (.invokevirtual 364, 3) := by decide +kernel
theorem dX8_spoons_10 : decode cX8_spoons 10 = .ok (.istore_n 2, 1) := by decide +kernel
theorem dX8_spoons_11 : decode cX8_spoons 11 = .ok (.iload_n 2, 1) := by decide +kernel
theorem dX8_spoons_12 : decode cX8_spoons 12 = .ok (.ifCond .eq 5, 3) := by decide +kernel
theorem dX8_spoons_15 : decode cX8_spoons 15 = .ok (.iload_n 2, 1) := by decide +kernel
theorem dX8_spoons_16 : decode cX8_spoons 16 = .ok (.ireturn, 1) := by decide +kernel
theorem dX8_spoons_17 : decode cX8_spoons 17 = .ok (.aload_n 0, 1) := by decide +kernel
theorem dX8_spoons_18 : decode cX8_spoons 18 = .ok (.iload_n 1, 1) := by decide +kernel
theorem dX8_spoons_19 : decode cX8_spoons 19 = .ok (.invokevirtual 367, 3) := by decide +kernel
theorem dX8_spoons_22 : decode cX8_spoons 22 = .ok (.aload_n 0, 1) := by decide +kernel
theorem dX8_spoons_23 : decode cX8_spoons 23 = .ok (.getfield 352, 3) := by decide +kernel
theorem dX8_spoons_26 : decode cX8_spoons 26 = .ok (.ireturn, 1) := by decide +kernel
theorem dX8_surely_0 : decode cX8_surely 0 = .ok (.aload_n 0, 1) := by decide +kernel
theorem dX8_surely_1 : decode cX8_surely 1 = .ok (.iconst 0, 1) := by decide +kernel
theorem dX8_surely_2 : decode cX8_surely 2 = .ok (.putfield 71, 3) := by decide +kernel
theorem dX8_surely_5 : decode cX8_surely 5 = .ok (.aload_n 0, 1) := by decide +kernel
theorem dX8_surely_6 : decode cX8_surely 6 = .ok (.iload_n 1, 1) := by decide +kernel
theorem dX8_surely_7 : decode cX8_surely 7 = .ok (.invokevirtual 364, 3) := by decide +kernel
theorem dX8_surely_10 : decode cX8_surely 10 = .ok (.istore_n 2, 1) := by decide +kernel
theorem dX8_surely_11 : decode cX8_surely 11 = .ok (.iload_n 2, 1) := by decide +kernel
theorem dX8_surely_12 : decode cX8_surely 12 = .ok (.ifCond .eq 5, 3) := by decide +kernel
theorem dX8_surely_15 : decode cX8_surely 15 = .ok (.iload_n 2, 1) := by decide +kernel
theorem dX8_surely_16 : decode cX8_surely 16 = .ok (.ireturn, 1) := by decide +kernel
theorem dX8_surely_17 : decode cX8_surely 17 = .ok (.aload_n 0, 1) := by decide +kernel
theorem dX8_surely_18 : decode cX8_surely 18 = .ok (.iload_n 1, 1) := by decide +kernel
theorem dX8_surely_19 : decode cX8_surely 19 = .ok (.invokevirtual 367, 3) := by decide +kernel
theorem dX8_surely_22 : decode cX8_surely 22 = .ok (.aload_n 0, 1) := by decide +kernel
theorem dX8_surely_23 : decode cX8_surely 23 = .ok (.getfield 352, 3) := by decide +kernel
theorem dX8_surely_26 : decode cX8_surely 26 = .ok (.ifCond .ne 7, 3) := by decide +kernel
theorem dX8_surely_29 : decode cX8_surely 29 = .ok (.iconst (-1), 1) := by decide +kernel
theorem dX8_surely_30 : decode cX8_surely 30 = .ok (.goto 7, 3) := by decide +kernel
theorem dX8_surely_33 : decode cX8_surely 33 = .ok (.aload_n 0, 1) := by decide +kernel
theorem dX8_surely_34 : decode cX8_surely 34 = .ok (.getfield 355, 3) := by decide +kernel
theorem dX8_surely_37 : decode cX8_surely 37 = .ok (.ireturn, 1) := by decide +kernel
theorem dX8_never_0 : decode cX8_never 0 = .ok (.aload_n 0, 1) := by decide +kernel
theorem dX8_never_1 : decode cX8_never 1 = .ok (.iconst 0, 1) := by decide +kernel
theorem dX8_never_2 : decode cX8_never 2 = .ok (.putfield 71, 3) := by decide +kernel
theorem dX8_never_5 : decode cX8_never 5 = .ok (.aload_n 0, 1) := by decide +kernel
theorem dX8_never_6 : decode cX8_never 6 = .ok (.iload_n 1, 1) := by decide +kernel
theorem dX8_never_7 : decode cX8_never 7 = .ok (.invokevirtual 364, 3) := by decide +kernel
theorem dX8_never_10 : decode cX8_never 10 = .ok (.istore_n 2, 1) := by decide +kernel
theorem dX8_never_11 : decode cX8_never 11 = .ok (.iload_n 2, 1) := by decide +kernel
theorem dX8_never_12 : decode cX8_never 12 = .ok (.ifCond .eq 5, 3) := by decide +kernel
theorem dX8_never_15 : decode cX8_never 15 = .ok (.iload_n 2, 1) := by decide +kernel
theorem dX8_never_16 : decode cX8_never 16 = .ok (.ireturn, 1) := by decide +kernel
theorem dX8_never_17 : decode cX8_never 17 = .ok (.aload_n 0, 1) := by decide +kernel
theorem dX8_never_18 : decode cX8_never 18 = .ok (.iload_n 1, 1) := by decide +kernel
theorem dX8_never_19 : decode cX8_never 19 = .ok (.invokevirtual 367, 3) := by decide +kernel
theorem dX8_never_22 : decode cX8_never 22 = .ok (.aload_n 0, 1) := by decide +kernel
theorem dX8_never_23 : decode cX8_never 23 = .ok (.getfield 352, 3) := by decide +kernel
theorem dX8_never_26 : decode cX8_never 26 = .ok (.ifCond .ne 7, 3) := by decide +kernel
theorem dX8_never_29 : decode cX8_never 29 = .ok (.iconst (-1), 1) := by decide +kernel
theorem dX8_never_30 : decode cX8_never 30 = .ok (.goto 18, 3) := by decide +kernel
theorem dX8_never_33 : decode cX8_never 33 = .ok (.iconst 1, 1) := by decide +kernel
theorem dX8_never_34 : decode cX8_never 34 = .ok (.aload_n 0, 1) := by decide +kernel
theorem dX8_never_35 : decode cX8_never 35 = .ok (.invokevirtual 212, 3) := by decide +kernel
theorem dX8_never_38 : decode cX8_never 38 = .ok (.ishl, 1) := by decide +kernel
theorem dX8_never_39 : decode cX8_never 39 = .ok (.iconst 1, 1) := by decide +kernel
theorem dX8_never_40 : decode cX8_never 40 = .ok (.isub, 1) := by decide +kernel
theorem dX8_never_41 : decode cX8_never 41 = .ok (.aload_n 0, 1) := by decide +kernel
theorem dX8_never_42 : decode cX8_never 42 = .ok (.getfield 358, 3) := by decide +kernel
theorem dX8_never_45 : decode cX8_never 45 = .ok (.iconst (-1), 1) := by decide +kernel
theorem dX8_never_46 : decode cX8_never 46 = .ok (.ixor, 1) := by decide +kernel
theorem dX8_never_47 : decode cX8_never 47 = .ok (.iand, 1) := by decide +kernel
theorem dX8_never_48 : decode cX8_never 48 = .ok (.ireturn, 1) := by decide +kernel
theorem dX8_laysAsk_0 : decode cX8_laysAsk 0 = .ok (.aload_n 0, 1) := by decide +kernel
theorem dX8_laysAsk_1 : decode cX8_laysAsk 1 = .ok (.iload_n 1, 1) := by decide +kernel
theorem dX8_laysAsk_2 : decode cX8_laysAsk 2 = .ok (.invokevirtual 367, 3) := by decide +kernel
theorem dX8_laysAsk_5 : decode cX8_laysAsk 5 = .ok (.aload_n 0, 1) := by decide +kernel
theorem dX8_laysAsk_6 : decode cX8_laysAsk 6 = .ok (.iconst (-1), 1) := by decide +kernel
theorem dX8_laysAsk_7 : decode cX8_laysAsk 7 = .ok (.putfield 370, 3) := by decide +kernel
theorem dX8_laysAsk_10 : decode cX8_laysAsk 10 = .ok (.aload_n 0, 1) := by decide +kernel
theorem dX8_laysAsk_11 : decode cX8_laysAsk 11 = .ok (.aload_n 0, 1) := by decide +kernel
theorem dX8_laysAsk_12 : decode cX8_laysAsk 12 = .ok (.getfield 352, 3) := by decide +kernel
theorem dX8_laysAsk_15 : decode cX8_laysAsk 15 = .ok (.putfield 373, 3) := by decide +kernel
theorem dX8_laysAsk_18 : decode cX8_laysAsk 18 = .ok (.iconst 0, 1) := by decide +kernel
theorem dX8_laysAsk_19 : decode cX8_laysAsk 19 = .ok (.istore_n 2, 1) := by decide +kernel
theorem dX8_laysAsk_20 : decode cX8_laysAsk 20 = .ok (.iload_n 2, 1) := by decide +kernel
theorem dX8_laysAsk_21 : decode cX8_laysAsk 21 = .ok (.aload_n 0, 1) := by decide +kernel
theorem dX8_laysAsk_22 : decode cX8_laysAsk 22 = .ok (.invokevirtual 216, 3) := by decide +kernel
theorem dX8_laysAsk_25 : decode cX8_laysAsk 25 = .ok (.if_icmp .ge 131, 3) := by decide +kernel
theorem dX8_laysAsk_28 : decode cX8_laysAsk 28 = .ok (.iconst 0, 1) := by decide +kernel
theorem dX8_laysAsk_29 : decode cX8_laysAsk 29 = .ok (.istore_n 3, 1) := by decide +kernel
theorem dX8_laysAsk_30 : decode cX8_laysAsk 30 = .ok (.iload_n 3, 1) := by decide +kernel
theorem dX8_laysAsk_31 : decode cX8_laysAsk 31 = .ok (.bipush 6, 2) := by decide +kernel
theorem dX8_laysAsk_33 : decode cX8_laysAsk 33 = .ok (.if_icmp .ge 16, 3) := by decide +kernel
theorem dX8_laysAsk_36 : decode cX8_laysAsk 36 = .ok (.aload_n 0, 1) := by decide +kernel
theorem dX8_laysAsk_37 : decode cX8_laysAsk 37 = .ok (.getfield 68, 3) := by decide +kernel
theorem dX8_laysAsk_40 : decode cX8_laysAsk 40 = .ok (.iload_n 3, 1) := by decide +kernel
theorem dX8_laysAsk_41 : decode cX8_laysAsk 41 = .ok (.iconst 0, 1) := by decide +kernel
theorem dX8_laysAsk_42 : decode cX8_laysAsk 42 = .ok (.iastore, 1) := by decide +kernel
theorem dX8_laysAsk_43 : decode cX8_laysAsk 43 = .ok (.iinc 3 1, 3) := by decide +kernel
theorem dX8_laysAsk_46 : decode cX8_laysAsk 46 = .ok (.goto (-16), 3) := by decide +kernel
theorem dX8_laysAsk_49 : decode cX8_laysAsk 49 = .ok (.iconst 0, 1) := by decide +kernel
theorem dX8_laysAsk_50 : decode cX8_laysAsk 50 = .ok (.istore_n 3, 1) := by decide +kernel
theorem dX8_laysAsk_51 : decode cX8_laysAsk 51 = .ok (.iconst 0, 1) := by decide +kernel
theorem dX8_laysAsk_52 : decode cX8_laysAsk 52 = .ok (.istore 4, 2) := by decide +kernel
theorem dX8_laysAsk_54 : decode cX8_laysAsk 54 = .ok (.iload 4, 2) := by decide +kernel
theorem dX8_laysAsk_56 : decode cX8_laysAsk 56 = .ok (.iconst 1, 1) := by decide +kernel
theorem dX8_laysAsk_57 : decode cX8_laysAsk 57 = .ok (.aload_n 0, 1) := by decide +kernel
theorem dX8_laysAsk_58 : decode cX8_laysAsk 58 = .ok (.invokevirtual 212, 3) := by decide +kernel
theorem dX8_laysAsk_61 : decode cX8_laysAsk 61 = .ok (.ishl, 1) := by decide +kernel
theorem dX8_laysAsk_62 : decode cX8_laysAsk 62 = .ok (.if_icmp .ge 67, 3) := by decide +kernel
theorem dX8_laysAsk_65 : decode cX8_laysAsk 65 = .ok (.aload_n 0, 1) := by decide +kernel
theorem dX8_laysAsk_66 : decode cX8_laysAsk 66 = .ok (.iload_n 1, 1) := by decide +kernel
theorem dX8_laysAsk_67 : decode cX8_laysAsk 67 = .ok (.iload 4, 2) := by decide +kernel
theorem dX8_laysAsk_69 : decode cX8_laysAsk 69 = .ok (.invokevirtual 361, 3) := by decide +kernel
theorem dX8_laysAsk_72 : decode cX8_laysAsk 72 = .ok (.ifCond .ne 6, 3) := by decide +kernel
theorem dX8_laysAsk_75 : decode cX8_laysAsk 75 = .ok (.goto 48, 3) := by decide +kernel
theorem dX8_laysAsk_78 : decode cX8_laysAsk 78 = .ok (.iconst 1, 1) := by decide +kernel
theorem dX8_laysAsk_79 : decode cX8_laysAsk 79 = .ok (.aload_n 0, 1) := by decide +kernel
theorem dX8_laysAsk_80 : decode cX8_laysAsk 80 = .ok (.iload_n 2, 1) := by decide +kernel
theorem dX8_laysAsk_81 : decode cX8_laysAsk 81 = .ok (.iload 4, 2) := by decide +kernel
theorem dX8_laysAsk_83 : decode cX8_laysAsk 83 = .ok (.invokevirtual 255, 3) := by decide +kernel
theorem dX8_laysAsk_86 : decode cX8_laysAsk 86 = .ok (.iadd, 1) := by decide +kernel
theorem dX8_laysAsk_87 : decode cX8_laysAsk 87 = .ok (.istore 5, 2) := by decide +kernel
theorem dX8_laysAsk_89 : decode cX8_laysAsk 89 = .ok (.aload_n 0, 1) := by decide +kernel
theorem dX8_laysAsk_90 : decode cX8_laysAsk 90 = .ok (.getfield 68, 3) := by decide +kernel
theorem dX8_laysAsk_93 : decode cX8_laysAsk 93 = .ok (.iload 5, 2) := by decide +kernel
theorem dX8_laysAsk_95 : decode cX8_laysAsk 95 = .ok (.dup2, 1) := by decide +kernel
theorem dX8_laysAsk_96 : decode cX8_laysAsk 96 = .ok (.iaload, 1) := by decide +kernel
theorem dX8_laysAsk_97 : decode cX8_laysAsk 97 = .ok (.iconst 1, 1) := by decide +kernel
theorem dX8_laysAsk_98 : decode cX8_laysAsk 98 = .ok (.iadd, 1) := by decide +kernel
theorem dX8_laysAsk_99 : decode cX8_laysAsk 99 = .ok (.iastore, 1) := by decide +kernel
theorem dX8_laysAsk_100 : decode cX8_laysAsk 100 = .ok (.aload_n 0, 1) := by decide +kernel
theorem dX8_laysAsk_101 : decode cX8_laysAsk 101 = .ok (.getfield 68, 3) := by decide +kernel
theorem dX8_laysAsk_104 : decode cX8_laysAsk 104 = .ok (.iload 5, 2) := by decide +kernel
theorem dX8_laysAsk_106 : decode cX8_laysAsk 106 = .ok (.iaload, 1) := by decide +kernel
theorem dX8_laysAsk_107 : decode cX8_laysAsk 107 = .ok (.iload_n 3, 1) := by decide +kernel
theorem dX8_laysAsk_108 : decode cX8_laysAsk 108 = .ok (.if_icmp .le 13, 3) := by decide +kernel
theorem dX8_laysAsk_111 : decode cX8_laysAsk 111 = .ok (.aload_n 0, 1) := by decide +kernel
theorem dX8_laysAsk_112 : decode cX8_laysAsk 112 = .ok (.getfield 68, 3) := by decide +kernel
theorem dX8_laysAsk_115 : decode cX8_laysAsk 115 = .ok (.iload 5, 2) := by decide +kernel
theorem dX8_laysAsk_117 : decode cX8_laysAsk 117 = .ok (.iaload, 1) := by decide +kernel
theorem dX8_laysAsk_118 : decode cX8_laysAsk 118 = .ok (.goto 4, 3) := by decide +kernel
theorem dX8_laysAsk_121 : decode cX8_laysAsk 121 = .ok (.iload_n 3, 1) := by decide +kernel
theorem dX8_laysAsk_122 : decode cX8_laysAsk 122 = .ok (.istore_n 3, 1) := by decide +kernel
theorem dX8_laysAsk_123 : decode cX8_laysAsk 123 = .ok (.iinc 4 1, 3) := by decide +kernel
theorem dX8_laysAsk_126 : decode cX8_laysAsk 126 = .ok (.goto (-72), 3) := by decide +kernel
theorem dX8_laysAsk_129 : decode cX8_laysAsk 129 = .ok (.iload_n 3, 1) := by decide +kernel
theorem dX8_laysAsk_130 : decode cX8_laysAsk 130 = .ok (.aload_n 0, 1) := by decide +kernel
theorem dX8_laysAsk_131 : decode cX8_laysAsk 131 = .ok (.getfield 373, 3) := by decide +kernel
theorem dX8_laysAsk_134 : decode cX8_laysAsk 134 = .ok (.if_icmp .lt 6, 3) := by decide +kernel
theorem dX8_laysAsk_137 : decode cX8_laysAsk 137 = .ok (.goto 13, 3) := by decide +kernel
theorem dX8_laysAsk_140 : decode cX8_laysAsk 140 = .ok (.aload_n 0, 1) := by decide +kernel
theorem dX8_laysAsk_141 : decode cX8_laysAsk 141 = .ok (.iload_n 2, 1) := by decide +kernel
theorem dX8_laysAsk_142 : decode cX8_laysAsk 142 = .ok (.putfield 370, 3) := by decide +kernel
theorem dX8_laysAsk_145 : decode cX8_laysAsk 145 = .ok (.aload_n 0, 1) := by decide +kernel
theorem dX8_laysAsk_146 : decode cX8_laysAsk 146 = .ok (.iload_n 3, 1) := by decide +kernel
theorem dX8_laysAsk_147 : decode cX8_laysAsk 147 = .ok (.putfield 373, 3) := by decide +kernel
theorem dX8_laysAsk_150 : decode cX8_laysAsk 150 = .ok (.iinc 2 1, 3) := by decide +kernel
theorem dX8_laysAsk_153 : decode cX8_laysAsk 153 = .ok (.goto (-133), 3) := by decide +kernel
theorem dX8_laysAsk_156 : decode cX8_laysAsk 156 = .ok (.return_, 1) := by decide +kernel
theorem dX8_ask_0 : decode cX8_ask 0 = .ok (.aload_n 0, 1) := by decide +kernel
theorem dX8_ask_1 : decode cX8_ask 1 = .ok (.iconst 0, 1) := by decide +kernel
theorem dX8_ask_2 : decode cX8_ask 2 = .ok (.putfield 71, 3) := by decide +kernel
theorem dX8_ask_5 : decode cX8_ask 5 = .ok (.aload_n 0, 1) := by decide +kernel
theorem dX8_ask_6 : decode cX8_ask 6 = .ok (.iload_n 1, 1) := by decide +kernel
theorem dX8_ask_7 : decode cX8_ask 7 = .ok (.invokevirtual 364, 3) := by decide +kernel
theorem dX8_ask_10 : decode cX8_ask 10 = .ok (.istore_n 2, 1) := by decide +kernel
theorem dX8_ask_11 : decode cX8_ask 11 = .ok (.iload_n 2, 1) := by decide +kernel
theorem dX8_ask_12 : decode cX8_ask 12 = .ok (.ifCond .eq 5, 3) := by decide +kernel
theorem dX8_ask_15 : decode cX8_ask 15 = .ok (.iload_n 2, 1) := by decide +kernel
theorem dX8_ask_16 : decode cX8_ask 16 = .ok (.ireturn, 1) := by decide +kernel
theorem dX8_ask_17 : decode cX8_ask 17 = .ok (.aload_n 0, 1) := by decide +kernel
theorem dX8_ask_18 : decode cX8_ask 18 = .ok (.iload_n 1, 1) := by decide +kernel
theorem dX8_ask_19 : decode cX8_ask 19 = .ok (.invokevirtual 376, 3) := by decide +kernel
theorem dX8_ask_22 : decode cX8_ask 22 = .ok (.aload_n 0, 1) := by decide +kernel
theorem dX8_ask_23 : decode cX8_ask 23 = .ok (.getfield 370, 3) := by decide +kernel
theorem dX8_ask_26 : decode cX8_ask 26 = .ok (.ireturn, 1) := by decide +kernel
theorem dX8_leaves_0 : decode cX8_leaves 0 = .ok (.aload_n 0, 1) := by decide +kernel
theorem dX8_leaves_1 : decode cX8_leaves 1 = .ok (.iconst 0, 1) := by decide +kernel
theorem dX8_leaves_2 : decode cX8_leaves 2 = .ok (.putfield 71, 3) := by decide +kernel
theorem dX8_leaves_5 : decode cX8_leaves 5 = .ok (.aload_n 0, 1) := by decide +kernel
theorem dX8_leaves_6 : decode cX8_leaves 6 = .ok (.iload_n 1, 1) := by decide +kernel
theorem dX8_leaves_7 : decode cX8_leaves 7 = .ok (.invokevirtual 364, 3) := by decide +kernel
theorem dX8_leaves_10 : decode cX8_leaves 10 = .ok (.istore_n 2, 1) := by decide +kernel
theorem dX8_leaves_11 : decode cX8_leaves 11 = .ok (.iload_n 2, 1) := by decide +kernel
theorem dX8_leaves_12 : decode cX8_leaves 12 = .ok (.ifCond .eq 5, 3) := by decide +kernel
theorem dX8_leaves_15 : decode cX8_leaves 15 = .ok (.iload_n 2, 1) := by decide +kernel
theorem dX8_leaves_16 : decode cX8_leaves 16 = .ok (.ireturn, 1) := by decide +kernel
theorem dX8_leaves_17 : decode cX8_leaves 17 = .ok (.aload_n 0, 1) := by decide +kernel
theorem dX8_leaves_18 : decode cX8_leaves 18 = .ok (.iload_n 1, 1) := by decide +kernel
theorem dX8_leaves_19 : decode cX8_leaves 19 = .ok (.invokevirtual 376, 3) := by decide +kernel
theorem dX8_leaves_22 : decode cX8_leaves 22 = .ok (.aload_n 0, 1) := by decide +kernel
theorem dX8_leaves_23 : decode cX8_leaves 23 = .ok (.getfield 373, 3) := by decide +kernel
theorem dX8_leaves_26 : decode cX8_leaves 26 = .ok (.ireturn, 1) := by decide +kernel
theorem dX8_tellsAll_0 : decode cX8_tellsAll 0 = .ok (.iconst 0, 1) := by decide +kernel
theorem dX8_tellsAll_1 : decode cX8_tellsAll 1 = .ok (.istore_n 2, 1) := by decide +kernel
theorem dX8_tellsAll_2 : decode cX8_tellsAll 2 = .ok (.iload_n 2, 1) := by decide +kernel
theorem dX8_tellsAll_3 : decode cX8_tellsAll 3 = .ok (.iconst 1, 1) := by decide +kernel
theorem dX8_tellsAll_4 : decode cX8_tellsAll 4 = .ok (.aload_n 0, 1) := by decide +kernel
theorem dX8_tellsAll_5 : decode cX8_tellsAll 5 = .ok (.invokevirtual 212, 3) := by decide +kernel
theorem dX8_tellsAll_8 : decode cX8_tellsAll 8 = .ok (.ishl, 1) := by decide +kernel
theorem dX8_tellsAll_9 : decode cX8_tellsAll 9 = .ok (.if_icmp .ge 86, 3) := by decide +kernel
theorem dX8_tellsAll_12 : decode cX8_tellsAll 12 = .ok (.iconst 0, 1) := by decide +kernel
theorem dX8_tellsAll_13 : decode cX8_tellsAll 13 = .ok (.istore_n 3, 1) := by decide +kernel
theorem dX8_tellsAll_14 : decode cX8_tellsAll 14 = .ok (.iload_n 3, 1) := by decide +kernel
theorem dX8_tellsAll_15 : decode cX8_tellsAll 15 = .ok (.iload_n 2, 1) := by decide +kernel
theorem dX8_tellsAll_16 : decode cX8_tellsAll 16 = .ok (.if_icmp .ge 73, 3) := by decide +kernel
theorem dX8_tellsAll_19 : decode cX8_tellsAll 19 = .ok (.iconst 0, 1) := by decide +kernel
theorem dX8_tellsAll_20 : decode cX8_tellsAll 20 = .ok (.istore 4, 2) := by decide +kernel
theorem dX8_tellsAll_22 : decode cX8_tellsAll 22 = .ok (.iconst 0, 1) := by decide +kernel
theorem dX8_tellsAll_23 : decode cX8_tellsAll 23 = .ok (.istore 5, 2) := by decide +kernel
theorem dX8_tellsAll_25 : decode cX8_tellsAll 25 = .ok (.iload 5, 2) := by decide +kernel
theorem dX8_tellsAll_27 : decode cX8_tellsAll 27 = .ok (.aload_n 0, 1) := by decide +kernel
theorem dX8_tellsAll_28 : decode cX8_tellsAll 28 = .ok (.invokevirtual 216, 3) := by decide +kernel
theorem dX8_tellsAll_31 : decode cX8_tellsAll 31 = .ok (.if_icmp .ge 45, 3) := by decide +kernel
theorem dX8_tellsAll_34 : decode cX8_tellsAll 34 = .ok (.iload 4, 2) := by decide +kernel
theorem dX8_tellsAll_36 : decode cX8_tellsAll 36 = .ok (.iload_n 1, 1) := by decide +kernel
theorem dX8_tellsAll_37 : decode cX8_tellsAll 37 = .ok (.iload 5, 2) := by decide +kernel
theorem dX8_tellsAll_39 : decode cX8_tellsAll 39 = .ok (.invokestatic 248, 3) := by decide +kernel
theorem dX8_tellsAll_42 : decode cX8_tellsAll 42 = .ok (.ifCond .eq 24, 3) := by decide +kernel
theorem dX8_tellsAll_45 : decode cX8_tellsAll 45 = .ok (.aload_n 0, 1) := by decide +kernel
theorem dX8_tellsAll_46 : decode cX8_tellsAll 46 = .ok (.iload 5, 2) := by decide +kernel
theorem dX8_tellsAll_48 : decode cX8_tellsAll 48 = .ok (.iload_n 2, 1) := by decide +kernel
theorem dX8_tellsAll_49 : decode cX8_tellsAll 49 = .ok (.invokevirtual 255, 3) := by decide +kernel
theorem dX8_tellsAll_52 : decode cX8_tellsAll 52 = .ok (.aload_n 0, 1) := by decide +kernel
theorem dX8_tellsAll_53 : decode cX8_tellsAll 53 = .ok (.iload 5, 2) := by decide +kernel
theorem dX8_tellsAll_55 : decode cX8_tellsAll 55 = .ok (.iload_n 3, 1) := by decide +kernel
theorem dX8_tellsAll_56 : decode cX8_tellsAll 56 = .ok (.invokevirtual 255, 3) := by decide +kernel
theorem dX8_tellsAll_59 : decode cX8_tellsAll 59 = .ok (.if_icmp .eq 7, 3) := by decide +kernel
theorem dX8_tellsAll_62 : decode cX8_tellsAll 62 = .ok (.iconst 1, 1) := by decide +kernel
theorem dX8_tellsAll_63 : decode cX8_tellsAll 63 = .ok (.goto 4, 3) := by decide +kernel
theorem dX8_tellsAll_66 : decode cX8_tellsAll 66 = .ok (.iconst 0, 1) := by decide +kernel
theorem dX8_tellsAll_67 : decode cX8_tellsAll 67 = .ok (.ior, 1) := by decide +kernel
theorem dX8_tellsAll_68 : decode cX8_tellsAll 68 = .ok (.istore 4, 2) := by decide +kernel
theorem dX8_tellsAll_70 : decode cX8_tellsAll 70 = .ok (.iinc 5 1, 3) := by decide +kernel
theorem dX8_tellsAll_73 : decode cX8_tellsAll 73 = .ok (.goto (-48), 3) := by decide +kernel
theorem dX8_tellsAll_76 : decode cX8_tellsAll 76 = .ok (.iload 4, 2) := by decide +kernel
theorem dX8_tellsAll_78 : decode cX8_tellsAll 78 = .ok (.ifCond .ne 5, 3) := by decide +kernel
theorem dX8_tellsAll_81 : decode cX8_tellsAll 81 = .ok (.iconst 0, 1) := by decide +kernel
theorem dX8_tellsAll_82 : decode cX8_tellsAll 82 = .ok (.ireturn, 1) := by decide +kernel
theorem dX8_tellsAll_83 : decode cX8_tellsAll 83 = .ok (.iinc 3 1, 3) := by decide +kernel
theorem dX8_tellsAll_86 : decode cX8_tellsAll 86 = .ok (.goto (-72), 3) := by decide +kernel
theorem dX8_tellsAll_89 : decode cX8_tellsAll 89 = .ok (.iinc 2 1, 3) := by decide +kernel
theorem dX8_tellsAll_92 : decode cX8_tellsAll 92 = .ok (.goto (-90), 3) := by decide +kernel
theorem dX8_tellsAll_95 : decode cX8_tellsAll 95 = .ok (.iconst 1, 1) := by decide +kernel
theorem dX8_tellsAll_96 : decode cX8_tellsAll 96 = .ok (.ireturn, 1) := by decide +kernel
theorem dX8_judges_0 : decode cX8_judges 0 = .ok (.aload_n 0, 1) := by decide +kernel
theorem dX8_judges_1 : decode cX8_judges 1 = .ok (.iconst 0, 1) := by decide +kernel
theorem dX8_judges_2 : decode cX8_judges 2 = .ok (.putfield 71, 3) := by decide +kernel
theorem dX8_judges_5 : decode cX8_judges 5 = .ok (.aload_n 0, 1) := by decide +kernel
theorem dX8_judges_6 : decode cX8_judges 6 = .ok (.invokevirtual 209, 3) := by decide +kernel
theorem dX8_judges_9 : decode cX8_judges 9 = .ok (.ifCond .ne 6, 3) := by decide +kernel
theorem dX8_judges_12 : decode cX8_judges 12 = .ok (.bipush (-2), 2) := by decide +kernel
theorem dX8_judges_14 : decode cX8_judges 14 = .ok (.ireturn, 1) := by decide +kernel
theorem dX8_judges_15 : decode cX8_judges 15 = .ok (.iconst 0, 1) := by decide +kernel
theorem dX8_judges_16 : decode cX8_judges 16 = .ok (.istore_n 1, 1) := by decide +kernel
theorem dX8_judges_17 : decode cX8_judges 17 = .ok (.iload_n 1, 1) := by decide +kernel
theorem dX8_judges_18 : decode cX8_judges 18 = .ok (.bipush 30, 2) := by decide +kernel
theorem dX8_judges_20 : decode cX8_judges 20 = .ok (.if_icmp .ge 21, 3) := by decide +kernel
theorem dX8_judges_23 : decode cX8_judges 23 = .ok (.aload_n 0, 1) := by decide +kernel
theorem dX8_judges_24 : decode cX8_judges 24 = .ok (.getfield 47, 3) := by decide +kernel
theorem dX8_judges_27 : decode cX8_judges 27 = .ok (.iload_n 1, 1) := by decide +kernel
theorem dX8_judges_28 : decode cX8_judges 28 = .ok (.aload_n 0, 1) := by decide +kernel
theorem dX8_judges_29 : decode cX8_judges 29 = .ok (.getfield 37, 3) := by decide +kernel
theorem dX8_judges_32 : decode cX8_judges 32 = .ok (.iload_n 1, 1) := by decide +kernel
theorem dX8_judges_33 : decode cX8_judges 33 = .ok (.iaload, 1) := by decide +kernel
theorem dX8_judges_34 : decode cX8_judges 34 = .ok (.iastore, 1) := by decide +kernel
theorem dX8_judges_35 : decode cX8_judges 35 = .ok (.iinc 1 1, 3) := by decide +kernel
theorem dX8_judges_38 : decode cX8_judges 38 = .ok (.goto (-21), 3) := by decide +kernel
theorem dX8_judges_41 : decode cX8_judges 41 = .ok (.iconst (-1), 1) := by decide +kernel
theorem dX8_judges_42 : decode cX8_judges 42 = .ok (.istore_n 1, 1) := by decide +kernel
theorem dX8_judges_43 : decode cX8_judges 43 = .ok (.iconst 0, 1) := by decide +kernel
theorem dX8_judges_44 : decode cX8_judges 44 = .ok (.istore_n 2, 1) := by decide +kernel
theorem dX8_judges_45 : decode cX8_judges 45 = .ok (.iload_n 2, 1) := by decide +kernel
theorem dX8_judges_46 : decode cX8_judges 46 = .ok (.iconst 1, 1) := by decide +kernel
theorem dX8_judges_47 : decode cX8_judges 47 = .ok (.aload_n 0, 1) := by decide +kernel
theorem dX8_judges_48 : decode cX8_judges 48 = .ok (.invokevirtual 216, 3) := by decide +kernel
theorem dX8_judges_51 : decode cX8_judges 51 = .ok (.ishl, 1) := by decide +kernel
theorem dX8_judges_52 : decode cX8_judges 52 = .ok (.if_icmp .ge 35, 3) := by decide +kernel
theorem dX8_judges_55 : decode cX8_judges 55 = .ok (.iload_n 1, 1) := by decide +kernel
theorem dX8_judges_56 : decode cX8_judges 56 = .ok (.iconst (-1), 1) := by decide +kernel
theorem dX8_judges_57 : decode cX8_judges 57 = .ok (.if_icmp .eq 14, 3) := by decide +kernel
theorem dX8_judges_60 : decode cX8_judges 60 = .ok (.iload_n 2, 1) := by decide +kernel
theorem dX8_judges_61 : decode cX8_judges 61 = .ok (.invokestatic 294, 3) := by decide +kernel
theorem dX8_judges_64 : decode cX8_judges 64 = .ok (.iload_n 1, 1) := by decide +kernel
theorem dX8_judges_65 : decode cX8_judges 65 = .ok (.invokestatic 294, 3) := by decide +kernel
theorem dX8_judges_68 : decode cX8_judges 68 = .ok (.if_icmp .ge 13, 3) := by decide +kernel
theorem dX8_judges_71 : decode cX8_judges 71 = .ok (.aload_n 0, 1) := by decide +kernel
theorem dX8_judges_72 : decode cX8_judges 72 = .ok (.iload_n 2, 1) := by decide +kernel
theorem dX8_judges_73 : decode cX8_judges 73 = .ok (.invokevirtual 379, 3) := by decide +kernel
theorem dX8_judges_76 : decode cX8_judges 76 = .ok (.ifCond .eq 5, 3) := by decide +kernel
theorem dX8_judges_79 : decode cX8_judges 79 = .ok (.iload_n 2, 1) := by decide +kernel
theorem dX8_judges_80 : decode cX8_judges 80 = .ok (.istore_n 1, 1) := by decide +kernel
theorem dX8_judges_81 : decode cX8_judges 81 = .ok (.iinc 2 1, 3) := by decide +kernel
theorem dX8_judges_84 : decode cX8_judges 84 = .ok (.goto (-39), 3) := by decide +kernel
theorem dX8_judges_87 : decode cX8_judges 87 = .ok (.iload_n 1, 1) := by decide +kernel
theorem dX8_judges_88 : decode cX8_judges 88 = .ok (.ireturn, 1) := by decide +kernel
theorem dX8_tens_0 : decode cX8_tens 0 = .ok (.iload_n 0, 1) := by decide +kernel
theorem dX8_tens_1 : decode cX8_tens 1 = .ok (.ifCond .ne 7, 3) := by decide +kernel
theorem dX8_tens_4 : decode cX8_tens 4 = .ok (.iconst 1, 1) := by decide +kernel
theorem dX8_tens_5 : decode cX8_tens 5 = .ok (.goto 12, 3) := by decide +kernel
theorem dX8_tens_8 : decode cX8_tens 8 = .ok (.bipush 10, 2) := by decide +kernel
theorem dX8_tens_10 : decode cX8_tens 10 = .ok (.iload_n 0, 1) := by decide +kernel
theorem dX8_tens_11 : decode cX8_tens 11 = .ok (.iconst 1, 1) := by decide +kernel
theorem dX8_tens_12 : decode cX8_tens 12 = .ok (.isub, 1) := by decide +kernel
theorem dX8_tens_13 : decode cX8_tens 13 = .ok (.invokestatic 382, 3) := by decide +kernel
theorem dX8_tens_16 : decode cX8_tens 16 = .ok (.imul, 1) := by decide +kernel
theorem dX8_tens_17 : decode cX8_tens 17 = .ok (.ireturn, 1) := by decide +kernel
theorem dX8_common_0 : decode cX8_common 0 = .ok (.iload_n 1, 1) := by decide +kernel
theorem dX8_common_1 : decode cX8_common 1 = .ok (.ifCond .ne 7, 3) := by decide +kernel
theorem dX8_common_4 : decode cX8_common 4 = .ok (.iload_n 0, 1) := by decide +kernel
theorem dX8_common_5 : decode cX8_common 5 = .ok (.goto 10, 3) := by decide +kernel
theorem dX8_common_8 : decode cX8_common 8 = .ok (.iload_n 1, 1) := by decide +kernel
theorem dX8_common_9 : decode cX8_common 9 = .ok (.iload_n 0, 1) := by decide +kernel
theorem dX8_common_10 : decode cX8_common 10 = .ok (.iload_n 1, 1) := by decide +kernel
theorem dX8_common_11 : decode cX8_common 11 = .ok (.irem, 1) := by decide +kernel
theorem dX8_common_12 : decode cX8_common 12 = .ok (.invokestatic 385, 3) := by decide +kernel
theorem dX8_common_15 : decode cX8_common 15 = .ok (.ireturn, 1) := by decide +kernel
theorem dX8_part_0 : decode cX8_part 0 = .ok (.iload_n 2, 1) := by decide +kernel
theorem dX8_part_1 : decode cX8_part 1 = .ok (.ifCond .ne 7, 3) := by decide +kernel
theorem dX8_part_4 : decode cX8_part 4 = .ok (.iload_n 0, 1) := by decide +kernel
theorem dX8_part_5 : decode cX8_part 5 = .ok (.goto 4, 3) := by decide +kernel
theorem dX8_part_8 : decode cX8_part 8 = .ok (.iload_n 1, 1) := by decide +kernel
theorem dX8_part_9 : decode cX8_part 9 = .ok (.iload_n 0, 1) := by decide +kernel
theorem dX8_part_10 : decode cX8_part 10 = .ok (.iload_n 1, 1) := by decide +kernel
theorem dX8_part_11 : decode cX8_part 11 = .ok (.invokestatic 385, 3) := by decide +kernel
theorem dX8_part_14 : decode cX8_part 14 = .ok (.idiv, 1) := by decide +kernel
theorem dX8_part_15 : decode cX8_part 15 = .ok (.ireturn, 1) := by decide +kernel
theorem dX8_bareWeight_0 : decode cX8_bareWeight 0 = .ok (.aload_n 0, 1) := by decide +kernel
theorem dX8_bareWeight_1 : decode cX8_bareWeight 1 = .ok (.iload_n 1, 1) := by decide +kernel
theorem dX8_bareWeight_2 : decode cX8_bareWeight 2 = .ok (.invokevirtual 242, 3) := by decide +kernel
theorem dX8_bareWeight_5 : decode cX8_bareWeight 5 = .ok (.istore_n 2, 1) := by decide +kernel
theorem dX8_bareWeight_6 : decode cX8_bareWeight 6 = .ok (.iload_n 2, 1) := by decide +kernel
theorem dX8_bareWeight_7 : decode cX8_bareWeight 7 = .ok (.iconst (-1), 1) := by decide +kernel
theorem dX8_bareWeight_8 : decode cX8_bareWeight 8 = .ok (.if_icmp .ne 20, 3) := by decide +kernel
theorem dX8_bareWeight_11 : decode cX8_bareWeight 11 = .ok (.aload_n 0, 1) := by decide +kernel
theorem dX8_bareWeight_12 : decode cX8_bareWeight 12 = .ok (.getfield 34, 3) := by decide +kernel
theorem dX8_bareWeight_15 : decode cX8_bareWeight 15 = .ok (.iconst 1, 1) := by decide +kernel
theorem dX8_bareWeight_16 : decode cX8_bareWeight 16 = .ok (.iaload, 1) := by decide +kernel
theorem dX8_bareWeight_17 : decode cX8_bareWeight 17 = .ok (.iconst 1, 1) := by decide +kernel
theorem dX8_bareWeight_18 : decode cX8_bareWeight 18 = .ok (.if_icmp .ne 7, 3) := by decide +kernel
theorem dX8_bareWeight_21 : decode cX8_bareWeight 21 = .ok (.iconst 0, 1) := by decide +kernel
theorem dX8_bareWeight_22 : decode cX8_bareWeight 22 = .ok (.goto 5, 3) := by decide +kernel
theorem dX8_bareWeight_25 : decode cX8_bareWeight 25 = .ok (.ldc 121, 2) := by decide +kernel
theorem dX8_bareWeight_27 : decode cX8_bareWeight 27 = .ok (.ireturn, 1) := by decide +kernel
theorem dX8_bareWeight_28 : decode cX8_bareWeight 28 = .ok (.iconst 1, 1) := by decide +kernel
theorem dX8_bareWeight_29 : decode cX8_bareWeight 29 = .ok (.istore_n 3, 1) := by decide +kernel
theorem dX8_bareWeight_30 : decode cX8_bareWeight 30 = .ok (.aload_n 0, 1) := by decide +kernel
theorem dX8_bareWeight_31 : decode cX8_bareWeight 31 = .ok (.iload_n 2, 1) := by decide +kernel
theorem dX8_bareWeight_32 : decode cX8_bareWeight 32 = .ok (.invokevirtual 245, 3) := by decide +kernel
theorem dX8_bareWeight_35 : decode cX8_bareWeight 35 = .ok (.invokestatic 294, 3) := by decide +kernel
theorem dX8_bareWeight_38 : decode cX8_bareWeight 38 = .ok (.istore 4, 2) := by decide +kernel
theorem dX8_bareWeight_40 : decode cX8_bareWeight 40 = .ok (.iconst 0, 1) := by decide +kernel
theorem dX8_bareWeight_41 : decode cX8_bareWeight 41 = .ok (.istore 5, 2) := by decide +kernel
theorem dX8_bareWeight_43 : decode cX8_bareWeight 43 = .ok (.iload 5, 2) := by decide +kernel
theorem dX8_bareWeight_45 : decode cX8_bareWeight 45 = .ok (.iload 4, 2) := by decide +kernel
theorem dX8_bareWeight_47 : decode cX8_bareWeight 47 = .ok (.if_icmp .ge 18, 3) := by decide +kernel
theorem dX8_bareWeight_50 : decode cX8_bareWeight 50 = .ok (.iload_n 3, 1) := by decide +kernel
theorem dX8_bareWeight_51 : decode cX8_bareWeight 51 = .ok (.aload_n 0, 1) := by decide +kernel
theorem dX8_bareWeight_52 : decode cX8_bareWeight 52 = .ok (.getfield 34, 3) := by decide +kernel
theorem dX8_bareWeight_55 : decode cX8_bareWeight 55 = .ok (.iconst 3, 1) := by decide +kernel
theorem dX8_bareWeight_56 : decode cX8_bareWeight 56 = .ok (.iaload, 1) := by decide +kernel
theorem dX8_bareWeight_57 : decode cX8_bareWeight 57 = .ok (.imul, 1) := by decide +kernel
theorem dX8_bareWeight_58 : decode cX8_bareWeight 58 = .ok (.istore_n 3, 1) := by decide +kernel
theorem dX8_bareWeight_59 : decode cX8_bareWeight 59 = .ok (.iinc 5 1, 3) := by decide +kernel
theorem dX8_bareWeight_62 : decode cX8_bareWeight 62 = .ok (.goto (-19), 3) := by decide +kernel
theorem dX8_bareWeight_65 : decode cX8_bareWeight 65 = .ok (.iload_n 3, 1) := by decide +kernel
theorem dX8_bareWeight_66 : decode cX8_bareWeight 66 = .ok (.iconst 5, 1) := by decide +kernel
theorem dX8_bareWeight_67 : decode cX8_bareWeight 67 = .ok (.iload 4, 2) := by decide +kernel
theorem dX8_bareWeight_69 : decode cX8_bareWeight 69 = .ok (.isub, 1) := by decide +kernel
theorem dX8_bareWeight_70 : decode cX8_bareWeight 70 = .ok (.invokestatic 382, 3) := by decide +kernel
theorem dX8_bareWeight_73 : decode cX8_bareWeight 73 = .ok (.imul, 1) := by decide +kernel
theorem dX8_bareWeight_74 : decode cX8_bareWeight 74 = .ok (.ireturn, 1) := by decide +kernel
theorem dX8_chance_0 : decode cX8_chance 0 = .ok (.aload_n 0, 1) := by decide +kernel
theorem dX8_chance_1 : decode cX8_chance 1 = .ok (.iconst 0, 1) := by decide +kernel
theorem dX8_chance_2 : decode cX8_chance 2 = .ok (.putfield 71, 3) := by decide +kernel
theorem dX8_chance_5 : decode cX8_chance 5 = .ok (.aload_n 0, 1) := by decide +kernel
theorem dX8_chance_6 : decode cX8_chance 6 = .ok (.iload_n 1, 1) := by decide +kernel
theorem dX8_chance_7 : decode cX8_chance 7 = .ok (.i2l, 1) := by decide +kernel
theorem dX8_chance_8 : decode cX8_chance 8 = .ok (.invokevirtual 219, 3) := by decide +kernel
theorem dX8_chance_11 : decode cX8_chance 11 = .ok (.ifCond .eq 10, 3) := by decide +kernel
theorem dX8_chance_14 : decode cX8_chance 14 = .ok (.iload_n 2, 1) := by decide +kernel
theorem dX8_chance_15 : decode cX8_chance 15 = .ok (.invokestatic 329, 3) := by decide +kernel
theorem dX8_chance_18 : decode cX8_chance 18 = .ok (.ifCond .ne 6, 3) := by decide +kernel
theorem dX8_chance_21 : decode cX8_chance 21 = .ok (.bipush (-2), 2) := by decide +kernel
theorem dX8_chance_23 : decode cX8_chance 23 = .ok (.ireturn, 1) := by decide +kernel
theorem dX8_chance_24 : decode cX8_chance 24 = .ok (.aload_n 0, 1) := by decide +kernel
theorem dX8_chance_25 : decode cX8_chance 25 = .ok (.invokevirtual 267, 3) := by decide +kernel
theorem dX8_chance_28 : decode cX8_chance 28 = .ok (.aload_n 0, 1) := by decide +kernel
theorem dX8_chance_29 : decode cX8_chance 29 = .ok (.iload_n 1, 1) := by decide +kernel
theorem dX8_chance_30 : decode cX8_chance 30 = .ok (.invokevirtual 388, 3) := by decide +kernel
theorem dX8_chance_33 : decode cX8_chance 33 = .ok (.ldc 121, 2) := by decide +kernel
theorem dX8_chance_35 : decode cX8_chance 35 = .ok (.iload_n 2, 1) := by decide +kernel
theorem dX8_chance_36 : decode cX8_chance 36 = .ok (.invokestatic 391, 3) := by decide +kernel
theorem dX8_chance_39 : decode cX8_chance 39 = .ok (.ireturn, 1) := by decide +kernel
theorem dX8_mean_0 : decode cX8_mean 0 = .ok (.aload_n 0, 1) := by decide +kernel
theorem dX8_mean_1 : decode cX8_mean 1 = .ok (.iconst 0, 1) := by decide +kernel
theorem dX8_mean_2 : decode cX8_mean 2 = .ok (.putfield 71, 3) := by decide +kernel
theorem dX8_mean_5 : decode cX8_mean 5 = .ok (.aload_n 0, 1) := by decide +kernel
theorem dX8_mean_6 : decode cX8_mean 6 = .ok (.invokevirtual 209, 3) := by decide +kernel
theorem dX8_mean_9 : decode cX8_mean 9 = .ok (.ifCond .eq 10, 3) := by decide +kernel
theorem dX8_mean_12 : decode cX8_mean 12 = .ok (.iload_n 1, 1) := by decide +kernel
theorem dX8_mean_13 : decode cX8_mean 13 = .ok (.invokestatic 329, 3) := by decide +kernel
theorem dX8_mean_16 : decode cX8_mean 16 = .ok (.ifCond .ne 6, 3) := by decide +kernel
theorem dX8_mean_19 : decode cX8_mean 19 = .ok (.bipush (-2), 2) := by decide +kernel
theorem dX8_mean_21 : decode cX8_mean 21 = .ok (.ireturn, 1) := by decide +kernel
theorem dX8_mean_22 : decode cX8_mean 22 = .ok (.aload_n 0, 1) := by decide +kernel
theorem dX8_mean_23 : decode cX8_mean 23 = .ok (.invokevirtual 267, 3) := by decide +kernel
theorem dX8_mean_26 : decode cX8_mean 26 = .ok (.iconst 0, 1) := by decide +kernel
theorem dX8_mean_27 : decode cX8_mean 27 = .ok (.istore_n 2, 1) := by decide +kernel
theorem dX8_mean_28 : decode cX8_mean 28 = .ok (.iconst 0, 1) := by decide +kernel
theorem dX8_mean_29 : decode cX8_mean 29 = .ok (.istore_n 3, 1) := by decide +kernel
theorem dX8_mean_30 : decode cX8_mean 30 = .ok (.iload_n 3, 1) := by decide +kernel
theorem dX8_mean_31 : decode cX8_mean 31 = .ok (.aload_n 0, 1) := by decide +kernel
theorem dX8_mean_32 : decode cX8_mean 32 = .ok (.invokevirtual 216, 3) := by decide +kernel
theorem dX8_mean_35 : decode cX8_mean 35 = .ok (.if_icmp .ge 17, 3) := by decide +kernel
theorem dX8_mean_38 : decode cX8_mean 38 = .ok (.iload_n 2, 1) := by decide +kernel
theorem dX8_mean_39 : decode cX8_mean 39 = .ok (.aload_n 0, 1) := by decide +kernel
theorem dX8_mean_40 : decode cX8_mean 40 = .ok (.iload_n 3, 1) := by decide +kernel
theorem dX8_mean_41 : decode cX8_mean 41 = .ok (.invokevirtual 388, 3) := by decide +kernel
theorem dX8_mean_44 : decode cX8_mean 44 = .ok (.iadd, 1) := by decide +kernel
theorem dX8_mean_45 : decode cX8_mean 45 = .ok (.istore_n 2, 1) := by decide +kernel
theorem dX8_mean_46 : decode cX8_mean 46 = .ok (.iinc 3 1, 3) := by decide +kernel
theorem dX8_mean_49 : decode cX8_mean 49 = .ok (.goto (-19), 3) := by decide +kernel
theorem dX8_mean_52 : decode cX8_mean 52 = .ok (.iload_n 2, 1) := by decide +kernel
theorem dX8_mean_53 : decode cX8_mean 53 = .ok (.ldc 121, 2) := by decide +kernel
theorem dX8_mean_55 : decode cX8_mean 55 = .ok (.iload_n 1, 1) := by decide +kernel
theorem dX8_mean_56 : decode cX8_mean 56 = .ok (.invokestatic 391, 3) := by decide +kernel
theorem dX8_mean_59 : decode cX8_mean 59 = .ok (.ireturn, 1) := by decide +kernel
theorem dX8_likely_0 : decode cX8_likely 0 = .ok (.aload_n 0, 1) := by decide +kernel
theorem dX8_likely_1 : decode cX8_likely 1 = .ok (.iconst 0, 1) := by decide +kernel
theorem dX8_likely_2 : decode cX8_likely 2 = .ok (.putfield 71, 3) := by decide +kernel
theorem dX8_likely_5 : decode cX8_likely 5 = .ok (.aload_n 0, 1) := by decide +kernel
theorem dX8_likely_6 : decode cX8_likely 6 = .ok (.iload_n 1, 1) := by decide +kernel
theorem dX8_likely_7 : decode cX8_likely 7 = .ok (.i2l, 1) := by decide +kernel
theorem dX8_likely_8 : decode cX8_likely 8 = .ok (.invokevirtual 219, 3) := by decide +kernel
theorem dX8_likely_11 : decode cX8_likely 11 = .ok (.ifCond .ne 6, 3) := by decide +kernel
theorem dX8_likely_14 : decode cX8_likely 14 = .ok (.bipush (-2), 2) := by decide +kernel
theorem dX8_likely_16 : decode cX8_likely 16 = .ok (.ireturn, 1) := by decide +kernel
theorem dX8_likely_17 : decode cX8_likely 17 = .ok (.aload_n 0, 1) := by decide +kernel
theorem dX8_likely_18 : decode cX8_likely 18 = .ok (.invokevirtual 267, 3) := by decide +kernel
theorem dX8_likely_21 : decode cX8_likely 21 = .ok (.aload_n 0, 1) := by decide +kernel
theorem dX8_likely_22 : decode cX8_likely 22 = .ok (.iload_n 1, 1) := by decide +kernel
theorem dX8_likely_23 : decode cX8_likely 23 = .ok (.invokevirtual 242, 3) := by decide +kernel
theorem dX8_likely_26 : decode cX8_likely 26 = .ok (.istore_n 2, 1) := by decide +kernel
theorem dX8_likely_27 : decode cX8_likely 27 = .ok (.iload_n 2, 1) := by decide +kernel
theorem dX8_likely_28 : decode cX8_likely 28 = .ok (.iconst (-1), 1) := by decide +kernel
theorem dX8_likely_29 : decode cX8_likely 29 = .ok (.if_icmp .ne 10, 3) := by decide +kernel
theorem dX8_likely_32 : decode cX8_likely 32 = .ok (.aload_n 0, 1) := by decide +kernel
theorem dX8_likely_33 : decode cX8_likely 33 = .ok (.getfield 62, 3) := by decide +kernel
theorem dX8_likely_36 : decode cX8_likely 36 = .ok (.iload_n 1, 1) := by decide +kernel
theorem dX8_likely_37 : decode cX8_likely 37 = .ok (.iaload, 1) := by decide +kernel
theorem dX8_likely_38 : decode cX8_likely 38 = .ok (.ireturn, 1) := by decide +kernel
theorem dX8_likely_39 : decode cX8_likely 39 = .ok (.iconst 0, 1) := by decide +kernel
theorem dX8_likely_40 : decode cX8_likely 40 = .ok (.istore_n 3, 1) := by decide +kernel
theorem dX8_likely_41 : decode cX8_likely 41 = .ok (.iload_n 3, 1) := by decide +kernel
theorem dX8_likely_42 : decode cX8_likely 42 = .ok (.bipush 6, 2) := by decide +kernel
theorem dX8_likely_44 : decode cX8_likely 44 = .ok (.if_icmp .ge 16, 3) := by decide +kernel
theorem dX8_likely_47 : decode cX8_likely 47 = .ok (.aload_n 0, 1) := by decide +kernel
theorem dX8_likely_48 : decode cX8_likely 48 = .ok (.getfield 68, 3) := by decide +kernel
theorem dX8_likely_51 : decode cX8_likely 51 = .ok (.iload_n 3, 1) := by decide +kernel
theorem dX8_likely_52 : decode cX8_likely 52 = .ok (.iconst 0, 1) := by decide +kernel
theorem dX8_likely_53 : decode cX8_likely 53 = .ok (.iastore, 1) := by decide +kernel
theorem dX8_likely_54 : decode cX8_likely 54 = .ok (.iinc 3 1, 3) := by decide +kernel
theorem dX8_likely_57 : decode cX8_likely 57 = .ok (.goto (-16), 3) := by decide +kernel
theorem dX8_likely_60 : decode cX8_likely 60 = .ok (.aload_n 0, 1) := by decide +kernel
theorem dX8_likely_61 : decode cX8_likely 61 = .ok (.iload_n 2, 1) := by decide +kernel
theorem dX8_likely_62 : decode cX8_likely 62 = .ok (.invokevirtual 245, 3) := by decide +kernel
theorem dX8_likely_65 : decode cX8_likely 65 = .ok (.istore_n 3, 1) := by decide +kernel
theorem dX8_likely_66 : decode cX8_likely 66 = .ok (.iconst 0, 1) := by decide +kernel
theorem dX8_likely_67 : decode cX8_likely 67 = .ok (.istore 4, 2) := by decide +kernel
theorem dX8_likely_69 : decode cX8_likely 69 = .ok (.iload 4, 2) := by decide +kernel
theorem dX8_likely_71 : decode cX8_likely 71 = .ok (.iconst 1, 1) := by decide +kernel
theorem dX8_likely_72 : decode cX8_likely 72 = .ok (.aload_n 0, 1) := by decide +kernel
theorem dX8_likely_73 : decode cX8_likely 73 = .ok (.invokevirtual 212, 3) := by decide +kernel
theorem dX8_likely_76 : decode cX8_likely 76 = .ok (.ishl, 1) := by decide +kernel
theorem dX8_likely_77 : decode cX8_likely 77 = .ok (.if_icmp .ge 103, 3) := by decide +kernel
theorem dX8_likely_80 : decode cX8_likely 80 = .ok (.iload 4, 2) := by decide +kernel
theorem dX8_likely_82 : decode cX8_likely 82 = .ok (.iload_n 3, 1) := by decide +kernel
theorem dX8_likely_83 : decode cX8_likely 83 = .ok (.iconst (-1), 1) := by decide +kernel
theorem dX8_likely_84 : decode cX8_likely 84 = .ok (.ixor, 1) := by decide +kernel
theorem dX8_likely_85 : decode cX8_likely 85 = .ok (.iand, 1) := by decide +kernel
theorem dX8_likely_86 : decode cX8_likely 86 = .ok (.ifCond .eq 6, 3) := by decide +kernel
theorem dX8_likely_89 : decode cX8_likely 89 = .ok (.goto 85, 3) := by decide +kernel
theorem dX8_likely_92 : decode cX8_likely 92 = .ok (.iconst 1, 1) := by decide +kernel
theorem dX8_likely_93 : decode cX8_likely 93 = .ok (.istore 5, 2) := by decide +kernel
theorem dX8_likely_95 : decode cX8_likely 95 = .ok (.iconst 0, 1) := by decide +kernel
theorem dX8_likely_96 : decode cX8_likely 96 = .ok (.istore 6, 2) := by decide +kernel
theorem dX8_likely_98 : decode cX8_likely 98 = .ok (.iload 6, 2) := by decide +kernel
theorem dX8_likely_100 : decode cX8_likely 100 = .ok (.aload_n 0, 1) := by decide +kernel
theorem dX8_likely_101 : decode cX8_likely 101 = .ok (.invokevirtual 212, 3) := by decide +kernel
theorem dX8_likely_104 : decode cX8_likely 104 = .ok (.if_icmp .ge 51, 3) := by decide +kernel
theorem dX8_likely_107 : decode cX8_likely 107 = .ok (.iload_n 3, 1) := by decide +kernel
theorem dX8_likely_108 : decode cX8_likely 108 = .ok (.iload 6, 2) := by decide +kernel
theorem dX8_likely_110 : decode cX8_likely 110 = .ok (.invokestatic 248, 3) := by decide +kernel
theorem dX8_likely_113 : decode cX8_likely 113 = .ok (.ifCond .eq 36, 3) := by decide +kernel
theorem dX8_likely_116 : decode cX8_likely 116 = .ok (.iload 5, 2) := by decide +kernel
theorem dX8_likely_118 : decode cX8_likely 118 = .ok (.iload 4, 2) := by decide +kernel
theorem dX8_likely_120 : decode cX8_likely 120 = .ok (.iload 6, 2) := by decide +kernel
theorem dX8_likely_122 : decode cX8_likely 122 = .ok (.invokestatic 248, 3) := by decide +kernel
theorem dX8_likely_125 : decode cX8_likely 125 = .ok (.ifCond .eq 15, 3) := by decide +kernel
theorem dX8_likely_128 : decode cX8_likely 128 = .ok (.bipush 10, 2) := by decide +kernel
theorem dX8_likely_130 : decode cX8_likely 130 = .ok (.aload_n 0, 1) := by decide +kernel
theorem dX8_likely_131 : decode cX8_likely 131 = .ok (.getfield 34, 3) := by decide +kernel
theorem dX8_likely_134 : decode cX8_likely 134 = .ok (.iconst 3, 1) := by decide +kernel
theorem dX8_likely_135 : decode cX8_likely 135 = .ok (.iaload, 1) := by decide +kernel
theorem dX8_likely_136 : decode cX8_likely 136 = .ok (.isub, 1) := by decide +kernel
theorem dX8_likely_137 : decode cX8_likely 137 = .ok (.goto 9, 3) := by decide +kernel
theorem dX8_likely_140 : decode cX8_likely 140 = .ok (.aload_n 0, 1) := by decide +kernel
theorem dX8_likely_141 : decode cX8_likely 141 = .ok (.getfield 34, 3) := by decide +kernel
theorem dX8_likely_144 : decode cX8_likely 144 = .ok (.iconst 3, 1) := by decide +kernel
theorem dX8_likely_145 : decode cX8_likely 145 = .ok (.iaload, 1) := by decide +kernel
theorem dX8_likely_146 : decode cX8_likely 146 = .ok (.imul, 1) := by decide +kernel
theorem dX8_likely_147 : decode cX8_likely 147 = .ok (.istore 5, 2) := by decide +kernel
theorem dX8_likely_149 : decode cX8_likely 149 = .ok (.iinc 6 1, 3) := by decide +kernel
theorem dX8_likely_152 : decode cX8_likely 152 = .ok (.goto (-54), 3) := by decide +kernel
theorem dX8_likely_155 : decode cX8_likely 155 = .ok (.aload_n 0, 1) := by decide +kernel
theorem dX8_likely_156 : decode cX8_likely 156 = .ok (.getfield 68, 3) := by decide +kernel
theorem dX8_likely_159 : decode cX8_likely 159 = .ok (.iconst 1, 1) := by decide +kernel
theorem dX8_likely_160 : decode cX8_likely 160 = .ok (.aload_n 0, 1) := by decide +kernel
theorem dX8_likely_161 : decode cX8_likely 161 = .ok (.iload_n 1, 1) := by decide +kernel
theorem dX8_likely_162 : decode cX8_likely 162 = .ok (.iload 4, 2) := by decide +kernel
theorem dX8_likely_164 : decode cX8_likely 164 = .ok (.invokevirtual 255, 3) := by decide +kernel
theorem dX8_likely_167 : decode cX8_likely 167 = .ok (.iadd, 1) := by decide +kernel
theorem dX8_likely_168 : decode cX8_likely 168 = .ok (.dup2, 1) := by decide +kernel
theorem dX8_likely_169 : decode cX8_likely 169 = .ok (.iaload, 1) := by decide +kernel
theorem dX8_likely_170 : decode cX8_likely 170 = .ok (.iload 5, 2) := by decide +kernel
theorem dX8_likely_172 : decode cX8_likely 172 = .ok (.iadd, 1) := by decide +kernel
theorem dX8_likely_173 : decode cX8_likely 173 = .ok (.iastore, 1) := by decide +kernel
theorem dX8_likely_174 : decode cX8_likely 174 = .ok (.iinc 4 1, 3) := by decide +kernel
theorem dX8_likely_177 : decode cX8_likely 177 = .ok (.goto (-108), 3) := by decide +kernel
theorem dX8_likely_180 : decode cX8_likely 180 = .ok (.iconst (-1), 1) := by decide +kernel
theorem dX8_likely_181 : decode cX8_likely 181 = .ok (.istore 4, 2) := by decide +kernel
theorem dX8_likely_183 : decode cX8_likely 183 = .ok (.iconst 0, 1) := by decide +kernel
theorem dX8_likely_184 : decode cX8_likely 184 = .ok (.istore 5, 2) := by decide +kernel
theorem dX8_likely_186 : decode cX8_likely 186 = .ok (.iconst 0, 1) := by decide +kernel
theorem dX8_likely_187 : decode cX8_likely 187 = .ok (.istore 6, 2) := by decide +kernel
theorem dX8_likely_189 : decode cX8_likely 189 = .ok (.iload 6, 2) := by decide +kernel
theorem dX8_likely_191 : decode cX8_likely 191 = .ok (.aload_n 0, 1) := by decide +kernel
theorem dX8_likely_192 : decode cX8_likely 192 = .ok (.invokevirtual 212, 3) := by decide +kernel
theorem dX8_likely_195 : decode cX8_likely 195 = .ok (.if_icmp .ge 41, 3) := by decide +kernel
theorem dX8_likely_198 : decode cX8_likely 198 = .ok (.aload_n 0, 1) := by decide +kernel
theorem dX8_likely_199 : decode cX8_likely 199 = .ok (.getfield 68, 3) := by decide +kernel
theorem dX8_likely_202 : decode cX8_likely 202 = .ok (.iconst 1, 1) := by decide +kernel
theorem dX8_likely_203 : decode cX8_likely 203 = .ok (.iload 6, 2) := by decide +kernel
theorem dX8_likely_205 : decode cX8_likely 205 = .ok (.iadd, 1) := by decide +kernel
theorem dX8_likely_206 : decode cX8_likely 206 = .ok (.iaload, 1) := by decide +kernel
theorem dX8_likely_207 : decode cX8_likely 207 = .ok (.iload 5, 2) := by decide +kernel
theorem dX8_likely_209 : decode cX8_likely 209 = .ok (.if_icmp .gt 6, 3) := by decide +kernel
theorem dX8_likely_212 : decode cX8_likely 212 = .ok (.goto 18, 3) := by decide +kernel
theorem dX8_likely_215 : decode cX8_likely 215 = .ok (.iload 6, 2) := by decide +kernel
theorem dX8_likely_217 : decode cX8_likely 217 = .ok (.istore 4, 2) := by decide +kernel
theorem dX8_likely_219 : decode cX8_likely 219 = .ok (.aload_n 0, 1) := by decide +kernel
theorem dX8_likely_220 : decode cX8_likely 220 = .ok (.getfield 68, 3) := by decide +kernel
theorem dX8_likely_223 : decode cX8_likely 223 = .ok (.iconst 1, 1) := by decide +kernel
theorem dX8_likely_224 : decode cX8_likely 224 = .ok (.iload 6, 2) := by decide +kernel
theorem dX8_likely_226 : decode cX8_likely 226 = .ok (.iadd, 1) := by decide +kernel
theorem dX8_likely_227 : decode cX8_likely 227 = .ok (.iaload, 1) := by decide +kernel
theorem dX8_likely_228 : decode cX8_likely 228 = .ok (.istore 5, 2) := by decide +kernel
theorem dX8_likely_230 : decode cX8_likely 230 = .ok (.iinc 6 1, 3) := by decide +kernel
theorem dX8_likely_233 : decode cX8_likely 233 = .ok (.goto (-44), 3) := by decide +kernel
theorem dX8_likely_236 : decode cX8_likely 236 = .ok (.iload 4, 2) := by decide +kernel
theorem dX8_likely_238 : decode cX8_likely 238 = .ok (.ireturn, 1) := by decide +kernel
theorem dX8_draws_0 : decode cX8_draws 0 = .ok (.aload_n 0, 1) := by decide +kernel
theorem dX8_draws_1 : decode cX8_draws 1 = .ok (.invokevirtual 264, 3) := by decide +kernel
theorem dX8_draws_4 : decode cX8_draws 4 = .ok (.lload_n 1, 1) := by decide +kernel
theorem dX8_draws_5 : decode cX8_draws 5 = .ok (.lstore_n 3, 1) := by decide +kernel
theorem dX8_draws_6 : decode cX8_draws 6 = .ok (.iconst 0, 1) := by decide +kernel
theorem dX8_draws_7 : decode cX8_draws 7 = .ok (.istore 5, 2) := by decide +kernel
theorem dX8_draws_9 : decode cX8_draws 9 = .ok (.iconst 0, 1) := by decide +kernel
theorem dX8_draws_10 : decode cX8_draws 10 = .ok (.istore 6, 2) := by decide +kernel
theorem dX8_draws_12 : decode cX8_draws 12 = .ok (.iload 6, 2) := by decide +kernel
theorem dX8_draws_14 : decode cX8_draws 14 = .ok (.aload_n 0, 1) := by decide +kernel
theorem dX8_draws_15 : decode cX8_draws 15 = .ok (.invokevirtual 216, 3) := by decide +kernel
theorem dX8_draws_18 : decode cX8_draws 18 = .ok (.if_icmp .ge 102, 3) := by decide +kernel
theorem dX8_draws_21 : decode cX8_draws 21 = .ok (.aload_n 0, 1) := by decide +kernel
theorem dX8_draws_22 : decode cX8_draws 22 = .ok (.iload 6, 2) := by decide +kernel
theorem dX8_draws_24 : decode cX8_draws 24 = .ok (.invokevirtual 245, 3) := by decide +kernel
theorem dX8_draws_27 : decode cX8_draws 27 = .ok (.istore 7, 2) := by decide +kernel
theorem dX8_draws_29 : decode cX8_draws 29 = .ok (.iconst 0, 1) := by decide +kernel
theorem dX8_draws_30 : decode cX8_draws 30 = .ok (.istore 8, 2) := by decide +kernel
theorem dX8_draws_32 : decode cX8_draws 32 = .ok (.iload 8, 2) := by decide +kernel
theorem dX8_draws_34 : decode cX8_draws 34 = .ok (.aload_n 0, 1) := by decide +kernel
theorem dX8_draws_35 : decode cX8_draws 35 = .ok (.invokevirtual 212, 3) := by decide +kernel
theorem dX8_draws_38 : decode cX8_draws 38 = .ok (.if_icmp .ge 76, 3) := by decide +kernel
theorem dX8_draws_41 : decode cX8_draws 41 = .ok (.iload 7, 2) := by decide +kernel
theorem dX8_draws_43 : decode cX8_draws 43 = .ok (.iload 8, 2) := by decide +kernel
theorem dX8_draws_45 : decode cX8_draws 45 = .ok (.invokestatic 248, 3) := by decide +kernel
theorem dX8_draws_48 : decode cX8_draws 48 = .ok (.ifCond .ne 6, 3) := by decide +kernel
theorem dX8_draws_51 : decode cX8_draws 51 = .ok (.goto 57, 3) := by decide +kernel
theorem dX8_draws_54 : decode cX8_draws 54 = .ok (.ldc2_w 394, 3) := by decide +kernel
theorem dX8_draws_57 : decode cX8_draws 57 = .ok (.lload_n 3, 1) := by decide +kernel
theorem dX8_draws_58 : decode cX8_draws 58 = .ok (.lmul, 1) := by decide +kernel
theorem dX8_draws_59 : decode cX8_draws 59 = .ok (.ldc2_w 396, 3) := by decide +kernel
theorem dX8_draws_62 : decode cX8_draws 62 = .ok (.ladd, 1) := by decide +kernel
theorem dX8_draws_63 : decode cX8_draws 63 = .ok (.ldc2_w 398, 3) := by decide +kernel
theorem dX8_draws_66 : decode cX8_draws 66 = .ok (.lrem, 1) := by decide +kernel
theorem dX8_draws_67 : decode cX8_draws 67 = .ok (.lstore_n 3, 1) := by decide +kernel
theorem dX8_draws_68 : decode cX8_draws 68 = .ok (.lload_n 3, 1) := by decide +kernel
theorem dX8_draws_69 : decode cX8_draws 69 = .ok (.ldc2_w 400, 3) := by decide +kernel
theorem dX8_draws_72 : decode cX8_draws 72 = .ok (.ldiv, 1) := by decide +kernel
theorem dX8_draws_73 : decode cX8_draws 73 = .ok (.ldc2_w 402, 3) := by decide +kernel
theorem dX8_draws_76 : decode cX8_draws 76 = .ok (.lrem, 1) := by decide +kernel
theorem dX8_draws_77 : decode cX8_draws 77 = .ok (.aload_n 0, 1) := by decide +kernel
theorem dX8_draws_78 : decode cX8_draws 78 = .ok (.getfield 34, 3) := by decide +kernel
theorem dX8_draws_81 : decode cX8_draws 81 = .ok (.iconst 3, 1) := by decide +kernel
theorem dX8_draws_82 : decode cX8_draws 82 = .ok (.iaload, 1) := by decide +kernel
theorem dX8_draws_83 : decode cX8_draws 83 = .ok (.i2l, 1) := by decide +kernel
theorem dX8_draws_84 : decode cX8_draws 84 = .ok (.lcmp, 1) := by decide +kernel
theorem dX8_draws_85 : decode cX8_draws 85 = .ok (.ifCond .lt 6, 3) := by decide +kernel
theorem dX8_draws_88 : decode cX8_draws 88 = .ok (.goto 20, 3) := by decide +kernel
theorem dX8_draws_91 : decode cX8_draws 91 = .ok (.aload_n 0, 1) := by decide +kernel
theorem dX8_draws_92 : decode cX8_draws 92 = .ok (.getfield 59, 3) := by decide +kernel
theorem dX8_draws_95 : decode cX8_draws 95 = .ok (.iload 6, 2) := by decide +kernel
theorem dX8_draws_97 : decode cX8_draws 97 = .ok (.dup2, 1) := by decide +kernel
theorem dX8_draws_98 : decode cX8_draws 98 = .ok (.iaload, 1) := by decide +kernel
theorem dX8_draws_99 : decode cX8_draws 99 = .ok (.iconst 1, 1) := by decide +kernel
theorem dX8_draws_100 : decode cX8_draws 100 = .ok (.iload 8, 2) := by decide +kernel
theorem dX8_draws_102 : decode cX8_draws 102 = .ok (.ishl, 1) := by decide +kernel
theorem dX8_draws_103 : decode cX8_draws 103 = .ok (.ior, 1) := by decide +kernel
theorem dX8_draws_104 : decode cX8_draws 104 = .ok (.iastore, 1) := by decide +kernel
theorem dX8_draws_105 : decode cX8_draws 105 = .ok (.iinc 5 1, 3) := by decide +kernel
theorem dX8_draws_108 : decode cX8_draws 108 = .ok (.iinc 8 1, 3) := by decide +kernel
theorem dX8_draws_111 : decode cX8_draws 111 = .ok (.goto (-79), 3) := by decide +kernel
theorem dX8_draws_114 : decode cX8_draws 114 = .ok (.iinc 6 1, 3) := by decide +kernel
theorem dX8_draws_117 : decode cX8_draws 117 = .ok (.goto (-105), 3) := by decide +kernel
theorem dX8_draws_120 : decode cX8_draws 120 = .ok (.aload_n 0, 1) := by decide +kernel
theorem dX8_draws_121 : decode cX8_draws 121 = .ok (.invokevirtual 261, 3) := by decide +kernel
theorem dX8_draws_124 : decode cX8_draws 124 = .ok (.iload 5, 2) := by decide +kernel
theorem dX8_draws_126 : decode cX8_draws 126 = .ok (.ireturn, 1) := by decide +kernel
theorem dX8_isSeed_0 : decode cX8_isSeed 0 = .ok (.iload_n 0, 1) := by decide +kernel
theorem dX8_isSeed_1 : decode cX8_isSeed 1 = .ok (.i2l, 1) := by decide +kernel
theorem dX8_isSeed_2 : decode cX8_isSeed 2 = .ok (.lconst 0, 1) := by decide +kernel
theorem dX8_isSeed_3 : decode cX8_isSeed 3 = .ok (.ldc2_w 404, 3) := by decide +kernel
theorem dX8_isSeed_6 : decode cX8_isSeed 6 = .ok (.invokestatic 76, 3) := by decide +kernel
theorem dX8_isSeed_9 : decode cX8_isSeed 9 = .ok (.ireturn, 1) := by decide +kernel
theorem dX8_drawn_0 : decode cX8_drawn 0 = .ok (.aload_n 0, 1) := by decide +kernel
theorem dX8_drawn_1 : decode cX8_drawn 1 = .ok (.iconst 0, 1) := by decide +kernel
theorem dX8_drawn_2 : decode cX8_drawn 2 = .ok (.putfield 71, 3) := by decide +kernel
theorem dX8_drawn_5 : decode cX8_drawn 5 = .ok (.aload_n 0, 1) := by decide +kernel
theorem dX8_drawn_6 : decode cX8_drawn 6 = .ok (.invokevirtual 209, 3) := by decide +kernel
theorem dX8_drawn_9 : decode cX8_drawn 9 = .ok (.ifCond .eq 17, 3) := by decide +kernel
theorem dX8_drawn_12 : decode cX8_drawn 12 = .ok (.iload_n 1, 1) := by decide +kernel
theorem dX8_drawn_13 : decode cX8_drawn 13 = .ok (.invokestatic 406, 3) := by decide +kernel
theorem dX8_drawn_16 : decode cX8_drawn 16 = .ok (.ifCond .eq 10, 3) := by decide +kernel
theorem dX8_drawn_19 : decode cX8_drawn 19 = .ok (.iload_n 2, 1) := by decide +kernel
theorem dX8_drawn_20 : decode cX8_drawn 20 = .ok (.invokestatic 329, 3) := by decide +kernel
theorem dX8_drawn_23 : decode cX8_drawn 23 = .ok (.ifCond .ne 6, 3) := by decide +kernel
theorem dX8_drawn_26 : decode cX8_drawn 26 = .ok (.bipush (-2), 2) := by decide +kernel
theorem dX8_drawn_28 : decode cX8_drawn 28 = .ok (.ireturn, 1) := by decide +kernel
theorem dX8_drawn_29 : decode cX8_drawn 29 = .ok (.aload_n 0, 1) := by decide +kernel
theorem dX8_drawn_30 : decode cX8_drawn 30 = .ok (.iload_n 1, 1) := by decide +kernel
theorem dX8_drawn_31 : decode cX8_drawn 31 = .ok (.i2l, 1) := by decide +kernel
theorem dX8_drawn_32 : decode cX8_drawn 32 = .ok (.invokevirtual 409, 3) := by decide +kernel
theorem dX8_drawn_35 : decode cX8_drawn 35 = .ok (.istore_n 3, 1) := by decide +kernel
theorem dX8_drawn_36 : decode cX8_drawn 36 = .ok (.iload_n 2, 1) := by decide +kernel
theorem dX8_drawn_37 : decode cX8_drawn 37 = .ok (.ifCond .ne 10, 3) := by decide +kernel
theorem dX8_drawn_40 : decode cX8_drawn 40 = .ok (.aload_n 0, 1) := by decide +kernel
theorem dX8_drawn_41 : decode cX8_drawn 41 = .ok (.invokevirtual 282, 3) := by decide +kernel
theorem dX8_drawn_44 : decode cX8_drawn 44 = .ok (.goto 4, 3) := by decide +kernel
theorem dX8_drawn_47 : decode cX8_drawn 47 = .ok (.iload_n 3, 1) := by decide +kernel
theorem dX8_drawn_48 : decode cX8_drawn 48 = .ok (.ireturn, 1) := by decide +kernel
theorem dX8_luck_0 : decode cX8_luck 0 = .ok (.aload_n 0, 1) := by decide +kernel
theorem dX8_luck_1 : decode cX8_luck 1 = .ok (.iconst 0, 1) := by decide +kernel
theorem dX8_luck_2 : decode cX8_luck 2 = .ok (.putfield 71, 3) := by decide +kernel
theorem dX8_luck_5 : decode cX8_luck 5 = .ok (.iload_n 1, 1) := by decide +kernel
theorem dX8_luck_6 : decode cX8_luck 6 = .ok (.invokestatic 406, 3) := by decide +kernel
theorem dX8_luck_9 : decode cX8_luck 9 = .ok (.ifCond .eq 24, 3) := by decide +kernel
theorem dX8_luck_12 : decode cX8_luck 12 = .ok (.iload_n 2, 1) := by decide +kernel
theorem dX8_luck_13 : decode cX8_luck 13 = .ok (.i2l, 1) := by decide +kernel
theorem dX8_luck_14 : decode cX8_luck 14 = .ok (.lconst 1, 1) := by decide +kernel
theorem dX8_luck_15 : decode cX8_luck 15 = .ok (.ldc2_w 413, 3) := by decide +kernel
theorem dX8_luck_18 : decode cX8_luck 18 = .ok (.invokestatic 76, 3) := by decide +kernel
theorem dX8_luck_21 : decode cX8_luck 21 = .ok (.ifCond .eq 12, 3) := by decide +kernel
theorem dX8_luck_24 : decode cX8_luck 24 = .ok (.aload_n 0, 1) := by decide +kernel
theorem dX8_luck_25 : decode cX8_luck 25 = .ok (.iload_n 3, 1) := by decide +kernel
theorem dX8_luck_26 : decode cX8_luck 26 = .ok (.i2l, 1) := by decide +kernel
theorem dX8_luck_27 : decode cX8_luck 27 = .ok (.invokevirtual 219, 3) := by decide +kernel
theorem dX8_luck_30 : decode cX8_luck 30 = .ok (.ifCond .ne 6, 3) := by decide +kernel
theorem dX8_luck_33 : decode cX8_luck 33 = .ok (.bipush (-2), 2) := by decide +kernel
theorem dX8_luck_35 : decode cX8_luck 35 = .ok (.ireturn, 1) := by decide +kernel
theorem dX8_luck_36 : decode cX8_luck 36 = .ok (.iconst 0, 1) := by decide +kernel
theorem dX8_luck_37 : decode cX8_luck 37 = .ok (.istore 4, 2) := by decide +kernel
theorem dX8_luck_39 : decode cX8_luck 39 = .ok (.iconst 0, 1) := by decide +kernel
theorem dX8_luck_40 : decode cX8_luck 40 = .ok (.istore 5, 2) := by decide +kernel
theorem dX8_luck_42 : decode cX8_luck 42 = .ok (.iload 5, 2) := by decide +kernel
theorem dX8_luck_44 : decode cX8_luck 44 = .ok (.iload_n 2, 1) := by decide +kernel
theorem dX8_luck_45 : decode cX8_luck 45 = .ok (.if_icmp .ge 40, 3) := by decide +kernel
theorem dX8_luck_48 : decode cX8_luck 48 = .ok (.aload_n 0, 1) := by decide +kernel
theorem dX8_luck_49 : decode cX8_luck 49 = .ok (.iload_n 1, 1) := by decide +kernel
theorem dX8_luck_50 : decode cX8_luck 50 = .ok (.i2l, 1) := by decide +kernel
theorem dX8_luck_51 : decode cX8_luck 51 = .ok (.iload 5, 2) := by decide +kernel
theorem dX8_luck_53 : decode cX8_luck 53 = .ok (.i2l, 1) := by decide +kernel
theorem dX8_luck_54 : decode cX8_luck 54 = .ok (.ladd, 1) := by decide +kernel
theorem dX8_luck_55 : decode cX8_luck 55 = .ok (.invokevirtual 409, 3) := by decide +kernel
theorem dX8_luck_58 : decode cX8_luck 58 = .ok (.pop, 1) := by decide +kernel
theorem dX8_luck_59 : decode cX8_luck 59 = .ok (.iload 4, 2) := by decide +kernel
theorem dX8_luck_61 : decode cX8_luck 61 = .ok (.aload_n 0, 1) := by decide +kernel
theorem dX8_luck_62 : decode cX8_luck 62 = .ok (.getfield 62, 3) := by decide +kernel
theorem dX8_luck_65 : decode cX8_luck 65 = .ok (.iload_n 3, 1) := by decide +kernel
theorem dX8_luck_66 : decode cX8_luck 66 = .ok (.iaload, 1) := by decide +kernel
theorem dX8_luck_67 : decode cX8_luck 67 = .ok (.iconst (-1), 1) := by decide +kernel
theorem dX8_luck_68 : decode cX8_luck 68 = .ok (.if_icmp .ne 7, 3) := by decide +kernel
theorem dX8_luck_71 : decode cX8_luck 71 = .ok (.iconst 1, 1) := by decide +kernel
theorem dX8_luck_72 : decode cX8_luck 72 = .ok (.goto 4, 3) := by decide +kernel
theorem dX8_luck_75 : decode cX8_luck 75 = .ok (.iconst 0, 1) := by decide +kernel
theorem dX8_luck_76 : decode cX8_luck 76 = .ok (.iadd, 1) := by decide +kernel
theorem dX8_luck_77 : decode cX8_luck 77 = .ok (.istore 4, 2) := by decide +kernel
theorem dX8_luck_79 : decode cX8_luck 79 = .ok (.iinc 5 1, 3) := by decide +kernel
theorem dX8_luck_82 : decode cX8_luck 82 = .ok (.goto (-40), 3) := by decide +kernel
theorem dX8_luck_85 : decode cX8_luck 85 = .ok (.iload 4, 2) := by decide +kernel
theorem dX8_luck_87 : decode cX8_luck 87 = .ok (.ireturn, 1) := by decide +kernel
theorem dX8_does_0 : decode cX8_does 0 = .ok (.iconst 4, 1) := by decide +kernel
theorem dX8_does_1 : decode cX8_does 1 = .ok (.aload_n 0, 1) := by decide +kernel
theorem dX8_does_2 : decode cX8_does 2 = .ok (.getfield 34, 3) := by decide +kernel
theorem dX8_does_5 : decode cX8_does 5 = .ok (.iconst 5, 1) := by decide +kernel
theorem dX8_does_6 : decode cX8_does 6 = .ok (.iaload, 1) := by decide +kernel
theorem dX8_does_7 : decode cX8_does 7 = .ok (.imul, 1) := by decide +kernel
theorem dX8_does_8 : decode cX8_does 8 = .ok (.istore 5, 2) := by decide +kernel
theorem dX8_does_10 : decode cX8_does 10 = .ok (.aload_n 0, 1) := by decide +kernel
theorem dX8_does_11 : decode cX8_does 11 = .ok (.getfield 40, 3) := by decide +kernel
theorem dX8_does_14 : decode cX8_does 14 = .ok (.iload 5, 2) := by decide +kernel
theorem dX8_does_16 : decode cX8_does 16 = .ok (.iload_n 1, 1) := by decide +kernel
theorem dX8_does_17 : decode cX8_does 17 = .ok (.iastore, 1) := by decide +kernel
theorem dX8_does_18 : decode cX8_does 18 = .ok (.aload_n 0, 1) := by decide +kernel
theorem dX8_does_19 : decode cX8_does 19 = .ok (.getfield 40, 3) := by decide +kernel
theorem dX8_does_22 : decode cX8_does 22 = .ok (.iload 5, 2) := by decide +kernel
theorem dX8_does_24 : decode cX8_does 24 = .ok (.iconst 1, 1) := by decide +kernel
theorem dX8_does_25 : decode cX8_does 25 = .ok (.iadd, 1) := by decide +kernel
theorem dX8_does_26 : decode cX8_does 26 = .ok (.iload_n 2, 1) := by decide +kernel
theorem dX8_does_27 : decode cX8_does 27 = .ok (.iastore, 1) := by decide +kernel
theorem dX8_does_28 : decode cX8_does 28 = .ok (.aload_n 0, 1) := by decide +kernel
theorem dX8_does_29 : decode cX8_does 29 = .ok (.getfield 40, 3) := by decide +kernel
theorem dX8_does_32 : decode cX8_does 32 = .ok (.iload 5, 2) := by decide +kernel
theorem dX8_does_34 : decode cX8_does 34 = .ok (.iconst 2, 1) := by decide +kernel
theorem dX8_does_35 : decode cX8_does 35 = .ok (.iadd, 1) := by decide +kernel
theorem dX8_does_36 : decode cX8_does 36 = .ok (.iload_n 3, 1) := by decide +kernel
theorem dX8_does_37 : decode cX8_does 37 = .ok (.iastore, 1) := by decide +kernel
theorem dX8_does_38 : decode cX8_does 38 = .ok (.aload_n 0, 1) := by decide +kernel
theorem dX8_does_39 : decode cX8_does 39 = .ok (.getfield 40, 3) := by decide +kernel
theorem dX8_does_42 : decode cX8_does 42 = .ok (.iload 5, 2) := by decide +kernel
theorem dX8_does_44 : decode cX8_does 44 = .ok (.iconst 3, 1) := by decide +kernel
theorem dX8_does_45 : decode cX8_does 45 = .ok (.iadd, 1) := by decide +kernel
theorem dX8_does_46 : decode cX8_does 46 = .ok (.iload 4, 2) := by decide +kernel
theorem dX8_does_48 : decode cX8_does 48 = .ok (.iastore, 1) := by decide +kernel
theorem dX8_does_49 : decode cX8_does 49 = .ok (.aload_n 0, 1) := by decide +kernel
theorem dX8_does_50 : decode cX8_does 50 = .ok (.getfield 34, 3) := by decide +kernel
theorem dX8_does_53 : decode cX8_does 53 = .ok (.iconst 5, 1) := by decide +kernel
theorem dX8_does_54 : decode cX8_does 54 = .ok (.dup2, 1) := by decide +kernel
theorem dX8_does_55 : decode cX8_does 55 = .ok (.iaload, 1) := by decide +kernel
theorem dX8_does_56 : decode cX8_does 56 = .ok (.iconst 1, 1) := by decide +kernel
theorem dX8_does_57 : decode cX8_does 57 = .ok (.iadd, 1) := by decide +kernel
theorem dX8_does_58 : decode cX8_does 58 = .ok (.iastore, 1) := by decide +kernel
theorem dX8_does_59 : decode cX8_does 59 = .ok (.return_, 1) := by decide +kernel
theorem dX8_swap_0 : decode cX8_swap 0 = .ok (.aload_n 0, 1) := by decide +kernel
theorem dX8_swap_1 : decode cX8_swap 1 = .ok (.iconst 0, 1) := by decide +kernel
theorem dX8_swap_2 : decode cX8_swap 2 = .ok (.putfield 71, 3) := by decide +kernel
theorem dX8_swap_5 : decode cX8_swap 5 = .ok (.aload_n 0, 1) := by decide +kernel
theorem dX8_swap_6 : decode cX8_swap 6 = .ok (.iload_n 1, 1) := by decide +kernel
theorem dX8_swap_7 : decode cX8_swap 7 = .ok (.i2l, 1) := by decide +kernel
theorem dX8_swap_8 : decode cX8_swap 8 = .ok (.invokevirtual 219, 3) := by decide +kernel
theorem dX8_swap_11 : decode cX8_swap 11 = .ok (.ifCond .eq 19, 3) := by decide +kernel
theorem dX8_swap_14 : decode cX8_swap 14 = .ok (.aload_n 0, 1) := by decide +kernel
theorem dX8_swap_15 : decode cX8_swap 15 = .ok (.iload_n 2, 1) := by decide +kernel
theorem dX8_swap_16 : decode cX8_swap 16 = .ok (.i2l, 1) := by decide +kernel
theorem dX8_swap_17 : decode cX8_swap 17 = .ok (.invokevirtual 219, 3) := by decide +kernel
theorem dX8_swap_20 : decode cX8_swap 20 = .ok (.ifCond .eq 10, 3) := by decide +kernel
theorem dX8_swap_23 : decode cX8_swap 23 = .ok (.iload_n 3, 1) := by decide +kernel
theorem dX8_swap_24 : decode cX8_swap 24 = .ok (.invokestatic 224, 3) := by decide +kernel
theorem dX8_swap_27 : decode cX8_swap 27 = .ok (.ifCond .ne 6, 3) := by decide +kernel
theorem dX8_swap_30 : decode cX8_swap 30 = .ok (.bipush (-2), 2) := by decide +kernel
theorem dX8_swap_32 : decode cX8_swap 32 = .ok (.ireturn, 1) := by decide +kernel
theorem dX8_swap_33 : decode cX8_swap 33 = .ok (.aload_n 0, 1) := by decide +kernel
theorem dX8_swap_34 : decode cX8_swap 34 = .ok (.getfield 34, 3) := by decide +kernel
theorem dX8_swap_37 : decode cX8_swap 37 = .ok (.iconst 5, 1) := by decide +kernel
theorem dX8_swap_38 : decode cX8_swap 38 = .ok (.iaload, 1) := by decide +kernel
theorem dX8_swap_39 : decode cX8_swap 39 = .ok (.bipush 40, 2) := by decide +kernel
theorem dX8_swap_41 : decode cX8_swap 41 = .ok (.if_icmp .ne 6, 3) := by decide +kernel
theorem dX8_swap_44 : decode cX8_swap 44 = .ok (.bipush (-5), 2) := by decide +kernel
theorem dX8_swap_46 : decode cX8_swap 46 = .ok (.ireturn, 1) := by decide +kernel
theorem dX8_swap_47 : decode cX8_swap 47 = .ok (.aload_n 0, 1) := by decide +kernel
theorem dX8_swap_48 : decode cX8_swap 48 = .ok (.iconst 0, 1) := by decide +kernel
theorem dX8_swap_49 : decode cX8_swap 49 = .ok (.iload_n 1, 1) := by decide +kernel
theorem dX8_swap_50 : decode cX8_swap 50 = .ok (.iload_n 2, 1) := by decide +kernel
theorem dX8_swap_51 : decode cX8_swap 51 = .ok (.iload_n 3, 1) := by decide +kernel
theorem dX8_swap_52 : decode cX8_swap 52 = .ok (.invokevirtual 415, 3) := by decide +kernel
theorem dX8_swap_55 : decode cX8_swap 55 = .ok (.iload_n 1, 1) := by decide +kernel
theorem dX8_swap_56 : decode cX8_swap 56 = .ok (.iload_n 2, 1) := by decide +kernel
theorem dX8_swap_57 : decode cX8_swap 57 = .ok (.if_icmp .ne 7, 3) := by decide +kernel
theorem dX8_swap_60 : decode cX8_swap 60 = .ok (.iconst 0, 1) := by decide +kernel
theorem dX8_swap_61 : decode cX8_swap 61 = .ok (.goto 4, 3) := by decide +kernel
theorem dX8_swap_64 : decode cX8_swap 64 = .ok (.iconst 1, 1) := by decide +kernel
theorem dX8_swap_65 : decode cX8_swap 65 = .ok (.ireturn, 1) := by decide +kernel
theorem dX8_hide_0 : decode cX8_hide 0 = .ok (.aload_n 0, 1) := by decide +kernel
theorem dX8_hide_1 : decode cX8_hide 1 = .ok (.iconst 0, 1) := by decide +kernel
theorem dX8_hide_2 : decode cX8_hide 2 = .ok (.putfield 71, 3) := by decide +kernel
theorem dX8_hide_5 : decode cX8_hide 5 = .ok (.aload_n 0, 1) := by decide +kernel
theorem dX8_hide_6 : decode cX8_hide 6 = .ok (.iload_n 1, 1) := by decide +kernel
theorem dX8_hide_7 : decode cX8_hide 7 = .ok (.i2l, 1) := by decide +kernel
theorem dX8_hide_8 : decode cX8_hide 8 = .ok (.invokevirtual 219, 3) := by decide +kernel
theorem dX8_hide_11 : decode cX8_hide 11 = .ok (.ifCond .eq 27, 3) := by decide +kernel
theorem dX8_hide_14 : decode cX8_hide 14 = .ok (.aload_n 0, 1) := by decide +kernel
theorem dX8_hide_15 : decode cX8_hide 15 = .ok (.iload_n 2, 1) := by decide +kernel
theorem dX8_hide_16 : decode cX8_hide 16 = .ok (.i2l, 1) := by decide +kernel
theorem dX8_hide_17 : decode cX8_hide 17 = .ok (.invokevirtual 273, 3) := by decide +kernel
theorem dX8_hide_20 : decode cX8_hide 20 = .ok (.ifCond .eq 18, 3) := by decide +kernel
theorem dX8_hide_23 : decode cX8_hide 23 = .ok (.iload_n 3, 1) := by decide +kernel
theorem dX8_hide_24 : decode cX8_hide 24 = .ok (.invokestatic 224, 3) := by decide +kernel
theorem dX8_hide_27 : decode cX8_hide 27 = .ok (.ifCond .eq 11, 3) := by decide +kernel
theorem dX8_hide_30 : decode cX8_hide 30 = .ok (.iload 4, 2) := by decide +kernel
theorem dX8_hide_32 : decode cX8_hide 32 = .ok (.invokestatic 329, 3) := by decide +kernel
theorem dX8_hide_35 : decode cX8_hide 35 = .ok (.ifCond .ne 6, 3) := by decide +kernel
theorem dX8_hide_38 : decode cX8_hide 38 = .ok (.bipush (-2), 2) := by decide +kernel
theorem dX8_hide_40 : decode cX8_hide 40 = .ok (.ireturn, 1) := by decide +kernel
theorem dX8_hide_41 : decode cX8_hide 41 = .ok (.aload_n 0, 1) := by decide +kernel
theorem dX8_hide_42 : decode cX8_hide 42 = .ok (.getfield 34, 3) := by decide +kernel
theorem dX8_hide_45 : decode cX8_hide 45 = .ok (.iconst 5, 1) := by decide +kernel
theorem dX8_hide_46 : decode cX8_hide 46 = .ok (.iaload, 1) := by decide +kernel
theorem dX8_hide_47 : decode cX8_hide 47 = .ok (.bipush 40, 2) := by decide +kernel
theorem dX8_hide_49 : decode cX8_hide 49 = .ok (.if_icmp .ne 6, 3) := by decide +kernel
theorem dX8_hide_52 : decode cX8_hide 52 = .ok (.bipush (-5), 2) := by decide +kernel
theorem dX8_hide_54 : decode cX8_hide 54 = .ok (.ireturn, 1) := by decide +kernel
theorem dX8_hide_55 : decode cX8_hide 55 = .ok (.aload_n 0, 1) := by decide +kernel
theorem dX8_hide_56 : decode cX8_hide 56 = .ok (.iload_n 3, 1) := by decide +kernel
theorem dX8_hide_57 : decode cX8_hide 57 = .ok (.invokevirtual 276, 3) := by decide +kernel
theorem dX8_hide_60 : decode cX8_hide 60 = .ok (.aload_n 0, 1) := by decide +kernel
theorem dX8_hide_61 : decode cX8_hide 61 = .ok (.getfield 56, 3) := by decide +kernel
theorem dX8_hide_64 : decode cX8_hide 64 = .ok (.iload_n 1, 1) := by decide +kernel
theorem dX8_hide_65 : decode cX8_hide 65 = .ok (.iaload, 1) := by decide +kernel
theorem dX8_hide_66 : decode cX8_hide 66 = .ok (.iload_n 2, 1) := by decide +kernel
theorem dX8_hide_67 : decode cX8_hide 67 = .ok (.invokestatic 248, 3) := by decide +kernel
theorem dX8_hide_70 : decode cX8_hide 70 = .ok (.ifCond .eq 7, 3) := by decide +kernel
theorem dX8_hide_73 : decode cX8_hide 73 = .ok (.iconst 1, 1) := by decide +kernel
theorem dX8_hide_74 : decode cX8_hide 74 = .ok (.goto 4, 3) := by decide +kernel
theorem dX8_hide_77 : decode cX8_hide 77 = .ok (.iconst 0, 1) := by decide +kernel
theorem dX8_hide_78 : decode cX8_hide 78 = .ok (.istore 5, 2) := by decide +kernel
theorem dX8_hide_80 : decode cX8_hide 80 = .ok (.aload_n 0, 1) := by decide +kernel
theorem dX8_hide_81 : decode cX8_hide 81 = .ok (.iload 4, 2) := by decide +kernel
theorem dX8_hide_83 : decode cX8_hide 83 = .ok (.iconst 1, 1) := by decide +kernel
theorem dX8_hide_84 : decode cX8_hide 84 = .ok (.if_icmp .ne 7, 3) := by decide +kernel
theorem dX8_hide_87 : decode cX8_hide 87 = .ok (.iconst 1, 1) := by decide +kernel
theorem dX8_hide_88 : decode cX8_hide 88 = .ok (.goto 4, 3) := by decide +kernel
theorem dX8_hide_91 : decode cX8_hide 91 = .ok (.iconst 2, 1) := by decide +kernel
theorem dX8_hide_92 : decode cX8_hide 92 = .ok (.iload_n 1, 1) := by decide +kernel
theorem dX8_hide_93 : decode cX8_hide 93 = .ok (.iload_n 2, 1) := by decide +kernel
theorem dX8_hide_94 : decode cX8_hide 94 = .ok (.iload_n 3, 1) := by decide +kernel
theorem dX8_hide_95 : decode cX8_hide 95 = .ok (.invokevirtual 415, 3) := by decide +kernel
theorem dX8_hide_98 : decode cX8_hide 98 = .ok (.iload 5, 2) := by decide +kernel
theorem dX8_hide_100 : decode cX8_hide 100 = .ok (.ireturn, 1) := by decide +kernel
theorem dX8_undo_0 : decode cX8_undo 0 = .ok (.aload_n 0, 1) := by decide +kernel
theorem dX8_undo_1 : decode cX8_undo 1 = .ok (.iconst 0, 1) := by decide +kernel
theorem dX8_undo_2 : decode cX8_undo 2 = .ok (.putfield 71, 3) := by decide +kernel
theorem dX8_undo_5 : decode cX8_undo 5 = .ok (.aload_n 0, 1) := by decide +kernel
theorem dX8_undo_6 : decode cX8_undo 6 = .ok (.invokevirtual 209, 3) := by decide +kernel
theorem dX8_undo_9 : decode cX8_undo 9 = .ok (.ifCond .ne 6, 3) := by decide +kernel
theorem dX8_undo_12 : decode cX8_undo 12 = .ok (.bipush (-2), 2) := by decide +kernel
theorem dX8_undo_14 : decode cX8_undo 14 = .ok (.ireturn, 1) := by decide +kernel
theorem dX8_undo_15 : decode cX8_undo 15 = .ok (.aload_n 0, 1) := by decide +kernel
theorem dX8_undo_16 : decode cX8_undo 16 = .ok (.getfield 34, 3) := by decide +kernel
theorem dX8_undo_19 : decode cX8_undo 19 = .ok (.iconst 5, 1) := by decide +kernel
theorem dX8_undo_20 : decode cX8_undo 20 = .ok (.iaload, 1) := by decide +kernel
theorem dX8_undo_21 : decode cX8_undo 21 = .ok (.ifCond .ne 6, 3) := by decide +kernel
theorem dX8_undo_24 : decode cX8_undo 24 = .ok (.bipush (-5), 2) := by decide +kernel
theorem dX8_undo_26 : decode cX8_undo 26 = .ok (.ireturn, 1) := by decide +kernel
theorem dX8_undo_27 : decode cX8_undo 27 = .ok (.aload_n 0, 1) := by decide +kernel
theorem dX8_undo_28 : decode cX8_undo 28 = .ok (.getfield 34, 3) := by decide +kernel
theorem dX8_undo_31 : decode cX8_undo 31 = .ok (.iconst 5, 1) := by decide +kernel
theorem dX8_undo_32 : decode cX8_undo 32 = .ok (.dup2, 1) := by decide +kernel
theorem dX8_undo_33 : decode cX8_undo 33 = .ok (.iaload, 1) := by decide +kernel
theorem dX8_undo_34 : decode cX8_undo 34 = .ok (.iconst 1, 1) := by decide +kernel
theorem dX8_undo_35 : decode cX8_undo 35 = .ok (.isub, 1) := by decide +kernel
theorem dX8_undo_36 : decode cX8_undo 36 = .ok (.iastore, 1) := by decide +kernel
theorem dX8_undo_37 : decode cX8_undo 37 = .ok (.aload_n 0, 1) := by decide +kernel
theorem dX8_undo_38 : decode cX8_undo 38 = .ok (.getfield 34, 3) := by decide +kernel
theorem dX8_undo_41 : decode cX8_undo 41 = .ok (.iconst 5, 1) := by decide +kernel
theorem dX8_undo_42 : decode cX8_undo 42 = .ok (.iaload, 1) := by decide +kernel
theorem dX8_undo_43 : decode cX8_undo 43 = .ok (.ireturn, 1) := by decide +kernel
theorem dX8_anew_0 : decode cX8_anew 0 = .ok (.aload_n 0, 1) := by decide +kernel
theorem dX8_anew_1 : decode cX8_anew 1 = .ok (.iconst 0, 1) := by decide +kernel
theorem dX8_anew_2 : decode cX8_anew 2 = .ok (.putfield 71, 3) := by decide +kernel
theorem dX8_anew_5 : decode cX8_anew 5 = .ok (.aload_n 0, 1) := by decide +kernel
theorem dX8_anew_6 : decode cX8_anew 6 = .ok (.invokevirtual 209, 3) := by decide +kernel
theorem dX8_anew_9 : decode cX8_anew 9 = .ok (.ifCond .ne 6, 3) := by decide +kernel
theorem dX8_anew_12 : decode cX8_anew 12 = .ok (.bipush (-2), 2) := by decide +kernel
theorem dX8_anew_14 : decode cX8_anew 14 = .ok (.ireturn, 1) := by decide +kernel
theorem dX8_anew_15 : decode cX8_anew 15 = .ok (.aload_n 0, 1) := by decide +kernel
theorem dX8_anew_16 : decode cX8_anew 16 = .ok (.getfield 34, 3) := by decide +kernel
theorem dX8_anew_19 : decode cX8_anew 19 = .ok (.iconst 5, 1) := by decide +kernel
theorem dX8_anew_20 : decode cX8_anew 20 = .ok (.iaload, 1) := by decide +kernel
theorem dX8_anew_21 : decode cX8_anew 21 = .ok (.istore_n 1, 1) := by decide +kernel
theorem dX8_anew_22 : decode cX8_anew 22 = .ok (.aload_n 0, 1) := by decide +kernel
theorem dX8_anew_23 : decode cX8_anew 23 = .ok (.getfield 34, 3) := by decide +kernel
theorem dX8_anew_26 : decode cX8_anew 26 = .ok (.iconst 5, 1) := by decide +kernel
theorem dX8_anew_27 : decode cX8_anew 27 = .ok (.iconst 0, 1) := by decide +kernel
theorem dX8_anew_28 : decode cX8_anew 28 = .ok (.iastore, 1) := by decide +kernel
theorem dX8_anew_29 : decode cX8_anew 29 = .ok (.iload_n 1, 1) := by decide +kernel
theorem dX8_anew_30 : decode cX8_anew 30 = .ok (.ireturn, 1) := by decide +kernel
theorem dX8_rate_0 : decode cX8_rate 0 = .ok (.aload_n 0, 1) := by decide +kernel
theorem dX8_rate_1 : decode cX8_rate 1 = .ok (.iconst 0, 1) := by decide +kernel
theorem dX8_rate_2 : decode cX8_rate 2 = .ok (.putfield 71, 3) := by decide +kernel
theorem dX8_rate_5 : decode cX8_rate 5 = .ok (.aload_n 0, 1) := by decide +kernel
theorem dX8_rate_6 : decode cX8_rate 6 = .ok (.invokevirtual 209, 3) := by decide +kernel
theorem dX8_rate_9 : decode cX8_rate 9 = .ok (.ifCond .eq 15, 3) := by decide +kernel
theorem dX8_rate_12 : decode cX8_rate 12 = .ok (.iload_n 1, 1) := by decide +kernel
theorem dX8_rate_13 : decode cX8_rate 13 = .ok (.i2l, 1) := by decide +kernel
theorem dX8_rate_14 : decode cX8_rate 14 = .ok (.lconst 0, 1) := by decide +kernel
theorem dX8_rate_15 : decode cX8_rate 15 = .ok (.ldc2_w 74, 3) := by decide +kernel
theorem dX8_rate_18 : decode cX8_rate 18 = .ok (.invokestatic 76, 3) := by decide +kernel
theorem dX8_rate_21 : decode cX8_rate 21 = .ok (.ifCond .ne 6, 3) := by decide +kernel
theorem dX8_rate_24 : decode cX8_rate 24 = .ok (.bipush (-2), 2) := by decide +kernel
theorem dX8_rate_26 : decode cX8_rate 26 = .ok (.ireturn, 1) := by decide +kernel
theorem dX8_rate_27 : decode cX8_rate 27 = .ok (.aload_n 0, 1) := by decide +kernel
theorem dX8_rate_28 : decode cX8_rate 28 = .ok (.getfield 34, 3) := by decide +kernel
theorem dX8_rate_31 : decode cX8_rate 31 = .ok (.iconst 5, 1) := by decide +kernel
theorem dX8_rate_32 : decode cX8_rate 32 = .ok (.iaload, 1) := by decide +kernel
theorem dX8_rate_33 : decode cX8_rate 33 = .ok (.ifCond .le 6, 3) := by decide +kernel
theorem dX8_rate_36 : decode cX8_rate 36 = .ok (.bipush (-5), 2) := by decide +kernel
theorem dX8_rate_38 : decode cX8_rate 38 = .ok (.ireturn, 1) := by decide +kernel
theorem dX8_rate_39 : decode cX8_rate 39 = .ok (.aload_n 0, 1) := by decide +kernel
theorem dX8_rate_40 : decode cX8_rate 40 = .ok (.getfield 34, 3) := by decide +kernel
theorem dX8_rate_43 : decode cX8_rate 43 = .ok (.iconst 2, 1) := by decide +kernel
theorem dX8_rate_44 : decode cX8_rate 44 = .ok (.iaload, 1) := by decide +kernel
theorem dX8_rate_45 : decode cX8_rate 45 = .ok (.istore_n 2, 1) := by decide +kernel
theorem dX8_rate_46 : decode cX8_rate 46 = .ok (.aload_n 0, 1) := by decide +kernel
theorem dX8_rate_47 : decode cX8_rate 47 = .ok (.getfield 34, 3) := by decide +kernel
theorem dX8_rate_50 : decode cX8_rate 50 = .ok (.iconst 2, 1) := by decide +kernel
theorem dX8_rate_51 : decode cX8_rate 51 = .ok (.iload_n 1, 1) := by decide +kernel
theorem dX8_rate_52 : decode cX8_rate 52 = .ok (.iastore, 1) := by decide +kernel
theorem dX8_rate_53 : decode cX8_rate 53 = .ok (.iload_n 2, 1) := by decide +kernel
theorem dX8_rate_54 : decode cX8_rate 54 = .ok (.ireturn, 1) := by decide +kernel
theorem dX8_count_0 : decode cX8_count 0 = .ok (.aload_n 0, 1) := by decide +kernel
theorem dX8_count_1 : decode cX8_count 1 = .ok (.iconst 0, 1) := by decide +kernel
theorem dX8_count_2 : decode cX8_count 2 = .ok (.putfield 71, 3) := by decide +kernel
theorem dX8_count_5 : decode cX8_count 5 = .ok (.iload_n 1, 1) := by decide +kernel
theorem dX8_count_6 : decode cX8_count 6 = .ok (.i2l, 1) := by decide +kernel
theorem dX8_count_7 : decode cX8_count 7 = .ok (.lconst 0, 1) := by decide +kernel
theorem dX8_count_8 : decode cX8_count 8 = .ok (.ldc2_w 419, 3) := by decide +kernel
theorem dX8_count_11 : decode cX8_count 11 = .ok (.invokestatic 76, 3) := by decide +kernel
theorem dX8_count_14 : decode cX8_count 14 = .ok (.ifCond .eq 10, 3) := by decide +kernel
theorem dX8_count_17 : decode cX8_count 17 = .ok (.aload_n 0, 1) := by decide +kernel
theorem dX8_count_18 : decode cX8_count 18 = .ok (.getfield 34, 3) := by decide +kernel
theorem dX8_count_21 : decode cX8_count 21 = .ok (.iload_n 1, 1) := by decide +kernel
theorem dX8_count_22 : decode cX8_count 22 = .ok (.iaload, 1) := by decide +kernel
theorem dX8_count_23 : decode cX8_count 23 = .ok (.ireturn, 1) := by decide +kernel
theorem dX8_count_24 : decode cX8_count 24 = .ok (.iconst 0, 1) := by decide +kernel
theorem dX8_count_25 : decode cX8_count 25 = .ok (.istore_n 2, 1) := by decide +kernel
theorem dX8_count_26 : decode cX8_count 26 = .ok (.iload_n 1, 1) := by decide +kernel
theorem dX8_count_27 : decode cX8_count 27 = .ok (.tableswitch 70 6 8 #[25, 32, 37], 25) := by decide +kernel
theorem dX8_count_52 : decode cX8_count 52 = .ok (.aload_n 0, 1) := by decide +kernel
theorem dX8_count_53 : decode cX8_count 53 = .ok (.getfield 31, 3) := by decide +kernel
theorem dX8_count_56 : decode cX8_count 56 = .ok (.iconst 0, 1) := by decide +kernel
theorem dX8_count_57 : decode cX8_count 57 = .ok (.iaload, 1) := by decide +kernel
theorem dX8_count_58 : decode cX8_count 58 = .ok (.ireturn, 1) := by decide +kernel
theorem dX8_count_59 : decode cX8_count 59 = .ok (.aload_n 0, 1) := by decide +kernel
theorem dX8_count_60 : decode cX8_count 60 = .ok (.getfield 88, 3) := by decide +kernel
theorem dX8_count_63 : decode cX8_count 63 = .ok (.ireturn, 1) := by decide +kernel
theorem dX8_count_64 : decode cX8_count 64 = .ok (.iconst 0, 1) := by decide +kernel
theorem dX8_count_65 : decode cX8_count 65 = .ok (.istore_n 3, 1) := by decide +kernel
theorem dX8_count_66 : decode cX8_count 66 = .ok (.iload_n 3, 1) := by decide +kernel
theorem dX8_count_67 : decode cX8_count 67 = .ok (.iconst 4, 1) := by decide +kernel
theorem dX8_count_68 : decode cX8_count 68 = .ok (.if_icmp .ge 27, 3) := by decide +kernel
theorem dX8_count_71 : decode cX8_count 71 = .ok (.iload_n 2, 1) := by decide +kernel
theorem dX8_count_72 : decode cX8_count 72 = .ok (.aload_n 0, 1) := by decide +kernel
theorem dX8_count_73 : decode cX8_count 73 = .ok (.getfield 7, 3) := by decide +kernel
theorem dX8_count_76 : decode cX8_count 76 = .ok (.iload_n 3, 1) := by decide +kernel
theorem dX8_count_77 : decode cX8_count 77 = .ok (.iaload, 1) := by decide +kernel
theorem dX8_count_78 : decode cX8_count 78 = .ok (.iconst (-1), 1) := by decide +kernel
theorem dX8_count_79 : decode cX8_count 79 = .ok (.if_icmp .ne 7, 3) := by decide +kernel
theorem dX8_count_82 : decode cX8_count 82 = .ok (.iconst 0, 1) := by decide +kernel
theorem dX8_count_83 : decode cX8_count 83 = .ok (.goto 4, 3) := by decide +kernel
theorem dX8_count_86 : decode cX8_count 86 = .ok (.iconst 1, 1) := by decide +kernel
theorem dX8_count_87 : decode cX8_count 87 = .ok (.iadd, 1) := by decide +kernel
theorem dX8_count_88 : decode cX8_count 88 = .ok (.istore_n 2, 1) := by decide +kernel
theorem dX8_count_89 : decode cX8_count 89 = .ok (.iinc 3 1, 3) := by decide +kernel
theorem dX8_count_92 : decode cX8_count 92 = .ok (.goto (-26), 3) := by decide +kernel
theorem dX8_count_95 : decode cX8_count 95 = .ok (.iload_n 2, 1) := by decide +kernel
theorem dX8_count_96 : decode cX8_count 96 = .ok (.ireturn, 1) := by decide +kernel
theorem dX8_count_97 : decode cX8_count 97 = .ok (.iconst (-1), 1) := by decide +kernel
theorem dX8_count_98 : decode cX8_count 98 = .ok (.ireturn, 1) := by decide +kernel
theorem dX8_image_0 : decode cX8_image 0 = .ok (.aload_n 0, 1) := by decide +kernel
theorem dX8_image_1 : decode cX8_image 1 = .ok (.iconst 0, 1) := by decide +kernel
theorem dX8_image_2 : decode cX8_image 2 = .ok (.putfield 71, 3) := by decide +kernel
theorem dX8_image_5 : decode cX8_image 5 = .ok (.iload_n 1, 1) := by decide +kernel
theorem dX8_image_6 : decode cX8_image 6 = .ok (.i2l, 1) := by decide +kernel
theorem dX8_image_7 : decode cX8_image 7 = .ok (.lconst 0, 1) := by decide +kernel
theorem dX8_image_8 : decode cX8_image 8 = .ok (.ldc2_w 421, 3) := by decide +kernel
theorem dX8_image_11 : decode cX8_image 11 = .ok (.invokestatic 76, 3) := by decide +kernel
theorem dX8_image_14 : decode cX8_image 14 = .ok (.ifCond .ne 6, 3) := by decide +kernel
theorem dX8_image_17 : decode cX8_image 17 = .ok (.bipush (-2), 2) := by decide +kernel
theorem dX8_image_19 : decode cX8_image 19 = .ok (.ireturn, 1) := by decide +kernel
theorem dX8_image_20 : decode cX8_image 20 = .ok (.aload_n 0, 1) := by decide +kernel
theorem dX8_image_21 : decode cX8_image 21 = .ok (.iconst 0, 1) := by decide +kernel
theorem dX8_image_22 : decode cX8_image 22 = .ok (.iconst 1, 1) := by decide +kernel
theorem dX8_image_23 : decode cX8_image 23 = .ok (.iload_n 1, 1) := by decide +kernel
theorem dX8_image_24 : decode cX8_image 24 = .ok (.iadd, 1) := by decide +kernel
theorem dX8_image_25 : decode cX8_image 25 = .ok (.invokevirtual 202, 3) := by decide +kernel
theorem dX8_image_28 : decode cX8_image 28 = .ok (.aload_n 0, 1) := by decide +kernel
theorem dX8_image_29 : decode cX8_image 29 = .ok (.getfield 43, 3) := by decide +kernel
theorem dX8_image_32 : decode cX8_image 32 = .ok (.iload_n 1, 1) := by decide +kernel
theorem dX8_image_33 : decode cX8_image 33 = .ok (.iconst 1, 1) := by decide +kernel
theorem dX8_image_34 : decode cX8_image 34 = .ok (.bastore, 1) := by decide +kernel
theorem dX8_image_35 : decode cX8_image 35 = .ok (.iconst 0, 1) := by decide +kernel
theorem dX8_image_36 : decode cX8_image 36 = .ok (.ireturn, 1) := by decide +kernel
theorem dX8_back_0 : decode cX8_back 0 = .ok (.aload_n 0, 1) := by decide +kernel
theorem dX8_back_1 : decode cX8_back 1 = .ok (.iconst 0, 1) := by decide +kernel
theorem dX8_back_2 : decode cX8_back 2 = .ok (.putfield 71, 3) := by decide +kernel
theorem dX8_back_5 : decode cX8_back 5 = .ok (.iload_n 1, 1) := by decide +kernel
theorem dX8_back_6 : decode cX8_back 6 = .ok (.i2l, 1) := by decide +kernel
theorem dX8_back_7 : decode cX8_back 7 = .ok (.lconst 0, 1) := by decide +kernel
theorem dX8_back_8 : decode cX8_back 8 = .ok (.ldc2_w 421, 3) := by decide +kernel
theorem dX8_back_11 : decode cX8_back 11 = .ok (.invokestatic 76, 3) := by decide +kernel
theorem dX8_back_14 : decode cX8_back 14 = .ok (.ifCond .ne 6, 3) := by decide +kernel
theorem dX8_back_17 : decode cX8_back 17 = .ok (.bipush (-2), 2) := by decide +kernel
theorem dX8_back_19 : decode cX8_back 19 = .ok (.ireturn, 1) := by decide +kernel
theorem dX8_back_20 : decode cX8_back 20 = .ok (.aload_n 0, 1) := by decide +kernel
theorem dX8_back_21 : decode cX8_back 21 = .ok (.getfield 43, 3) := by decide +kernel
theorem dX8_back_24 : decode cX8_back 24 = .ok (.iload_n 1, 1) := by decide +kernel
theorem dX8_back_25 : decode cX8_back 25 = .ok (.baload, 1) := by decide +kernel
theorem dX8_back_26 : decode cX8_back 26 = .ok (.ifCond .ne 6, 3) := by decide +kernel
theorem dX8_back_29 : decode cX8_back 29 = .ok (.bipush (-6), 2) := by decide +kernel
theorem dX8_back_31 : decode cX8_back 31 = .ok (.ireturn, 1) := by decide +kernel
theorem dX8_back_32 : decode cX8_back 32 = .ok (.aload_n 0, 1) := by decide +kernel
theorem dX8_back_33 : decode cX8_back 33 = .ok (.iconst 1, 1) := by decide +kernel
theorem dX8_back_34 : decode cX8_back 34 = .ok (.iload_n 1, 1) := by decide +kernel
theorem dX8_back_35 : decode cX8_back 35 = .ok (.iadd, 1) := by decide +kernel
theorem dX8_back_36 : decode cX8_back 36 = .ok (.iconst 0, 1) := by decide +kernel
theorem dX8_back_37 : decode cX8_back 37 = .ok (.invokevirtual 202, 3) := by decide +kernel
theorem dX8_back_40 : decode cX8_back 40 = .ok (.iconst 0, 1) := by decide +kernel
theorem dX8_back_41 : decode cX8_back 41 = .ok (.ireturn, 1) := by decide +kernel
