theorem dX7_init_0 : decode cX7_init 0 = .ok (.aload_n 0, 1) := by decide +kernel
theorem dX7_init_1 : decode cX7_init 1 = .ok (.invokespecial 1, 3) := by decide +kernel
theorem dX7_init_4 : decode cX7_init 4 = .ok (.aload_n 0, 1) := by decide +kernel
theorem dX7_init_5 : decode cX7_init 5 = .ok (.new 7, 3) := by decide +kernel
theorem dX7_init_8 : decode cX7_init 8 = .ok (.dup, 1) := by decide +kernel
theorem dX7_init_9 : decode cX7_init 9 = .ok (.invokespecial 9, 3) := by decide +kernel
theorem dX7_init_12 : decode cX7_init 12 = .ok (.putfield 10, 3) := by decide +kernel
theorem dX7_init_15 : decode cX7_init 15 = .ok (.aload_n 0, 1) := by decide +kernel
theorem dX7_init_16 : decode cX7_init 16 = .ok (.new 16, 3) := by decide +kernel
theorem dX7_init_19 : decode cX7_init 19 = .ok (.dup, 1) := by decide +kernel
theorem dX7_init_20 : decode cX7_init 20 = .ok (.invokespecial 18, 3) := by decide +kernel
theorem dX7_init_23 : decode cX7_init 23 = .ok (.putfield 19, 3) := by decide +kernel
theorem dX7_init_26 : decode cX7_init 26 = .ok (.aload_n 0, 1) := by decide +kernel
theorem dX7_init_27 : decode cX7_init 27 = .ok (.new 16, 3) := by decide +kernel
theorem dX7_init_30 : decode cX7_init 30 = .ok (.dup, 1) := by decide +kernel
theorem dX7_init_31 : decode cX7_init 31 = .ok (.invokespecial 18, 3) := by decide +kernel
theorem dX7_init_34 : decode cX7_init 34 = .ok (.putfield 23, 3) := by decide +kernel
theorem dX7_init_37 : decode cX7_init 37 = .ok (.aload_n 0, 1) := by decide +kernel
theorem dX7_init_38 : decode cX7_init 38 = .ok (.iconst 3, 1) := by decide +kernel
theorem dX7_init_39 : decode cX7_init 39 = .ok (.anewarray 16, 3) := by decide +kernel
theorem dX7_init_42 : decode cX7_init 42 = .ok (.putfield 26, 3) := by decide +kernel
theorem dX7_init_45 : decode cX7_init 45 = .ok (.aload_n 0, 1) := by decide +kernel
theorem dX7_init_46 : decode cX7_init 46 = .ok (.iconst 3, 1) := by decide +kernel
theorem dX7_init_47 : decode cX7_init 47 = .ok (.newarray .boolean, 2) := by decide +kernel
theorem dX7_init_49 : decode cX7_init 49 = .ok (.putfield 30, 3) := by decide +kernel
theorem dX7_init_52 : decode cX7_init 52 = .ok (.aload_n 0, 1) := by decide +kernel
theorem dX7_init_53 : decode cX7_init 53 = .ok (.iconst 4, 1) := by decide +kernel
theorem dX7_init_54 : decode cX7_init 54 = .ok (.anewarray 34, 3) := by decide +kernel
theorem dX7_init_57 : decode cX7_init 57 = .ok (.putfield 36, 3) := by decide +kernel
theorem dX7_init_60 : decode cX7_init 60 = .ok (.aload_n 0, 1) := by decide +kernel
theorem dX7_init_61 : decode cX7_init 61 = .ok (.bipush 13, 2) := by decide +kernel
theorem dX7_init_63 : decode cX7_init 63 = .ok (.anewarray 40, 3) := by decide +kernel
theorem dX7_init_66 : decode cX7_init 66 = .ok (.putfield 42, 3) := by decide +kernel
theorem dX7_init_69 : decode cX7_init 69 = .ok (.aload_n 0, 1) := by decide +kernel
theorem dX7_init_70 : decode cX7_init 70 = .ok (.new 40, 3) := by decide +kernel
theorem dX7_init_73 : decode cX7_init 73 = .ok (.dup, 1) := by decide +kernel
theorem dX7_init_74 : decode cX7_init 74 = .ok (.invokespecial 46, 3) := by decide +kernel
theorem dX7_init_77 : decode cX7_init 77 = .ok (.putfield 47, 3) := by decide +kernel
theorem dX7_init_80 : decode cX7_init 80 = .ok (.aload_n 0, 1) := by decide +kernel
theorem dX7_init_81 : decode cX7_init 81 = .ok (.new 51, 3) := by decide +kernel
theorem dX7_init_84 : decode cX7_init 84 = .ok (.dup, 1) := by decide +kernel
theorem dX7_init_85 : decode cX7_init 85 = .ok (.invokespecial 53, 3) := by decide +kernel
theorem dX7_init_88 : decode cX7_init 88 = .ok (.putfield 54, 3) := by decide +kernel
theorem dX7_init_91 : decode cX7_init 91 = .ok (.aload_n 0, 1) := by decide +kernel
theorem dX7_init_92 : decode cX7_init 92 = .ok (.new 58, 3) := by decide +kernel
theorem dX7_init_95 : decode cX7_init 95 = .ok (.dup, 1) := by decide +kernel
theorem dX7_init_96 : decode cX7_init 96 = .ok (.invokespecial 60, 3) := by decide +kernel
theorem dX7_init_99 : decode cX7_init 99 = .ok (.putfield 61, 3) := by decide +kernel
theorem dX7_init_102 : decode cX7_init 102 = .ok (.aload_n 0, 1) := by decide +kernel
theorem dX7_init_103 : decode cX7_init 103 = .ok (.new 65, 3) := by decide +kernel
theorem dX7_init_106 : decode cX7_init 106 = .ok (.dup, 1) := by decide +kernel
theorem dX7_init_107 : decode cX7_init 107 = .ok (.invokespecial 67, 3) := by decide +kernel
theorem dX7_init_110 : decode cX7_init 110 = .ok (.putfield 68, 3) := by decide +kernel
theorem dX7_init_113 : decode cX7_init 113 = .ok (.aload_n 0, 1) := by decide +kernel
theorem dX7_init_114 : decode cX7_init 114 = .ok (.iconst 1, 1) := by decide +kernel
theorem dX7_init_115 : decode cX7_init 115 = .ok (.putfield 72, 3) := by decide +kernel
theorem dX7_init_118 : decode cX7_init 118 = .ok (.aload_n 0, 1) := by decide +kernel
theorem dX7_init_119 : decode cX7_init 119 = .ok (.iconst 1, 1) := by decide +kernel
theorem dX7_init_120 : decode cX7_init 120 = .ok (.putfield 76, 3) := by decide +kernel
theorem dX7_init_123 : decode cX7_init 123 = .ok (.iconst 0, 1) := by decide +kernel
theorem dX7_init_124 : decode cX7_init 124 = .ok (.istore_n 1, 1) := by decide +kernel
theorem dX7_init_125 : decode cX7_init 125 = .ok (.iload_n 1, 1) := by decide +kernel
theorem dX7_init_126 : decode cX7_init 126 = .ok (.iconst 3, 1) := by decide +kernel
theorem dX7_init_127 : decode cX7_init 127 = .ok (.if_icmp .ge 22, 3) := by decide +kernel
theorem dX7_init_130 : decode cX7_init 130 = .ok (.aload_n 0, 1) := by decide +kernel
theorem dX7_init_131 : decode cX7_init 131 = .ok (.getfield 26, 3) := by decide +kernel
theorem dX7_init_134 : decode cX7_init 134 = .ok (.iload_n 1, 1) := by decide +kernel
theorem dX7_init_135 : decode cX7_init 135 = .ok (.new 16, 3) := by decide +kernel
theorem dX7_init_138 : decode cX7_init 138 = .ok (.dup, 1) := by decide +kernel
theorem dX7_init_139 : decode cX7_init 139 = .ok (.invokespecial 18, 3) := by decide +kernel
theorem dX7_init_142 : decode cX7_init 142 = .ok (.aastore, 1) := by decide +kernel
theorem dX7_init_143 : decode cX7_init 143 = .ok (.iinc 1 1, 3) := by decide +kernel
theorem dX7_init_146 : decode cX7_init 146 = .ok (.goto (-21), 3) := by decide +kernel
theorem dX7_init_149 : decode cX7_init 149 = .ok (.iconst 0, 1) := by decide +kernel
theorem dX7_init_150 : decode cX7_init 150 = .ok (.istore_n 1, 1) := by decide +kernel
theorem dX7_init_151 : decode cX7_init 151 = .ok (.iload_n 1, 1) := by decide +kernel
theorem dX7_init_152 : decode cX7_init 152 = .ok (.iconst 4, 1) := by decide +kernel
theorem dX7_init_153 : decode cX7_init 153 = .ok (.if_icmp .ge 22, 3) := by decide +kernel
theorem dX7_init_156 : decode cX7_init 156 = .ok (.aload_n 0, 1) := by decide +kernel
theorem dX7_init_157 : decode cX7_init 157 = .ok (.getfield 36, 3) := by decide +kernel
theorem dX7_init_160 : decode cX7_init 160 = .ok (.iload_n 1, 1) := by decide +kernel
theorem dX7_init_161 : decode cX7_init 161 = .ok (.new 34, 3) := by decide +kernel
theorem dX7_init_164 : decode cX7_init 164 = .ok (.dup, 1) := by decide +kernel
theorem dX7_init_165 : decode cX7_init 165 = .ok (.invokespecial 79, 3) := by decide +kernel
theorem dX7_init_168 : decode cX7_init 168 = .ok (.aastore, 1) := by decide +kernel
theorem dX7_init_169 : decode cX7_init 169 = .ok (.iinc 1 1, 3) := by decide +kernel
theorem dX7_init_172 : decode cX7_init 172 = .ok (.goto (-21), 3) := by decide +kernel
theorem dX7_init_175 : decode cX7_init 175 = .ok (.iconst 0, 1) := by decide +kernel
theorem dX7_init_176 : decode cX7_init 176 = .ok (.istore_n 1, 1) := by decide +kernel
theorem dX7_init_177 : decode cX7_init 177 = .ok (.iload_n 1, 1) := by decide +kernel
theorem dX7_init_178 : decode cX7_init 178 = .ok (.bipush 13, 2) := by decide +kernel
theorem dX7_init_180 : decode cX7_init 180 = .ok (.if_icmp .ge 22, 3) := by decide +kernel
theorem dX7_init_183 : decode cX7_init 183 = .ok (.aload_n 0, 1) := by decide +kernel
theorem dX7_init_184 : decode cX7_init 184 = .ok (.getfield 42, 3) := by decide +kernel
theorem dX7_init_187 : decode cX7_init 187 = .ok (.iload_n 1, 1) := by decide +kernel
theorem dX7_init_188 : decode cX7_init 188 = .ok (.new 40, 3) := by decide +kernel
theorem dX7_init_191 : decode cX7_init 191 = .ok (.dup, 1) := by decide +kernel
theorem dX7_init_192 : decode cX7_init 192 = .ok (.invokespecial 46, 3) := by decide +kernel
theorem dX7_init_195 : decode cX7_init 195 = .ok (.aastore, 1) := by decide +kernel
theorem dX7_init_196 : decode cX7_init 196 = .ok (.iinc 1 1, 3) := by decide +kernel
theorem dX7_init_199 : decode cX7_init 199 = .ok (.goto (-22), 3) := by decide +kernel
theorem dX7_init_202 : decode cX7_init 202 = .ok (.return_, 1) := by decide +kernel
theorem dX7_feed_0 : decode cX7_feed 0 = .ok (.aload_n 0, 1) := by decide +kernel
theorem dX7_feed_1 : decode cX7_feed 1 = .ok (.getfield 10, 3) := by decide +kernel
theorem dX7_feed_4 : decode cX7_feed 4 = .ok (.getfield 80, 3) := by decide +kernel
theorem dX7_feed_7 : decode cX7_feed 7 = .ok (.sipush 780, 3) := by decide +kernel
theorem dX7_feed_10 : decode cX7_feed 10 = .ok (.if_icmp .le 5, 3) := by decide +kernel
theorem dX7_feed_13 : decode cX7_feed 13 = .ok (.iconst (-1), 1) := by decide +kernel
theorem dX7_feed_14 : decode cX7_feed 14 = .ok (.ireturn, 1) := by decide +kernel
theorem dX7_feed_15 : decode cX7_feed 15 = .ok (.aload_n 0, 1) := by decide +kernel
theorem dX7_feed_16 : decode cX7_feed 16 = .ok (.getfield 10, 3) := by decide +kernel
theorem dX7_feed_19 : decode cX7_feed 19 = .ok (.iload_n 1, 1) := by decide +kernel
theorem dX7_feed_20 : decode cX7_feed 20 = .ok (.invokevirtual 84, 3) := by decide +kernel
theorem dX7_feed_23 : decode cX7_feed 23 = .ok (.aload_n 0, 1) := by decide +kernel
theorem dX7_feed_24 : decode cX7_feed 24 = .ok (.getfield 10, 3) := by decide +kernel
theorem dX7_feed_27 : decode cX7_feed 27 = .ok (.iload_n 2, 1) := by decide +kernel
theorem dX7_feed_28 : decode cX7_feed 28 = .ok (.invokevirtual 84, 3) := by decide +kernel
theorem dX7_feed_31 : decode cX7_feed 31 = .ok (.aload_n 0, 1) := by decide +kernel
theorem dX7_feed_32 : decode cX7_feed 32 = .ok (.getfield 10, 3) := by decide +kernel
theorem dX7_feed_35 : decode cX7_feed 35 = .ok (.iload_n 3, 1) := by decide +kernel
theorem dX7_feed_36 : decode cX7_feed 36 = .ok (.invokevirtual 84, 3) := by decide +kernel
theorem dX7_feed_39 : decode cX7_feed 39 = .ok (.aload_n 0, 1) := by decide +kernel
theorem dX7_feed_40 : decode cX7_feed 40 = .ok (.getfield 10, 3) := by decide +kernel
theorem dX7_feed_43 : decode cX7_feed 43 = .ok (.iload 4, 2) := by decide +kernel
theorem dX7_feed_45 : decode cX7_feed 45 = .ok (.invokevirtual 84, 3) := by decide +kernel
theorem dX7_feed_48 : decode cX7_feed 48 = .ok (.aload_n 0, 1) := by decide +kernel
theorem dX7_feed_49 : decode cX7_feed 49 = .ok (.getfield 10, 3) := by decide +kernel
theorem dX7_feed_52 : decode cX7_feed 52 = .ok (.iload 5, 2) := by decide +kernel
theorem dX7_feed_54 : decode cX7_feed 54 = .ok (.invokevirtual 84, 3) := by decide +kernel
theorem dX7_feed_57 : decode cX7_feed 57 = .ok (.aload_n 0, 1) := by decide +kernel
theorem dX7_feed_58 : decode cX7_feed 58 = .ok (.getfield 10, 3) := by decide +kernel
theorem dX7_feed_61 : decode cX7_feed 61 = .ok (.getfield 80, 3) := by decide +kernel
theorem dX7_feed_64 : decode cX7_feed 64 = .ok (.ireturn, 1) := by decide +kernel
theorem dX7_end_0 : decode cX7_end 0 = .ok (.iload_n 1, 1) := by decide +kernel
theorem dX7_end_1 : decode cX7_end 1 = .ok (.ifCond .lt 14, 3) := by decide +kernel
theorem dX7_end_4 : decode cX7_end 4 = .ok (.iload_n 1, 1) := by decide +kernel
theorem dX7_end_5 : decode cX7_end 5 = .ok (.aload_n 0, 1) := by decide +kernel
theorem dX7_end_6 : decode cX7_end 6 = .ok (.getfield 10, 3) := by decide +kernel
theorem dX7_end_9 : decode cX7_end 9 = .ok (.getfield 80, 3) := by decide +kernel
theorem dX7_end_12 : decode cX7_end 12 = .ok (.if_icmp .le 5, 3) := by decide +kernel
theorem dX7_end_15 : decode cX7_end 15 = .ok (.iconst (-1), 1) := by decide +kernel
theorem dX7_end_16 : decode cX7_end 16 = .ok (.ireturn, 1) := by decide +kernel
theorem dX7_end_17 : decode cX7_end 17 = .ok (.aload_n 0, 1) := by decide +kernel
theorem dX7_end_18 : decode cX7_end 18 = .ok (.getfield 10, 3) := by decide +kernel
theorem dX7_end_21 : decode cX7_end 21 = .ok (.iload_n 1, 1) := by decide +kernel
theorem dX7_end_22 : decode cX7_end 22 = .ok (.putfield 80, 3) := by decide +kernel
theorem dX7_end_25 : decode cX7_end 25 = .ok (.iload_n 1, 1) := by decide +kernel
theorem dX7_end_26 : decode cX7_end 26 = .ok (.ireturn, 1) := by decide +kernel
theorem dX7_field_0 : decode cX7_field 0 = .ok (.aload_n 0, 1) := by decide +kernel
theorem dX7_field_1 : decode cX7_field 1 = .ok (.getfield 10, 3) := by decide +kernel
theorem dX7_field_4 : decode cX7_field 4 = .ok (.aload_n 0, 1) := by decide +kernel
theorem dX7_field_5 : decode cX7_field 5 = .ok (.getfield 19, 3) := by decide +kernel
theorem dX7_field_8 : decode cX7_field 8 = .ok (.invokevirtual 88, 3) := by decide +kernel
theorem dX7_field_11 : decode cX7_field 11 = .ok (.istore_n 1, 1) := by decide +kernel
theorem dX7_field_12 : decode cX7_field 12 = .ok (.aload_n 0, 1) := by decide +kernel
theorem dX7_field_13 : decode cX7_field 13 = .ok (.getfield 10, 3) := by decide +kernel
theorem dX7_field_16 : decode cX7_field 16 = .ok (.iconst 0, 1) := by decide +kernel
theorem dX7_field_17 : decode cX7_field 17 = .ok (.putfield 80, 3) := by decide +kernel
theorem dX7_field_20 : decode cX7_field 20 = .ok (.iload_n 1, 1) := by decide +kernel
theorem dX7_field_21 : decode cX7_field 21 = .ok (.ifCond .ne 6, 3) := by decide +kernel
theorem dX7_field_24 : decode cX7_field 24 = .ok (.bipush (-4), 2) := by decide +kernel
theorem dX7_field_26 : decode cX7_field 26 = .ok (.ireturn, 1) := by decide +kernel
theorem dX7_field_27 : decode cX7_field 27 = .ok (.aload_n 0, 1) := by decide +kernel
theorem dX7_field_28 : decode cX7_field 28 = .ok (.getfield 23, 3) := by decide +kernel
theorem dX7_field_31 : decode cX7_field 31 = .ok (.aload_n 0, 1) := by decide +kernel
theorem dX7_field_32 : decode cX7_field 32 = .ok (.getfield 19, 3) := by decide +kernel
theorem dX7_field_35 : decode cX7_field 35 = .ok (.invokevirtual 92, 3) := by decide +kernel
theorem dX7_field_38 : decode cX7_field 38 = .ok (.aload_n 0, 1) := by decide +kernel
theorem dX7_field_39 : decode cX7_field 39 = .ok (.invokevirtual 96, 3) := by decide +kernel
theorem dX7_field_42 : decode cX7_field 42 = .ok (.aload_n 0, 1) := by decide +kernel
theorem dX7_field_43 : decode cX7_field 43 = .ok (.getfield 23, 3) := by decide +kernel
theorem dX7_field_46 : decode cX7_field 46 = .ok (.getfield 99, 3) := by decide +kernel
theorem dX7_field_49 : decode cX7_field 49 = .ok (.ireturn, 1) := by decide +kernel
theorem dX7_fault_0 : decode cX7_fault 0 = .ok (.iload_n 1, 1) := by decide +kernel
theorem dX7_fault_1 : decode cX7_fault 1 = .ok (.ifCond .ne 11, 3) := by decide +kernel
theorem dX7_fault_4 : decode cX7_fault 4 = .ok (.aload_n 0, 1) := by decide +kernel
theorem dX7_fault_5 : decode cX7_fault 5 = .ok (.getfield 10, 3) := by decide +kernel
theorem dX7_fault_8 : decode cX7_fault 8 = .ok (.getfield 102, 3) := by decide +kernel
theorem dX7_fault_11 : decode cX7_fault 11 = .ok (.ireturn, 1) := by decide +kernel
theorem dX7_fault_12 : decode cX7_fault 12 = .ok (.iload_n 1, 1) := by decide +kernel
theorem dX7_fault_13 : decode cX7_fault 13 = .ok (.iconst 1, 1) := by decide +kernel
theorem dX7_fault_14 : decode cX7_fault 14 = .ok (.if_icmp .ne 13, 3) := by decide +kernel
theorem dX7_fault_17 : decode cX7_fault 17 = .ok (.aload_n 0, 1) := by decide +kernel
theorem dX7_fault_18 : decode cX7_fault 18 = .ok (.getfield 10, 3) := by decide +kernel
theorem dX7_fault_21 : decode cX7_fault 21 = .ok (.getfield 105, 3) := by decide +kernel
theorem dX7_fault_24 : decode cX7_fault 24 = .ok (.goto 4, 3) := by decide +kernel
theorem dX7_fault_27 : decode cX7_fault 27 = .ok (.iconst (-1), 1) := by decide +kernel
theorem dX7_fault_28 : decode cX7_fault 28 = .ok (.ireturn, 1) := by decide +kernel
theorem dX7_isPerson_0 : decode cX7_isPerson 0 = .ok (.iload_n 1, 1) := by decide +kernel
theorem dX7_isPerson_1 : decode cX7_isPerson 1 = .ok (.ifCond .lt 18, 3) := by decide +kernel
theorem dX7_isPerson_4 : decode cX7_isPerson 4 = .ok (.iload_n 1, 1) := by decide +kernel
theorem dX7_isPerson_5 : decode cX7_isPerson 5 = .ok (.aload_n 0, 1) := by decide +kernel
theorem dX7_isPerson_6 : decode cX7_isPerson 6 = .ok (.getfield 23, 3) := by decide +kernel
theorem dX7_isPerson_9 : decode cX7_isPerson 9 = .ok (.getfield 108, 3) := by decide +kernel
theorem dX7_isPerson_12 : decode cX7_isPerson 12 = .ok (.if_icmp .ge 7, 3) := by decide +kernel
theorem dX7_isPerson_15 : decode cX7_isPerson 15 = .ok (.iconst 1, 1) := by decide +kernel
theorem dX7_isPerson_16 : decode cX7_isPerson 16 = .ok (.goto 4, 3) := by decide +kernel
theorem dX7_isPerson_19 : decode cX7_isPerson 19 = .ok (.iconst 0, 1) := by decide +kernel
theorem dX7_isPerson_20 : decode cX7_isPerson 20 = .ok (.ireturn, 1) := by decide +kernel
theorem dX7_arePair_0 : decode cX7_arePair 0 = .ok (.aload_n 0, 1) := by decide +kernel
theorem dX7_arePair_1 : decode cX7_arePair 1 = .ok (.iload_n 1, 1) := by decide +kernel
theorem dX7_arePair_2 : decode cX7_arePair 2 = .ok (.invokevirtual 111, 3) := by decide +kernel
theorem dX7_arePair_5 : decode cX7_arePair 5 = .ok (.ifCond .eq 20, 3) := by decide +kernel
theorem dX7_arePair_8 : decode cX7_arePair 8 = .ok (.aload_n 0, 1) := by decide +kernel
theorem dX7_arePair_9 : decode cX7_arePair 9 = .ok (.iload_n 2, 1) := by decide +kernel
theorem dX7_arePair_10 : decode cX7_arePair 10 = .ok (.invokevirtual 111, 3) := by decide +kernel
theorem dX7_arePair_13 : decode cX7_arePair 13 = .ok (.ifCond .eq 12, 3) := by decide +kernel
theorem dX7_arePair_16 : decode cX7_arePair 16 = .ok (.iload_n 1, 1) := by decide +kernel
theorem dX7_arePair_17 : decode cX7_arePair 17 = .ok (.iload_n 2, 1) := by decide +kernel
theorem dX7_arePair_18 : decode cX7_arePair 18 = .ok (.if_icmp .eq 7, 3) := by decide +kernel
theorem dX7_arePair_21 : decode cX7_arePair 21 = .ok (.iconst 1, 1) := by decide +kernel
theorem dX7_arePair_22 : decode cX7_arePair 22 = .ok (.goto 4, 3) := by decide +kernel
theorem dX7_arePair_25 : decode cX7_arePair 25 = .ok (.iconst 0, 1) := by decide +kernel
theorem dX7_arePair_26 : decode cX7_arePair 26 = .ok (.ireturn, 1) := by decide +kernel
theorem dX7_isKind_0 : decode cX7_isKind 0 = .ok (.iload_n 1, 1) := by decide +kernel
theorem dX7_isKind_1 : decode cX7_isKind 1 = .ok (.ifCond .lt 18, 3) := by decide +kernel
theorem dX7_isKind_4 : decode cX7_isKind 4 = .ok (.iload_n 1, 1) := by decide +kernel
theorem dX7_isKind_5 : decode cX7_isKind 5 = .ok (.aload_n 0, 1) := by decide +kernel
theorem dX7_isKind_6 : decode cX7_isKind 6 = .ok (.getfield 23, 3) := by decide +kernel
theorem dX7_isKind_9 : decode cX7_isKind 9 = .ok (.getfield 115, 3) := by decide +kernel
theorem dX7_isKind_12 : decode cX7_isKind 12 = .ok (.if_icmp .ge 7, 3) := by decide +kernel
theorem dX7_isKind_15 : decode cX7_isKind 15 = .ok (.iconst 1, 1) := by decide +kernel
theorem dX7_isKind_16 : decode cX7_isKind 16 = .ok (.goto 4, 3) := by decide +kernel
theorem dX7_isKind_19 : decode cX7_isKind 19 = .ok (.iconst 0, 1) := by decide +kernel
theorem dX7_isKind_20 : decode cX7_isKind 20 = .ok (.ireturn, 1) := by decide +kernel
theorem dX7_isSeason_0 : decode cX7_isSeason 0 = .ok (.aload_n 0, 1) := by decide +kernel
theorem dX7_isSeason_1 : decode cX7_isSeason 1 = .ok (.getfield 23, 3) := by decide +kernel
theorem dX7_isSeason_4 : decode cX7_isSeason 4 = .ok (.getfield 118, 3) := by decide +kernel
theorem dX7_isSeason_7 : decode cX7_isSeason 7 = .ok (.ifCond .eq 17, 3) := by decide +kernel
theorem dX7_isSeason_10 : decode cX7_isSeason 10 = .ok (.iload_n 1, 1) := by decide +kernel
theorem dX7_isSeason_11 : decode cX7_isSeason 11 = .ok (.ifCond .lt 13, 3) := by decide +kernel
theorem dX7_isSeason_14 : decode cX7_isSeason 14 = .ok (.iload_n 1, 1) := by decide +kernel
theorem dX7_isSeason_15 : decode cX7_isSeason 15 = .ok (.bipush 13, 2) := by decide +kernel
theorem dX7_isSeason_17 : decode cX7_isSeason 17 = .ok (.if_icmp .ge 7, 3) := by decide +kernel
theorem dX7_isSeason_20 : decode cX7_isSeason 20 = .ok (.iconst 1, 1) := by decide +kernel
theorem dX7_isSeason_21 : decode cX7_isSeason 21 = .ok (.goto 4, 3) := by decide +kernel
theorem dX7_isSeason_24 : decode cX7_isSeason 24 = .ok (.iconst 0, 1) := by decide +kernel
theorem dX7_isSeason_25 : decode cX7_isSeason 25 = .ok (.ireturn, 1) := by decide +kernel
theorem dX7_isPersonIn_0 : decode cX7_isPersonIn 0 = .ok (.aload_n 0, 1) := by decide +kernel
theorem dX7_isPersonIn_1 : decode cX7_isPersonIn 1 = .ok (.iload_n 1, 1) := by decide +kernel
theorem dX7_isPersonIn_2 : decode cX7_isPersonIn 2 = .ok (.invokevirtual 111, 3) := by decide +kernel
theorem dX7_isPersonIn_5 : decode cX7_isPersonIn 5 = .ok (.ifCond .eq 15, 3) := by decide +kernel
theorem dX7_isPersonIn_8 : decode cX7_isPersonIn 8 = .ok (.aload_n 0, 1) := by decide +kernel
theorem dX7_isPersonIn_9 : decode cX7_isPersonIn 9 = .ok (.iload_n 2, 1) := by decide +kernel
theorem dX7_isPersonIn_10 : decode cX7_isPersonIn 10 = .ok (.invokevirtual 121, 3) := by decide +kernel
theorem dX7_isPersonIn_13 : decode cX7_isPersonIn 13 = .ok (.ifCond .eq 7, 3) := by decide +kernel
theorem dX7_isPersonIn_16 : decode cX7_isPersonIn 16 = .ok (.iconst 1, 1) := by decide +kernel
theorem dX7_isPersonIn_17 : decode cX7_isPersonIn 17 = .ok (.goto 4, 3) := by decide +kernel
theorem dX7_isPersonIn_20 : decode cX7_isPersonIn 20 = .ok (.iconst 0, 1) := by decide +kernel
theorem dX7_isPersonIn_21 : decode cX7_isPersonIn 21 = .ok (.ireturn, 1) := by decide +kernel
theorem dX7_isKindIn_0 : decode cX7_isKindIn 0 = .ok (.aload_n 0, 1) := by decide +kernel
theorem dX7_isKindIn_1 : decode cX7_isKindIn 1 = .ok (.iload_n 1, 1) := by decide +kernel
theorem dX7_isKindIn_2 : decode cX7_isKindIn 2 = .ok (.invokevirtual 124, 3) := by decide +kernel
theorem dX7_isKindIn_5 : decode cX7_isKindIn 5 = .ok (.ifCond .eq 15, 3) := by decide +kernel
theorem dX7_isKindIn_8 : decode cX7_isKindIn 8 = .ok (.aload_n 0, 1) := by decide +kernel
theorem dX7_isKindIn_9 : decode cX7_isKindIn 9 = .ok (.iload_n 2, 1) := by decide +kernel
theorem dX7_isKindIn_10 : decode cX7_isKindIn 10 = .ok (.invokevirtual 121, 3) := by decide +kernel
theorem dX7_isKindIn_13 : decode cX7_isKindIn 13 = .ok (.ifCond .eq 7, 3) := by decide +kernel
theorem dX7_isKindIn_16 : decode cX7_isKindIn 16 = .ok (.iconst 1, 1) := by decide +kernel
theorem dX7_isKindIn_17 : decode cX7_isKindIn 17 = .ok (.goto 4, 3) := by decide +kernel
theorem dX7_isKindIn_20 : decode cX7_isKindIn 20 = .ok (.iconst 0, 1) := by decide +kernel
theorem dX7_isKindIn_21 : decode cX7_isKindIn 21 = .ok (.ireturn, 1) := by decide +kernel
theorem dX7_isChoice_0 : decode cX7_isChoice 0 = .ok (.iload_n 0, 1) := by decide +kernel
theorem dX7_isChoice_1 : decode cX7_isChoice 1 = .ok (.ifCond .eq 8, 3) := by decide +kernel
theorem dX7_isChoice_4 : decode cX7_isChoice 4 = .ok (.iload_n 0, 1) := by decide +kernel
theorem dX7_isChoice_5 : decode cX7_isChoice 5 = .ok (.iconst 1, 1) := by decide +kernel
theorem dX7_isChoice_6 : decode cX7_isChoice 6 = .ok (.if_icmp .ne 7, 3) := by decide +kernel
theorem dX7_isChoice_9 : decode cX7_isChoice 9 = .ok (.iconst 1, 1) := by decide +kernel
theorem dX7_isChoice_10 : decode cX7_isChoice 10 = .ok (.goto 4, 3) := by decide +kernel
theorem dX7_isChoice_13 : decode cX7_isChoice 13 = .ok (.iconst 0, 1) := by decide +kernel
theorem dX7_isChoice_14 : decode cX7_isChoice 14 = .ok (.ireturn, 1) := by decide +kernel
theorem dX7_isSlot_0 : decode cX7_isSlot 0 = .ok (.iload_n 0, 1) := by decide +kernel
theorem dX7_isSlot_1 : decode cX7_isSlot 1 = .ok (.ifCond .lt 12, 3) := by decide +kernel
theorem dX7_isSlot_4 : decode cX7_isSlot 4 = .ok (.iload_n 0, 1) := by decide +kernel
theorem dX7_isSlot_5 : decode cX7_isSlot 5 = .ok (.iconst 4, 1) := by decide +kernel
theorem dX7_isSlot_6 : decode cX7_isSlot 6 = .ok (.if_icmp .ge 7, 3) := by decide +kernel
theorem dX7_isSlot_9 : decode cX7_isSlot 9 = .ok (.iconst 1, 1) := by decide +kernel
theorem dX7_isSlot_10 : decode cX7_isSlot 10 = .ok (.goto 4, 3) := by decide +kernel
theorem dX7_isSlot_13 : decode cX7_isSlot 13 = .ok (.iconst 0, 1) := by decide +kernel
theorem dX7_isSlot_14 : decode cX7_isSlot 14 = .ok (.ireturn, 1) := by decide +kernel
theorem dX7_isImage_0 : decode cX7_isImage 0 = .ok (.iload_n 0, 1) := by decide +kernel
theorem dX7_isImage_1 : decode cX7_isImage 1 = .ok (.ifCond .lt 12, 3) := by decide +kernel
theorem dX7_isImage_4 : decode cX7_isImage 4 = .ok (.iload_n 0, 1) := by decide +kernel
theorem dX7_isImage_5 : decode cX7_isImage 5 = .ok (.iconst 3, 1) := by decide +kernel
theorem dX7_isImage_6 : decode cX7_isImage 6 = .ok (.if_icmp .ge 7, 3) := by decide +kernel
theorem dX7_isImage_9 : decode cX7_isImage 9 = .ok (.iconst 1, 1) := by decide +kernel
theorem dX7_isImage_10 : decode cX7_isImage 10 = .ok (.goto 4, 3) := by decide +kernel
theorem dX7_isImage_13 : decode cX7_isImage 13 = .ok (.iconst 0, 1) := by decide +kernel
theorem dX7_isImage_14 : decode cX7_isImage 14 = .ok (.ireturn, 1) := by decide +kernel
theorem dX7_forgetSeasons_0 : decode cX7_forgetSeasons 0 = .ok (.aload_n 0, 1) := by decide +kernel
theorem dX7_forgetSeasons_1 : decode cX7_forgetSeasons 1 = .ok (.iconst 1, 1) := by decide +kernel
theorem dX7_forgetSeasons_2 : decode cX7_forgetSeasons 2 = .ok (.putfield 72, 3) := by decide +kernel
theorem dX7_forgetSeasons_5 : decode cX7_forgetSeasons 5 = .ok (.aload_n 0, 1) := by decide +kernel
theorem dX7_forgetSeasons_6 : decode cX7_forgetSeasons 6 = .ok (.iconst 1, 1) := by decide +kernel
theorem dX7_forgetSeasons_7 : decode cX7_forgetSeasons 7 = .ok (.putfield 76, 3) := by decide +kernel
theorem dX7_forgetSeasons_10 : decode cX7_forgetSeasons 10 = .ok (.return_, 1) := by decide +kernel
theorem dX7_seasonAt_0 : decode cX7_seasonAt 0 = .ok (.aload_n 0, 1) := by decide +kernel
theorem dX7_seasonAt_1 : decode cX7_seasonAt 1 = .ok (.getfield 72, 3) := by decide +kernel
theorem dX7_seasonAt_4 : decode cX7_seasonAt 4 = .ok (.ifCond .eq 89, 3) := by decide +kernel
theorem dX7_seasonAt_7 : decode cX7_seasonAt 7 = .ok (.iconst 0, 1) := by decide +kernel
theorem dX7_seasonAt_8 : decode cX7_seasonAt 8 = .ok (.istore_n 2, 1) := by decide +kernel
theorem dX7_seasonAt_9 : decode cX7_seasonAt 9 = .ok (.iload_n 2, 1) := by decide +kernel
theorem dX7_seasonAt_10 : decode cX7_seasonAt 10 = .ok (.bipush 13, 2) := by decide +kernel
theorem dX7_seasonAt_12 : decode cX7_seasonAt 12 = .ok (.if_icmp .ge 76, 3) := by decide +kernel
theorem dX7_seasonAt_15 : decode cX7_seasonAt 15 = .ok (.iload_n 2, 1) := by decide +kernel
theorem dX7_seasonAt_16 : decode cX7_seasonAt 16 = .ok (.ifCond .ne 19, 3) := by decide +kernel
theorem dX7_seasonAt_19 : decode cX7_seasonAt 19 = .ok (.aload_n 0, 1) := by decide +kernel
theorem dX7_seasonAt_20 : decode cX7_seasonAt 20 = .ok (.getfield 42, 3) := by decide +kernel
theorem dX7_seasonAt_23 : decode cX7_seasonAt 23 = .ok (.iload_n 2, 1) := by decide +kernel
theorem dX7_seasonAt_24 : decode cX7_seasonAt 24 = .ok (.aaload, 1) := by decide +kernel
theorem dX7_seasonAt_25 : decode cX7_seasonAt 25 = .ok (.aload_n 0, 1) := by decide +kernel
theorem dX7_seasonAt_26 : decode cX7_seasonAt 26 = .ok (.getfield 23, 3) := by decide +kernel
theorem dX7_seasonAt_29 : decode cX7_seasonAt 29 = .ok (.invokevirtual 127, 3) := by decide +kernel
theorem dX7_seasonAt_32 : decode cX7_seasonAt 32 = .ok (.goto 27, 3) := by decide +kernel
theorem dX7_seasonAt_35 : decode cX7_seasonAt 35 = .ok (.aload_n 0, 1) := by decide +kernel
theorem dX7_seasonAt_36 : decode cX7_seasonAt 36 = .ok (.getfield 42, 3) := by decide +kernel
theorem dX7_seasonAt_39 : decode cX7_seasonAt 39 = .ok (.iload_n 2, 1) := by decide +kernel
theorem dX7_seasonAt_40 : decode cX7_seasonAt 40 = .ok (.aaload, 1) := by decide +kernel
theorem dX7_seasonAt_41 : decode cX7_seasonAt 41 = .ok (.aload_n 0, 1) := by decide +kernel
theorem dX7_seasonAt_42 : decode cX7_seasonAt 42 = .ok (.getfield 42, 3) := by decide +kernel
theorem dX7_seasonAt_45 : decode cX7_seasonAt 45 = .ok (.iload_n 2, 1) := by decide +kernel
theorem dX7_seasonAt_46 : decode cX7_seasonAt 46 = .ok (.iconst 1, 1) := by decide +kernel
theorem dX7_seasonAt_47 : decode cX7_seasonAt 47 = .ok (.isub, 1) := by decide +kernel
theorem dX7_seasonAt_48 : decode cX7_seasonAt 48 = .ok (.aaload, 1) := by decide +kernel
theorem dX7_seasonAt_49 : decode cX7_seasonAt 49 = .ok (.aload_n 0, 1) := by decide +kernel
theorem dX7_seasonAt_50 : decode cX7_seasonAt 50 = .ok (.getfield 23, 3) := by decide +kernel
theorem dX7_seasonAt_53 : decode cX7_seasonAt 53 = .ok (.getfield 130, 3) := by decide +kernel
theorem dX7_seasonAt_56 : decode cX7_seasonAt 56 = .ok (.invokevirtual 133, 3) := by decide +kernel
theorem dX7_seasonAt_59 : decode cX7_seasonAt 59 = .ok (.aload_n 0, 1) := by decide +kernel
theorem dX7_seasonAt_60 : decode cX7_seasonAt 60 = .ok (.getfield 23, 3) := by decide +kernel
theorem dX7_seasonAt_63 : decode cX7_seasonAt 63 = .ok (.iload_n 2, 1) := by decide +kernel
theorem dX7_seasonAt_64 : decode cX7_seasonAt 64 = .ok (.aload_n 0, 1) := by decide +kernel
theorem dX7_seasonAt_65 : decode cX7_seasonAt 65 = .ok (.getfield 42, 3) := by decide +kernel
theorem dX7_seasonAt_68 : decode cX7_seasonAt 68 = .ok (.iload_n 2, 1) := by decide +kernel
theorem dX7_seasonAt_69 : decode cX7_seasonAt 69 = .ok (.aaload, 1) := by decide +kernel
theorem dX7_seasonAt_70 : decode cX7_seasonAt 70 = .ok (.invokevirtual 137, 3) := by decide +kernel
theorem dX7_seasonAt_73 : decode cX7_seasonAt 73 = .ok (.aload_n 0, 1) := by decide +kernel
theorem dX7_seasonAt_74 : decode cX7_seasonAt 74 = .ok (.getfield 42, 3) := by decide +kernel
theorem dX7_seasonAt_77 : decode cX7_seasonAt 77 = .ok (.iload_n 2, 1) := by decide +kernel
theorem dX7_seasonAt_78 : decode cX7_seasonAt 78 = .ok (.aaload, 1) := by decide +kernel
theorem dX7_seasonAt_79 : decode cX7_seasonAt 79 = .ok (.invokevirtual 141, 3) := by decide +kernel
theorem dX7_seasonAt_82 : decode cX7_seasonAt 82 = .ok (.iinc 2 1, 3) := by decide +kernel
theorem dX7_seasonAt_85 : decode cX7_seasonAt 85 = .ok (.goto (-76), 3) := by decide +kernel
theorem dX7_seasonAt_88 : decode cX7_seasonAt 88 = .ok (.aload_n 0, 1) := by decide +kernel
theorem dX7_seasonAt_89 : decode cX7_seasonAt 89 = .ok (.iconst 0, 1) := by decide +kernel
theorem dX7_seasonAt_90 : decode cX7_seasonAt 90 = .ok (.putfield 72, 3) := by decide +kernel
theorem dX7_seasonAt_93 : decode cX7_seasonAt 93 = .ok (.aload_n 0, 1) := by decide +kernel
theorem dX7_seasonAt_94 : decode cX7_seasonAt 94 = .ok (.getfield 42, 3) := by decide +kernel
theorem dX7_seasonAt_97 : decode cX7_seasonAt 97 = .ok (.iload_n 1, 1) := by decide +kernel
theorem dX7_seasonAt_98 : decode cX7_seasonAt 98 = .ok (.aaload, 1) := by decide +kernel
theorem dX7_seasonAt_99 : decode cX7_seasonAt 99 = .ok (.areturn, 1) := by decide +kernel
theorem dX7_taste_0 : decode cX7_taste 0 = .ok (.aload_n 0, 1) := by decide +kernel
theorem dX7_taste_1 : decode cX7_taste 1 = .ok (.iload_n 1, 1) := by decide +kernel
theorem dX7_taste_2 : decode cX7_taste 2 = .ok (.invokevirtual 111, 3) := by decide +kernel
theorem dX7_taste_5 : decode cX7_taste 5 = .ok (.ifCond .eq 27, 3) := by decide +kernel
theorem dX7_taste_8 : decode cX7_taste 8 = .ok (.aload_n 0, 1) := by decide +kernel
theorem dX7_taste_9 : decode cX7_taste 9 = .ok (.iload_n 2, 1) := by decide +kernel
theorem dX7_taste_10 : decode cX7_taste 10 = .ok (.invokevirtual 124, 3) := by decide +kernel
theorem dX7_taste_13 : decode cX7_taste 13 = .ok (.ifCond .eq 19, 3) := by decide +kernel
theorem dX7_taste_16 : decode cX7_taste 16 = .ok (.aload_n 0, 1) := by decide +kernel
theorem dX7_taste_17 : decode cX7_taste 17 = .ok (.getfield 23, 3) := by decide +kernel
theorem dX7_taste_20 : decode cX7_taste 20 = .ok (.getfield 144, 3) := by decide +kernel
theorem dX7_taste_23 : decode cX7_taste 23 = .ok (.iload_n 1, 1) := by decide +kernel
theorem dX7_taste_24 : decode cX7_taste 24 = .ok (.iconst 5, 1) := by decide +kernel
theorem dX7_taste_25 : decode cX7_taste 25 = .ok (.imul, 1) := by decide +kernel
theorem dX7_taste_26 : decode cX7_taste 26 = .ok (.iload_n 2, 1) := by decide +kernel
theorem dX7_taste_27 : decode cX7_taste 27 = .ok (.iadd, 1) := by decide +kernel
theorem dX7_taste_28 : decode cX7_taste 28 = .ok (.iaload, 1) := by decide +kernel
theorem dX7_taste_29 : decode cX7_taste 29 = .ok (.goto 5, 3) := by decide +kernel
theorem dX7_taste_32 : decode cX7_taste 32 = .ok (.bipush (-100), 2) := by decide +kernel
theorem dX7_taste_34 : decode cX7_taste 34 = .ok (.ireturn, 1) := by decide +kernel
theorem dX7_likes_0 : decode cX7_likes 0 = .ok (.aload_n 0, 1) := by decide +kernel
theorem dX7_likes_1 : decode cX7_likes 1 = .ok (.iload_n 1, 1) := by decide +kernel
theorem dX7_likes_2 : decode cX7_likes 2 = .ok (.iload_n 3, 1) := by decide +kernel
theorem dX7_likes_3 : decode cX7_likes 3 = .ok (.invokevirtual 148, 3) := by decide +kernel
theorem dX7_likes_6 : decode cX7_likes 6 = .ok (.ifCond .eq 11, 3) := by decide +kernel
theorem dX7_likes_9 : decode cX7_likes 9 = .ok (.aload_n 0, 1) := by decide +kernel
theorem dX7_likes_10 : decode cX7_likes 10 = .ok (.iload_n 2, 1) := by decide +kernel
theorem dX7_likes_11 : decode cX7_likes 11 = .ok (.invokevirtual 124, 3) := by decide +kernel
theorem dX7_likes_14 : decode cX7_likes 14 = .ok (.ifCond .ne 6, 3) := by decide +kernel
theorem dX7_likes_17 : decode cX7_likes 17 = .ok (.bipush (-100), 2) := by decide +kernel
theorem dX7_likes_19 : decode cX7_likes 19 = .ok (.ireturn, 1) := by decide +kernel
theorem dX7_likes_20 : decode cX7_likes 20 = .ok (.aload_n 0, 1) := by decide +kernel
theorem dX7_likes_21 : decode cX7_likes 21 = .ok (.iload_n 3, 1) := by decide +kernel
theorem dX7_likes_22 : decode cX7_likes 22 = .ok (.invokevirtual 152, 3) := by decide +kernel
theorem dX7_likes_25 : decode cX7_likes 25 = .ok (.iload_n 1, 1) := by decide +kernel
theorem dX7_likes_26 : decode cX7_likes 26 = .ok (.iload_n 2, 1) := by decide +kernel
theorem dX7_likes_27 : decode cX7_likes 27 = .ok (.invokevirtual 156, 3) := by decide +kernel
theorem dX7_likes_30 : decode cX7_likes 30 = .ok (.ireturn, 1) := by decide +kernel
theorem dX7_hates_0 : decode cX7_hates 0 = .ok (.aload_n 0, 1) := by decide +kernel
theorem dX7_hates_1 : decode cX7_hates 1 = .ok (.iload_n 1, 1) := by decide +kernel
theorem dX7_hates_2 : decode cX7_hates 2 = .ok (.iload_n 2, 1) := by decide +kernel
theorem dX7_hates_3 : decode cX7_hates 3 = .ok (.invokevirtual 148, 3) := by decide +kernel
theorem dX7_hates_6 : decode cX7_hates 6 = .ok (.ifCond .eq 15, 3) := by decide +kernel
theorem dX7_hates_9 : decode cX7_hates 9 = .ok (.aload_n 0, 1) := by decide +kernel
theorem dX7_hates_10 : decode cX7_hates 10 = .ok (.iload_n 2, 1) := by decide +kernel
theorem dX7_hates_11 : decode cX7_hates 11 = .ok (.invokevirtual 152, 3) := by decide +kernel
theorem dX7_hates_14 : decode cX7_hates 14 = .ok (.iload_n 1, 1) := by decide +kernel
theorem dX7_hates_15 : decode cX7_hates 15 = .ok (.invokevirtual 160, 3) := by decide +kernel
theorem dX7_hates_18 : decode cX7_hates 18 = .ok (.goto 5, 3) := by decide +kernel
theorem dX7_hates_21 : decode cX7_hates 21 = .ok (.bipush (-2), 2) := by decide +kernel
theorem dX7_hates_23 : decode cX7_hates 23 = .ok (.ireturn, 1) := by decide +kernel
theorem dX7_open_0 : decode cX7_open 0 = .ok (.aload_n 0, 1) := by decide +kernel
theorem dX7_open_1 : decode cX7_open 1 = .ok (.iload_n 1, 1) := by decide +kernel
theorem dX7_open_2 : decode cX7_open 2 = .ok (.iload_n 2, 1) := by decide +kernel
theorem dX7_open_3 : decode cX7_open 3 = .ok (.invokevirtual 148, 3) := by decide +kernel
theorem dX7_open_6 : decode cX7_open 6 = .ok (.ifCond .eq 16, 3) := by decide +kernel
theorem dX7_open_9 : decode cX7_open 9 = .ok (.aload_n 0, 1) := by decide +kernel
theorem dX7_open_10 : decode cX7_open 10 = .ok (.iload_n 2, 1) := by decide +kernel
theorem dX7_open_11 : decode cX7_open 11 = .ok (.invokevirtual 152, 3) := by decide +kernel
theorem dX7_open_14 : decode cX7_open 14 = .ok (.getfield 164, 3) := by decide +kernel
theorem dX7_open_17 : decode cX7_open 17 = .ok (.iload_n 1, 1) := by decide +kernel
theorem dX7_open_18 : decode cX7_open 18 = .ok (.iaload, 1) := by decide +kernel
theorem dX7_open_19 : decode cX7_open 19 = .ok (.goto 5, 3) := by decide +kernel
theorem dX7_open_22 : decode cX7_open 22 = .ok (.bipush (-2), 2) := by decide +kernel
theorem dX7_open_24 : decode cX7_open 24 = .ok (.ireturn, 1) := by decide +kernel
theorem dX7_haters_0 : decode cX7_haters 0 = .ok (.aload_n 0, 1) := by decide +kernel
theorem dX7_haters_1 : decode cX7_haters 1 = .ok (.iload_n 1, 1) := by decide +kernel
theorem dX7_haters_2 : decode cX7_haters 2 = .ok (.iload_n 2, 1) := by decide +kernel
theorem dX7_haters_3 : decode cX7_haters 3 = .ok (.invokevirtual 167, 3) := by decide +kernel
theorem dX7_haters_6 : decode cX7_haters 6 = .ok (.ifCond .ne 6, 3) := by decide +kernel
theorem dX7_haters_9 : decode cX7_haters 9 = .ok (.bipush (-2), 2) := by decide +kernel
theorem dX7_haters_11 : decode cX7_haters 11 = .ok (.ireturn, 1) := by decide +kernel
theorem dX7_haters_12 : decode cX7_haters 12 = .ok (.aload_n 0, 1) := by decide +kernel
theorem dX7_haters_13 : decode cX7_haters 13 = .ok (.iload_n 2, 1) := by decide +kernel
theorem dX7_haters_14 : decode cX7_haters 14 = .ok (.invokevirtual 152, 3) := by decide +kernel
theorem dX7_haters_17 : decode cX7_haters 17 = .ok (.astore_n 3, 1) := by decide +kernel
theorem dX7_haters_18 : decode cX7_haters 18 = .ok (.iconst 0, 1) := by decide +kernel
theorem dX7_haters_19 : decode cX7_haters 19 = .ok (.istore 4, 2) := by decide +kernel
theorem dX7_haters_21 : decode cX7_haters 21 = .ok (.iconst 0, 1) := by decide +kernel
theorem dX7_haters_22 : decode cX7_haters 22 = .ok (.istore 5, 2) := by decide +kernel
theorem dX7_haters_24 : decode cX7_haters 24 = .ok (.iload 5, 2) := by decide +kernel
theorem dX7_haters_26 : decode cX7_haters 26 = .ok (.aload_n 0, 1) := by decide +kernel
theorem dX7_haters_27 : decode cX7_haters 27 = .ok (.getfield 23, 3) := by decide +kernel
theorem dX7_haters_30 : decode cX7_haters 30 = .ok (.getfield 108, 3) := by decide +kernel
theorem dX7_haters_33 : decode cX7_haters 33 = .ok (.if_icmp .ge 32, 3) := by decide +kernel
theorem dX7_haters_36 : decode cX7_haters 36 = .ok (.aload_n 3, 1) := by decide +kernel
theorem dX7_haters_37 : decode cX7_haters 37 = .ok (.getfield 164, 3) := by decide +kernel
theorem dX7_haters_40 : decode cX7_haters 40 = .ok (.iload 5, 2) := by decide +kernel
theorem dX7_haters_42 : decode cX7_haters 42 = .ok (.iaload, 1) := by decide +kernel
theorem dX7_haters_43 : decode cX7_haters 43 = .ok (.iload_n 1, 1) := by decide +kernel
theorem dX7_haters_44 : decode cX7_haters 44 = .ok (.invokestatic 170, 3) := by decide +kernel
theorem dX7_haters_47 : decode cX7_haters 47 = .ok (.ifCond .eq 12, 3) := by decide +kernel
theorem dX7_haters_50 : decode cX7_haters 50 = .ok (.iload 4, 2) := by decide +kernel
theorem dX7_haters_52 : decode cX7_haters 52 = .ok (.iconst 1, 1) := by decide +kernel
theorem dX7_haters_53 : decode cX7_haters 53 = .ok (.iload 5, 2) := by decide +kernel
theorem dX7_haters_55 : decode cX7_haters 55 = .ok (.ishl, 1) := by decide +kernel
theorem dX7_haters_56 : decode cX7_haters 56 = .ok (.ior, 1) := by decide +kernel
theorem dX7_haters_57 : decode cX7_haters 57 = .ok (.istore 4, 2) := by decide +kernel
theorem dX7_haters_59 : decode cX7_haters 59 = .ok (.iinc 5 1, 3) := by decide +kernel
theorem dX7_haters_62 : decode cX7_haters 62 = .ok (.goto (-38), 3) := by decide +kernel
theorem dX7_haters_65 : decode cX7_haters 65 = .ok (.iload 4, 2) := by decide +kernel
theorem dX7_haters_67 : decode cX7_haters 67 = .ok (.ireturn, 1) := by decide +kernel
theorem dX7_on_0 : decode cX7_on 0 = .ok (.aload_n 0, 1) := by decide +kernel
theorem dX7_on_1 : decode cX7_on 1 = .ok (.iload_n 1, 1) := by decide +kernel
theorem dX7_on_2 : decode cX7_on 2 = .ok (.iload_n 2, 1) := by decide +kernel
theorem dX7_on_3 : decode cX7_on 3 = .ok (.invokevirtual 148, 3) := by decide +kernel
theorem dX7_on_6 : decode cX7_on 6 = .ok (.ifCond .eq 16, 3) := by decide +kernel
theorem dX7_on_9 : decode cX7_on 9 = .ok (.aload_n 0, 1) := by decide +kernel
theorem dX7_on_10 : decode cX7_on 10 = .ok (.iload_n 2, 1) := by decide +kernel
theorem dX7_on_11 : decode cX7_on 11 = .ok (.invokevirtual 152, 3) := by decide +kernel
theorem dX7_on_14 : decode cX7_on 14 = .ok (.getfield 173, 3) := by decide +kernel
theorem dX7_on_17 : decode cX7_on 17 = .ok (.iload_n 1, 1) := by decide +kernel
theorem dX7_on_18 : decode cX7_on 18 = .ok (.iaload, 1) := by decide +kernel
theorem dX7_on_19 : decode cX7_on 19 = .ok (.goto 5, 3) := by decide +kernel
theorem dX7_on_22 : decode cX7_on 22 = .ok (.bipush (-2), 2) := by decide +kernel
theorem dX7_on_24 : decode cX7_on 24 = .ok (.ireturn, 1) := by decide +kernel
theorem dX7_plot_0 : decode cX7_plot 0 = .ok (.aload_n 0, 1) := by decide +kernel
theorem dX7_plot_1 : decode cX7_plot 1 = .ok (.iload_n 1, 1) := by decide +kernel
theorem dX7_plot_2 : decode cX7_plot 2 = .ok (.iload_n 2, 1) := by decide +kernel
theorem dX7_plot_3 : decode cX7_plot 3 = .ok (.invokevirtual 148, 3) := by decide +kernel
theorem dX7_plot_6 : decode cX7_plot 6 = .ok (.ifCond .eq 15, 3) := by decide +kernel
theorem dX7_plot_9 : decode cX7_plot 9 = .ok (.aload_n 0, 1) := by decide +kernel
theorem dX7_plot_10 : decode cX7_plot 10 = .ok (.iload_n 2, 1) := by decide +kernel
theorem dX7_plot_11 : decode cX7_plot 11 = .ok (.invokevirtual 152, 3) := by decide +kernel
theorem dX7_plot_14 : decode cX7_plot 14 = .ok (.iload_n 1, 1) := by decide +kernel
theorem dX7_plot_15 : decode cX7_plot 15 = .ok (.invokevirtual 176, 3) := by decide +kernel
theorem dX7_plot_18 : decode cX7_plot 18 = .ok (.goto 5, 3) := by decide +kernel
theorem dX7_plot_21 : decode cX7_plot 21 = .ok (.bipush (-2), 2) := by decide +kernel
theorem dX7_plot_23 : decode cX7_plot 23 = .ok (.ireturn, 1) := by decide +kernel
theorem dX7_decides_0 : decode cX7_decides 0 = .ok (.aload_n 0, 1) := by decide +kernel
theorem dX7_decides_1 : decode cX7_decides 1 = .ok (.iload_n 1, 1) := by decide +kernel
theorem dX7_decides_2 : decode cX7_decides 2 = .ok (.iload_n 2, 1) := by decide +kernel
theorem dX7_decides_3 : decode cX7_decides 3 = .ok (.invokevirtual 148, 3) := by decide +kernel
theorem dX7_decides_6 : decode cX7_decides 6 = .ok (.ifCond .eq 16, 3) := by decide +kernel
theorem dX7_decides_9 : decode cX7_decides 9 = .ok (.aload_n 0, 1) := by decide +kernel
theorem dX7_decides_10 : decode cX7_decides 10 = .ok (.iload_n 2, 1) := by decide +kernel
theorem dX7_decides_11 : decode cX7_decides 11 = .ok (.invokevirtual 152, 3) := by decide +kernel
theorem dX7_decides_14 : decode cX7_decides 14 = .ok (.getfield 179, 3) := by decide +kernel
theorem dX7_decides_17 : decode cX7_decides 17 = .ok (.iload_n 1, 1) := by decide +kernel
theorem dX7_decides_18 : decode cX7_decides 18 = .ok (.iaload, 1) := by decide +kernel
theorem dX7_decides_19 : decode cX7_decides 19 = .ok (.goto 5, 3) := by decide +kernel
theorem dX7_decides_22 : decode cX7_decides 22 = .ok (.bipush (-2), 2) := by decide +kernel
theorem dX7_decides_24 : decode cX7_decides 24 = .ok (.ireturn, 1) := by decide +kernel
theorem dX7_may_0 : decode cX7_may 0 = .ok (.aload_n 0, 1) := by decide +kernel
theorem dX7_may_1 : decode cX7_may 1 = .ok (.iload_n 1, 1) := by decide +kernel
theorem dX7_may_2 : decode cX7_may 2 = .ok (.iload_n 2, 1) := by decide +kernel
theorem dX7_may_3 : decode cX7_may 3 = .ok (.invokevirtual 148, 3) := by decide +kernel
theorem dX7_may_6 : decode cX7_may 6 = .ok (.ifCond .ne 6, 3) := by decide +kernel
theorem dX7_may_9 : decode cX7_may 9 = .ok (.bipush (-2), 2) := by decide +kernel
theorem dX7_may_11 : decode cX7_may 11 = .ok (.ireturn, 1) := by decide +kernel
theorem dX7_may_12 : decode cX7_may 12 = .ok (.aload_n 0, 1) := by decide +kernel
theorem dX7_may_13 : decode cX7_may 13 = .ok (.iload_n 2, 1) := by decide +kernel
theorem dX7_may_14 : decode cX7_may 14 = .ok (.invokevirtual 152, 3) := by decide +kernel
theorem dX7_may_17 : decode cX7_may 17 = .ok (.astore_n 3, 1) := by decide +kernel
theorem dX7_may_18 : decode cX7_may 18 = .ok (.aload_n 3, 1) := by decide +kernel
theorem dX7_may_19 : decode cX7_may 19 = .ok (.aload_n 3, 1) := by decide +kernel
theorem dX7_may_20 : decode cX7_may 20 = .ok (.getfield 179, 3) := by decide +kernel
theorem dX7_may_23 : decode cX7_may 23 = .ok (.iload_n 1, 1) := by decide +kernel
theorem dX7_may_24 : decode cX7_may 24 = .ok (.iaload, 1) := by decide +kernel
theorem dX7_may_25 : decode cX7_may 25 = .ok (.invokevirtual 182, 3) := by decide +kernel
theorem dX7_may_28 : decode cX7_may 28 = .ok (.ireturn, 1) := by decide +kernel
theorem dX7_grows_0 : decode cX7_grows 0 = .ok (.aload_n 0, 1) := by decide +kernel
theorem dX7_grows_1 : decode cX7_grows 1 = .ok (.iload_n 1, 1) := by decide +kernel
theorem dX7_grows_2 : decode cX7_grows 2 = .ok (.iload_n 2, 1) := by decide +kernel
theorem dX7_grows_3 : decode cX7_grows 3 = .ok (.invokevirtual 148, 3) := by decide +kernel
theorem dX7_grows_6 : decode cX7_grows 6 = .ok (.ifCond .eq 16, 3) := by decide +kernel
theorem dX7_grows_9 : decode cX7_grows 9 = .ok (.aload_n 0, 1) := by decide +kernel
theorem dX7_grows_10 : decode cX7_grows 10 = .ok (.iload_n 2, 1) := by decide +kernel
theorem dX7_grows_11 : decode cX7_grows 11 = .ok (.invokevirtual 152, 3) := by decide +kernel
theorem dX7_grows_14 : decode cX7_grows 14 = .ok (.getfield 185, 3) := by decide +kernel
theorem dX7_grows_17 : decode cX7_grows 17 = .ok (.iload_n 1, 1) := by decide +kernel
theorem dX7_grows_18 : decode cX7_grows 18 = .ok (.iaload, 1) := by decide +kernel
theorem dX7_grows_19 : decode cX7_grows 19 = .ok (.goto 5, 3) := by decide +kernel
theorem dX7_grows_22 : decode cX7_grows 22 = .ok (.bipush (-2), 2) := by decide +kernel
theorem dX7_grows_24 : decode cX7_grows 24 = .ok (.ireturn, 1) := by decide +kernel
theorem dX7_bare_0 : decode cX7_bare 0 = .ok (.aload_n 0, 1) := by decide +kernel
theorem dX7_bare_1 : decode cX7_bare 1 = .ok (.iload_n 1, 1) := by decide +kernel
theorem dX7_bare_2 : decode cX7_bare 2 = .ok (.invokevirtual 121, 3) := by decide +kernel
theorem dX7_bare_5 : decode cX7_bare 5 = .ok (.ifCond .eq 15, 3) := by decide +kernel
theorem dX7_bare_8 : decode cX7_bare 8 = .ok (.aload_n 0, 1) := by decide +kernel
theorem dX7_bare_9 : decode cX7_bare 9 = .ok (.iload_n 1, 1) := by decide +kernel
theorem dX7_bare_10 : decode cX7_bare 10 = .ok (.invokevirtual 152, 3) := by decide +kernel
theorem dX7_bare_13 : decode cX7_bare 13 = .ok (.iconst (-1), 1) := by decide +kernel
theorem dX7_bare_14 : decode cX7_bare 14 = .ok (.invokevirtual 188, 3) := by decide +kernel
theorem dX7_bare_17 : decode cX7_bare 17 = .ok (.goto 5, 3) := by decide +kernel
theorem dX7_bare_20 : decode cX7_bare 20 = .ok (.bipush (-2), 2) := by decide +kernel
theorem dX7_bare_22 : decode cX7_bare 22 = .ok (.ireturn, 1) := by decide +kernel
theorem dX7_growers_0 : decode cX7_growers 0 = .ok (.aload_n 0, 1) := by decide +kernel
theorem dX7_growers_1 : decode cX7_growers 1 = .ok (.iload_n 1, 1) := by decide +kernel
theorem dX7_growers_2 : decode cX7_growers 2 = .ok (.iload_n 2, 1) := by decide +kernel
theorem dX7_growers_3 : decode cX7_growers 3 = .ok (.invokevirtual 167, 3) := by decide +kernel
theorem dX7_growers_6 : decode cX7_growers 6 = .ok (.ifCond .eq 15, 3) := by decide +kernel
theorem dX7_growers_9 : decode cX7_growers 9 = .ok (.aload_n 0, 1) := by decide +kernel
theorem dX7_growers_10 : decode cX7_growers 10 = .ok (.iload_n 2, 1) := by decide +kernel
theorem dX7_growers_11 : decode cX7_growers 11 = .ok (.invokevirtual 152, 3) := by decide +kernel
theorem dX7_growers_14 : decode cX7_growers 14 = .ok (.iload_n 1, 1) := by decide +kernel
theorem dX7_growers_15 : decode cX7_growers 15 = .ok (.invokevirtual 188, 3) := by decide +kernel
theorem dX7_growers_18 : decode cX7_growers 18 = .ok (.goto 5, 3) := by decide +kernel
theorem dX7_growers_21 : decode cX7_growers 21 = .ok (.bipush (-2), 2) := by decide +kernel
theorem dX7_growers_23 : decode cX7_growers 23 = .ok (.ireturn, 1) := by decide +kernel
theorem dX7_kinds_0 : decode cX7_kinds 0 = .ok (.aload_n 0, 1) := by decide +kernel
theorem dX7_kinds_1 : decode cX7_kinds 1 = .ok (.iload_n 1, 1) := by decide +kernel
theorem dX7_kinds_2 : decode cX7_kinds 2 = .ok (.invokevirtual 121, 3) := by decide +kernel
theorem dX7_kinds_5 : decode cX7_kinds 5 = .ok (.ifCond .ne 6, 3) := by decide +kernel
theorem dX7_kinds_8 : decode cX7_kinds 8 = .ok (.bipush (-2), 2) := by decide +kernel
theorem dX7_kinds_10 : decode cX7_kinds 10 = .ok (.ireturn, 1) := by decide +kernel
theorem dX7_kinds_11 : decode cX7_kinds 11 = .ok (.iconst 0, 1) := by decide +kernel
theorem dX7_kinds_12 : decode cX7_kinds 12 = .ok (.istore_n 2, 1) := by decide +kernel
theorem dX7_kinds_13 : decode cX7_kinds 13 = .ok (.iconst 0, 1) := by decide +kernel
theorem dX7_kinds_14 : decode cX7_kinds 14 = .ok (.istore_n 3, 1) := by decide +kernel
theorem dX7_kinds_15 : decode cX7_kinds 15 = .ok (.iload_n 3, 1) := by decide +kernel
theorem dX7_kinds_16 : decode cX7_kinds 16 = .ok (.aload_n 0, 1) := by decide +kernel
theorem dX7_kinds_17 : decode cX7_kinds 17 = .ok (.getfield 23, 3) := by decide +kernel
theorem dX7_kinds_20 : decode cX7_kinds 20 = .ok (.getfield 115, 3) := by decide +kernel
theorem dX7_kinds_23 : decode cX7_kinds 23 = .ok (.if_icmp .ge 24, 3) := by decide +kernel
theorem dX7_kinds_26 : decode cX7_kinds 26 = .ok (.aload_n 0, 1) := by decide +kernel
theorem dX7_kinds_27 : decode cX7_kinds 27 = .ok (.iload_n 1, 1) := by decide +kernel
theorem dX7_kinds_28 : decode cX7_kinds 28 = .ok (.invokevirtual 152, 3) := by decide +kernel
theorem dX7_kinds_31 : decode cX7_kinds 31 = .ok (.iload_n 3, 1) := by decide +kernel
theorem dX7_kinds_32 : decode cX7_kinds 32 = .ok (.invokevirtual 188, 3) := by decide +kernel
theorem dX7_kinds_35 : decode cX7_kinds 35 = .ok (.ifCond .eq 6, 3) := by decide +kernel
theorem dX7_kinds_38 : decode cX7_kinds 38 = .ok (.iinc 2 1, 3) := by decide +kernel
theorem dX7_kinds_41 : decode cX7_kinds 41 = .ok (.iinc 3 1, 3) := by decide +kernel
theorem dX7_kinds_44 : decode cX7_kinds 44 = .ok (.goto (-29), 3) := by decide +kernel
theorem dX7_kinds_47 : decode cX7_kinds 47 = .ok (.iload_n 2, 1) := by decide +kernel
theorem dX7_kinds_48 : decode cX7_kinds 48 = .ok (.ireturn, 1) := by decide +kernel
theorem dX7_has_0 : decode cX7_has 0 = .ok (.aload_n 0, 1) := by decide +kernel
theorem dX7_has_1 : decode cX7_has 1 = .ok (.iload_n 1, 1) := by decide +kernel
theorem dX7_has_2 : decode cX7_has 2 = .ok (.iload_n 2, 1) := by decide +kernel
theorem dX7_has_3 : decode cX7_has 3 = .ok (.invokevirtual 148, 3) := by decide +kernel
theorem dX7_has_6 : decode cX7_has 6 = .ok (.ifCond .eq 15, 3) := by decide +kernel
theorem dX7_has_9 : decode cX7_has 9 = .ok (.aload_n 0, 1) := by decide +kernel
theorem dX7_has_10 : decode cX7_has 10 = .ok (.iload_n 2, 1) := by decide +kernel
theorem dX7_has_11 : decode cX7_has 11 = .ok (.invokevirtual 152, 3) := by decide +kernel
theorem dX7_has_14 : decode cX7_has 14 = .ok (.iload_n 1, 1) := by decide +kernel
theorem dX7_has_15 : decode cX7_has 15 = .ok (.invokevirtual 191, 3) := by decide +kernel
theorem dX7_has_18 : decode cX7_has 18 = .ok (.goto 6, 3) := by decide +kernel
theorem dX7_has_21 : decode cX7_has 21 = .ok (.sipush (-1000), 3) := by decide +kernel
theorem dX7_has_24 : decode cX7_has 24 = .ok (.ireturn, 1) := by decide +kernel
theorem dX7_life_0 : decode cX7_life 0 = .ok (.aload_n 0, 1) := by decide +kernel
theorem dX7_life_1 : decode cX7_life 1 = .ok (.iload_n 1, 1) := by decide +kernel
theorem dX7_life_2 : decode cX7_life 2 = .ok (.invokevirtual 111, 3) := by decide +kernel
theorem dX7_life_5 : decode cX7_life 5 = .ok (.ifCond .ne 7, 3) := by decide +kernel
theorem dX7_life_8 : decode cX7_life 8 = .ok (.sipush (-1000), 3) := by decide +kernel
theorem dX7_life_11 : decode cX7_life 11 = .ok (.ireturn, 1) := by decide +kernel
theorem dX7_life_12 : decode cX7_life 12 = .ok (.iconst 0, 1) := by decide +kernel
theorem dX7_life_13 : decode cX7_life 13 = .ok (.istore_n 2, 1) := by decide +kernel
theorem dX7_life_14 : decode cX7_life 14 = .ok (.iconst 0, 1) := by decide +kernel
theorem dX7_life_15 : decode cX7_life 15 = .ok (.istore_n 3, 1) := by decide +kernel
theorem dX7_life_16 : decode cX7_life 16 = .ok (.iload_n 3, 1) := by decide +kernel
theorem dX7_life_17 : decode cX7_life 17 = .ok (.bipush 13, 2) := by decide +kernel
theorem dX7_life_19 : decode cX7_life 19 = .ok (.if_icmp .ge 21, 3) := by decide +kernel
theorem dX7_life_22 : decode cX7_life 22 = .ok (.iload_n 2, 1) := by decide +kernel
theorem dX7_life_23 : decode cX7_life 23 = .ok (.aload_n 0, 1) := by decide +kernel
theorem dX7_life_24 : decode cX7_life 24 = .ok (.iload_n 3, 1) := by decide +kernel
theorem dX7_life_25 : decode cX7_life 25 = .ok (.invokevirtual 152, 3) := by decide +kernel
theorem dX7_life_28 : decode cX7_life 28 = .ok (.iload_n 1, 1) := by decide +kernel
theorem dX7_life_29 : decode cX7_life 29 = .ok (.invokevirtual 191, 3) := by decide +kernel
theorem dX7_life_32 : decode cX7_life 32 = .ok (.iadd, 1) := by decide +kernel
theorem dX7_life_33 : decode cX7_life 33 = .ok (.istore_n 2, 1) := by decide +kernel
theorem dX7_life_34 : decode cX7_life 34 = .ok (.iinc 3 1, 3) := by decide +kernel
theorem dX7_life_37 : decode cX7_life 37 = .ok (.goto (-21), 3) := by decide +kernel
theorem dX7_life_40 : decode cX7_life 40 = .ok (.iload_n 2, 1) := by decide +kernel
theorem dX7_life_41 : decode cX7_life 41 = .ok (.ireturn, 1) := by decide +kernel
theorem dX7_all_0 : decode cX7_all 0 = .ok (.aload_n 0, 1) := by decide +kernel
theorem dX7_all_1 : decode cX7_all 1 = .ok (.iload_n 1, 1) := by decide +kernel
theorem dX7_all_2 : decode cX7_all 2 = .ok (.invokevirtual 121, 3) := by decide +kernel
theorem dX7_all_5 : decode cX7_all 5 = .ok (.ifCond .eq 14, 3) := by decide +kernel
theorem dX7_all_8 : decode cX7_all 8 = .ok (.aload_n 0, 1) := by decide +kernel
theorem dX7_all_9 : decode cX7_all 9 = .ok (.iload_n 1, 1) := by decide +kernel
theorem dX7_all_10 : decode cX7_all 10 = .ok (.invokevirtual 152, 3) := by decide +kernel
theorem dX7_all_13 : decode cX7_all 13 = .ok (.invokevirtual 194, 3) := by decide +kernel
theorem dX7_all_16 : decode cX7_all 16 = .ok (.goto 6, 3) := by decide +kernel
theorem dX7_all_19 : decode cX7_all 19 = .ok (.sipush (-10000), 3) := by decide +kernel
theorem dX7_all_22 : decode cX7_all 22 = .ok (.ireturn, 1) := by decide +kernel
theorem dX7_happiest_0 : decode cX7_happiest 0 = .ok (.aload_n 0, 1) := by decide +kernel
theorem dX7_happiest_1 : decode cX7_happiest 1 = .ok (.iload_n 1, 1) := by decide +kernel
theorem dX7_happiest_2 : decode cX7_happiest 2 = .ok (.invokevirtual 121, 3) := by decide +kernel
theorem dX7_happiest_5 : decode cX7_happiest 5 = .ok (.ifCond .ne 6, 3) := by decide +kernel
theorem dX7_happiest_8 : decode cX7_happiest 8 = .ok (.bipush (-2), 2) := by decide +kernel
theorem dX7_happiest_10 : decode cX7_happiest 10 = .ok (.ireturn, 1) := by decide +kernel
theorem dX7_happiest_11 : decode cX7_happiest 11 = .ok (.aload_n 0, 1) := by decide +kernel
theorem dX7_happiest_12 : decode cX7_happiest 12 = .ok (.iload_n 1, 1) := by decide +kernel
theorem dX7_happiest_13 : decode cX7_happiest 13 = .ok (.invokevirtual 152, 3) := by decide +kernel
theorem dX7_happiest_16 : decode cX7_happiest 16 = .ok (.astore_n 2, 1) := by decide +kernel
theorem dX7_happiest_17 : decode cX7_happiest 17 = .ok (.iconst (-1), 1) := by decide +kernel
theorem dX7_happiest_18 : decode cX7_happiest 18 = .ok (.istore_n 3, 1) := by decide +kernel
theorem dX7_happiest_19 : decode cX7_happiest 19 = .ok (.iconst 0, 1) := by decide +kernel
theorem dX7_happiest_20 : decode cX7_happiest 20 = .ok (.istore 4, 2) := by decide +kernel
theorem dX7_happiest_22 : decode cX7_happiest 22 = .ok (.iload 4, 2) := by decide +kernel
theorem dX7_happiest_24 : decode cX7_happiest 24 = .ok (.aload_n 0, 1) := by decide +kernel
theorem dX7_happiest_25 : decode cX7_happiest 25 = .ok (.getfield 23, 3) := by decide +kernel
theorem dX7_happiest_28 : decode cX7_happiest 28 = .ok (.getfield 108, 3) := by decide +kernel
theorem dX7_happiest_31 : decode cX7_happiest 31 = .ok (.if_icmp .ge 31, 3) := by decide +kernel
theorem dX7_happiest_34 : decode cX7_happiest 34 = .ok (.iload_n 3, 1) := by decide +kernel
theorem dX7_happiest_35 : decode cX7_happiest 35 = .ok (.iconst (-1), 1) := by decide +kernel
theorem dX7_happiest_36 : decode cX7_happiest 36 = .ok (.if_icmp .eq 17, 3) := by decide +kernel
theorem dX7_happiest_39 : decode cX7_happiest 39 = .ok (.aload_n 2, 1) := by decide +kernel
theorem dX7_happiest_40 : decode cX7_happiest 40 = .ok (.iload 4, 2) := by decide +kernel
theorem dX7_happiest_42 : decode cX7_happiest 42 = .ok (.invokevirtual 191, 3) := by decide +kernel
theorem dX7_happiest_45 : decode cX7_happiest 45 = .ok (.aload_n 2, 1) := by decide +kernel
theorem dX7_happiest_46 : decode cX7_happiest 46 = .ok (.iload_n 3, 1) := by decide +kernel
theorem dX7_happiest_47 : decode cX7_happiest 47 = .ok (.invokevirtual 191, 3) := by decide +kernel
theorem dX7_happiest_50 : decode cX7_happiest 50 = .ok (.if_icmp .le 6, 3) := by decide +kernel
theorem dX7_happiest_53 : decode cX7_happiest 53 = .ok (.iload 4, 2) := by decide +kernel
theorem dX7_happiest_55 : decode cX7_happiest 55 = .ok (.istore_n 3, 1) := by decide +kernel
theorem dX7_happiest_56 : decode cX7_happiest 56 = .ok (.iinc 4 1, 3) := by decide +kernel
theorem dX7_happiest_59 : decode cX7_happiest 59 = .ok (.goto (-37), 3) := by decide +kernel
theorem dX7_happiest_62 : decode cX7_happiest 62 = .ok (.iload_n 3, 1) := by decide +kernel
theorem dX7_happiest_63 : decode cX7_happiest 63 = .ok (.ireturn, 1) := by decide +kernel
theorem dX7_fails_0 : decode cX7_fails 0 = .ok (.aload_n 0, 1) := by decide +kernel
theorem dX7_fails_1 : decode cX7_fails 1 = .ok (.getfield 23, 3) := by decide +kernel
theorem dX7_fails_4 : decode cX7_fails 4 = .ok (.getfield 118, 3) := by decide +kernel
theorem dX7_fails_7 : decode cX7_fails 7 = .ok (.ifCond .ne 6, 3) := by decide +kernel
theorem dX7_fails_10 : decode cX7_fails 10 = .ok (.bipush (-2), 2) := by decide +kernel
theorem dX7_fails_12 : decode cX7_fails 12 = .ok (.ireturn, 1) := by decide +kernel
theorem dX7_fails_13 : decode cX7_fails 13 = .ok (.iconst 0, 1) := by decide +kernel
theorem dX7_fails_14 : decode cX7_fails 14 = .ok (.istore_n 1, 1) := by decide +kernel
theorem dX7_fails_15 : decode cX7_fails 15 = .ok (.iload_n 1, 1) := by decide +kernel
theorem dX7_fails_16 : decode cX7_fails 16 = .ok (.bipush 13, 2) := by decide +kernel
theorem dX7_fails_18 : decode cX7_fails 18 = .ok (.if_icmp .ge 23, 3) := by decide +kernel
theorem dX7_fails_21 : decode cX7_fails 21 = .ok (.aload_n 0, 1) := by decide +kernel
theorem dX7_fails_22 : decode cX7_fails 22 = .ok (.iload_n 1, 1) := by decide +kernel
theorem dX7_fails_23 : decode cX7_fails 23 = .ok (.invokevirtual 152, 3) := by decide +kernel
theorem dX7_fails_26 : decode cX7_fails 26 = .ok (.iconst (-1), 1) := by decide +kernel
theorem dX7_fails_27 : decode cX7_fails 27 = .ok (.invokevirtual 188, 3) := by decide +kernel
theorem dX7_fails_30 : decode cX7_fails 30 = .ok (.ifCond .eq 5, 3) := by decide +kernel
theorem dX7_fails_33 : decode cX7_fails 33 = .ok (.iload_n 1, 1) := by decide +kernel
theorem dX7_fails_34 : decode cX7_fails 34 = .ok (.ireturn, 1) := by decide +kernel
theorem dX7_fails_35 : decode cX7_fails 35 = .ok (.iinc 1 1, 3) := by decide +kernel
theorem dX7_fails_38 : decode cX7_fails 38 = .ok (.goto (-23), 3) := by decide +kernel
theorem dX7_fails_41 : decode cX7_fails 41 = .ok (.iconst (-1), 1) := by decide +kernel
theorem dX7_fails_42 : decode cX7_fails 42 = .ok (.ireturn, 1) := by decide +kernel
theorem dX7_peace_0 : decode cX7_peace 0 = .ok (.aload_n 0, 1) := by decide +kernel
theorem dX7_peace_1 : decode cX7_peace 1 = .ok (.getfield 23, 3) := by decide +kernel
theorem dX7_peace_4 : decode cX7_peace 4 = .ok (.getfield 118, 3) := by decide +kernel
theorem dX7_peace_7 : decode cX7_peace 7 = .ok (.ifCond .ne 6, 3) := by decide +kernel
theorem dX7_peace_10 : decode cX7_peace 10 = .ok (.bipush (-2), 2) := by decide +kernel
theorem dX7_peace_12 : decode cX7_peace 12 = .ok (.ireturn, 1) := by decide +kernel
theorem dX7_peace_13 : decode cX7_peace 13 = .ok (.iconst 0, 1) := by decide +kernel
theorem dX7_peace_14 : decode cX7_peace 14 = .ok (.istore_n 1, 1) := by decide +kernel
theorem dX7_peace_15 : decode cX7_peace 15 = .ok (.iload_n 1, 1) := by decide +kernel
theorem dX7_peace_16 : decode cX7_peace 16 = .ok (.bipush 13, 2) := by decide +kernel
theorem dX7_peace_18 : decode cX7_peace 18 = .ok (.if_icmp .ge 22, 3) := by decide +kernel
theorem dX7_peace_21 : decode cX7_peace 21 = .ok (.aload_n 0, 1) := by decide +kernel
theorem dX7_peace_22 : decode cX7_peace 22 = .ok (.iload_n 1, 1) := by decide +kernel
theorem dX7_peace_23 : decode cX7_peace 23 = .ok (.invokevirtual 152, 3) := by decide +kernel
theorem dX7_peace_26 : decode cX7_peace 26 = .ok (.invokevirtual 198, 3) := by decide +kernel
theorem dX7_peace_29 : decode cX7_peace 29 = .ok (.ifCond .ne 5, 3) := by decide +kernel
theorem dX7_peace_32 : decode cX7_peace 32 = .ok (.iload_n 1, 1) := by decide +kernel
theorem dX7_peace_33 : decode cX7_peace 33 = .ok (.ireturn, 1) := by decide +kernel
theorem dX7_peace_34 : decode cX7_peace 34 = .ok (.iinc 1 1, 3) := by decide +kernel
theorem dX7_peace_37 : decode cX7_peace 37 = .ok (.goto (-22), 3) := by decide +kernel
theorem dX7_peace_40 : decode cX7_peace 40 = .ok (.iconst (-1), 1) := by decide +kernel
theorem dX7_peace_41 : decode cX7_peace 41 = .ok (.ireturn, 1) := by decide +kernel
theorem dX7_joy_0 : decode cX7_joy 0 = .ok (.aload_n 0, 1) := by decide +kernel
theorem dX7_joy_1 : decode cX7_joy 1 = .ok (.iload_n 1, 1) := by decide +kernel
theorem dX7_joy_2 : decode cX7_joy 2 = .ok (.iload_n 2, 1) := by decide +kernel
theorem dX7_joy_3 : decode cX7_joy 3 = .ok (.invokevirtual 148, 3) := by decide +kernel
theorem dX7_joy_6 : decode cX7_joy 6 = .ok (.ifCond .eq 15, 3) := by decide +kernel
theorem dX7_joy_9 : decode cX7_joy 9 = .ok (.aload_n 0, 1) := by decide +kernel
theorem dX7_joy_10 : decode cX7_joy 10 = .ok (.iload_n 2, 1) := by decide +kernel
theorem dX7_joy_11 : decode cX7_joy 11 = .ok (.invokevirtual 152, 3) := by decide +kernel
theorem dX7_joy_14 : decode cX7_joy 14 = .ok (.iload_n 1, 1) := by decide +kernel
theorem dX7_joy_15 : decode cX7_joy 15 = .ok (.invokevirtual 202, 3) := by decide +kernel
theorem dX7_joy_18 : decode cX7_joy 18 = .ok (.goto 6, 3) := by decide +kernel
theorem dX7_joy_21 : decode cX7_joy 21 = .ok (.sipush (-1000), 3) := by decide +kernel
theorem dX7_joy_24 : decode cX7_joy 24 = .ok (.ireturn, 1) := by decide +kernel
theorem dX7_smell_0 : decode cX7_smell 0 = .ok (.aload_n 0, 1) := by decide +kernel
theorem dX7_smell_1 : decode cX7_smell 1 = .ok (.iload_n 1, 1) := by decide +kernel
theorem dX7_smell_2 : decode cX7_smell 2 = .ok (.iload_n 2, 1) := by decide +kernel
theorem dX7_smell_3 : decode cX7_smell 3 = .ok (.invokevirtual 148, 3) := by decide +kernel
theorem dX7_smell_6 : decode cX7_smell 6 = .ok (.ifCond .eq 16, 3) := by decide +kernel
theorem dX7_smell_9 : decode cX7_smell 9 = .ok (.aload_n 0, 1) := by decide +kernel
theorem dX7_smell_10 : decode cX7_smell 10 = .ok (.iload_n 2, 1) := by decide +kernel
theorem dX7_smell_11 : decode cX7_smell 11 = .ok (.invokevirtual 152, 3) := by decide +kernel
theorem dX7_smell_14 : decode cX7_smell 14 = .ok (.getfield 205, 3) := by decide +kernel
theorem dX7_smell_17 : decode cX7_smell 17 = .ok (.iload_n 1, 1) := by decide +kernel
theorem dX7_smell_18 : decode cX7_smell 18 = .ok (.iaload, 1) := by decide +kernel
theorem dX7_smell_19 : decode cX7_smell 19 = .ok (.goto 5, 3) := by decide +kernel
theorem dX7_smell_22 : decode cX7_smell 22 = .ok (.bipush (-2), 2) := by decide +kernel
theorem dX7_smell_24 : decode cX7_smell 24 = .ok (.ireturn, 1) := by decide +kernel
theorem dX7_foe_0 : decode cX7_foe 0 = .ok (.aload_n 0, 1) := by decide +kernel
theorem dX7_foe_1 : decode cX7_foe 1 = .ok (.iload_n 1, 1) := by decide +kernel
theorem dX7_foe_2 : decode cX7_foe 2 = .ok (.invokevirtual 121, 3) := by decide +kernel
theorem dX7_foe_5 : decode cX7_foe 5 = .ok (.ifCond .ne 6, 3) := by decide +kernel
theorem dX7_foe_8 : decode cX7_foe 8 = .ok (.bipush (-2), 2) := by decide +kernel
theorem dX7_foe_10 : decode cX7_foe 10 = .ok (.ireturn, 1) := by decide +kernel
theorem dX7_foe_11 : decode cX7_foe 11 = .ok (.aload_n 0, 1) := by decide +kernel
theorem dX7_foe_12 : decode cX7_foe 12 = .ok (.iload_n 1, 1) := by decide +kernel
theorem dX7_foe_13 : decode cX7_foe 13 = .ok (.invokevirtual 152, 3) := by decide +kernel
theorem dX7_foe_16 : decode cX7_foe 16 = .ok (.astore_n 2, 1) := by decide +kernel
theorem dX7_foe_17 : decode cX7_foe 17 = .ok (.iconst (-1), 1) := by decide +kernel
theorem dX7_foe_18 : decode cX7_foe 18 = .ok (.istore_n 3, 1) := by decide +kernel
theorem dX7_foe_19 : decode cX7_foe 19 = .ok (.iconst 0, 1) := by decide +kernel
theorem dX7_foe_20 : decode cX7_foe 20 = .ok (.istore 4, 2) := by decide +kernel
theorem dX7_foe_22 : decode cX7_foe 22 = .ok (.iconst 0, 1) := by decide +kernel
theorem dX7_foe_23 : decode cX7_foe 23 = .ok (.istore 5, 2) := by decide +kernel
theorem dX7_foe_25 : decode cX7_foe 25 = .ok (.iload 5, 2) := by decide +kernel
theorem dX7_foe_27 : decode cX7_foe 27 = .ok (.aload_n 0, 1) := by decide +kernel
theorem dX7_foe_28 : decode cX7_foe 28 = .ok (.getfield 23, 3) := by decide +kernel
theorem dX7_foe_31 : decode cX7_foe 31 = .ok (.getfield 115, 3) := by decide +kernel
theorem dX7_foe_34 : decode cX7_foe 34 = .ok (.if_icmp .ge 31, 3) := by decide +kernel
theorem dX7_foe_37 : decode cX7_foe 37 = .ok (.aload_n 2, 1) := by decide +kernel
theorem dX7_foe_38 : decode cX7_foe 38 = .ok (.iload 5, 2) := by decide +kernel
theorem dX7_foe_40 : decode cX7_foe 40 = .ok (.invokevirtual 208, 3) := by decide +kernel
theorem dX7_foe_43 : decode cX7_foe 43 = .ok (.iload 4, 2) := by decide +kernel
theorem dX7_foe_45 : decode cX7_foe 45 = .ok (.if_icmp .le 14, 3) := by decide +kernel
theorem dX7_foe_48 : decode cX7_foe 48 = .ok (.aload_n 2, 1) := by decide +kernel
theorem dX7_foe_49 : decode cX7_foe 49 = .ok (.iload 5, 2) := by decide +kernel
theorem dX7_foe_51 : decode cX7_foe 51 = .ok (.invokevirtual 208, 3) := by decide +kernel
theorem dX7_foe_54 : decode cX7_foe 54 = .ok (.istore 4, 2) := by decide +kernel
theorem dX7_foe_56 : decode cX7_foe 56 = .ok (.iload 5, 2) := by decide +kernel
theorem dX7_foe_58 : decode cX7_foe 58 = .ok (.istore_n 3, 1) := by decide +kernel
theorem dX7_foe_59 : decode cX7_foe 59 = .ok (.iinc 5 1, 3) := by decide +kernel
theorem dX7_foe_62 : decode cX7_foe 62 = .ok (.goto (-37), 3) := by decide +kernel
theorem dX7_foe_65 : decode cX7_foe 65 = .ok (.iload_n 3, 1) := by decide +kernel
theorem dX7_foe_66 : decode cX7_foe 66 = .ok (.ireturn, 1) := by decide +kernel
theorem dX7_cools_0 : decode cX7_cools 0 = .ok (.aload_n 0, 1) := by decide +kernel
theorem dX7_cools_1 : decode cX7_cools 1 = .ok (.iload_n 1, 1) := by decide +kernel
theorem dX7_cools_2 : decode cX7_cools 2 = .ok (.invokevirtual 111, 3) := by decide +kernel
theorem dX7_cools_5 : decode cX7_cools 5 = .ok (.ifCond .eq 11, 3) := by decide +kernel
theorem dX7_cools_8 : decode cX7_cools 8 = .ok (.aload_n 0, 1) := by decide +kernel
theorem dX7_cools_9 : decode cX7_cools 9 = .ok (.iload_n 2, 1) := by decide +kernel
theorem dX7_cools_10 : decode cX7_cools 10 = .ok (.invokevirtual 124, 3) := by decide +kernel
theorem dX7_cools_13 : decode cX7_cools 13 = .ok (.ifCond .ne 6, 3) := by decide +kernel
theorem dX7_cools_16 : decode cX7_cools 16 = .ok (.bipush (-2), 2) := by decide +kernel
theorem dX7_cools_18 : decode cX7_cools 18 = .ok (.ireturn, 1) := by decide +kernel
theorem dX7_cools_19 : decode cX7_cools 19 = .ok (.aload_n 0, 1) := by decide +kernel
theorem dX7_cools_20 : decode cX7_cools 20 = .ok (.getfield 23, 3) := by decide +kernel
theorem dX7_cools_23 : decode cX7_cools 23 = .ok (.getfield 144, 3) := by decide +kernel
theorem dX7_cools_26 : decode cX7_cools 26 = .ok (.iload_n 1, 1) := by decide +kernel
theorem dX7_cools_27 : decode cX7_cools 27 = .ok (.iconst 5, 1) := by decide +kernel
theorem dX7_cools_28 : decode cX7_cools 28 = .ok (.imul, 1) := by decide +kernel
theorem dX7_cools_29 : decode cX7_cools 29 = .ok (.iload_n 2, 1) := by decide +kernel
theorem dX7_cools_30 : decode cX7_cools 30 = .ok (.iadd, 1) := by decide +kernel
theorem dX7_cools_31 : decode cX7_cools 31 = .ok (.iaload, 1) := by decide +kernel
theorem dX7_cools_32 : decode cX7_cools 32 = .ok (.ifCond .lt 5, 3) := by decide +kernel
theorem dX7_cools_35 : decode cX7_cools 35 = .ok (.iconst (-1), 1) := by decide +kernel
theorem dX7_cools_36 : decode cX7_cools 36 = .ok (.ireturn, 1) := by decide +kernel
theorem dX7_cools_37 : decode cX7_cools 37 = .ok (.iconst 1, 1) := by decide +kernel
theorem dX7_cools_38 : decode cX7_cools 38 = .ok (.istore_n 3, 1) := by decide +kernel
theorem dX7_cools_39 : decode cX7_cools 39 = .ok (.iload_n 3, 1) := by decide +kernel
theorem dX7_cools_40 : decode cX7_cools 40 = .ok (.bipush 13, 2) := by decide +kernel
theorem dX7_cools_42 : decode cX7_cools 42 = .ok (.if_icmp .ge 24, 3) := by decide +kernel
theorem dX7_cools_45 : decode cX7_cools 45 = .ok (.aload_n 0, 1) := by decide +kernel
theorem dX7_cools_46 : decode cX7_cools 46 = .ok (.iload_n 3, 1) := by decide +kernel
theorem dX7_cools_47 : decode cX7_cools 47 = .ok (.invokevirtual 152, 3) := by decide +kernel
theorem dX7_cools_50 : decode cX7_cools 50 = .ok (.iload_n 1, 1) := by decide +kernel
theorem dX7_cools_51 : decode cX7_cools 51 = .ok (.iload_n 2, 1) := by decide +kernel
theorem dX7_cools_52 : decode cX7_cools 52 = .ok (.invokevirtual 156, 3) := by decide +kernel
theorem dX7_cools_55 : decode cX7_cools 55 = .ok (.ifCond .lt 5, 3) := by decide +kernel
theorem dX7_cools_58 : decode cX7_cools 58 = .ok (.iload_n 3, 1) := by decide +kernel
theorem dX7_cools_59 : decode cX7_cools 59 = .ok (.ireturn, 1) := by decide +kernel
theorem dX7_cools_60 : decode cX7_cools 60 = .ok (.iinc 3 1, 3) := by decide +kernel
theorem dX7_cools_63 : decode cX7_cools 63 = .ok (.goto (-24), 3) := by decide +kernel
theorem dX7_cools_66 : decode cX7_cools 66 = .ok (.iconst (-1), 1) := by decide +kernel
theorem dX7_cools_67 : decode cX7_cools 67 = .ok (.ireturn, 1) := by decide +kernel
theorem dX7_eats_0 : decode cX7_eats 0 = .ok (.aload_n 0, 1) := by decide +kernel
theorem dX7_eats_1 : decode cX7_eats 1 = .ok (.iload_n 1, 1) := by decide +kernel
theorem dX7_eats_2 : decode cX7_eats 2 = .ok (.invokevirtual 111, 3) := by decide +kernel
theorem dX7_eats_5 : decode cX7_eats 5 = .ok (.ifCond .eq 11, 3) := by decide +kernel
theorem dX7_eats_8 : decode cX7_eats 8 = .ok (.aload_n 0, 1) := by decide +kernel
theorem dX7_eats_9 : decode cX7_eats 9 = .ok (.iload_n 2, 1) := by decide +kernel
theorem dX7_eats_10 : decode cX7_eats 10 = .ok (.invokevirtual 124, 3) := by decide +kernel
theorem dX7_eats_13 : decode cX7_eats 13 = .ok (.ifCond .ne 6, 3) := by decide +kernel
theorem dX7_eats_16 : decode cX7_eats 16 = .ok (.bipush (-2), 2) := by decide +kernel
theorem dX7_eats_18 : decode cX7_eats 18 = .ok (.ireturn, 1) := by decide +kernel
theorem dX7_eats_19 : decode cX7_eats 19 = .ok (.iconst 0, 1) := by decide +kernel
theorem dX7_eats_20 : decode cX7_eats 20 = .ok (.istore_n 3, 1) := by decide +kernel
theorem dX7_eats_21 : decode cX7_eats 21 = .ok (.iconst 0, 1) := by decide +kernel
theorem dX7_eats_22 : decode cX7_eats 22 = .ok (.istore 4, 2) := by decide +kernel
theorem dX7_eats_24 : decode cX7_eats 24 = .ok (.iload 4, 2) := by decide +kernel
theorem dX7_eats_26 : decode cX7_eats 26 = .ok (.bipush 13, 2) := by decide +kernel
theorem dX7_eats_28 : decode cX7_eats 28 = .ok (.if_icmp .ge 27, 3) := by decide +kernel
theorem dX7_eats_31 : decode cX7_eats 31 = .ok (.aload_n 0, 1) := by decide +kernel
theorem dX7_eats_32 : decode cX7_eats 32 = .ok (.iload 4, 2) := by decide +kernel
theorem dX7_eats_34 : decode cX7_eats 34 = .ok (.invokevirtual 152, 3) := by decide +kernel
theorem dX7_eats_37 : decode cX7_eats 37 = .ok (.getfield 185, 3) := by decide +kernel
theorem dX7_eats_40 : decode cX7_eats 40 = .ok (.iload_n 1, 1) := by decide +kernel
theorem dX7_eats_41 : decode cX7_eats 41 = .ok (.iaload, 1) := by decide +kernel
theorem dX7_eats_42 : decode cX7_eats 42 = .ok (.iload_n 2, 1) := by decide +kernel
theorem dX7_eats_43 : decode cX7_eats 43 = .ok (.if_icmp .ne 6, 3) := by decide +kernel
theorem dX7_eats_46 : decode cX7_eats 46 = .ok (.iinc 3 1, 3) := by decide +kernel
theorem dX7_eats_49 : decode cX7_eats 49 = .ok (.iinc 4 1, 3) := by decide +kernel
theorem dX7_eats_52 : decode cX7_eats 52 = .ok (.goto (-28), 3) := by decide +kernel
theorem dX7_eats_55 : decode cX7_eats 55 = .ok (.iload_n 3, 1) := by decide +kernel
theorem dX7_eats_56 : decode cX7_eats 56 = .ok (.ireturn, 1) := by decide +kernel
theorem dX7_lasts_0 : decode cX7_lasts 0 = .ok (.aload_n 0, 1) := by decide +kernel
theorem dX7_lasts_1 : decode cX7_lasts 1 = .ok (.iload_n 1, 1) := by decide +kernel
theorem dX7_lasts_2 : decode cX7_lasts 2 = .ok (.invokevirtual 124, 3) := by decide +kernel
theorem dX7_lasts_5 : decode cX7_lasts 5 = .ok (.ifCond .ne 6, 3) := by decide +kernel
theorem dX7_lasts_8 : decode cX7_lasts 8 = .ok (.bipush (-2), 2) := by decide +kernel
theorem dX7_lasts_10 : decode cX7_lasts 10 = .ok (.ireturn, 1) := by decide +kernel
theorem dX7_lasts_11 : decode cX7_lasts 11 = .ok (.bipush 12, 2) := by decide +kernel
theorem dX7_lasts_13 : decode cX7_lasts 13 = .ok (.istore_n 2, 1) := by decide +kernel
theorem dX7_lasts_14 : decode cX7_lasts 14 = .ok (.iload_n 2, 1) := by decide +kernel
theorem dX7_lasts_15 : decode cX7_lasts 15 = .ok (.ifCond .lt 23, 3) := by decide +kernel
theorem dX7_lasts_18 : decode cX7_lasts 18 = .ok (.aload_n 0, 1) := by decide +kernel
theorem dX7_lasts_19 : decode cX7_lasts 19 = .ok (.iload_n 2, 1) := by decide +kernel
theorem dX7_lasts_20 : decode cX7_lasts 20 = .ok (.invokevirtual 152, 3) := by decide +kernel
theorem dX7_lasts_23 : decode cX7_lasts 23 = .ok (.iload_n 1, 1) := by decide +kernel
theorem dX7_lasts_24 : decode cX7_lasts 24 = .ok (.invokevirtual 188, 3) := by decide +kernel
theorem dX7_lasts_27 : decode cX7_lasts 27 = .ok (.ifCond .eq 5, 3) := by decide +kernel
theorem dX7_lasts_30 : decode cX7_lasts 30 = .ok (.iload_n 2, 1) := by decide +kernel
theorem dX7_lasts_31 : decode cX7_lasts 31 = .ok (.ireturn, 1) := by decide +kernel
theorem dX7_lasts_32 : decode cX7_lasts 32 = .ok (.iinc 2 (-1), 3) := by decide +kernel
theorem dX7_lasts_35 : decode cX7_lasts 35 = .ok (.goto (-21), 3) := by decide +kernel
theorem dX7_lasts_38 : decode cX7_lasts 38 = .ok (.iconst (-1), 1) := by decide +kernel
theorem dX7_lasts_39 : decode cX7_lasts 39 = .ok (.ireturn, 1) := by decide +kernel
theorem dX7_lean_0 : decode cX7_lean 0 = .ok (.aload_n 0, 1) := by decide +kernel
theorem dX7_lean_1 : decode cX7_lean 1 = .ok (.getfield 23, 3) := by decide +kernel
theorem dX7_lean_4 : decode cX7_lean 4 = .ok (.getfield 118, 3) := by decide +kernel
theorem dX7_lean_7 : decode cX7_lean 7 = .ok (.ifCond .ne 6, 3) := by decide +kernel
theorem dX7_lean_10 : decode cX7_lean 10 = .ok (.bipush (-2), 2) := by decide +kernel
theorem dX7_lean_12 : decode cX7_lean 12 = .ok (.ireturn, 1) := by decide +kernel
theorem dX7_lean_13 : decode cX7_lean 13 = .ok (.iconst 0, 1) := by decide +kernel
theorem dX7_lean_14 : decode cX7_lean 14 = .ok (.istore_n 1, 1) := by decide +kernel
theorem dX7_lean_15 : decode cX7_lean 15 = .ok (.iconst 1, 1) := by decide +kernel
theorem dX7_lean_16 : decode cX7_lean 16 = .ok (.istore_n 2, 1) := by decide +kernel
theorem dX7_lean_17 : decode cX7_lean 17 = .ok (.iload_n 2, 1) := by decide +kernel
theorem dX7_lean_18 : decode cX7_lean 18 = .ok (.bipush 13, 2) := by decide +kernel
theorem dX7_lean_20 : decode cX7_lean 20 = .ok (.if_icmp .ge 30, 3) := by decide +kernel
theorem dX7_lean_23 : decode cX7_lean 23 = .ok (.aload_n 0, 1) := by decide +kernel
theorem dX7_lean_24 : decode cX7_lean 24 = .ok (.iload_n 2, 1) := by decide +kernel
theorem dX7_lean_25 : decode cX7_lean 25 = .ok (.invokevirtual 152, 3) := by decide +kernel
theorem dX7_lean_28 : decode cX7_lean 28 = .ok (.invokevirtual 194, 3) := by decide +kernel
theorem dX7_lean_31 : decode cX7_lean 31 = .ok (.aload_n 0, 1) := by decide +kernel
theorem dX7_lean_32 : decode cX7_lean 32 = .ok (.iload_n 1, 1) := by decide +kernel
theorem dX7_lean_33 : decode cX7_lean 33 = .ok (.invokevirtual 152, 3) := by decide +kernel
theorem dX7_lean_36 : decode cX7_lean 36 = .ok (.invokevirtual 194, 3) := by decide +kernel
theorem dX7_lean_39 : decode cX7_lean 39 = .ok (.if_icmp .ge 5, 3) := by decide +kernel
theorem dX7_lean_42 : decode cX7_lean 42 = .ok (.iload_n 2, 1) := by decide +kernel
theorem dX7_lean_43 : decode cX7_lean 43 = .ok (.istore_n 1, 1) := by decide +kernel
theorem dX7_lean_44 : decode cX7_lean 44 = .ok (.iinc 2 1, 3) := by decide +kernel
theorem dX7_lean_47 : decode cX7_lean 47 = .ok (.goto (-30), 3) := by decide +kernel
theorem dX7_lean_50 : decode cX7_lean 50 = .ok (.iload_n 1, 1) := by decide +kernel
theorem dX7_lean_51 : decode cX7_lean 51 = .ok (.ireturn, 1) := by decide +kernel
theorem dX7_change_0 : decode cX7_change 0 = .ok (.aload_n 0, 1) := by decide +kernel
theorem dX7_change_1 : decode cX7_change 1 = .ok (.iload_n 1, 1) := by decide +kernel
theorem dX7_change_2 : decode cX7_change 2 = .ok (.invokevirtual 111, 3) := by decide +kernel
theorem dX7_change_5 : decode cX7_change 5 = .ok (.ifCond .ne 6, 3) := by decide +kernel
theorem dX7_change_8 : decode cX7_change 8 = .ok (.bipush (-2), 2) := by decide +kernel
theorem dX7_change_10 : decode cX7_change 10 = .ok (.ireturn, 1) := by decide +kernel
theorem dX7_change_11 : decode cX7_change 11 = .ok (.iconst 1, 1) := by decide +kernel
theorem dX7_change_12 : decode cX7_change 12 = .ok (.istore_n 2, 1) := by decide +kernel
theorem dX7_change_13 : decode cX7_change 13 = .ok (.iload_n 2, 1) := by decide +kernel
theorem dX7_change_14 : decode cX7_change 14 = .ok (.bipush 13, 2) := by decide +kernel
theorem dX7_change_16 : decode cX7_change 16 = .ok (.if_icmp .ge 34, 3) := by decide +kernel
theorem dX7_change_19 : decode cX7_change 19 = .ok (.aload_n 0, 1) := by decide +kernel
theorem dX7_change_20 : decode cX7_change 20 = .ok (.iload_n 2, 1) := by decide +kernel
theorem dX7_change_21 : decode cX7_change 21 = .ok (.invokevirtual 152, 3) := by decide +kernel
theorem dX7_change_24 : decode cX7_change 24 = .ok (.getfield 185, 3) := by decide +kernel
theorem dX7_change_27 : decode cX7_change 27 = .ok (.iload_n 1, 1) := by decide +kernel
theorem dX7_change_28 : decode cX7_change 28 = .ok (.iaload, 1) := by decide +kernel
theorem dX7_change_29 : decode cX7_change 29 = .ok (.aload_n 0, 1) := by decide +kernel
theorem dX7_change_30 : decode cX7_change 30 = .ok (.iconst 0, 1) := by decide +kernel
theorem dX7_change_31 : decode cX7_change 31 = .ok (.invokevirtual 152, 3) := by decide +kernel
theorem dX7_change_34 : decode cX7_change 34 = .ok (.getfield 185, 3) := by decide +kernel
theorem dX7_change_37 : decode cX7_change 37 = .ok (.iload_n 1, 1) := by decide +kernel
theorem dX7_change_38 : decode cX7_change 38 = .ok (.iaload, 1) := by decide +kernel
theorem dX7_change_39 : decode cX7_change 39 = .ok (.if_icmp .eq 5, 3) := by decide +kernel
theorem dX7_change_42 : decode cX7_change 42 = .ok (.iload_n 2, 1) := by decide +kernel
theorem dX7_change_43 : decode cX7_change 43 = .ok (.ireturn, 1) := by decide +kernel
theorem dX7_change_44 : decode cX7_change 44 = .ok (.iinc 2 1, 3) := by decide +kernel
theorem dX7_change_47 : decode cX7_change 47 = .ok (.goto (-34), 3) := by decide +kernel
theorem dX7_change_50 : decode cX7_change 50 = .ok (.iconst (-1), 1) := by decide +kernel
theorem dX7_change_51 : decode cX7_change 51 = .ok (.ireturn, 1) := by decide +kernel
theorem dX7_uncle_0 : decode cX7_uncle 0 = .ok (.aload_n 0, 1) := by decide +kernel
theorem dX7_uncle_1 : decode cX7_uncle 1 = .ok (.iload_n 1, 1) := by decide +kernel
theorem dX7_uncle_2 : decode cX7_uncle 2 = .ok (.invokevirtual 121, 3) := by decide +kernel
theorem dX7_uncle_5 : decode cX7_uncle 5 = .ok (.ifCond .ne 6, 3) := by decide +kernel
theorem dX7_uncle_8 : decode cX7_uncle 8 = .ok (.bipush (-2), 2) := by decide +kernel
theorem dX7_uncle_10 : decode cX7_uncle 10 = .ok (.ireturn, 1) := by decide +kernel
theorem dX7_uncle_11 : decode cX7_uncle 11 = .ok (.aload_n 0, 1) := by decide +kernel
theorem dX7_uncle_12 : decode cX7_uncle 12 = .ok (.iload_n 1, 1) := by decide +kernel
theorem dX7_uncle_13 : decode cX7_uncle 13 = .ok (.invokevirtual 152, 3) := by decide +kernel
theorem dX7_uncle_16 : decode cX7_uncle 16 = .ok (.astore_n 2, 1) := by decide +kernel
theorem dX7_uncle_17 : decode cX7_uncle 17 = .ok (.iconst (-1), 1) := by decide +kernel
theorem dX7_uncle_18 : decode cX7_uncle 18 = .ok (.istore_n 3, 1) := by decide +kernel
theorem dX7_uncle_19 : decode cX7_uncle 19 = .ok (.iconst (-1), 1) := by decide +kernel
theorem dX7_uncle_20 : decode cX7_uncle 20 = .ok (.istore 4, 2) := by decide +kernel
theorem dX7_uncle_22 : decode cX7_uncle 22 = .ok (.iconst 0, 1) := by decide +kernel
theorem dX7_uncle_23 : decode cX7_uncle 23 = .ok (.istore 5, 2) := by decide +kernel
theorem dX7_uncle_25 : decode cX7_uncle 25 = .ok (.iload 5, 2) := by decide +kernel
theorem dX7_uncle_27 : decode cX7_uncle 27 = .ok (.aload_n 0, 1) := by decide +kernel
theorem dX7_uncle_28 : decode cX7_uncle 28 = .ok (.getfield 23, 3) := by decide +kernel
theorem dX7_uncle_31 : decode cX7_uncle 31 = .ok (.getfield 108, 3) := by decide +kernel
theorem dX7_uncle_34 : decode cX7_uncle 34 = .ok (.if_icmp .ge 35, 3) := by decide +kernel
theorem dX7_uncle_37 : decode cX7_uncle 37 = .ok (.aload_n 2, 1) := by decide +kernel
theorem dX7_uncle_38 : decode cX7_uncle 38 = .ok (.getfield 164, 3) := by decide +kernel
theorem dX7_uncle_41 : decode cX7_uncle 41 = .ok (.iload 5, 2) := by decide +kernel
theorem dX7_uncle_43 : decode cX7_uncle 43 = .ok (.iaload, 1) := by decide +kernel
theorem dX7_uncle_44 : decode cX7_uncle 44 = .ok (.invokestatic 211, 3) := by decide +kernel
theorem dX7_uncle_47 : decode cX7_uncle 47 = .ok (.istore 6, 2) := by decide +kernel
theorem dX7_uncle_49 : decode cX7_uncle 49 = .ok (.iload 6, 2) := by decide +kernel
theorem dX7_uncle_51 : decode cX7_uncle 51 = .ok (.iload 4, 2) := by decide +kernel
theorem dX7_uncle_53 : decode cX7_uncle 53 = .ok (.if_icmp .le 10, 3) := by decide +kernel
theorem dX7_uncle_56 : decode cX7_uncle 56 = .ok (.iload 6, 2) := by decide +kernel
theorem dX7_uncle_58 : decode cX7_uncle 58 = .ok (.istore 4, 2) := by decide +kernel
theorem dX7_uncle_60 : decode cX7_uncle 60 = .ok (.iload 5, 2) := by decide +kernel
theorem dX7_uncle_62 : decode cX7_uncle 62 = .ok (.istore_n 3, 1) := by decide +kernel
theorem dX7_uncle_63 : decode cX7_uncle 63 = .ok (.iinc 5 1, 3) := by decide +kernel
theorem dX7_uncle_66 : decode cX7_uncle 66 = .ok (.goto (-41), 3) := by decide +kernel
theorem dX7_uncle_69 : decode cX7_uncle 69 = .ok (.iload_n 3, 1) := by decide +kernel
theorem dX7_uncle_70 : decode cX7_uncle 70 = .ok (.ireturn, 1) := by decide +kernel
theorem dX7_saints_0 : decode cX7_saints 0 = .ok (.aload_n 0, 1) := by decide +kernel
theorem dX7_saints_1 : decode cX7_saints 1 = .ok (.iload_n 1, 1) := by decide +kernel
theorem dX7_saints_2 : decode cX7_saints 2 = .ok (.invokevirtual 121, 3) := by decide +kernel
theorem dX7_saints_5 : decode cX7_saints 5 = .ok (.ifCond .ne 6, 3) := by decide +kernel
theorem dX7_saints_8 : decode cX7_saints 8 = .ok (.bipush (-2), 2) := by decide +kernel
theorem dX7_saints_10 : decode cX7_saints 10 = .ok (.ireturn, 1) := by decide +kernel
theorem dX7_saints_11 : decode cX7_saints 11 = .ok (.iconst 0, 1) := by decide +kernel
theorem dX7_saints_12 : decode cX7_saints 12 = .ok (.istore_n 2, 1) := by decide +kernel
theorem dX7_saints_13 : decode cX7_saints 13 = .ok (.iconst 0, 1) := by decide +kernel
theorem dX7_saints_14 : decode cX7_saints 14 = .ok (.istore_n 3, 1) := by decide +kernel
theorem dX7_saints_15 : decode cX7_saints 15 = .ok (.iload_n 3, 1) := by decide +kernel
theorem dX7_saints_16 : decode cX7_saints 16 = .ok (.aload_n 0, 1) := by decide +kernel
theorem dX7_saints_17 : decode cX7_saints 17 = .ok (.getfield 23, 3) := by decide +kernel
theorem dX7_saints_20 : decode cX7_saints 20 = .ok (.getfield 108, 3) := by decide +kernel
theorem dX7_saints_23 : decode cX7_saints 23 = .ok (.if_icmp .ge 28, 3) := by decide +kernel
theorem dX7_saints_26 : decode cX7_saints 26 = .ok (.aload_n 0, 1) := by decide +kernel
theorem dX7_saints_27 : decode cX7_saints 27 = .ok (.iload_n 1, 1) := by decide +kernel
theorem dX7_saints_28 : decode cX7_saints 28 = .ok (.invokevirtual 152, 3) := by decide +kernel
theorem dX7_saints_31 : decode cX7_saints 31 = .ok (.getfield 164, 3) := by decide +kernel
theorem dX7_saints_34 : decode cX7_saints 34 = .ok (.iload_n 3, 1) := by decide +kernel
theorem dX7_saints_35 : decode cX7_saints 35 = .ok (.iaload, 1) := by decide +kernel
theorem dX7_saints_36 : decode cX7_saints 36 = .ok (.ifCond .ne 9, 3) := by decide +kernel
theorem dX7_saints_39 : decode cX7_saints 39 = .ok (.iload_n 2, 1) := by decide +kernel
theorem dX7_saints_40 : decode cX7_saints 40 = .ok (.iconst 1, 1) := by decide +kernel
theorem dX7_saints_41 : decode cX7_saints 41 = .ok (.iload_n 3, 1) := by decide +kernel
theorem dX7_saints_42 : decode cX7_saints 42 = .ok (.ishl, 1) := by decide +kernel
theorem dX7_saints_43 : decode cX7_saints 43 = .ok (.ior, 1) := by decide +kernel
theorem dX7_saints_44 : decode cX7_saints 44 = .ok (.istore_n 2, 1) := by decide +kernel
theorem dX7_saints_45 : decode cX7_saints 45 = .ok (.iinc 3 1, 3) := by decide +kernel
theorem dX7_saints_48 : decode cX7_saints 48 = .ok (.goto (-33), 3) := by decide +kernel
theorem dX7_saints_51 : decode cX7_saints 51 = .ok (.iload_n 2, 1) := by decide +kernel
theorem dX7_saints_52 : decode cX7_saints 52 = .ok (.ireturn, 1) := by decide +kernel
theorem dX7_loves_0 : decode cX7_loves 0 = .ok (.aload_n 0, 1) := by decide +kernel
theorem dX7_loves_1 : decode cX7_loves 1 = .ok (.iload_n 1, 1) := by decide +kernel
theorem dX7_loves_2 : decode cX7_loves 2 = .ok (.iload_n 2, 1) := by decide +kernel
theorem dX7_loves_3 : decode cX7_loves 3 = .ok (.invokevirtual 148, 3) := by decide +kernel
theorem dX7_loves_6 : decode cX7_loves 6 = .ok (.ifCond .eq 15, 3) := by decide +kernel
theorem dX7_loves_9 : decode cX7_loves 9 = .ok (.aload_n 0, 1) := by decide +kernel
theorem dX7_loves_10 : decode cX7_loves 10 = .ok (.iload_n 2, 1) := by decide +kernel
theorem dX7_loves_11 : decode cX7_loves 11 = .ok (.invokevirtual 152, 3) := by decide +kernel
theorem dX7_loves_14 : decode cX7_loves 14 = .ok (.iload_n 1, 1) := by decide +kernel
theorem dX7_loves_15 : decode cX7_loves 15 = .ok (.invokevirtual 216, 3) := by decide +kernel
theorem dX7_loves_18 : decode cX7_loves 18 = .ok (.goto 5, 3) := by decide +kernel
theorem dX7_loves_21 : decode cX7_loves 21 = .ok (.bipush (-2), 2) := by decide +kernel
theorem dX7_loves_23 : decode cX7_loves 23 = .ok (.ireturn, 1) := by decide +kernel
theorem dX7_ahead_0 : decode cX7_ahead 0 = .ok (.aload_n 0, 1) := by decide +kernel
theorem dX7_ahead_1 : decode cX7_ahead 1 = .ok (.iload_n 1, 1) := by decide +kernel
theorem dX7_ahead_2 : decode cX7_ahead 2 = .ok (.iload_n 2, 1) := by decide +kernel
theorem dX7_ahead_3 : decode cX7_ahead 3 = .ok (.invokevirtual 219, 3) := by decide +kernel
theorem dX7_ahead_6 : decode cX7_ahead 6 = .ok (.ifCond .eq 16, 3) := by decide +kernel
theorem dX7_ahead_9 : decode cX7_ahead 9 = .ok (.aload_n 0, 1) := by decide +kernel
theorem dX7_ahead_10 : decode cX7_ahead 10 = .ok (.iconst 0, 1) := by decide +kernel
theorem dX7_ahead_11 : decode cX7_ahead 11 = .ok (.invokevirtual 152, 3) := by decide +kernel
theorem dX7_ahead_14 : decode cX7_ahead 14 = .ok (.iload_n 1, 1) := by decide +kernel
theorem dX7_ahead_15 : decode cX7_ahead 15 = .ok (.iload_n 2, 1) := by decide +kernel
theorem dX7_ahead_16 : decode cX7_ahead 16 = .ok (.invokevirtual 222, 3) := by decide +kernel
theorem dX7_ahead_19 : decode cX7_ahead 19 = .ok (.goto 5, 3) := by decide +kernel
theorem dX7_ahead_22 : decode cX7_ahead 22 = .ok (.bipush (-2), 2) := by decide +kernel
theorem dX7_ahead_24 : decode cX7_ahead 24 = .ok (.ireturn, 1) := by decide +kernel
theorem dX7_match_0 : decode cX7_match 0 = .ok (.aload_n 0, 1) := by decide +kernel
theorem dX7_match_1 : decode cX7_match 1 = .ok (.iload_n 1, 1) := by decide +kernel
theorem dX7_match_2 : decode cX7_match 2 = .ok (.invokevirtual 111, 3) := by decide +kernel
theorem dX7_match_5 : decode cX7_match 5 = .ok (.ifCond .ne 6, 3) := by decide +kernel
theorem dX7_match_8 : decode cX7_match 8 = .ok (.bipush (-2), 2) := by decide +kernel
theorem dX7_match_10 : decode cX7_match 10 = .ok (.ireturn, 1) := by decide +kernel
theorem dX7_match_11 : decode cX7_match 11 = .ok (.aload_n 0, 1) := by decide +kernel
theorem dX7_match_12 : decode cX7_match 12 = .ok (.iconst 0, 1) := by decide +kernel
theorem dX7_match_13 : decode cX7_match 13 = .ok (.invokevirtual 152, 3) := by decide +kernel
theorem dX7_match_16 : decode cX7_match 16 = .ok (.astore_n 2, 1) := by decide +kernel
theorem dX7_match_17 : decode cX7_match 17 = .ok (.iconst (-1), 1) := by decide +kernel
theorem dX7_match_18 : decode cX7_match 18 = .ok (.istore_n 3, 1) := by decide +kernel
theorem dX7_match_19 : decode cX7_match 19 = .ok (.iconst 0, 1) := by decide +kernel
theorem dX7_match_20 : decode cX7_match 20 = .ok (.istore 4, 2) := by decide +kernel
theorem dX7_match_22 : decode cX7_match 22 = .ok (.iconst 0, 1) := by decide +kernel
theorem dX7_match_23 : decode cX7_match 23 = .ok (.istore 5, 2) := by decide +kernel
theorem dX7_match_25 : decode cX7_match 25 = .ok (.iload 5, 2) := by decide +kernel
theorem dX7_match_27 : decode cX7_match 27 = .ok (.aload_n 0, 1) := by decide +kernel
theorem dX7_match_28 : decode cX7_match 28 = .ok (.getfield 23, 3) := by decide +kernel
theorem dX7_match_31 : decode cX7_match 31 = .ok (.getfield 108, 3) := by decide +kernel
theorem dX7_match_34 : decode cX7_match 34 = .ok (.if_icmp .ge 48, 3) := by decide +kernel
theorem dX7_match_37 : decode cX7_match 37 = .ok (.aload_n 2, 1) := by decide +kernel
theorem dX7_match_38 : decode cX7_match 38 = .ok (.iload_n 1, 1) := by decide +kernel
theorem dX7_match_39 : decode cX7_match 39 = .ok (.aload_n 2, 1) := by decide +kernel
theorem dX7_match_40 : decode cX7_match 40 = .ok (.iload_n 1, 1) := by decide +kernel
theorem dX7_match_41 : decode cX7_match 41 = .ok (.iload 5, 2) := by decide +kernel
theorem dX7_match_43 : decode cX7_match 43 = .ok (.invokevirtual 222, 3) := by decide +kernel
theorem dX7_match_46 : decode cX7_match 46 = .ok (.invokevirtual 156, 3) := by decide +kernel
theorem dX7_match_49 : decode cX7_match 49 = .ok (.istore 6, 2) := by decide +kernel
theorem dX7_match_51 : decode cX7_match 51 = .ok (.iload 5, 2) := by decide +kernel
theorem dX7_match_53 : decode cX7_match 53 = .ok (.iload_n 1, 1) := by decide +kernel
theorem dX7_match_54 : decode cX7_match 54 = .ok (.if_icmp .eq 22, 3) := by decide +kernel
theorem dX7_match_57 : decode cX7_match 57 = .ok (.iload_n 3, 1) := by decide +kernel
theorem dX7_match_58 : decode cX7_match 58 = .ok (.iconst (-1), 1) := by decide +kernel
theorem dX7_match_59 : decode cX7_match 59 = .ok (.if_icmp .eq 10, 3) := by decide +kernel
theorem dX7_match_62 : decode cX7_match 62 = .ok (.iload 6, 2) := by decide +kernel
theorem dX7_match_64 : decode cX7_match 64 = .ok (.iload 4, 2) := by decide +kernel
theorem dX7_match_66 : decode cX7_match 66 = .ok (.if_icmp .le 10, 3) := by decide +kernel
theorem dX7_match_69 : decode cX7_match 69 = .ok (.iload 6, 2) := by decide +kernel
theorem dX7_match_71 : decode cX7_match 71 = .ok (.istore 4, 2) := by decide +kernel
theorem dX7_match_73 : decode cX7_match 73 = .ok (.iload 5, 2) := by decide +kernel
theorem dX7_match_75 : decode cX7_match 75 = .ok (.istore_n 3, 1) := by decide +kernel
theorem dX7_match_76 : decode cX7_match 76 = .ok (.iinc 5 1, 3) := by decide +kernel
theorem dX7_match_79 : decode cX7_match 79 = .ok (.goto (-54), 3) := by decide +kernel
theorem dX7_match_82 : decode cX7_match 82 = .ok (.iload_n 3, 1) := by decide +kernel
theorem dX7_match_83 : decode cX7_match 83 = .ok (.ireturn, 1) := by decide +kernel
theorem dX7_stay_0 : decode cX7_stay 0 = .ok (.aload_n 0, 1) := by decide +kernel
theorem dX7_stay_1 : decode cX7_stay 1 = .ok (.iload_n 1, 1) := by decide +kernel
theorem dX7_stay_2 : decode cX7_stay 2 = .ok (.invokevirtual 111, 3) := by decide +kernel
theorem dX7_stay_5 : decode cX7_stay 5 = .ok (.ifCond .ne 6, 3) := by decide +kernel
theorem dX7_stay_8 : decode cX7_stay 8 = .ok (.bipush (-2), 2) := by decide +kernel
theorem dX7_stay_10 : decode cX7_stay 10 = .ok (.ireturn, 1) := by decide +kernel
theorem dX7_stay_11 : decode cX7_stay 11 = .ok (.iconst 0, 1) := by decide +kernel
theorem dX7_stay_12 : decode cX7_stay 12 = .ok (.istore_n 2, 1) := by decide +kernel
theorem dX7_stay_13 : decode cX7_stay 13 = .ok (.iconst 0, 1) := by decide +kernel
theorem dX7_stay_14 : decode cX7_stay 14 = .ok (.istore_n 3, 1) := by decide +kernel
theorem dX7_stay_15 : decode cX7_stay 15 = .ok (.iconst 0, 1) := by decide +kernel
theorem dX7_stay_16 : decode cX7_stay 16 = .ok (.istore 4, 2) := by decide +kernel
theorem dX7_stay_18 : decode cX7_stay 18 = .ok (.iload 4, 2) := by decide +kernel
theorem dX7_stay_20 : decode cX7_stay 20 = .ok (.aload_n 0, 1) := by decide +kernel
theorem dX7_stay_21 : decode cX7_stay 21 = .ok (.getfield 23, 3) := by decide +kernel
theorem dX7_stay_24 : decode cX7_stay 24 = .ok (.getfield 108, 3) := by decide +kernel
theorem dX7_stay_27 : decode cX7_stay 27 = .ok (.if_icmp .ge 48, 3) := by decide +kernel
theorem dX7_stay_30 : decode cX7_stay 30 = .ok (.aload_n 0, 1) := by decide +kernel
theorem dX7_stay_31 : decode cX7_stay 31 = .ok (.iload_n 1, 1) := by decide +kernel
theorem dX7_stay_32 : decode cX7_stay 32 = .ok (.aload_n 0, 1) := by decide +kernel
theorem dX7_stay_33 : decode cX7_stay 33 = .ok (.iconst 0, 1) := by decide +kernel
theorem dX7_stay_34 : decode cX7_stay 34 = .ok (.invokevirtual 152, 3) := by decide +kernel
theorem dX7_stay_37 : decode cX7_stay 37 = .ok (.getfield 173, 3) := by decide +kernel
theorem dX7_stay_40 : decode cX7_stay 40 = .ok (.iload 4, 2) := by decide +kernel
theorem dX7_stay_42 : decode cX7_stay 42 = .ok (.iaload, 1) := by decide +kernel
theorem dX7_stay_43 : decode cX7_stay 43 = .ok (.invokevirtual 225, 3) := by decide +kernel
theorem dX7_stay_46 : decode cX7_stay 46 = .ok (.iload_n 1, 1) := by decide +kernel
theorem dX7_stay_47 : decode cX7_stay 47 = .ok (.invokevirtual 191, 3) := by decide +kernel
theorem dX7_stay_50 : decode cX7_stay 50 = .ok (.istore 5, 2) := by decide +kernel
theorem dX7_stay_52 : decode cX7_stay 52 = .ok (.iload 4, 2) := by decide +kernel
theorem dX7_stay_54 : decode cX7_stay 54 = .ok (.ifCond .eq 9, 3) := by decide +kernel
theorem dX7_stay_57 : decode cX7_stay 57 = .ok (.iload 5, 2) := by decide +kernel
theorem dX7_stay_59 : decode cX7_stay 59 = .ok (.iload_n 3, 1) := by decide +kernel
theorem dX7_stay_60 : decode cX7_stay 60 = .ok (.if_icmp .le 9, 3) := by decide +kernel
theorem dX7_stay_63 : decode cX7_stay 63 = .ok (.iload 5, 2) := by decide +kernel
theorem dX7_stay_65 : decode cX7_stay 65 = .ok (.istore_n 3, 1) := by decide +kernel
theorem dX7_stay_66 : decode cX7_stay 66 = .ok (.iload 4, 2) := by decide +kernel
theorem dX7_stay_68 : decode cX7_stay 68 = .ok (.istore_n 2, 1) := by decide +kernel
theorem dX7_stay_69 : decode cX7_stay 69 = .ok (.iinc 4 1, 3) := by decide +kernel
theorem dX7_stay_72 : decode cX7_stay 72 = .ok (.goto (-54), 3) := by decide +kernel
theorem dX7_stay_75 : decode cX7_stay 75 = .ok (.iload_n 2, 1) := by decide +kernel
theorem dX7_stay_76 : decode cX7_stay 76 = .ok (.ireturn, 1) := by decide +kernel
theorem dX7_treaties_0 : decode cX7_treaties 0 = .ok (.aload_n 0, 1) := by decide +kernel
theorem dX7_treaties_1 : decode cX7_treaties 1 = .ok (.getfield 23, 3) := by decide +kernel
theorem dX7_treaties_4 : decode cX7_treaties 4 = .ok (.getfield 118, 3) := by decide +kernel
theorem dX7_treaties_7 : decode cX7_treaties 7 = .ok (.ifCond .ne 6, 3) := by decide +kernel
theorem dX7_treaties_10 : decode cX7_treaties 10 = .ok (.bipush (-2), 2) := by decide +kernel
theorem dX7_treaties_12 : decode cX7_treaties 12 = .ok (.ireturn, 1) := by decide +kernel
theorem dX7_treaties_13 : decode cX7_treaties 13 = .ok (.iconst 0, 1) := by decide +kernel
theorem dX7_treaties_14 : decode cX7_treaties 14 = .ok (.istore_n 1, 1) := by decide +kernel
theorem dX7_treaties_15 : decode cX7_treaties 15 = .ok (.iconst 0, 1) := by decide +kernel
theorem dX7_treaties_16 : decode cX7_treaties 16 = .ok (.istore_n 2, 1) := by decide +kernel
theorem dX7_treaties_17 : decode cX7_treaties 17 = .ok (.iload_n 2, 1) := by decide +kernel
theorem dX7_treaties_18 : decode cX7_treaties 18 = .ok (.aload_n 0, 1) := by decide +kernel
theorem dX7_treaties_19 : decode cX7_treaties 19 = .ok (.getfield 23, 3) := by decide +kernel
theorem dX7_treaties_22 : decode cX7_treaties 22 = .ok (.getfield 108, 3) := by decide +kernel
theorem dX7_treaties_25 : decode cX7_treaties 25 = .ok (.if_icmp .ge 71, 3) := by decide +kernel
theorem dX7_treaties_28 : decode cX7_treaties 28 = .ok (.iload_n 2, 1) := by decide +kernel
theorem dX7_treaties_29 : decode cX7_treaties 29 = .ok (.iconst 1, 1) := by decide +kernel
theorem dX7_treaties_30 : decode cX7_treaties 30 = .ok (.iadd, 1) := by decide +kernel
theorem dX7_treaties_31 : decode cX7_treaties 31 = .ok (.istore_n 3, 1) := by decide +kernel
theorem dX7_treaties_32 : decode cX7_treaties 32 = .ok (.iload_n 3, 1) := by decide +kernel
theorem dX7_treaties_33 : decode cX7_treaties 33 = .ok (.aload_n 0, 1) := by decide +kernel
theorem dX7_treaties_34 : decode cX7_treaties 34 = .ok (.getfield 23, 3) := by decide +kernel
theorem dX7_treaties_37 : decode cX7_treaties 37 = .ok (.getfield 108, 3) := by decide +kernel
theorem dX7_treaties_40 : decode cX7_treaties 40 = .ok (.if_icmp .ge 50, 3) := by decide +kernel
theorem dX7_treaties_43 : decode cX7_treaties 43 = .ok (.aload_n 0, 1) := by decide +kernel
theorem dX7_treaties_44 : decode cX7_treaties 44 = .ok (.iload_n 2, 1) := by decide +kernel
theorem dX7_treaties_45 : decode cX7_treaties 45 = .ok (.iload_n 3, 1) := by decide +kernel
theorem dX7_treaties_46 : decode cX7_treaties 46 = .ok (.iconst 1, 1) := by decide +kernel
theorem dX7_treaties_47 : decode cX7_treaties 47 = .ok (.iconst 1, 1) := by decide +kernel
theorem dX7_treaties_48 : decode cX7_treaties 48 = .ok (.invokevirtual 229, 3) := by decide +kernel
theorem dX7_treaties_51 : decode cX7_treaties 51 = .ok (.aload_n 0, 1) := by decide +kernel
theorem dX7_treaties_52 : decode cX7_treaties 52 = .ok (.iload_n 2, 1) := by decide +kernel
theorem dX7_treaties_53 : decode cX7_treaties 53 = .ok (.iload_n 3, 1) := by decide +kernel
theorem dX7_treaties_54 : decode cX7_treaties 54 = .ok (.iconst 0, 1) := by decide +kernel
theorem dX7_treaties_55 : decode cX7_treaties 55 = .ok (.iconst 0, 1) := by decide +kernel
theorem dX7_treaties_56 : decode cX7_treaties 56 = .ok (.invokevirtual 229, 3) := by decide +kernel
theorem dX7_treaties_59 : decode cX7_treaties 59 = .ok (.if_icmp .le 25, 3) := by decide +kernel
theorem dX7_treaties_62 : decode cX7_treaties 62 = .ok (.aload_n 0, 1) := by decide +kernel
theorem dX7_treaties_63 : decode cX7_treaties 63 = .ok (.iload_n 3, 1) := by decide +kernel
theorem dX7_treaties_64 : decode cX7_treaties 64 = .ok (.iload_n 2, 1) := by decide +kernel
theorem dX7_treaties_65 : decode cX7_treaties 65 = .ok (.iconst 1, 1) := by decide +kernel
theorem dX7_treaties_66 : decode cX7_treaties 66 = .ok (.iconst 1, 1) := by decide +kernel
theorem dX7_treaties_67 : decode cX7_treaties 67 = .ok (.invokevirtual 229, 3) := by decide +kernel
theorem dX7_treaties_70 : decode cX7_treaties 70 = .ok (.aload_n 0, 1) := by decide +kernel
theorem dX7_treaties_71 : decode cX7_treaties 71 = .ok (.iload_n 3, 1) := by decide +kernel
theorem dX7_treaties_72 : decode cX7_treaties 72 = .ok (.iload_n 2, 1) := by decide +kernel
theorem dX7_treaties_73 : decode cX7_treaties 73 = .ok (.iconst 0, 1) := by decide +kernel
theorem dX7_treaties_74 : decode cX7_treaties 74 = .ok (.iconst 0, 1) := by decide +kernel
theorem dX7_treaties_75 : decode cX7_treaties 75 = .ok (.invokevirtual 229, 3) := by decide +kernel
theorem dX7_treaties_78 : decode cX7_treaties 78 = .ok (.if_icmp .le 6, 3) := by decide +kernel
theorem dX7_treaties_81 : decode cX7_treaties 81 = .ok (.iinc 1 1, 3) := by decide +kernel
theorem dX7_treaties_84 : decode cX7_treaties 84 = .ok (.iinc 3 1, 3) := by decide +kernel
theorem dX7_treaties_87 : decode cX7_treaties 87 = .ok (.goto (-55), 3) := by decide +kernel
theorem dX7_treaties_90 : decode cX7_treaties 90 = .ok (.iinc 2 1, 3) := by decide +kernel
theorem dX7_treaties_93 : decode cX7_treaties 93 = .ok (.goto (-76), 3) := by decide +kernel
theorem dX7_treaties_96 : decode cX7_treaties 96 = .ok (.iload_n 1, 1) := by decide +kernel
theorem dX7_treaties_97 : decode cX7_treaties 97 = .ok (.ireturn, 1) := by decide +kernel
theorem dX7_ordersNow_0 : decode cX7_ordersNow 0 = .ok (.aload_n 0, 1) := by decide +kernel
theorem dX7_ordersNow_1 : decode cX7_ordersNow 1 = .ok (.getfield 76, 3) := by decide +kernel
theorem dX7_ordersNow_4 : decode cX7_ordersNow 4 = .ok (.ifCond .eq 20, 3) := by decide +kernel
theorem dX7_ordersNow_7 : decode cX7_ordersNow 7 = .ok (.aload_n 0, 1) := by decide +kernel
theorem dX7_ordersNow_8 : decode cX7_ordersNow 8 = .ok (.getfield 54, 3) := by decide +kernel
theorem dX7_ordersNow_11 : decode cX7_ordersNow 11 = .ok (.aload_n 0, 1) := by decide +kernel
theorem dX7_ordersNow_12 : decode cX7_ordersNow 12 = .ok (.iconst 0, 1) := by decide +kernel
theorem dX7_ordersNow_13 : decode cX7_ordersNow 13 = .ok (.invokevirtual 152, 3) := by decide +kernel
theorem dX7_ordersNow_16 : decode cX7_ordersNow 16 = .ok (.invokevirtual 233, 3) := by decide +kernel
theorem dX7_ordersNow_19 : decode cX7_ordersNow 19 = .ok (.aload_n 0, 1) := by decide +kernel
theorem dX7_ordersNow_20 : decode cX7_ordersNow 20 = .ok (.iconst 0, 1) := by decide +kernel
theorem dX7_ordersNow_21 : decode cX7_ordersNow 21 = .ok (.putfield 76, 3) := by decide +kernel
theorem dX7_ordersNow_24 : decode cX7_ordersNow 24 = .ok (.aload_n 0, 1) := by decide +kernel
theorem dX7_ordersNow_25 : decode cX7_ordersNow 25 = .ok (.getfield 54, 3) := by decide +kernel
theorem dX7_ordersNow_28 : decode cX7_ordersNow 28 = .ok (.areturn, 1) := by decide +kernel
theorem dX7_best_0 : decode cX7_best 0 = .ok (.aload_n 0, 1) := by decide +kernel
theorem dX7_best_1 : decode cX7_best 1 = .ok (.getfield 23, 3) := by decide +kernel
theorem dX7_best_4 : decode cX7_best 4 = .ok (.getfield 118, 3) := by decide +kernel
theorem dX7_best_7 : decode cX7_best 7 = .ok (.ifCond .eq 13, 3) := by decide +kernel
theorem dX7_best_10 : decode cX7_best 10 = .ok (.aload_n 0, 1) := by decide +kernel
theorem dX7_best_11 : decode cX7_best 11 = .ok (.invokevirtual 237, 3) := by decide +kernel
theorem dX7_best_14 : decode cX7_best 14 = .ok (.getfield 241, 3) := by decide +kernel
theorem dX7_best_17 : decode cX7_best 17 = .ok (.goto 6, 3) := by decide +kernel
theorem dX7_best_20 : decode cX7_best 20 = .ok (.sipush (-10000), 3) := by decide +kernel
theorem dX7_best_23 : decode cX7_best 23 = .ok (.ireturn, 1) := by decide +kernel
theorem dX7_order_0 : decode cX7_order 0 = .ok (.aload_n 0, 1) := by decide +kernel
theorem dX7_order_1 : decode cX7_order 1 = .ok (.iload_n 1, 1) := by decide +kernel
theorem dX7_order_2 : decode cX7_order 2 = .ok (.invokevirtual 111, 3) := by decide +kernel
theorem dX7_order_5 : decode cX7_order 5 = .ok (.ifCond .eq 15, 3) := by decide +kernel
theorem dX7_order_8 : decode cX7_order 8 = .ok (.aload_n 0, 1) := by decide +kernel
theorem dX7_order_9 : decode cX7_order 9 = .ok (.invokevirtual 237, 3) := by decide +kernel
theorem dX7_order_12 : decode cX7_order 12 = .ok (.getfield 244, 3) := by decide +kernel
theorem dX7_order_15 : decode cX7_order 15 = .ok (.iload_n 1, 1) := by decide +kernel
theorem dX7_order_16 : decode cX7_order 16 = .ok (.iaload, 1) := by decide +kernel
theorem dX7_order_17 : decode cX7_order 17 = .ok (.goto 5, 3) := by decide +kernel
theorem dX7_order_20 : decode cX7_order 20 = .ok (.bipush (-2), 2) := by decide +kernel
theorem dX7_order_22 : decode cX7_order 22 = .ok (.ireturn, 1) := by decide +kernel
theorem dX7_ways_0 : decode cX7_ways 0 = .ok (.aload_n 0, 1) := by decide +kernel
theorem dX7_ways_1 : decode cX7_ways 1 = .ok (.getfield 23, 3) := by decide +kernel
theorem dX7_ways_4 : decode cX7_ways 4 = .ok (.getfield 118, 3) := by decide +kernel
theorem dX7_ways_7 : decode cX7_ways 7 = .ok (.ifCond .eq 13, 3) := by decide +kernel
theorem dX7_ways_10 : decode cX7_ways 10 = .ok (.aload_n 0, 1) := by decide +kernel
theorem dX7_ways_11 : decode cX7_ways 11 = .ok (.invokevirtual 237, 3) := by decide +kernel
theorem dX7_ways_14 : decode cX7_ways 14 = .ok (.getfield 247, 3) := by decide +kernel
theorem dX7_ways_17 : decode cX7_ways 17 = .ok (.goto 5, 3) := by decide +kernel
theorem dX7_ways_20 : decode cX7_ways 20 = .ok (.bipush (-2), 2) := by decide +kernel
theorem dX7_ways_22 : decode cX7_ways 22 = .ok (.ireturn, 1) := by decide +kernel
theorem dX7_fewest_0 : decode cX7_fewest 0 = .ok (.aload_n 0, 1) := by decide +kernel
theorem dX7_fewest_1 : decode cX7_fewest 1 = .ok (.getfield 23, 3) := by decide +kernel
theorem dX7_fewest_4 : decode cX7_fewest 4 = .ok (.getfield 118, 3) := by decide +kernel
theorem dX7_fewest_7 : decode cX7_fewest 7 = .ok (.ifCond .eq 13, 3) := by decide +kernel
theorem dX7_fewest_10 : decode cX7_fewest 10 = .ok (.aload_n 0, 1) := by decide +kernel
theorem dX7_fewest_11 : decode cX7_fewest 11 = .ok (.invokevirtual 237, 3) := by decide +kernel
theorem dX7_fewest_14 : decode cX7_fewest 14 = .ok (.getfield 250, 3) := by decide +kernel
theorem dX7_fewest_17 : decode cX7_fewest 17 = .ok (.goto 5, 3) := by decide +kernel
theorem dX7_fewest_20 : decode cX7_fewest 20 = .ok (.bipush (-2), 2) := by decide +kernel
theorem dX7_fewest_22 : decode cX7_fewest 22 = .ok (.ireturn, 1) := by decide +kernel
theorem dX7_full_0 : decode cX7_full 0 = .ok (.aload_n 0, 1) := by decide +kernel
theorem dX7_full_1 : decode cX7_full 1 = .ok (.getfield 23, 3) := by decide +kernel
theorem dX7_full_4 : decode cX7_full 4 = .ok (.getfield 118, 3) := by decide +kernel
theorem dX7_full_7 : decode cX7_full 7 = .ok (.ifCond .eq 13, 3) := by decide +kernel
theorem dX7_full_10 : decode cX7_full 10 = .ok (.aload_n 0, 1) := by decide +kernel
theorem dX7_full_11 : decode cX7_full 11 = .ok (.invokevirtual 237, 3) := by decide +kernel
theorem dX7_full_14 : decode cX7_full 14 = .ok (.getfield 253, 3) := by decide +kernel
theorem dX7_full_17 : decode cX7_full 17 = .ok (.goto 5, 3) := by decide +kernel
theorem dX7_full_20 : decode cX7_full 20 = .ok (.bipush (-2), 2) := by decide +kernel
theorem dX7_full_22 : decode cX7_full 22 = .ok (.ireturn, 1) := by decide +kernel
theorem dX7_clear_0 : decode cX7_clear 0 = .ok (.aload_n 0, 1) := by decide +kernel
theorem dX7_clear_1 : decode cX7_clear 1 = .ok (.getfield 23, 3) := by decide +kernel
theorem dX7_clear_4 : decode cX7_clear 4 = .ok (.getfield 118, 3) := by decide +kernel
theorem dX7_clear_7 : decode cX7_clear 7 = .ok (.ifCond .eq 18, 3) := by decide +kernel
theorem dX7_clear_10 : decode cX7_clear 10 = .ok (.aload_n 0, 1) := by decide +kernel
theorem dX7_clear_11 : decode cX7_clear 11 = .ok (.invokevirtual 237, 3) := by decide +kernel
theorem dX7_clear_14 : decode cX7_clear 14 = .ok (.aload_n 0, 1) := by decide +kernel
theorem dX7_clear_15 : decode cX7_clear 15 = .ok (.iconst 0, 1) := by decide +kernel
theorem dX7_clear_16 : decode cX7_clear 16 = .ok (.invokevirtual 152, 3) := by decide +kernel
theorem dX7_clear_19 : decode cX7_clear 19 = .ok (.invokevirtual 256, 3) := by decide +kernel
theorem dX7_clear_22 : decode cX7_clear 22 = .ok (.goto 5, 3) := by decide +kernel
theorem dX7_clear_25 : decode cX7_clear 25 = .ok (.bipush (-2), 2) := by decide +kernel
theorem dX7_clear_27 : decode cX7_clear 27 = .ok (.ireturn, 1) := by decide +kernel
theorem dX7_ifChanged_0 : decode cX7_ifChanged 0 = .ok (.aload_n 0, 1) := by decide +kernel
theorem dX7_ifChanged_1 : decode cX7_ifChanged 1 = .ok (.getfield 47, 3) := by decide +kernel
theorem dX7_ifChanged_4 : decode cX7_ifChanged 4 = .ok (.aload_n 0, 1) := by decide +kernel
theorem dX7_ifChanged_5 : decode cX7_ifChanged 5 = .ok (.iconst 0, 1) := by decide +kernel
theorem dX7_ifChanged_6 : decode cX7_ifChanged 6 = .ok (.invokevirtual 152, 3) := by decide +kernel
theorem dX7_ifChanged_9 : decode cX7_ifChanged 9 = .ok (.invokevirtual 260, 3) := by decide +kernel
theorem dX7_ifChanged_12 : decode cX7_ifChanged 12 = .ok (.aload_n 0, 1) := by decide +kernel
theorem dX7_ifChanged_13 : decode cX7_ifChanged 13 = .ok (.getfield 47, 3) := by decide +kernel
theorem dX7_ifChanged_16 : decode cX7_ifChanged 16 = .ok (.iload_n 1, 1) := by decide +kernel
theorem dX7_ifChanged_17 : decode cX7_ifChanged 17 = .ok (.iload_n 2, 1) := by decide +kernel
theorem dX7_ifChanged_18 : decode cX7_ifChanged 18 = .ok (.invokevirtual 262, 3) := by decide +kernel
theorem dX7_ifChanged_21 : decode cX7_ifChanged 21 = .ok (.aload_n 0, 1) := by decide +kernel
theorem dX7_ifChanged_22 : decode cX7_ifChanged 22 = .ok (.getfield 47, 3) := by decide +kernel
theorem dX7_ifChanged_25 : decode cX7_ifChanged 25 = .ok (.invokevirtual 141, 3) := by decide +kernel
theorem dX7_ifChanged_28 : decode cX7_ifChanged 28 = .ok (.aload_n 0, 1) := by decide +kernel
theorem dX7_ifChanged_29 : decode cX7_ifChanged 29 = .ok (.getfield 47, 3) := by decide +kernel
theorem dX7_ifChanged_32 : decode cX7_ifChanged 32 = .ok (.areturn, 1) := by decide +kernel
theorem dX7_ifHid_0 : decode cX7_ifHid 0 = .ok (.aload_n 0, 1) := by decide +kernel
theorem dX7_ifHid_1 : decode cX7_ifHid 1 = .ok (.getfield 47, 3) := by decide +kernel
theorem dX7_ifHid_4 : decode cX7_ifHid 4 = .ok (.aload_n 0, 1) := by decide +kernel
theorem dX7_ifHid_5 : decode cX7_ifHid 5 = .ok (.iconst 0, 1) := by decide +kernel
theorem dX7_ifHid_6 : decode cX7_ifHid 6 = .ok (.invokevirtual 152, 3) := by decide +kernel
theorem dX7_ifHid_9 : decode cX7_ifHid 9 = .ok (.invokevirtual 260, 3) := by decide +kernel
theorem dX7_ifHid_12 : decode cX7_ifHid 12 = .ok (.aload_n 0, 1) := by decide +kernel
theorem dX7_ifHid_13 : decode cX7_ifHid 13 = .ok (.getfield 47, 3) := by decide +kernel
theorem dX7_ifHid_16 : decode cX7_ifHid 16 = .ok (.getfield 266, 3) := by decide +kernel
theorem dX7_ifHid_19 : decode cX7_ifHid 19 = .ok (.iload_n 1, 1) := by decide +kernel
theorem dX7_ifHid_20 : decode cX7_ifHid 20 = .ok (.dup2, 1) := by decide +kernel
theorem dX7_ifHid_21 : decode cX7_ifHid 21 = .ok (.iaload, 1) := by decide +kernel
theorem dX7_ifHid_22 : decode cX7_ifHid 22 = .ok (.iload_n 2, 1) := by decide +kernel
theorem dX7_ifHid_23 : decode cX7_ifHid 23 = .ok (.ior, 1) := by decide +kernel
theorem dX7_ifHid_24 : decode cX7_ifHid 24 = .ok (.iastore, 1) := by decide +kernel
theorem dX7_ifHid_25 : decode cX7_ifHid 25 = .ok (.aload_n 0, 1) := by decide +kernel
theorem dX7_ifHid_26 : decode cX7_ifHid 26 = .ok (.getfield 47, 3) := by decide +kernel
theorem dX7_ifHid_29 : decode cX7_ifHid 29 = .ok (.invokevirtual 141, 3) := by decide +kernel
theorem dX7_ifHid_32 : decode cX7_ifHid 32 = .ok (.aload_n 0, 1) := by decide +kernel
theorem dX7_ifHid_33 : decode cX7_ifHid 33 = .ok (.getfield 47, 3) := by decide +kernel
theorem dX7_ifHid_36 : decode cX7_ifHid 36 = .ok (.areturn, 1) := by decide +kernel
theorem dX7_sumIfTold_0 : decode cX7_sumIfTold 0 = .ok (.aload_n 0, 1) := by decide +kernel
theorem dX7_sumIfTold_1 : decode cX7_sumIfTold 1 = .ok (.getfield 47, 3) := by decide +kernel
theorem dX7_sumIfTold_4 : decode cX7_sumIfTold 4 = .ok (.aload_n 0, 1) := by decide +kernel
theorem dX7_sumIfTold_5 : decode cX7_sumIfTold 5 = .ok (.iconst 0, 1) := by decide +kernel
theorem dX7_sumIfTold_6 : decode cX7_sumIfTold 6 = .ok (.invokevirtual 152, 3) := by decide +kernel
theorem dX7_sumIfTold_9 : decode cX7_sumIfTold 9 = .ok (.invokevirtual 260, 3) := by decide +kernel
theorem dX7_sumIfTold_12 : decode cX7_sumIfTold 12 = .ok (.aload_n 0, 1) := by decide +kernel
theorem dX7_sumIfTold_13 : decode cX7_sumIfTold 13 = .ok (.getfield 47, 3) := by decide +kernel
theorem dX7_sumIfTold_16 : decode cX7_sumIfTold 16 = .ok (.getfield 269, 3) := by decide +kernel
theorem dX7_sumIfTold_19 : decode cX7_sumIfTold 19 = .ok (.iload_n 1, 1) := by decide +kernel
theorem dX7_sumIfTold_20 : decode cX7_sumIfTold 20 = .ok (.iconst 5, 1) := by decide +kernel
theorem dX7_sumIfTold_21 : decode cX7_sumIfTold 21 = .ok (.imul, 1) := by decide +kernel
theorem dX7_sumIfTold_22 : decode cX7_sumIfTold 22 = .ok (.iload_n 2, 1) := by decide +kernel
theorem dX7_sumIfTold_23 : decode cX7_sumIfTold 23 = .ok (.iadd, 1) := by decide +kernel
theorem dX7_sumIfTold_24 : decode cX7_sumIfTold 24 = .ok (.iload_n 3, 1) := by decide +kernel
theorem dX7_sumIfTold_25 : decode cX7_sumIfTold 25 = .ok (.iastore, 1) := by decide +kernel
theorem dX7_sumIfTold_26 : decode cX7_sumIfTold 26 = .ok (.aload_n 0, 1) := by decide +kernel
theorem dX7_sumIfTold_27 : decode cX7_sumIfTold 27 = .ok (.getfield 47, 3) := by decide +kernel
theorem dX7_sumIfTold_30 : decode cX7_sumIfTold 30 = .ok (.invokevirtual 141, 3) := by decide +kernel
theorem dX7_sumIfTold_33 : decode cX7_sumIfTold 33 = .ok (.aload_n 0, 1) := by decide +kernel
theorem dX7_sumIfTold_34 : decode cX7_sumIfTold 34 = .ok (.getfield 47, 3) := by decide +kernel
theorem dX7_sumIfTold_37 : decode cX7_sumIfTold 37 = .ok (.invokevirtual 194, 3) := by decide +kernel
theorem dX7_sumIfTold_40 : decode cX7_sumIfTold 40 = .ok (.ireturn, 1) := by decide +kernel
theorem dX7_gotBy_0 : decode cX7_gotBy 0 = .ok (.aload_n 0, 1) := by decide +kernel
theorem dX7_gotBy_1 : decode cX7_gotBy 1 = .ok (.getfield 47, 3) := by decide +kernel
theorem dX7_gotBy_4 : decode cX7_gotBy 4 = .ok (.aload_n 0, 1) := by decide +kernel
theorem dX7_gotBy_5 : decode cX7_gotBy 5 = .ok (.iconst 0, 1) := by decide +kernel
theorem dX7_gotBy_6 : decode cX7_gotBy 6 = .ok (.invokevirtual 152, 3) := by decide +kernel
theorem dX7_gotBy_9 : decode cX7_gotBy 9 = .ok (.invokevirtual 260, 3) := by decide +kernel
theorem dX7_gotBy_12 : decode cX7_gotBy 12 = .ok (.iload_n 3, 1) := by decide +kernel
theorem dX7_gotBy_13 : decode cX7_gotBy 13 = .ok (.iconst 1, 1) := by decide +kernel
theorem dX7_gotBy_14 : decode cX7_gotBy 14 = .ok (.if_icmp .ne 14, 3) := by decide +kernel
theorem dX7_gotBy_17 : decode cX7_gotBy 17 = .ok (.aload_n 0, 1) := by decide +kernel
theorem dX7_gotBy_18 : decode cX7_gotBy 18 = .ok (.getfield 47, 3) := by decide +kernel
theorem dX7_gotBy_21 : decode cX7_gotBy 21 = .ok (.getfield 266, 3) := by decide +kernel
theorem dX7_gotBy_24 : decode cX7_gotBy 24 = .ok (.iload_n 1, 1) := by decide +kernel
theorem dX7_gotBy_25 : decode cX7_gotBy 25 = .ok (.bipush 31, 2) := by decide +kernel
theorem dX7_gotBy_27 : decode cX7_gotBy 27 = .ok (.iastore, 1) := by decide +kernel
theorem dX7_gotBy_28 : decode cX7_gotBy 28 = .ok (.iload 4, 2) := by decide +kernel
theorem dX7_gotBy_30 : decode cX7_gotBy 30 = .ok (.iconst 1, 1) := by decide +kernel
theorem dX7_gotBy_31 : decode cX7_gotBy 31 = .ok (.if_icmp .ne 14, 3) := by decide +kernel
theorem dX7_gotBy_34 : decode cX7_gotBy 34 = .ok (.aload_n 0, 1) := by decide +kernel
theorem dX7_gotBy_35 : decode cX7_gotBy 35 = .ok (.getfield 47, 3) := by decide +kernel
theorem dX7_gotBy_38 : decode cX7_gotBy 38 = .ok (.getfield 266, 3) := by decide +kernel
theorem dX7_gotBy_41 : decode cX7_gotBy 41 = .ok (.iload_n 2, 1) := by decide +kernel
theorem dX7_gotBy_42 : decode cX7_gotBy 42 = .ok (.bipush 31, 2) := by decide +kernel
theorem dX7_gotBy_44 : decode cX7_gotBy 44 = .ok (.iastore, 1) := by decide +kernel
theorem dX7_gotBy_45 : decode cX7_gotBy 45 = .ok (.aload_n 0, 1) := by decide +kernel
theorem dX7_gotBy_46 : decode cX7_gotBy 46 = .ok (.getfield 47, 3) := by decide +kernel
theorem dX7_gotBy_49 : decode cX7_gotBy 49 = .ok (.invokevirtual 141, 3) := by decide +kernel
theorem dX7_gotBy_52 : decode cX7_gotBy 52 = .ok (.aload_n 0, 1) := by decide +kernel
theorem dX7_gotBy_53 : decode cX7_gotBy 53 = .ok (.getfield 47, 3) := by decide +kernel
theorem dX7_gotBy_56 : decode cX7_gotBy 56 = .ok (.iload_n 1, 1) := by decide +kernel
theorem dX7_gotBy_57 : decode cX7_gotBy 57 = .ok (.invokevirtual 191, 3) := by decide +kernel
theorem dX7_gotBy_60 : decode cX7_gotBy 60 = .ok (.iload_n 3, 1) := by decide +kernel
theorem dX7_gotBy_61 : decode cX7_gotBy 61 = .ok (.iconst 2, 1) := by decide +kernel
theorem dX7_gotBy_62 : decode cX7_gotBy 62 = .ok (.imul, 1) := by decide +kernel
theorem dX7_gotBy_63 : decode cX7_gotBy 63 = .ok (.isub, 1) := by decide +kernel
theorem dX7_gotBy_64 : decode cX7_gotBy 64 = .ok (.ireturn, 1) := by decide +kernel
theorem dX7_lie_0 : decode cX7_lie 0 = .ok (.aload_n 0, 1) := by decide +kernel
theorem dX7_lie_1 : decode cX7_lie 1 = .ok (.iload_n 1, 1) := by decide +kernel
theorem dX7_lie_2 : decode cX7_lie 2 = .ok (.invokevirtual 111, 3) := by decide +kernel
theorem dX7_lie_5 : decode cX7_lie 5 = .ok (.ifCond .eq 11, 3) := by decide +kernel
theorem dX7_lie_8 : decode cX7_lie 8 = .ok (.aload_n 0, 1) := by decide +kernel
theorem dX7_lie_9 : decode cX7_lie 9 = .ok (.iload_n 1, 1) := by decide +kernel
theorem dX7_lie_10 : decode cX7_lie 10 = .ok (.invokevirtual 272, 3) := by decide +kernel
theorem dX7_lie_13 : decode cX7_lie 13 = .ok (.goto 5, 3) := by decide +kernel
theorem dX7_lie_16 : decode cX7_lie 16 = .ok (.bipush (-2), 2) := by decide +kernel
theorem dX7_lie_18 : decode cX7_lie 18 = .ok (.ireturn, 1) := by decide +kernel
theorem dX7_leastLie_0 : decode cX7_leastLie 0 = .ok (.aload_n 0, 1) := by decide +kernel
theorem dX7_leastLie_1 : decode cX7_leastLie 1 = .ok (.iconst 0, 1) := by decide +kernel
theorem dX7_leastLie_2 : decode cX7_leastLie 2 = .ok (.invokevirtual 152, 3) := by decide +kernel
theorem dX7_leastLie_5 : decode cX7_leastLie 5 = .ok (.astore_n 2, 1) := by decide +kernel
theorem dX7_leastLie_6 : decode cX7_leastLie 6 = .ok (.aload_n 2, 1) := by decide +kernel
theorem dX7_leastLie_7 : decode cX7_leastLie 7 = .ok (.getfield 164, 3) := by decide +kernel
theorem dX7_leastLie_10 : decode cX7_leastLie 10 = .ok (.iload_n 1, 1) := by decide +kernel
theorem dX7_leastLie_11 : decode cX7_leastLie 11 = .ok (.iaload, 1) := by decide +kernel
theorem dX7_leastLie_12 : decode cX7_leastLie 12 = .ok (.istore_n 3, 1) := by decide +kernel
theorem dX7_leastLie_13 : decode cX7_leastLie 13 = .ok (.iconst 0, 1) := by decide +kernel
theorem dX7_leastLie_14 : decode cX7_leastLie 14 = .ok (.istore 4, 2) := by decide +kernel
theorem dX7_leastLie_16 : decode cX7_leastLie 16 = .ok (.iload 4, 2) := by decide +kernel
theorem dX7_leastLie_18 : decode cX7_leastLie 18 = .ok (.aload_n 0, 1) := by decide +kernel
theorem dX7_leastLie_19 : decode cX7_leastLie 19 = .ok (.getfield 23, 3) := by decide +kernel
theorem dX7_leastLie_22 : decode cX7_leastLie 22 = .ok (.getfield 115, 3) := by decide +kernel
theorem dX7_leastLie_25 : decode cX7_leastLie 25 = .ok (.if_icmp .ge 42, 3) := by decide +kernel
theorem dX7_leastLie_28 : decode cX7_leastLie 28 = .ok (.iload_n 3, 1) := by decide +kernel
theorem dX7_leastLie_29 : decode cX7_leastLie 29 = .ok (.iload 4, 2) := by decide +kernel
theorem dX7_leastLie_31 : decode cX7_leastLie 31 = .ok (.invokestatic 170, 3) := by decide +kernel
theorem dX7_leastLie_34 : decode cX7_leastLie 34 = .ok (.ifCond .eq 27, 3) := by decide +kernel
theorem dX7_leastLie_37 : decode cX7_leastLie 37 = .ok (.aload_n 0, 1) := by decide +kernel
theorem dX7_leastLie_38 : decode cX7_leastLie 38 = .ok (.iload_n 1, 1) := by decide +kernel
theorem dX7_leastLie_39 : decode cX7_leastLie 39 = .ok (.iconst 1, 1) := by decide +kernel
theorem dX7_leastLie_40 : decode cX7_leastLie 40 = .ok (.iload 4, 2) := by decide +kernel
theorem dX7_leastLie_42 : decode cX7_leastLie 42 = .ok (.ishl, 1) := by decide +kernel
theorem dX7_leastLie_43 : decode cX7_leastLie 43 = .ok (.invokevirtual 275, 3) := by decide +kernel
theorem dX7_leastLie_46 : decode cX7_leastLie 46 = .ok (.iload_n 1, 1) := by decide +kernel
theorem dX7_leastLie_47 : decode cX7_leastLie 47 = .ok (.invokevirtual 191, 3) := by decide +kernel
theorem dX7_leastLie_50 : decode cX7_leastLie 50 = .ok (.aload_n 2, 1) := by decide +kernel
theorem dX7_leastLie_51 : decode cX7_leastLie 51 = .ok (.iload_n 1, 1) := by decide +kernel
theorem dX7_leastLie_52 : decode cX7_leastLie 52 = .ok (.invokevirtual 191, 3) := by decide +kernel
theorem dX7_leastLie_55 : decode cX7_leastLie 55 = .ok (.if_icmp .le 6, 3) := by decide +kernel
theorem dX7_leastLie_58 : decode cX7_leastLie 58 = .ok (.iload 4, 2) := by decide +kernel
theorem dX7_leastLie_60 : decode cX7_leastLie 60 = .ok (.ireturn, 1) := by decide +kernel
theorem dX7_leastLie_61 : decode cX7_leastLie 61 = .ok (.iinc 4 1, 3) := by decide +kernel
theorem dX7_leastLie_64 : decode cX7_leastLie 64 = .ok (.goto (-48), 3) := by decide +kernel
theorem dX7_leastLie_67 : decode cX7_leastLie 67 = .ok (.iconst (-1), 1) := by decide +kernel
theorem dX7_leastLie_68 : decode cX7_leastLie 68 = .ok (.ireturn, 1) := by decide +kernel
theorem dX7_lies_0 : decode cX7_lies 0 = .ok (.aload_n 0, 1) := by decide +kernel
theorem dX7_lies_1 : decode cX7_lies 1 = .ok (.iload_n 1, 1) := by decide +kernel
theorem dX7_lies_2 : decode cX7_lies 2 = .ok (.invokevirtual 111, 3) := by decide +kernel
theorem dX7_lies_5 : decode cX7_lies 5 = .ok (.ifCond .ne 6, 3) := by decide +kernel
theorem dX7_lies_8 : decode cX7_lies 8 = .ok (.bipush (-2), 2) := by decide +kernel
theorem dX7_lies_10 : decode cX7_lies 10 = .ok (.ireturn, 1) := by decide +kernel
theorem dX7_lies_11 : decode cX7_lies 11 = .ok (.aload_n 0, 1) := by decide +kernel
theorem dX7_lies_12 : decode cX7_lies 12 = .ok (.iconst 0, 1) := by decide +kernel
theorem dX7_lies_13 : decode cX7_lies 13 = .ok (.invokevirtual 152, 3) := by decide +kernel
theorem dX7_lies_16 : decode cX7_lies 16 = .ok (.getfield 164, 3) := by decide +kernel
theorem dX7_lies_19 : decode cX7_lies 19 = .ok (.iload_n 1, 1) := by decide +kernel
theorem dX7_lies_20 : decode cX7_lies 20 = .ok (.iaload, 1) := by decide +kernel
theorem dX7_lies_21 : decode cX7_lies 21 = .ok (.istore_n 2, 1) := by decide +kernel
theorem dX7_lies_22 : decode cX7_lies 22 = .ok (.aload_n 0, 1) := by decide +kernel
theorem dX7_lies_23 : decode cX7_lies 23 = .ok (.iconst 0, 1) := by decide +kernel
theorem dX7_lies_24 : decode cX7_lies 24 = .ok (.invokevirtual 152, 3) := by decide +kernel
theorem dX7_lies_27 : decode cX7_lies 27 = .ok (.iload_n 1, 1) := by decide +kernel
theorem dX7_lies_28 : decode cX7_lies 28 = .ok (.invokevirtual 191, 3) := by decide +kernel
theorem dX7_lies_31 : decode cX7_lies 31 = .ok (.istore_n 3, 1) := by decide +kernel
theorem dX7_lies_32 : decode cX7_lies 32 = .ok (.iconst 0, 1) := by decide +kernel
theorem dX7_lies_33 : decode cX7_lies 33 = .ok (.istore 4, 2) := by decide +kernel
theorem dX7_lies_35 : decode cX7_lies 35 = .ok (.iconst 1, 1) := by decide +kernel
theorem dX7_lies_36 : decode cX7_lies 36 = .ok (.istore 5, 2) := by decide +kernel
theorem dX7_lies_38 : decode cX7_lies 38 = .ok (.iload 5, 2) := by decide +kernel
theorem dX7_lies_40 : decode cX7_lies 40 = .ok (.iload_n 2, 1) := by decide +kernel
theorem dX7_lies_41 : decode cX7_lies 41 = .ok (.if_icmp .gt 63, 3) := by decide +kernel
theorem dX7_lies_44 : decode cX7_lies 44 = .ok (.iload 5, 2) := by decide +kernel
theorem dX7_lies_46 : decode cX7_lies 46 = .ok (.iload_n 2, 1) := by decide +kernel
theorem dX7_lies_47 : decode cX7_lies 47 = .ok (.iconst (-1), 1) := by decide +kernel
theorem dX7_lies_48 : decode cX7_lies 48 = .ok (.ixor, 1) := by decide +kernel
theorem dX7_lies_49 : decode cX7_lies 49 = .ok (.iand, 1) := by decide +kernel
theorem dX7_lies_50 : decode cX7_lies 50 = .ok (.ifCond .ne 48, 3) := by decide +kernel
theorem dX7_lies_53 : decode cX7_lies 53 = .ok (.aload_n 0, 1) := by decide +kernel
theorem dX7_lies_54 : decode cX7_lies 54 = .ok (.iload_n 1, 1) := by decide +kernel
theorem dX7_lies_55 : decode cX7_lies 55 = .ok (.iload 5, 2) := by decide +kernel
theorem dX7_lies_57 : decode cX7_lies 57 = .ok (.invokevirtual 275, 3) := by decide +kernel
theorem dX7_lies_60 : decode cX7_lies 60 = .ok (.iload_n 1, 1) := by decide +kernel
theorem dX7_lies_61 : decode cX7_lies 61 = .ok (.invokevirtual 191, 3) := by decide +kernel
theorem dX7_lies_64 : decode cX7_lies 64 = .ok (.istore 6, 2) := by decide +kernel
theorem dX7_lies_66 : decode cX7_lies 66 = .ok (.iload 6, 2) := by decide +kernel
theorem dX7_lies_68 : decode cX7_lies 68 = .ok (.iload_n 3, 1) := by decide +kernel
theorem dX7_lies_69 : decode cX7_lies 69 = .ok (.if_icmp .gt 22, 3) := by decide +kernel
theorem dX7_lies_72 : decode cX7_lies 72 = .ok (.iload 6, 2) := by decide +kernel
theorem dX7_lies_74 : decode cX7_lies 74 = .ok (.iload_n 3, 1) := by decide +kernel
theorem dX7_lies_75 : decode cX7_lies 75 = .ok (.if_icmp .ne 23, 3) := by decide +kernel
theorem dX7_lies_78 : decode cX7_lies 78 = .ok (.iload 5, 2) := by decide +kernel
theorem dX7_lies_80 : decode cX7_lies 80 = .ok (.invokestatic 211, 3) := by decide +kernel
theorem dX7_lies_83 : decode cX7_lies 83 = .ok (.iload 4, 2) := by decide +kernel
theorem dX7_lies_85 : decode cX7_lies 85 = .ok (.invokestatic 211, 3) := by decide +kernel
theorem dX7_lies_88 : decode cX7_lies 88 = .ok (.if_icmp .ge 10, 3) := by decide +kernel
theorem dX7_lies_91 : decode cX7_lies 91 = .ok (.iload 6, 2) := by decide +kernel
theorem dX7_lies_93 : decode cX7_lies 93 = .ok (.istore_n 3, 1) := by decide +kernel
theorem dX7_lies_94 : decode cX7_lies 94 = .ok (.iload 5, 2) := by decide +kernel
theorem dX7_lies_96 : decode cX7_lies 96 = .ok (.istore 4, 2) := by decide +kernel
theorem dX7_lies_98 : decode cX7_lies 98 = .ok (.iinc 5 1, 3) := by decide +kernel
theorem dX7_lies_101 : decode cX7_lies 101 = .ok (.goto (-63), 3) := by decide +kernel
theorem dX7_lies_104 : decode cX7_lies 104 = .ok (.iload 4, 2) := by decide +kernel
theorem dX7_lies_106 : decode cX7_lies 106 = .ok (.ireturn, 1) := by decide +kernel
theorem dX7_liars_0 : decode cX7_liars 0 = .ok (.aload_n 0, 1) := by decide +kernel
theorem dX7_liars_1 : decode cX7_liars 1 = .ok (.getfield 23, 3) := by decide +kernel
theorem dX7_liars_4 : decode cX7_liars 4 = .ok (.getfield 118, 3) := by decide +kernel
theorem dX7_liars_7 : decode cX7_liars 7 = .ok (.ifCond .ne 6, 3) := by decide +kernel
theorem dX7_liars_10 : decode cX7_liars 10 = .ok (.bipush (-2), 2) := by decide +kernel
theorem dX7_liars_12 : decode cX7_liars 12 = .ok (.ireturn, 1) := by decide +kernel
theorem dX7_liars_13 : decode cX7_liars 13 = .ok (.iconst 0, 1) := by decide +kernel
theorem dX7_liars_14 : decode cX7_liars 14 = .ok (.istore_n 1, 1) := by decide +kernel
theorem dX7_liars_15 : decode cX7_liars 15 = .ok (.iconst 0, 1) := by decide +kernel
theorem dX7_liars_16 : decode cX7_liars 16 = .ok (.istore_n 2, 1) := by decide +kernel
theorem dX7_liars_17 : decode cX7_liars 17 = .ok (.iload_n 2, 1) := by decide +kernel
theorem dX7_liars_18 : decode cX7_liars 18 = .ok (.aload_n 0, 1) := by decide +kernel
theorem dX7_liars_19 : decode cX7_liars 19 = .ok (.getfield 23, 3) := by decide +kernel
theorem dX7_liars_22 : decode cX7_liars 22 = .ok (.getfield 108, 3) := by decide +kernel
theorem dX7_liars_25 : decode cX7_liars 25 = .ok (.if_icmp .ge 24, 3) := by decide +kernel
theorem dX7_liars_28 : decode cX7_liars 28 = .ok (.aload_n 0, 1) := by decide +kernel
theorem dX7_liars_29 : decode cX7_liars 29 = .ok (.iload_n 2, 1) := by decide +kernel
theorem dX7_liars_30 : decode cX7_liars 30 = .ok (.invokevirtual 272, 3) := by decide +kernel
theorem dX7_liars_33 : decode cX7_liars 33 = .ok (.iconst (-1), 1) := by decide +kernel
theorem dX7_liars_34 : decode cX7_liars 34 = .ok (.if_icmp .eq 9, 3) := by decide +kernel
theorem dX7_liars_37 : decode cX7_liars 37 = .ok (.iload_n 1, 1) := by decide +kernel
theorem dX7_liars_38 : decode cX7_liars 38 = .ok (.iconst 1, 1) := by decide +kernel
theorem dX7_liars_39 : decode cX7_liars 39 = .ok (.iload_n 2, 1) := by decide +kernel
theorem dX7_liars_40 : decode cX7_liars 40 = .ok (.ishl, 1) := by decide +kernel
theorem dX7_liars_41 : decode cX7_liars 41 = .ok (.ior, 1) := by decide +kernel
theorem dX7_liars_42 : decode cX7_liars 42 = .ok (.istore_n 1, 1) := by decide +kernel
theorem dX7_liars_43 : decode cX7_liars 43 = .ok (.iinc 2 1, 3) := by decide +kernel
theorem dX7_liars_46 : decode cX7_liars 46 = .ok (.goto (-29), 3) := by decide +kernel
theorem dX7_liars_49 : decode cX7_liars 49 = .ok (.iload_n 1, 1) := by decide +kernel
theorem dX7_liars_50 : decode cX7_liars 50 = .ok (.ireturn, 1) := by decide +kernel
theorem dX7_rests_0 : decode cX7_rests 0 = .ok (.aload_n 0, 1) := by decide +kernel
theorem dX7_rests_1 : decode cX7_rests 1 = .ok (.iload_n 1, 1) := by decide +kernel
theorem dX7_rests_2 : decode cX7_rests 2 = .ok (.iload_n 2, 1) := by decide +kernel
theorem dX7_rests_3 : decode cX7_rests 3 = .ok (.invokevirtual 219, 3) := by decide +kernel
theorem dX7_rests_6 : decode cX7_rests 6 = .ok (.ifCond .ne 6, 3) := by decide +kernel
theorem dX7_rests_9 : decode cX7_rests 9 = .ok (.bipush (-2), 2) := by decide +kernel
theorem dX7_rests_11 : decode cX7_rests 11 = .ok (.ireturn, 1) := by decide +kernel
theorem dX7_rests_12 : decode cX7_rests 12 = .ok (.iconst 0, 1) := by decide +kernel
theorem dX7_rests_13 : decode cX7_rests 13 = .ok (.istore_n 3, 1) := by decide +kernel
theorem dX7_rests_14 : decode cX7_rests 14 = .ok (.iconst 0, 1) := by decide +kernel
theorem dX7_rests_15 : decode cX7_rests 15 = .ok (.istore 4, 2) := by decide +kernel
theorem dX7_rests_17 : decode cX7_rests 17 = .ok (.iload 4, 2) := by decide +kernel
theorem dX7_rests_19 : decode cX7_rests 19 = .ok (.iconst 4, 1) := by decide +kernel
theorem dX7_rests_20 : decode cX7_rests 20 = .ok (.if_icmp .ge 78, 3) := by decide +kernel
theorem dX7_rests_23 : decode cX7_rests 23 = .ok (.iload 4, 2) := by decide +kernel
theorem dX7_rests_25 : decode cX7_rests 25 = .ok (.iconst 1, 1) := by decide +kernel
theorem dX7_rests_26 : decode cX7_rests 26 = .ok (.iand, 1) := by decide +kernel
theorem dX7_rests_27 : decode cX7_rests 27 = .ok (.istore 5, 2) := by decide +kernel
theorem dX7_rests_29 : decode cX7_rests 29 = .ok (.iload 4, 2) := by decide +kernel
theorem dX7_rests_31 : decode cX7_rests 31 = .ok (.iconst 1, 1) := by decide +kernel
theorem dX7_rests_32 : decode cX7_rests 32 = .ok (.ishr, 1) := by decide +kernel
theorem dX7_rests_33 : decode cX7_rests 33 = .ok (.istore 6, 2) := by decide +kernel
theorem dX7_rests_35 : decode cX7_rests 35 = .ok (.aload_n 0, 1) := by decide +kernel
theorem dX7_rests_36 : decode cX7_rests 36 = .ok (.iload_n 1, 1) := by decide +kernel
theorem dX7_rests_37 : decode cX7_rests 37 = .ok (.iload_n 2, 1) := by decide +kernel
theorem dX7_rests_38 : decode cX7_rests 38 = .ok (.iload 5, 2) := by decide +kernel
theorem dX7_rests_40 : decode cX7_rests 40 = .ok (.iload 6, 2) := by decide +kernel
theorem dX7_rests_42 : decode cX7_rests 42 = .ok (.invokevirtual 229, 3) := by decide +kernel
theorem dX7_rests_45 : decode cX7_rests 45 = .ok (.aload_n 0, 1) := by decide +kernel
theorem dX7_rests_46 : decode cX7_rests 46 = .ok (.iload_n 1, 1) := by decide +kernel
theorem dX7_rests_47 : decode cX7_rests 47 = .ok (.iload_n 2, 1) := by decide +kernel
theorem dX7_rests_48 : decode cX7_rests 48 = .ok (.iconst 1, 1) := by decide +kernel
theorem dX7_rests_49 : decode cX7_rests 49 = .ok (.iload 5, 2) := by decide +kernel
theorem dX7_rests_51 : decode cX7_rests 51 = .ok (.isub, 1) := by decide +kernel
theorem dX7_rests_52 : decode cX7_rests 52 = .ok (.iload 6, 2) := by decide +kernel
theorem dX7_rests_54 : decode cX7_rests 54 = .ok (.invokevirtual 229, 3) := by decide +kernel
theorem dX7_rests_57 : decode cX7_rests 57 = .ok (.if_icmp .lt 35, 3) := by decide +kernel
theorem dX7_rests_60 : decode cX7_rests 60 = .ok (.aload_n 0, 1) := by decide +kernel
theorem dX7_rests_61 : decode cX7_rests 61 = .ok (.iload_n 2, 1) := by decide +kernel
theorem dX7_rests_62 : decode cX7_rests 62 = .ok (.iload_n 1, 1) := by decide +kernel
theorem dX7_rests_63 : decode cX7_rests 63 = .ok (.iload 6, 2) := by decide +kernel
theorem dX7_rests_65 : decode cX7_rests 65 = .ok (.iload 5, 2) := by decide +kernel
theorem dX7_rests_67 : decode cX7_rests 67 = .ok (.invokevirtual 229, 3) := by decide +kernel
theorem dX7_rests_70 : decode cX7_rests 70 = .ok (.aload_n 0, 1) := by decide +kernel
theorem dX7_rests_71 : decode cX7_rests 71 = .ok (.iload_n 2, 1) := by decide +kernel
theorem dX7_rests_72 : decode cX7_rests 72 = .ok (.iload_n 1, 1) := by decide +kernel
theorem dX7_rests_73 : decode cX7_rests 73 = .ok (.iconst 1, 1) := by decide +kernel
theorem dX7_rests_74 : decode cX7_rests 74 = .ok (.iload 6, 2) := by decide +kernel
theorem dX7_rests_76 : decode cX7_rests 76 = .ok (.isub, 1) := by decide +kernel
theorem dX7_rests_77 : decode cX7_rests 77 = .ok (.iload 5, 2) := by decide +kernel
theorem dX7_rests_79 : decode cX7_rests 79 = .ok (.invokevirtual 229, 3) := by decide +kernel
theorem dX7_rests_82 : decode cX7_rests 82 = .ok (.if_icmp .lt 10, 3) := by decide +kernel
theorem dX7_rests_85 : decode cX7_rests 85 = .ok (.iload_n 3, 1) := by decide +kernel
theorem dX7_rests_86 : decode cX7_rests 86 = .ok (.iconst 1, 1) := by decide +kernel
theorem dX7_rests_87 : decode cX7_rests 87 = .ok (.iload 4, 2) := by decide +kernel
theorem dX7_rests_89 : decode cX7_rests 89 = .ok (.ishl, 1) := by decide +kernel
theorem dX7_rests_90 : decode cX7_rests 90 = .ok (.ior, 1) := by decide +kernel
theorem dX7_rests_91 : decode cX7_rests 91 = .ok (.istore_n 3, 1) := by decide +kernel
theorem dX7_rests_92 : decode cX7_rests 92 = .ok (.iinc 4 1, 3) := by decide +kernel
theorem dX7_rests_95 : decode cX7_rests 95 = .ok (.goto (-78), 3) := by decide +kernel
theorem dX7_rests_98 : decode cX7_rests 98 = .ok (.iload_n 3, 1) := by decide +kernel
theorem dX7_rests_99 : decode cX7_rests 99 = .ok (.ireturn, 1) := by decide +kernel
theorem dX7_gets_0 : decode cX7_gets 0 = .ok (.aload_n 0, 1) := by decide +kernel
theorem dX7_gets_1 : decode cX7_gets 1 = .ok (.iload_n 1, 1) := by decide +kernel
theorem dX7_gets_2 : decode cX7_gets 2 = .ok (.iload_n 2, 1) := by decide +kernel
theorem dX7_gets_3 : decode cX7_gets 3 = .ok (.invokevirtual 219, 3) := by decide +kernel
theorem dX7_gets_6 : decode cX7_gets 6 = .ok (.ifCond .eq 18, 3) := by decide +kernel
theorem dX7_gets_9 : decode cX7_gets 9 = .ok (.iload_n 3, 1) := by decide +kernel
theorem dX7_gets_10 : decode cX7_gets 10 = .ok (.invokestatic 278, 3) := by decide +kernel
theorem dX7_gets_13 : decode cX7_gets 13 = .ok (.ifCond .eq 11, 3) := by decide +kernel
theorem dX7_gets_16 : decode cX7_gets 16 = .ok (.iload 4, 2) := by decide +kernel
theorem dX7_gets_18 : decode cX7_gets 18 = .ok (.invokestatic 278, 3) := by decide +kernel
theorem dX7_gets_21 : decode cX7_gets 21 = .ok (.ifCond .ne 7, 3) := by decide +kernel
theorem dX7_gets_24 : decode cX7_gets 24 = .ok (.sipush (-1000), 3) := by decide +kernel
theorem dX7_gets_27 : decode cX7_gets 27 = .ok (.ireturn, 1) := by decide +kernel
theorem dX7_gets_28 : decode cX7_gets 28 = .ok (.aload_n 0, 1) := by decide +kernel
theorem dX7_gets_29 : decode cX7_gets 29 = .ok (.iload_n 1, 1) := by decide +kernel
theorem dX7_gets_30 : decode cX7_gets 30 = .ok (.iload_n 2, 1) := by decide +kernel
theorem dX7_gets_31 : decode cX7_gets 31 = .ok (.iload_n 3, 1) := by decide +kernel
theorem dX7_gets_32 : decode cX7_gets 32 = .ok (.iload 4, 2) := by decide +kernel
theorem dX7_gets_34 : decode cX7_gets 34 = .ok (.invokevirtual 229, 3) := by decide +kernel
theorem dX7_gets_37 : decode cX7_gets 37 = .ok (.ireturn, 1) := by decide +kernel
theorem dX7_worth_0 : decode cX7_worth 0 = .ok (.aload_n 0, 1) := by decide +kernel
theorem dX7_worth_1 : decode cX7_worth 1 = .ok (.iload_n 1, 1) := by decide +kernel
theorem dX7_worth_2 : decode cX7_worth 2 = .ok (.invokevirtual 111, 3) := by decide +kernel
theorem dX7_worth_5 : decode cX7_worth 5 = .ok (.ifCond .eq 23, 3) := by decide +kernel
theorem dX7_worth_8 : decode cX7_worth 8 = .ok (.aload_n 0, 1) := by decide +kernel
theorem dX7_worth_9 : decode cX7_worth 9 = .ok (.iload_n 2, 1) := by decide +kernel
theorem dX7_worth_10 : decode cX7_worth 10 = .ok (.invokevirtual 124, 3) := by decide +kernel
theorem dX7_worth_13 : decode cX7_worth 13 = .ok (.ifCond .eq 15, 3) := by decide +kernel
theorem dX7_worth_16 : decode cX7_worth 16 = .ok (.iload_n 3, 1) := by decide +kernel
theorem dX7_worth_17 : decode cX7_worth 17 = .ok (.bipush (-9), 2) := by decide +kernel
theorem dX7_worth_19 : decode cX7_worth 19 = .ok (.if_icmp .lt 9, 3) := by decide +kernel
theorem dX7_worth_22 : decode cX7_worth 22 = .ok (.iload_n 3, 1) := by decide +kernel
theorem dX7_worth_23 : decode cX7_worth 23 = .ok (.bipush 9, 2) := by decide +kernel
theorem dX7_worth_25 : decode cX7_worth 25 = .ok (.if_icmp .le 7, 3) := by decide +kernel
theorem dX7_worth_28 : decode cX7_worth 28 = .ok (.sipush (-10000), 3) := by decide +kernel
theorem dX7_worth_31 : decode cX7_worth 31 = .ok (.ireturn, 1) := by decide +kernel
theorem dX7_worth_32 : decode cX7_worth 32 = .ok (.aload_n 0, 1) := by decide +kernel
theorem dX7_worth_33 : decode cX7_worth 33 = .ok (.iload_n 1, 1) := by decide +kernel
theorem dX7_worth_34 : decode cX7_worth 34 = .ok (.iload_n 2, 1) := by decide +kernel
theorem dX7_worth_35 : decode cX7_worth 35 = .ok (.iload_n 3, 1) := by decide +kernel
theorem dX7_worth_36 : decode cX7_worth 36 = .ok (.invokevirtual 281, 3) := by decide +kernel
theorem dX7_worth_39 : decode cX7_worth 39 = .ok (.aload_n 0, 1) := by decide +kernel
theorem dX7_worth_40 : decode cX7_worth 40 = .ok (.iconst 0, 1) := by decide +kernel
theorem dX7_worth_41 : decode cX7_worth 41 = .ok (.invokevirtual 152, 3) := by decide +kernel
theorem dX7_worth_44 : decode cX7_worth 44 = .ok (.invokevirtual 194, 3) := by decide +kernel
theorem dX7_worth_47 : decode cX7_worth 47 = .ok (.isub, 1) := by decide +kernel
theorem dX7_worth_48 : decode cX7_worth 48 = .ok (.ireturn, 1) := by decide +kernel
theorem dX7_learn_0 : decode cX7_learn 0 = .ok (.aload_n 0, 1) := by decide +kernel
theorem dX7_learn_1 : decode cX7_learn 1 = .ok (.iload_n 1, 1) := by decide +kernel
theorem dX7_learn_2 : decode cX7_learn 2 = .ok (.invokevirtual 111, 3) := by decide +kernel
theorem dX7_learn_5 : decode cX7_learn 5 = .ok (.ifCond .ne 6, 3) := by decide +kernel
theorem dX7_learn_8 : decode cX7_learn 8 = .ok (.bipush (-2), 2) := by decide +kernel
theorem dX7_learn_10 : decode cX7_learn 10 = .ok (.ireturn, 1) := by decide +kernel
theorem dX7_learn_11 : decode cX7_learn 11 = .ok (.aload_n 0, 1) := by decide +kernel
theorem dX7_learn_12 : decode cX7_learn 12 = .ok (.iconst 0, 1) := by decide +kernel
theorem dX7_learn_13 : decode cX7_learn 13 = .ok (.invokevirtual 152, 3) := by decide +kernel
theorem dX7_learn_16 : decode cX7_learn 16 = .ok (.invokevirtual 194, 3) := by decide +kernel
theorem dX7_learn_19 : decode cX7_learn 19 = .ok (.istore_n 2, 1) := by decide +kernel
theorem dX7_learn_20 : decode cX7_learn 20 = .ok (.iconst (-1), 1) := by decide +kernel
theorem dX7_learn_21 : decode cX7_learn 21 = .ok (.istore_n 3, 1) := by decide +kernel
theorem dX7_learn_22 : decode cX7_learn 22 = .ok (.iconst 0, 1) := by decide +kernel
theorem dX7_learn_23 : decode cX7_learn 23 = .ok (.istore 4, 2) := by decide +kernel
theorem dX7_learn_25 : decode cX7_learn 25 = .ok (.iload 4, 2) := by decide +kernel
theorem dX7_learn_27 : decode cX7_learn 27 = .ok (.aload_n 0, 1) := by decide +kernel
theorem dX7_learn_28 : decode cX7_learn 28 = .ok (.getfield 23, 3) := by decide +kernel
theorem dX7_learn_31 : decode cX7_learn 31 = .ok (.getfield 115, 3) := by decide +kernel
theorem dX7_learn_34 : decode cX7_learn 34 = .ok (.if_icmp .ge 31, 3) := by decide +kernel
theorem dX7_learn_37 : decode cX7_learn 37 = .ok (.aload_n 0, 1) := by decide +kernel
theorem dX7_learn_38 : decode cX7_learn 38 = .ok (.iload_n 1, 1) := by decide +kernel
theorem dX7_learn_39 : decode cX7_learn 39 = .ok (.iload 4, 2) := by decide +kernel
theorem dX7_learn_41 : decode cX7_learn 41 = .ok (.iconst (-1), 1) := by decide +kernel
theorem dX7_learn_42 : decode cX7_learn 42 = .ok (.invokevirtual 281, 3) := by decide +kernel
theorem dX7_learn_45 : decode cX7_learn 45 = .ok (.istore 5, 2) := by decide +kernel
theorem dX7_learn_47 : decode cX7_learn 47 = .ok (.iload 5, 2) := by decide +kernel
theorem dX7_learn_49 : decode cX7_learn 49 = .ok (.iload_n 2, 1) := by decide +kernel
theorem dX7_learn_50 : decode cX7_learn 50 = .ok (.if_icmp .le 9, 3) := by decide +kernel
theorem dX7_learn_53 : decode cX7_learn 53 = .ok (.iload 5, 2) := by decide +kernel
theorem dX7_learn_55 : decode cX7_learn 55 = .ok (.istore_n 2, 1) := by decide +kernel
theorem dX7_learn_56 : decode cX7_learn 56 = .ok (.iload 4, 2) := by decide +kernel
theorem dX7_learn_58 : decode cX7_learn 58 = .ok (.istore_n 3, 1) := by decide +kernel
theorem dX7_learn_59 : decode cX7_learn 59 = .ok (.iinc 4 1, 3) := by decide +kernel
theorem dX7_learn_62 : decode cX7_learn 62 = .ok (.goto (-37), 3) := by decide +kernel
theorem dX7_learn_65 : decode cX7_learn 65 = .ok (.iload_n 3, 1) := by decide +kernel
theorem dX7_learn_66 : decode cX7_learn 66 = .ok (.ireturn, 1) := by decide +kernel
theorem dX7_isTrade_0 : decode cX7_isTrade 0 = .ok (.aload_n 0, 1) := by decide +kernel
theorem dX7_isTrade_1 : decode cX7_isTrade 1 = .ok (.iconst 0, 1) := by decide +kernel
theorem dX7_isTrade_2 : decode cX7_isTrade 2 = .ok (.invokevirtual 152, 3) := by decide +kernel
theorem dX7_isTrade_5 : decode cX7_isTrade 5 = .ok (.astore_n 3, 1) := by decide +kernel
theorem dX7_isTrade_6 : decode cX7_isTrade 6 = .ok (.aload_n 0, 1) := by decide +kernel
theorem dX7_isTrade_7 : decode cX7_isTrade 7 = .ok (.iload_n 1, 1) := by decide +kernel
theorem dX7_isTrade_8 : decode cX7_isTrade 8 = .ok (.iload_n 2, 1) := by decide +kernel
theorem dX7_isTrade_9 : decode cX7_isTrade 9 = .ok (.invokevirtual 225, 3) := by decide +kernel
theorem dX7_isTrade_12 : decode cX7_isTrade 12 = .ok (.astore 4, 2) := by decide +kernel
theorem dX7_isTrade_14 : decode cX7_isTrade 14 = .ok (.aload 4, 2) := by decide +kernel
theorem dX7_isTrade_16 : decode cX7_isTrade 16 = .ok (.iload_n 1, 1) := by decide +kernel
theorem dX7_isTrade_17 : decode cX7_isTrade 17 = .ok (.invokevirtual 191, 3) := by decide +kernel
theorem dX7_isTrade_20 : decode cX7_isTrade 20 = .ok (.aload_n 3, 1) := by decide +kernel
theorem dX7_isTrade_21 : decode cX7_isTrade 21 = .ok (.iload_n 1, 1) := by decide +kernel
theorem dX7_isTrade_22 : decode cX7_isTrade 22 = .ok (.invokevirtual 191, 3) := by decide +kernel
theorem dX7_isTrade_25 : decode cX7_isTrade 25 = .ok (.if_icmp .le 21, 3) := by decide +kernel
theorem dX7_isTrade_28 : decode cX7_isTrade 28 = .ok (.aload 4, 2) := by decide +kernel
theorem dX7_isTrade_30 : decode cX7_isTrade 30 = .ok (.iload_n 2, 1) := by decide +kernel
theorem dX7_isTrade_31 : decode cX7_isTrade 31 = .ok (.invokevirtual 191, 3) := by decide +kernel
theorem dX7_isTrade_34 : decode cX7_isTrade 34 = .ok (.aload_n 3, 1) := by decide +kernel
theorem dX7_isTrade_35 : decode cX7_isTrade 35 = .ok (.iload_n 2, 1) := by decide +kernel
theorem dX7_isTrade_36 : decode cX7_isTrade 36 = .ok (.invokevirtual 191, 3) := by decide +kernel
theorem dX7_isTrade_39 : decode cX7_isTrade 39 = .ok (.if_icmp .le 7, 3) := by decide +kernel
theorem dX7_isTrade_42 : decode cX7_isTrade 42 = .ok (.iconst 1, 1) := by decide +kernel
theorem dX7_isTrade_43 : decode cX7_isTrade 43 = .ok (.goto 4, 3) := by decide +kernel
theorem dX7_isTrade_46 : decode cX7_isTrade 46 = .ok (.iconst 0, 1) := by decide +kernel
theorem dX7_isTrade_47 : decode cX7_isTrade 47 = .ok (.ireturn, 1) := by decide +kernel
theorem dX7_trades_0 : decode cX7_trades 0 = .ok (.aload_n 0, 1) := by decide +kernel
theorem dX7_trades_1 : decode cX7_trades 1 = .ok (.getfield 23, 3) := by decide +kernel
theorem dX7_trades_4 : decode cX7_trades 4 = .ok (.getfield 118, 3) := by decide +kernel
theorem dX7_trades_7 : decode cX7_trades 7 = .ok (.ifCond .ne 6, 3) := by decide +kernel
theorem dX7_trades_10 : decode cX7_trades 10 = .ok (.bipush (-2), 2) := by decide +kernel
theorem dX7_trades_12 : decode cX7_trades 12 = .ok (.ireturn, 1) := by decide +kernel
theorem dX7_trades_13 : decode cX7_trades 13 = .ok (.iconst 0, 1) := by decide +kernel
theorem dX7_trades_14 : decode cX7_trades 14 = .ok (.istore_n 1, 1) := by decide +kernel
theorem dX7_trades_15 : decode cX7_trades 15 = .ok (.iconst 0, 1) := by decide +kernel
theorem dX7_trades_16 : decode cX7_trades 16 = .ok (.istore_n 2, 1) := by decide +kernel
theorem dX7_trades_17 : decode cX7_trades 17 = .ok (.iload_n 2, 1) := by decide +kernel
theorem dX7_trades_18 : decode cX7_trades 18 = .ok (.aload_n 0, 1) := by decide +kernel
theorem dX7_trades_19 : decode cX7_trades 19 = .ok (.getfield 23, 3) := by decide +kernel
theorem dX7_trades_22 : decode cX7_trades 22 = .ok (.getfield 108, 3) := by decide +kernel
theorem dX7_trades_25 : decode cX7_trades 25 = .ok (.if_icmp .ge 42, 3) := by decide +kernel
theorem dX7_trades_28 : decode cX7_trades 28 = .ok (.iload_n 2, 1) := by decide +kernel
theorem dX7_trades_29 : decode cX7_trades 29 = .ok (.iconst 1, 1) := by decide +kernel
theorem dX7_trades_30 : decode cX7_trades 30 = .ok (.iadd, 1) := by decide +kernel
theorem dX7_trades_31 : decode cX7_trades 31 = .ok (.istore_n 3, 1) := by decide +kernel
theorem dX7_trades_32 : decode cX7_trades 32 = .ok (.iload_n 3, 1) := by decide +kernel
theorem dX7_trades_33 : decode cX7_trades 33 = .ok (.aload_n 0, 1) := by decide +kernel
theorem dX7_trades_34 : decode cX7_trades 34 = .ok (.getfield 23, 3) := by decide +kernel
theorem dX7_trades_37 : decode cX7_trades 37 = .ok (.getfield 108, 3) := by decide +kernel
theorem dX7_trades_40 : decode cX7_trades 40 = .ok (.if_icmp .ge 21, 3) := by decide +kernel
theorem dX7_trades_43 : decode cX7_trades 43 = .ok (.aload_n 0, 1) := by decide +kernel
theorem dX7_trades_44 : decode cX7_trades 44 = .ok (.iload_n 2, 1) := by decide +kernel
theorem dX7_trades_45 : decode cX7_trades 45 = .ok (.iload_n 3, 1) := by decide +kernel
theorem dX7_trades_46 : decode cX7_trades 46 = .ok (.invokevirtual 285, 3) := by decide +kernel
theorem dX7_trades_49 : decode cX7_trades 49 = .ok (.ifCond .eq 6, 3) := by decide +kernel
theorem dX7_trades_52 : decode cX7_trades 52 = .ok (.iinc 1 1, 3) := by decide +kernel
theorem dX7_trades_55 : decode cX7_trades 55 = .ok (.iinc 3 1, 3) := by decide +kernel
theorem dX7_trades_58 : decode cX7_trades 58 = .ok (.goto (-26), 3) := by decide +kernel
theorem dX7_trades_61 : decode cX7_trades 61 = .ok (.iinc 2 1, 3) := by decide +kernel
theorem dX7_trades_64 : decode cX7_trades 64 = .ok (.goto (-47), 3) := by decide +kernel
theorem dX7_trades_67 : decode cX7_trades 67 = .ok (.iload_n 1, 1) := by decide +kernel
theorem dX7_trades_68 : decode cX7_trades 68 = .ok (.ireturn, 1) := by decide +kernel
theorem dX7_trade_0 : decode cX7_trade 0 = .ok (.aload_n 0, 1) := by decide +kernel
theorem dX7_trade_1 : decode cX7_trade 1 = .ok (.getfield 23, 3) := by decide +kernel
theorem dX7_trade_4 : decode cX7_trade 4 = .ok (.getfield 118, 3) := by decide +kernel
theorem dX7_trade_7 : decode cX7_trade 7 = .ok (.ifCond .ne 6, 3) := by decide +kernel
theorem dX7_trade_10 : decode cX7_trade 10 = .ok (.bipush (-2), 2) := by decide +kernel
theorem dX7_trade_12 : decode cX7_trade 12 = .ok (.ireturn, 1) := by decide +kernel
theorem dX7_trade_13 : decode cX7_trade 13 = .ok (.iconst 0, 1) := by decide +kernel
theorem dX7_trade_14 : decode cX7_trade 14 = .ok (.istore_n 1, 1) := by decide +kernel
theorem dX7_trade_15 : decode cX7_trade 15 = .ok (.iload_n 1, 1) := by decide +kernel
theorem dX7_trade_16 : decode cX7_trade 16 = .ok (.aload_n 0, 1) := by decide +kernel
theorem dX7_trade_17 : decode cX7_trade 17 = .ok (.getfield 23, 3) := by decide +kernel
theorem dX7_trade_20 : decode cX7_trade 20 = .ok (.getfield 108, 3) := by decide +kernel
theorem dX7_trade_23 : decode cX7_trade 23 = .ok (.if_icmp .ge 46, 3) := by decide +kernel
theorem dX7_trade_26 : decode cX7_trade 26 = .ok (.iload_n 1, 1) := by decide +kernel
theorem dX7_trade_27 : decode cX7_trade 27 = .ok (.iconst 1, 1) := by decide +kernel
theorem dX7_trade_28 : decode cX7_trade 28 = .ok (.iadd, 1) := by decide +kernel
theorem dX7_trade_29 : decode cX7_trade 29 = .ok (.istore_n 2, 1) := by decide +kernel
theorem dX7_trade_30 : decode cX7_trade 30 = .ok (.iload_n 2, 1) := by decide +kernel
theorem dX7_trade_31 : decode cX7_trade 31 = .ok (.aload_n 0, 1) := by decide +kernel
theorem dX7_trade_32 : decode cX7_trade 32 = .ok (.getfield 23, 3) := by decide +kernel
theorem dX7_trade_35 : decode cX7_trade 35 = .ok (.getfield 108, 3) := by decide +kernel
theorem dX7_trade_38 : decode cX7_trade 38 = .ok (.if_icmp .ge 25, 3) := by decide +kernel
theorem dX7_trade_41 : decode cX7_trade 41 = .ok (.aload_n 0, 1) := by decide +kernel
theorem dX7_trade_42 : decode cX7_trade 42 = .ok (.iload_n 1, 1) := by decide +kernel
theorem dX7_trade_43 : decode cX7_trade 43 = .ok (.iload_n 2, 1) := by decide +kernel
theorem dX7_trade_44 : decode cX7_trade 44 = .ok (.invokevirtual 285, 3) := by decide +kernel
theorem dX7_trade_47 : decode cX7_trade 47 = .ok (.ifCond .eq 10, 3) := by decide +kernel
theorem dX7_trade_50 : decode cX7_trade 50 = .ok (.bipush 10, 2) := by decide +kernel
theorem dX7_trade_52 : decode cX7_trade 52 = .ok (.iload_n 1, 1) := by decide +kernel
theorem dX7_trade_53 : decode cX7_trade 53 = .ok (.imul, 1) := by decide +kernel
theorem dX7_trade_54 : decode cX7_trade 54 = .ok (.iload_n 2, 1) := by decide +kernel
theorem dX7_trade_55 : decode cX7_trade 55 = .ok (.iadd, 1) := by decide +kernel
theorem dX7_trade_56 : decode cX7_trade 56 = .ok (.ireturn, 1) := by decide +kernel
theorem dX7_trade_57 : decode cX7_trade 57 = .ok (.iinc 2 1, 3) := by decide +kernel
theorem dX7_trade_60 : decode cX7_trade 60 = .ok (.goto (-30), 3) := by decide +kernel
theorem dX7_trade_63 : decode cX7_trade 63 = .ok (.iinc 1 1, 3) := by decide +kernel
theorem dX7_trade_66 : decode cX7_trade 66 = .ok (.goto (-51), 3) := by decide +kernel
theorem dX7_trade_69 : decode cX7_trade 69 = .ok (.iconst (-1), 1) := by decide +kernel
theorem dX7_trade_70 : decode cX7_trade 70 = .ok (.ireturn, 1) := by decide +kernel
theorem dX7_gain_0 : decode cX7_gain 0 = .ok (.aload_n 0, 1) := by decide +kernel
theorem dX7_gain_1 : decode cX7_gain 1 = .ok (.iload_n 1, 1) := by decide +kernel
theorem dX7_gain_2 : decode cX7_gain 2 = .ok (.iload_n 2, 1) := by decide +kernel
theorem dX7_gain_3 : decode cX7_gain 3 = .ok (.invokevirtual 219, 3) := by decide +kernel
theorem dX7_gain_6 : decode cX7_gain 6 = .ok (.ifCond .ne 7, 3) := by decide +kernel
theorem dX7_gain_9 : decode cX7_gain 9 = .ok (.sipush (-1000), 3) := by decide +kernel
theorem dX7_gain_12 : decode cX7_gain 12 = .ok (.ireturn, 1) := by decide +kernel
theorem dX7_gain_13 : decode cX7_gain 13 = .ok (.aload_n 0, 1) := by decide +kernel
theorem dX7_gain_14 : decode cX7_gain 14 = .ok (.iconst 0, 1) := by decide +kernel
theorem dX7_gain_15 : decode cX7_gain 15 = .ok (.invokevirtual 152, 3) := by decide +kernel
theorem dX7_gain_18 : decode cX7_gain 18 = .ok (.astore_n 3, 1) := by decide +kernel
theorem dX7_gain_19 : decode cX7_gain 19 = .ok (.aload_n 0, 1) := by decide +kernel
theorem dX7_gain_20 : decode cX7_gain 20 = .ok (.iload_n 1, 1) := by decide +kernel
theorem dX7_gain_21 : decode cX7_gain 21 = .ok (.iload_n 2, 1) := by decide +kernel
theorem dX7_gain_22 : decode cX7_gain 22 = .ok (.invokevirtual 225, 3) := by decide +kernel
theorem dX7_gain_25 : decode cX7_gain 25 = .ok (.astore 4, 2) := by decide +kernel
theorem dX7_gain_27 : decode cX7_gain 27 = .ok (.aload 4, 2) := by decide +kernel
theorem dX7_gain_29 : decode cX7_gain 29 = .ok (.iload_n 1, 1) := by decide +kernel
theorem dX7_gain_30 : decode cX7_gain 30 = .ok (.invokevirtual 191, 3) := by decide +kernel
theorem dX7_gain_33 : decode cX7_gain 33 = .ok (.aload 4, 2) := by decide +kernel
theorem dX7_gain_35 : decode cX7_gain 35 = .ok (.iload_n 2, 1) := by decide +kernel
theorem dX7_gain_36 : decode cX7_gain 36 = .ok (.invokevirtual 191, 3) := by decide +kernel
theorem dX7_gain_39 : decode cX7_gain 39 = .ok (.iadd, 1) := by decide +kernel
theorem dX7_gain_40 : decode cX7_gain 40 = .ok (.aload_n 3, 1) := by decide +kernel
theorem dX7_gain_41 : decode cX7_gain 41 = .ok (.iload_n 1, 1) := by decide +kernel
theorem dX7_gain_42 : decode cX7_gain 42 = .ok (.invokevirtual 191, 3) := by decide +kernel
theorem dX7_gain_45 : decode cX7_gain 45 = .ok (.isub, 1) := by decide +kernel
theorem dX7_gain_46 : decode cX7_gain 46 = .ok (.aload_n 3, 1) := by decide +kernel
theorem dX7_gain_47 : decode cX7_gain 47 = .ok (.iload_n 2, 1) := by decide +kernel
theorem dX7_gain_48 : decode cX7_gain 48 = .ok (.invokevirtual 191, 3) := by decide +kernel
theorem dX7_gain_51 : decode cX7_gain 51 = .ok (.isub, 1) := by decide +kernel
theorem dX7_gain_52 : decode cX7_gain 52 = .ok (.ireturn, 1) := by decide +kernel
theorem dX7_hearSlot_0 : decode cX7_hearSlot 0 = .ok (.iload_n 1, 1) := by decide +kernel
theorem dX7_hearSlot_1 : decode cX7_hearSlot 1 = .ok (.invokestatic 288, 3) := by decide +kernel
theorem dX7_hearSlot_4 : decode cX7_hearSlot 4 = .ok (.ifCond .eq 13, 3) := by decide +kernel
theorem dX7_hearSlot_7 : decode cX7_hearSlot 7 = .ok (.aload_n 0, 1) := by decide +kernel
theorem dX7_hearSlot_8 : decode cX7_hearSlot 8 = .ok (.getfield 23, 3) := by decide +kernel
theorem dX7_hearSlot_11 : decode cX7_hearSlot 11 = .ok (.getfield 118, 3) := by decide +kernel
theorem dX7_hearSlot_14 : decode cX7_hearSlot 14 = .ok (.ifCond .ne 6, 3) := by decide +kernel
theorem dX7_hearSlot_17 : decode cX7_hearSlot 17 = .ok (.bipush (-2), 2) := by decide +kernel
theorem dX7_hearSlot_19 : decode cX7_hearSlot 19 = .ok (.ireturn, 1) := by decide +kernel
theorem dX7_hearSlot_20 : decode cX7_hearSlot 20 = .ok (.aload_n 0, 1) := by decide +kernel
theorem dX7_hearSlot_21 : decode cX7_hearSlot 21 = .ok (.getfield 36, 3) := by decide +kernel
theorem dX7_hearSlot_24 : decode cX7_hearSlot 24 = .ok (.iload_n 1, 1) := by decide +kernel
theorem dX7_hearSlot_25 : decode cX7_hearSlot 25 = .ok (.aaload, 1) := by decide +kernel
theorem dX7_hearSlot_26 : decode cX7_hearSlot 26 = .ok (.astore_n 2, 1) := by decide +kernel
theorem dX7_hearSlot_27 : decode cX7_hearSlot 27 = .ok (.aload_n 2, 1) := by decide +kernel
theorem dX7_hearSlot_28 : decode cX7_hearSlot 28 = .ok (.getfield 291, 3) := by decide +kernel
theorem dX7_hearSlot_31 : decode cX7_hearSlot 31 = .ok (.ifCond .ne 6, 3) := by decide +kernel
theorem dX7_hearSlot_34 : decode cX7_hearSlot 34 = .ok (.bipush (-6), 2) := by decide +kernel
theorem dX7_hearSlot_36 : decode cX7_hearSlot 36 = .ok (.ireturn, 1) := by decide +kernel
theorem dX7_hearSlot_37 : decode cX7_hearSlot 37 = .ok (.aload_n 2, 1) := by decide +kernel
theorem dX7_hearSlot_38 : decode cX7_hearSlot 38 = .ok (.getfield 292, 3) := by decide +kernel
theorem dX7_hearSlot_41 : decode cX7_hearSlot 41 = .ok (.iconst 2, 1) := by decide +kernel
theorem dX7_hearSlot_42 : decode cX7_hearSlot 42 = .ok (.irem, 1) := by decide +kernel
theorem dX7_hearSlot_43 : decode cX7_hearSlot 43 = .ok (.ifCond .eq 6, 3) := by decide +kernel
theorem dX7_hearSlot_46 : decode cX7_hearSlot 46 = .ok (.bipush (-2), 2) := by decide +kernel
theorem dX7_hearSlot_48 : decode cX7_hearSlot 48 = .ok (.ireturn, 1) := by decide +kernel
theorem dX7_hearSlot_49 : decode cX7_hearSlot 49 = .ok (.iconst 0, 1) := by decide +kernel
theorem dX7_hearSlot_50 : decode cX7_hearSlot 50 = .ok (.istore_n 3, 1) := by decide +kernel
theorem dX7_hearSlot_51 : decode cX7_hearSlot 51 = .ok (.iload_n 3, 1) := by decide +kernel
theorem dX7_hearSlot_52 : decode cX7_hearSlot 52 = .ok (.iconst 1, 1) := by decide +kernel
theorem dX7_hearSlot_53 : decode cX7_hearSlot 53 = .ok (.iadd, 1) := by decide +kernel
theorem dX7_hearSlot_54 : decode cX7_hearSlot 54 = .ok (.aload_n 2, 1) := by decide +kernel
theorem dX7_hearSlot_55 : decode cX7_hearSlot 55 = .ok (.getfield 292, 3) := by decide +kernel
theorem dX7_hearSlot_58 : decode cX7_hearSlot 58 = .ok (.if_icmp .ge 74, 3) := by decide +kernel
theorem dX7_hearSlot_61 : decode cX7_hearSlot 61 = .ok (.aload_n 2, 1) := by decide +kernel
theorem dX7_hearSlot_62 : decode cX7_hearSlot 62 = .ok (.getfield 293, 3) := by decide +kernel
theorem dX7_hearSlot_65 : decode cX7_hearSlot 65 = .ok (.iload_n 3, 1) := by decide +kernel
theorem dX7_hearSlot_66 : decode cX7_hearSlot 66 = .ok (.laload, 1) := by decide +kernel
theorem dX7_hearSlot_67 : decode cX7_hearSlot 67 = .ok (.lstore 4, 2) := by decide +kernel
theorem dX7_hearSlot_69 : decode cX7_hearSlot 69 = .ok (.aload_n 2, 1) := by decide +kernel
theorem dX7_hearSlot_70 : decode cX7_hearSlot 70 = .ok (.getfield 293, 3) := by decide +kernel
theorem dX7_hearSlot_73 : decode cX7_hearSlot 73 = .ok (.iload_n 3, 1) := by decide +kernel
theorem dX7_hearSlot_74 : decode cX7_hearSlot 74 = .ok (.iconst 1, 1) := by decide +kernel
theorem dX7_hearSlot_75 : decode cX7_hearSlot 75 = .ok (.iadd, 1) := by decide +kernel
theorem dX7_hearSlot_76 : decode cX7_hearSlot 76 = .ok (.laload, 1) := by decide +kernel
theorem dX7_hearSlot_77 : decode cX7_hearSlot 77 = .ok (.lstore 6, 2) := by decide +kernel
theorem dX7_hearSlot_79 : decode cX7_hearSlot 79 = .ok (.lload 4, 2) := by decide +kernel
theorem dX7_hearSlot_81 : decode cX7_hearSlot 81 = .ok (.lconst 0, 1) := by decide +kernel
theorem dX7_hearSlot_82 : decode cX7_hearSlot 82 = .ok (.lcmp, 1) := by decide +kernel
theorem dX7_hearSlot_83 : decode cX7_hearSlot 83 = .ok (.ifCond .lt 40, 3) := by decide +kernel
theorem dX7_hearSlot_86 : decode cX7_hearSlot 86 = .ok (.lload 4, 2) := by decide +kernel
theorem dX7_hearSlot_88 : decode cX7_hearSlot 88 = .ok (.aload_n 0, 1) := by decide +kernel
theorem dX7_hearSlot_89 : decode cX7_hearSlot 89 = .ok (.getfield 23, 3) := by decide +kernel
theorem dX7_hearSlot_92 : decode cX7_hearSlot 92 = .ok (.getfield 108, 3) := by decide +kernel
theorem dX7_hearSlot_95 : decode cX7_hearSlot 95 = .ok (.i2l, 1) := by decide +kernel
theorem dX7_hearSlot_96 : decode cX7_hearSlot 96 = .ok (.lcmp, 1) := by decide +kernel
theorem dX7_hearSlot_97 : decode cX7_hearSlot 97 = .ok (.ifCond .ge 26, 3) := by decide +kernel
theorem dX7_hearSlot_100 : decode cX7_hearSlot 100 = .ok (.lload 6, 2) := by decide +kernel
theorem dX7_hearSlot_102 : decode cX7_hearSlot 102 = .ok (.ldc2_w 297, 3) := by decide +kernel
theorem dX7_hearSlot_105 : decode cX7_hearSlot 105 = .ok (.lcmp, 1) := by decide +kernel
theorem dX7_hearSlot_106 : decode cX7_hearSlot 106 = .ok (.ifCond .lt 17, 3) := by decide +kernel
theorem dX7_hearSlot_109 : decode cX7_hearSlot 109 = .ok (.lload 6, 2) := by decide +kernel
theorem dX7_hearSlot_111 : decode cX7_hearSlot 111 = .ok (.aload_n 0, 1) := by decide +kernel
theorem dX7_hearSlot_112 : decode cX7_hearSlot 112 = .ok (.getfield 23, 3) := by decide +kernel
theorem dX7_hearSlot_115 : decode cX7_hearSlot 115 = .ok (.getfield 115, 3) := by decide +kernel
theorem dX7_hearSlot_118 : decode cX7_hearSlot 118 = .ok (.i2l, 1) := by decide +kernel
theorem dX7_hearSlot_119 : decode cX7_hearSlot 119 = .ok (.lcmp, 1) := by decide +kernel
theorem dX7_hearSlot_120 : decode cX7_hearSlot 120 = .ok (.ifCond .lt 6, 3) := by decide +kernel
theorem dX7_hearSlot_123 : decode cX7_hearSlot 123 = .ok (.bipush (-2), 2) := by decide +kernel
theorem dX7_hearSlot_125 : decode cX7_hearSlot 125 = .ok (.ireturn, 1) := by decide +kernel
theorem dX7_hearSlot_126 : decode cX7_hearSlot 126 = .ok (.iinc 3 2, 3) := by decide +kernel
theorem dX7_hearSlot_129 : decode cX7_hearSlot 129 = .ok (.goto (-78), 3) := by decide +kernel
theorem dX7_hearSlot_132 : decode cX7_hearSlot 132 = .ok (.aload_n 0, 1) := by decide +kernel
theorem dX7_hearSlot_133 : decode cX7_hearSlot 133 = .ok (.getfield 61, 3) := by decide +kernel
theorem dX7_hearSlot_136 : decode cX7_hearSlot 136 = .ok (.aload_n 0, 1) := by decide +kernel
theorem dX7_hearSlot_137 : decode cX7_hearSlot 137 = .ok (.getfield 23, 3) := by decide +kernel
theorem dX7_hearSlot_140 : decode cX7_hearSlot 140 = .ok (.invokevirtual 299, 3) := by decide +kernel
theorem dX7_hearSlot_143 : decode cX7_hearSlot 143 = .ok (.aload_n 0, 1) := by decide +kernel
theorem dX7_hearSlot_144 : decode cX7_hearSlot 144 = .ok (.getfield 61, 3) := by decide +kernel
theorem dX7_hearSlot_147 : decode cX7_hearSlot 147 = .ok (.aload_n 2, 1) := by decide +kernel
theorem dX7_hearSlot_148 : decode cX7_hearSlot 148 = .ok (.invokevirtual 302, 3) := by decide +kernel
theorem dX7_hearSlot_151 : decode cX7_hearSlot 151 = .ok (.iconst 0, 1) := by decide +kernel
theorem dX7_hearSlot_152 : decode cX7_hearSlot 152 = .ok (.ireturn, 1) := by decide +kernel
theorem dX7_spoons_0 : decode cX7_spoons 0 = .ok (.aload_n 0, 1) := by decide +kernel
theorem dX7_spoons_1 : decode cX7_spoons 1 = .ok (.iload_n 1, 1) := by decide +kernel
theorem dX7_spoons_2 : decode cX7_spoons 2 = .ok (.invokevirtual 306, 3) := by decide +kernel
theorem dX7_spoons_5 : decode cX7_spoons 5 = .ok (.istore_n 2, 1) := by decide +kernel
theorem dX7_spoons_6 : decode cX7_spoons 6 = .ok (.iload_n 2, 1) := by decide +kernel
theorem dX7_spoons_7 : decode cX7_spoons 7 = .ok (.ifCond .eq 7, 3) := by decide +kernel
theorem dX7_spoons_10 : decode cX7_spoons 10 = .ok (.iload_n 2, 1) := by decide +kernel
theorem dX7_spoons_11 : decode cX7_spoons 11 = .ok (.goto 10, 3) := by decide +kernel
theorem dX7_spoons_14 : decode cX7_spoons 14 = .ok (.aload_n 0, 1) := by decide +kernel
theorem dX7_spoons_15 : decode cX7_spoons 15 = .ok (.getfield 61, 3) := by decide +kernel
theorem dX7_spoons_18 : decode cX7_spoons 18 = .ok (.getfield 309, 3) := by decide +kernel
theorem dX7_spoons_21 : decode cX7_spoons 21 = .ok (.ireturn, 1) := by decide +kernel
theorem dX7_surely_0 : decode cX7_surely 0 = .ok (.aload_n 0, 1) := by decide +kernel
theorem dX7_surely_1 : decode cX7_surely 1 = .ok (.iload_n 1, 1) := by decide +kernel
theorem dX7_surely_2 : decode cX7_surely 2 = .ok (.invokevirtual 306, 3) := by decide +kernel
theorem dX7_surely_5 : decode cX7_surely 5 = .ok (.istore_n 2, 1) := by decide +kernel
theorem dX7_surely_6 : decode cX7_surely 6 = .ok (.iload_n 2, 1) := by decide +kernel
theorem dX7_surely_7 : decode cX7_surely 7 = .ok (.ifCond .eq 5, 3) := by decide +kernel
theorem dX7_surely_10 : decode cX7_surely 10 = .ok (.iload_n 2, 1) := by decide +kernel
theorem dX7_surely_11 : decode cX7_surely 11 = .ok (.ireturn, 1) := by decide +kernel
theorem dX7_surely_12 : decode cX7_surely 12 = .ok (.aload_n 0, 1) := by decide +kernel
theorem dX7_surely_13 : decode cX7_surely 13 = .ok (.getfield 61, 3) := by decide +kernel
theorem dX7_surely_16 : decode cX7_surely 16 = .ok (.getfield 309, 3) := by decide +kernel
theorem dX7_surely_19 : decode cX7_surely 19 = .ok (.ifCond .ne 7, 3) := by decide +kernel
theorem dX7_surely_22 : decode cX7_surely 22 = .ok (.iconst (-1), 1) := by decide +kernel
theorem dX7_surely_23 : decode cX7_surely 23 = .ok (.goto 10, 3) := by decide +kernel
theorem dX7_surely_26 : decode cX7_surely 26 = .ok (.aload_n 0, 1) := by decide +kernel
theorem dX7_surely_27 : decode cX7_surely 27 = .ok (.getfield 61, 3) := by decide +kernel
theorem dX7_surely_30 : decode cX7_surely 30 = .ok (.invokevirtual 312, 3) := by decide +kernel
theorem dX7_surely_33 : decode cX7_surely 33 = .ok (.ireturn, 1) := by decide +kernel
theorem dX7_never_0 : decode cX7_never 0 = .ok (.aload_n 0, 1) := by decide +kernel
theorem dX7_never_1 : decode cX7_never 1 = .ok (.iload_n 1, 1) := by decide +kernel
theorem dX7_never_2 : decode cX7_never 2 = .ok (.invokevirtual 306, 3) := by decide +kernel
theorem dX7_never_5 : decode cX7_never 5 = .ok (.istore_n 2, 1) := by decide +kernel
theorem dX7_never_6 : decode cX7_never 6 = .ok (.iload_n 2, 1) := by decide +kernel
theorem dX7_never_7 : decode cX7_never 7 = .ok (.ifCond .eq 5, 3) := by decide +kernel
theorem dX7_never_10 : decode cX7_never 10 = .ok (.iload_n 2, 1) := by decide +kernel
theorem dX7_never_11 : decode cX7_never 11 = .ok (.ireturn, 1) := by decide +kernel
theorem dX7_never_12 : decode cX7_never 12 = .ok (.aload_n 0, 1) := by decide +kernel
theorem dX7_never_13 : decode cX7_never 13 = .ok (.getfield 61, 3) := by decide +kernel
theorem dX7_never_16 : decode cX7_never 16 = .ok (.getfield 309, 3) := by decide +kernel
theorem dX7_never_19 : decode cX7_never 19 = .ok (.ifCond .ne 7, 3) := by decide +kernel
theorem dX7_never_22 : decode cX7_never 22 = .ok (.iconst (-1), 1) := by decide +kernel
theorem dX7_never_23 : decode cX7_never 23 = .ok (.goto 10, 3) := by decide +kernel
theorem dX7_never_26 : decode cX7_never 26 = .ok (.aload_n 0, 1) := by decide +kernel
theorem dX7_never_27 : decode cX7_never 27 = .ok (.getfield 61, 3) := by decide +kernel
theorem dX7_never_30 : decode cX7_never 30 = .ok (.invokevirtual 315, 3) := by decide +kernel
theorem dX7_never_33 : decode cX7_never 33 = .ok (.ireturn, 1) := by decide +kernel
theorem dX7_ask_0 : decode cX7_ask 0 = .ok (.aload_n 0, 1) := by decide +kernel
theorem dX7_ask_1 : decode cX7_ask 1 = .ok (.iload_n 1, 1) := by decide +kernel
theorem dX7_ask_2 : decode cX7_ask 2 = .ok (.invokevirtual 306, 3) := by decide +kernel
theorem dX7_ask_5 : decode cX7_ask 5 = .ok (.istore_n 2, 1) := by decide +kernel
theorem dX7_ask_6 : decode cX7_ask 6 = .ok (.iload_n 2, 1) := by decide +kernel
theorem dX7_ask_7 : decode cX7_ask 7 = .ok (.ifCond .eq 7, 3) := by decide +kernel
theorem dX7_ask_10 : decode cX7_ask 10 = .ok (.iload_n 2, 1) := by decide +kernel
theorem dX7_ask_11 : decode cX7_ask 11 = .ok (.goto 10, 3) := by decide +kernel
theorem dX7_ask_14 : decode cX7_ask 14 = .ok (.aload_n 0, 1) := by decide +kernel
theorem dX7_ask_15 : decode cX7_ask 15 = .ok (.getfield 61, 3) := by decide +kernel
theorem dX7_ask_18 : decode cX7_ask 18 = .ok (.invokevirtual 318, 3) := by decide +kernel
theorem dX7_ask_21 : decode cX7_ask 21 = .ok (.ireturn, 1) := by decide +kernel
theorem dX7_leaves_0 : decode cX7_leaves 0 = .ok (.aload_n 0, 1) := by decide +kernel
theorem dX7_leaves_1 : decode cX7_leaves 1 = .ok (.iload_n 1, 1) := by decide +kernel
theorem dX7_leaves_2 : decode cX7_leaves 2 = .ok (.invokevirtual 306, 3) := by decide +kernel
theorem dX7_leaves_5 : decode cX7_leaves 5 = .ok (.istore_n 2, 1) := by decide +kernel
theorem dX7_leaves_6 : decode cX7_leaves 6 = .ok (.iload_n 2, 1) := by decide +kernel
theorem dX7_leaves_7 : decode cX7_leaves 7 = .ok (.ifCond .eq 5, 3) := by decide +kernel
theorem dX7_leaves_10 : decode cX7_leaves 10 = .ok (.iload_n 2, 1) := by decide +kernel
theorem dX7_leaves_11 : decode cX7_leaves 11 = .ok (.ireturn, 1) := by decide +kernel
theorem dX7_leaves_12 : decode cX7_leaves 12 = .ok (.aload_n 0, 1) := by decide +kernel
theorem dX7_leaves_13 : decode cX7_leaves 13 = .ok (.getfield 61, 3) := by decide +kernel
theorem dX7_leaves_16 : decode cX7_leaves 16 = .ok (.invokevirtual 318, 3) := by decide +kernel
theorem dX7_leaves_19 : decode cX7_leaves 19 = .ok (.istore_n 3, 1) := by decide +kernel
theorem dX7_leaves_20 : decode cX7_leaves 20 = .ok (.iload_n 3, 1) := by decide +kernel
theorem dX7_leaves_21 : decode cX7_leaves 21 = .ok (.iconst (-1), 1) := by decide +kernel
theorem dX7_leaves_22 : decode cX7_leaves 22 = .ok (.if_icmp .ne 13, 3) := by decide +kernel
theorem dX7_leaves_25 : decode cX7_leaves 25 = .ok (.aload_n 0, 1) := by decide +kernel
theorem dX7_leaves_26 : decode cX7_leaves 26 = .ok (.getfield 61, 3) := by decide +kernel
theorem dX7_leaves_29 : decode cX7_leaves 29 = .ok (.getfield 309, 3) := by decide +kernel
theorem dX7_leaves_32 : decode cX7_leaves 32 = .ok (.goto 11, 3) := by decide +kernel
theorem dX7_leaves_35 : decode cX7_leaves 35 = .ok (.aload_n 0, 1) := by decide +kernel
theorem dX7_leaves_36 : decode cX7_leaves 36 = .ok (.getfield 61, 3) := by decide +kernel
theorem dX7_leaves_39 : decode cX7_leaves 39 = .ok (.iload_n 3, 1) := by decide +kernel
theorem dX7_leaves_40 : decode cX7_leaves 40 = .ok (.invokevirtual 321, 3) := by decide +kernel
theorem dX7_leaves_43 : decode cX7_leaves 43 = .ok (.ireturn, 1) := by decide +kernel
theorem dX7_judges_0 : decode cX7_judges 0 = .ok (.aload_n 0, 1) := by decide +kernel
theorem dX7_judges_1 : decode cX7_judges 1 = .ok (.getfield 23, 3) := by decide +kernel
theorem dX7_judges_4 : decode cX7_judges 4 = .ok (.getfield 118, 3) := by decide +kernel
theorem dX7_judges_7 : decode cX7_judges 7 = .ok (.ifCond .ne 6, 3) := by decide +kernel
theorem dX7_judges_10 : decode cX7_judges 10 = .ok (.bipush (-2), 2) := by decide +kernel
theorem dX7_judges_12 : decode cX7_judges 12 = .ok (.ireturn, 1) := by decide +kernel
theorem dX7_judges_13 : decode cX7_judges 13 = .ok (.aload_n 0, 1) := by decide +kernel
theorem dX7_judges_14 : decode cX7_judges 14 = .ok (.getfield 61, 3) := by decide +kernel
theorem dX7_judges_17 : decode cX7_judges 17 = .ok (.aload_n 0, 1) := by decide +kernel
theorem dX7_judges_18 : decode cX7_judges 18 = .ok (.getfield 23, 3) := by decide +kernel
theorem dX7_judges_21 : decode cX7_judges 21 = .ok (.invokevirtual 299, 3) := by decide +kernel
theorem dX7_judges_24 : decode cX7_judges 24 = .ok (.aload_n 0, 1) := by decide +kernel
theorem dX7_judges_25 : decode cX7_judges 25 = .ok (.getfield 61, 3) := by decide +kernel
theorem dX7_judges_28 : decode cX7_judges 28 = .ok (.invokevirtual 324, 3) := by decide +kernel
theorem dX7_judges_31 : decode cX7_judges 31 = .ok (.ireturn, 1) := by decide +kernel
theorem dX7_chance_0 : decode cX7_chance 0 = .ok (.aload_n 0, 1) := by decide +kernel
theorem dX7_chance_1 : decode cX7_chance 1 = .ok (.iload_n 1, 1) := by decide +kernel
theorem dX7_chance_2 : decode cX7_chance 2 = .ok (.invokevirtual 111, 3) := by decide +kernel
theorem dX7_chance_5 : decode cX7_chance 5 = .ok (.ifCond .eq 10, 3) := by decide +kernel
theorem dX7_chance_8 : decode cX7_chance 8 = .ok (.iload_n 2, 1) := by decide +kernel
theorem dX7_chance_9 : decode cX7_chance 9 = .ok (.invokestatic 278, 3) := by decide +kernel
theorem dX7_chance_12 : decode cX7_chance 12 = .ok (.ifCond .ne 6, 3) := by decide +kernel
theorem dX7_chance_15 : decode cX7_chance 15 = .ok (.bipush (-2), 2) := by decide +kernel
theorem dX7_chance_17 : decode cX7_chance 17 = .ok (.ireturn, 1) := by decide +kernel
theorem dX7_chance_18 : decode cX7_chance 18 = .ok (.aload_n 0, 1) := by decide +kernel
theorem dX7_chance_19 : decode cX7_chance 19 = .ok (.getfield 68, 3) := by decide +kernel
theorem dX7_chance_22 : decode cX7_chance 22 = .ok (.aload_n 0, 1) := by decide +kernel
theorem dX7_chance_23 : decode cX7_chance 23 = .ok (.getfield 68, 3) := by decide +kernel
theorem dX7_chance_26 : decode cX7_chance 26 = .ok (.aload_n 0, 1) := by decide +kernel
theorem dX7_chance_27 : decode cX7_chance 27 = .ok (.iconst 0, 1) := by decide +kernel
theorem dX7_chance_28 : decode cX7_chance 28 = .ok (.invokevirtual 152, 3) := by decide +kernel
theorem dX7_chance_31 : decode cX7_chance 31 = .ok (.iload_n 1, 1) := by decide +kernel
theorem dX7_chance_32 : decode cX7_chance 32 = .ok (.aload_n 0, 1) := by decide +kernel
theorem dX7_chance_33 : decode cX7_chance 33 = .ok (.getfield 23, 3) := by decide +kernel
theorem dX7_chance_36 : decode cX7_chance 36 = .ok (.getfield 327, 3) := by decide +kernel
theorem dX7_chance_39 : decode cX7_chance 39 = .ok (.invokevirtual 330, 3) := by decide +kernel
theorem dX7_chance_42 : decode cX7_chance 42 = .ok (.iload_n 2, 1) := by decide +kernel
theorem dX7_chance_43 : decode cX7_chance 43 = .ok (.invokevirtual 334, 3) := by decide +kernel
theorem dX7_chance_46 : decode cX7_chance 46 = .ok (.ireturn, 1) := by decide +kernel
theorem dX7_mean_0 : decode cX7_mean 0 = .ok (.aload_n 0, 1) := by decide +kernel
theorem dX7_mean_1 : decode cX7_mean 1 = .ok (.getfield 23, 3) := by decide +kernel
theorem dX7_mean_4 : decode cX7_mean 4 = .ok (.getfield 118, 3) := by decide +kernel
theorem dX7_mean_7 : decode cX7_mean 7 = .ok (.ifCond .eq 10, 3) := by decide +kernel
theorem dX7_mean_10 : decode cX7_mean 10 = .ok (.iload_n 1, 1) := by decide +kernel
theorem dX7_mean_11 : decode cX7_mean 11 = .ok (.invokestatic 278, 3) := by decide +kernel
theorem dX7_mean_14 : decode cX7_mean 14 = .ok (.ifCond .ne 6, 3) := by decide +kernel
theorem dX7_mean_17 : decode cX7_mean 17 = .ok (.bipush (-2), 2) := by decide +kernel
theorem dX7_mean_19 : decode cX7_mean 19 = .ok (.ireturn, 1) := by decide +kernel
theorem dX7_mean_20 : decode cX7_mean 20 = .ok (.iconst 0, 1) := by decide +kernel
theorem dX7_mean_21 : decode cX7_mean 21 = .ok (.istore_n 2, 1) := by decide +kernel
theorem dX7_mean_22 : decode cX7_mean 22 = .ok (.iconst 0, 1) := by decide +kernel
theorem dX7_mean_23 : decode cX7_mean 23 = .ok (.istore_n 3, 1) := by decide +kernel
theorem dX7_mean_24 : decode cX7_mean 24 = .ok (.iload_n 3, 1) := by decide +kernel
theorem dX7_mean_25 : decode cX7_mean 25 = .ok (.aload_n 0, 1) := by decide +kernel
theorem dX7_mean_26 : decode cX7_mean 26 = .ok (.getfield 23, 3) := by decide +kernel
theorem dX7_mean_29 : decode cX7_mean 29 = .ok (.getfield 108, 3) := by decide +kernel
theorem dX7_mean_32 : decode cX7_mean 32 = .ok (.if_icmp .ge 32, 3) := by decide +kernel
theorem dX7_mean_35 : decode cX7_mean 35 = .ok (.iload_n 2, 1) := by decide +kernel
theorem dX7_mean_36 : decode cX7_mean 36 = .ok (.aload_n 0, 1) := by decide +kernel
theorem dX7_mean_37 : decode cX7_mean 37 = .ok (.getfield 68, 3) := by decide +kernel
theorem dX7_mean_40 : decode cX7_mean 40 = .ok (.aload_n 0, 1) := by decide +kernel
theorem dX7_mean_41 : decode cX7_mean 41 = .ok (.iconst 0, 1) := by decide +kernel
theorem dX7_mean_42 : decode cX7_mean 42 = .ok (.invokevirtual 152, 3) := by decide +kernel
theorem dX7_mean_45 : decode cX7_mean 45 = .ok (.iload_n 3, 1) := by decide +kernel
theorem dX7_mean_46 : decode cX7_mean 46 = .ok (.aload_n 0, 1) := by decide +kernel
theorem dX7_mean_47 : decode cX7_mean 47 = .ok (.getfield 23, 3) := by decide +kernel
theorem dX7_mean_50 : decode cX7_mean 50 = .ok (.getfield 327, 3) := by decide +kernel
theorem dX7_mean_53 : decode cX7_mean 53 = .ok (.invokevirtual 330, 3) := by decide +kernel
theorem dX7_mean_56 : decode cX7_mean 56 = .ok (.iadd, 1) := by decide +kernel
theorem dX7_mean_57 : decode cX7_mean 57 = .ok (.istore_n 2, 1) := by decide +kernel
theorem dX7_mean_58 : decode cX7_mean 58 = .ok (.iinc 3 1, 3) := by decide +kernel
theorem dX7_mean_61 : decode cX7_mean 61 = .ok (.goto (-37), 3) := by decide +kernel
theorem dX7_mean_64 : decode cX7_mean 64 = .ok (.aload_n 0, 1) := by decide +kernel
theorem dX7_mean_65 : decode cX7_mean 65 = .ok (.getfield 68, 3) := by decide +kernel
theorem dX7_mean_68 : decode cX7_mean 68 = .ok (.iload_n 2, 1) := by decide +kernel
theorem dX7_mean_69 : decode cX7_mean 69 = .ok (.iload_n 1, 1) := by decide +kernel
theorem dX7_mean_70 : decode cX7_mean 70 = .ok (.invokevirtual 334, 3) := by decide +kernel
theorem dX7_mean_73 : decode cX7_mean 73 = .ok (.ireturn, 1) := by decide +kernel
theorem dX7_likely_0 : decode cX7_likely 0 = .ok (.aload_n 0, 1) := by decide +kernel
theorem dX7_likely_1 : decode cX7_likely 1 = .ok (.iload_n 1, 1) := by decide +kernel
theorem dX7_likely_2 : decode cX7_likely 2 = .ok (.invokevirtual 111, 3) := by decide +kernel
theorem dX7_likely_5 : decode cX7_likely 5 = .ok (.ifCond .ne 6, 3) := by decide +kernel
theorem dX7_likely_8 : decode cX7_likely 8 = .ok (.bipush (-2), 2) := by decide +kernel
theorem dX7_likely_10 : decode cX7_likely 10 = .ok (.ireturn, 1) := by decide +kernel
theorem dX7_likely_11 : decode cX7_likely 11 = .ok (.aload_n 0, 1) := by decide +kernel
theorem dX7_likely_12 : decode cX7_likely 12 = .ok (.iconst 0, 1) := by decide +kernel
theorem dX7_likely_13 : decode cX7_likely 13 = .ok (.invokevirtual 152, 3) := by decide +kernel
theorem dX7_likely_16 : decode cX7_likely 16 = .ok (.astore_n 2, 1) := by decide +kernel
theorem dX7_likely_17 : decode cX7_likely 17 = .ok (.aload_n 2, 1) := by decide +kernel
theorem dX7_likely_18 : decode cX7_likely 18 = .ok (.getfield 179, 3) := by decide +kernel
theorem dX7_likely_21 : decode cX7_likely 21 = .ok (.iload_n 1, 1) := by decide +kernel
theorem dX7_likely_22 : decode cX7_likely 22 = .ok (.iaload, 1) := by decide +kernel
theorem dX7_likely_23 : decode cX7_likely 23 = .ok (.iconst (-1), 1) := by decide +kernel
theorem dX7_likely_24 : decode cX7_likely 24 = .ok (.if_icmp .eq 17, 3) := by decide +kernel
theorem dX7_likely_27 : decode cX7_likely 27 = .ok (.aload_n 0, 1) := by decide +kernel
theorem dX7_likely_28 : decode cX7_likely 28 = .ok (.getfield 23, 3) := by decide +kernel
theorem dX7_likely_31 : decode cX7_likely 31 = .ok (.getfield 327, 3) := by decide +kernel
theorem dX7_likely_34 : decode cX7_likely 34 = .ok (.bipush 10, 2) := by decide +kernel
theorem dX7_likely_36 : decode cX7_likely 36 = .ok (.if_icmp .ne 5, 3) := by decide +kernel
theorem dX7_likely_39 : decode cX7_likely 39 = .ok (.iconst (-1), 1) := by decide +kernel
theorem dX7_likely_40 : decode cX7_likely 40 = .ok (.ireturn, 1) := by decide +kernel
theorem dX7_likely_41 : decode cX7_likely 41 = .ok (.aload_n 2, 1) := by decide +kernel
theorem dX7_likely_42 : decode cX7_likely 42 = .ok (.getfield 185, 3) := by decide +kernel
theorem dX7_likely_45 : decode cX7_likely 45 = .ok (.iload_n 1, 1) := by decide +kernel
theorem dX7_likely_46 : decode cX7_likely 46 = .ok (.iaload, 1) := by decide +kernel
theorem dX7_likely_47 : decode cX7_likely 47 = .ok (.ireturn, 1) := by decide +kernel
theorem dX7_swap_0 : decode cX7_swap 0 = .ok (.aload_n 0, 1) := by decide +kernel
theorem dX7_swap_1 : decode cX7_swap 1 = .ok (.iload_n 1, 1) := by decide +kernel
theorem dX7_swap_2 : decode cX7_swap 2 = .ok (.iload_n 3, 1) := by decide +kernel
theorem dX7_swap_3 : decode cX7_swap 3 = .ok (.invokevirtual 148, 3) := by decide +kernel
theorem dX7_swap_6 : decode cX7_swap 6 = .ok (.ifCond .eq 11, 3) := by decide +kernel
theorem dX7_swap_9 : decode cX7_swap 9 = .ok (.aload_n 0, 1) := by decide +kernel
theorem dX7_swap_10 : decode cX7_swap 10 = .ok (.iload_n 2, 1) := by decide +kernel
theorem dX7_swap_11 : decode cX7_swap 11 = .ok (.invokevirtual 111, 3) := by decide +kernel
theorem dX7_swap_14 : decode cX7_swap 14 = .ok (.ifCond .ne 6, 3) := by decide +kernel
theorem dX7_swap_17 : decode cX7_swap 17 = .ok (.bipush (-2), 2) := by decide +kernel
theorem dX7_swap_19 : decode cX7_swap 19 = .ok (.ireturn, 1) := by decide +kernel
theorem dX7_swap_20 : decode cX7_swap 20 = .ok (.aload_n 0, 1) := by decide +kernel
theorem dX7_swap_21 : decode cX7_swap 21 = .ok (.getfield 23, 3) := by decide +kernel
theorem dX7_swap_24 : decode cX7_swap 24 = .ok (.iconst 0, 1) := by decide +kernel
theorem dX7_swap_25 : decode cX7_swap 25 = .ok (.iload_n 1, 1) := by decide +kernel
theorem dX7_swap_26 : decode cX7_swap 26 = .ok (.iload_n 2, 1) := by decide +kernel
theorem dX7_swap_27 : decode cX7_swap 27 = .ok (.iload_n 3, 1) := by decide +kernel
theorem dX7_swap_28 : decode cX7_swap 28 = .ok (.invokevirtual 337, 3) := by decide +kernel
theorem dX7_swap_31 : decode cX7_swap 31 = .ok (.ifCond .ne 6, 3) := by decide +kernel
theorem dX7_swap_34 : decode cX7_swap 34 = .ok (.bipush (-5), 2) := by decide +kernel
theorem dX7_swap_36 : decode cX7_swap 36 = .ok (.ireturn, 1) := by decide +kernel
theorem dX7_swap_37 : decode cX7_swap 37 = .ok (.aload_n 0, 1) := by decide +kernel
theorem dX7_swap_38 : decode cX7_swap 38 = .ok (.invokevirtual 96, 3) := by decide +kernel
theorem dX7_swap_41 : decode cX7_swap 41 = .ok (.iload_n 1, 1) := by decide +kernel
theorem dX7_swap_42 : decode cX7_swap 42 = .ok (.iload_n 2, 1) := by decide +kernel
theorem dX7_swap_43 : decode cX7_swap 43 = .ok (.if_icmp .ne 7, 3) := by decide +kernel
theorem dX7_swap_46 : decode cX7_swap 46 = .ok (.iconst 0, 1) := by decide +kernel
theorem dX7_swap_47 : decode cX7_swap 47 = .ok (.goto 4, 3) := by decide +kernel
theorem dX7_swap_50 : decode cX7_swap 50 = .ok (.iconst 1, 1) := by decide +kernel
theorem dX7_swap_51 : decode cX7_swap 51 = .ok (.ireturn, 1) := by decide +kernel
theorem dX7_hide_0 : decode cX7_hide 0 = .ok (.aload_n 0, 1) := by decide +kernel
theorem dX7_hide_1 : decode cX7_hide 1 = .ok (.iload_n 1, 1) := by decide +kernel
theorem dX7_hide_2 : decode cX7_hide 2 = .ok (.iload_n 3, 1) := by decide +kernel
theorem dX7_hide_3 : decode cX7_hide 3 = .ok (.invokevirtual 148, 3) := by decide +kernel
theorem dX7_hide_6 : decode cX7_hide 6 = .ok (.ifCond .eq 19, 3) := by decide +kernel
theorem dX7_hide_9 : decode cX7_hide 9 = .ok (.aload_n 0, 1) := by decide +kernel
theorem dX7_hide_10 : decode cX7_hide 10 = .ok (.iload_n 2, 1) := by decide +kernel
theorem dX7_hide_11 : decode cX7_hide 11 = .ok (.invokevirtual 124, 3) := by decide +kernel
theorem dX7_hide_14 : decode cX7_hide 14 = .ok (.ifCond .eq 11, 3) := by decide +kernel
theorem dX7_hide_17 : decode cX7_hide 17 = .ok (.iload 4, 2) := by decide +kernel
theorem dX7_hide_19 : decode cX7_hide 19 = .ok (.invokestatic 278, 3) := by decide +kernel
theorem dX7_hide_22 : decode cX7_hide 22 = .ok (.ifCond .ne 6, 3) := by decide +kernel
theorem dX7_hide_25 : decode cX7_hide 25 = .ok (.bipush (-2), 2) := by decide +kernel
theorem dX7_hide_27 : decode cX7_hide 27 = .ok (.ireturn, 1) := by decide +kernel
theorem dX7_hide_28 : decode cX7_hide 28 = .ok (.aload_n 0, 1) := by decide +kernel
theorem dX7_hide_29 : decode cX7_hide 29 = .ok (.iload_n 3, 1) := by decide +kernel
theorem dX7_hide_30 : decode cX7_hide 30 = .ok (.invokevirtual 152, 3) := by decide +kernel
theorem dX7_hide_33 : decode cX7_hide 33 = .ok (.getfield 266, 3) := by decide +kernel
theorem dX7_hide_36 : decode cX7_hide 36 = .ok (.iload_n 1, 1) := by decide +kernel
theorem dX7_hide_37 : decode cX7_hide 37 = .ok (.iaload, 1) := by decide +kernel
theorem dX7_hide_38 : decode cX7_hide 38 = .ok (.iload_n 2, 1) := by decide +kernel
theorem dX7_hide_39 : decode cX7_hide 39 = .ok (.invokestatic 170, 3) := by decide +kernel
theorem dX7_hide_42 : decode cX7_hide 42 = .ok (.istore 5, 2) := by decide +kernel
theorem dX7_hide_44 : decode cX7_hide 44 = .ok (.aload_n 0, 1) := by decide +kernel
theorem dX7_hide_45 : decode cX7_hide 45 = .ok (.getfield 23, 3) := by decide +kernel
theorem dX7_hide_48 : decode cX7_hide 48 = .ok (.iload 4, 2) := by decide +kernel
theorem dX7_hide_50 : decode cX7_hide 50 = .ok (.iconst 1, 1) := by decide +kernel
theorem dX7_hide_51 : decode cX7_hide 51 = .ok (.if_icmp .ne 7, 3) := by decide +kernel
theorem dX7_hide_54 : decode cX7_hide 54 = .ok (.iconst 2, 1) := by decide +kernel
theorem dX7_hide_55 : decode cX7_hide 55 = .ok (.goto 4, 3) := by decide +kernel
theorem dX7_hide_58 : decode cX7_hide 58 = .ok (.iconst 1, 1) := by decide +kernel
theorem dX7_hide_59 : decode cX7_hide 59 = .ok (.iload_n 1, 1) := by decide +kernel
theorem dX7_hide_60 : decode cX7_hide 60 = .ok (.iload_n 2, 1) := by decide +kernel
theorem dX7_hide_61 : decode cX7_hide 61 = .ok (.iload_n 3, 1) := by decide +kernel
theorem dX7_hide_62 : decode cX7_hide 62 = .ok (.invokevirtual 337, 3) := by decide +kernel
theorem dX7_hide_65 : decode cX7_hide 65 = .ok (.ifCond .ne 6, 3) := by decide +kernel
theorem dX7_hide_68 : decode cX7_hide 68 = .ok (.bipush (-5), 2) := by decide +kernel
theorem dX7_hide_70 : decode cX7_hide 70 = .ok (.ireturn, 1) := by decide +kernel
theorem dX7_hide_71 : decode cX7_hide 71 = .ok (.aload_n 0, 1) := by decide +kernel
theorem dX7_hide_72 : decode cX7_hide 72 = .ok (.invokevirtual 96, 3) := by decide +kernel
theorem dX7_hide_75 : decode cX7_hide 75 = .ok (.iload 5, 2) := by decide +kernel
theorem dX7_hide_77 : decode cX7_hide 77 = .ok (.ifCond .eq 7, 3) := by decide +kernel
theorem dX7_hide_80 : decode cX7_hide 80 = .ok (.iconst 1, 1) := by decide +kernel
theorem dX7_hide_81 : decode cX7_hide 81 = .ok (.goto 4, 3) := by decide +kernel
theorem dX7_hide_84 : decode cX7_hide 84 = .ok (.iconst 0, 1) := by decide +kernel
theorem dX7_hide_85 : decode cX7_hide 85 = .ok (.ireturn, 1) := by decide +kernel
theorem dX7_undo_0 : decode cX7_undo 0 = .ok (.aload_n 0, 1) := by decide +kernel
theorem dX7_undo_1 : decode cX7_undo 1 = .ok (.getfield 23, 3) := by decide +kernel
theorem dX7_undo_4 : decode cX7_undo 4 = .ok (.getfield 118, 3) := by decide +kernel
theorem dX7_undo_7 : decode cX7_undo 7 = .ok (.ifCond .ne 6, 3) := by decide +kernel
theorem dX7_undo_10 : decode cX7_undo 10 = .ok (.bipush (-2), 2) := by decide +kernel
theorem dX7_undo_12 : decode cX7_undo 12 = .ok (.ireturn, 1) := by decide +kernel
theorem dX7_undo_13 : decode cX7_undo 13 = .ok (.aload_n 0, 1) := by decide +kernel
theorem dX7_undo_14 : decode cX7_undo 14 = .ok (.getfield 23, 3) := by decide +kernel
theorem dX7_undo_17 : decode cX7_undo 17 = .ok (.getfield 341, 3) := by decide +kernel
theorem dX7_undo_20 : decode cX7_undo 20 = .ok (.ifCond .ne 6, 3) := by decide +kernel
theorem dX7_undo_23 : decode cX7_undo 23 = .ok (.bipush (-5), 2) := by decide +kernel
theorem dX7_undo_25 : decode cX7_undo 25 = .ok (.ireturn, 1) := by decide +kernel
theorem dX7_undo_26 : decode cX7_undo 26 = .ok (.aload_n 0, 1) := by decide +kernel
theorem dX7_undo_27 : decode cX7_undo 27 = .ok (.getfield 23, 3) := by decide +kernel
theorem dX7_undo_30 : decode cX7_undo 30 = .ok (.dup, 1) := by decide +kernel
theorem dX7_undo_31 : decode cX7_undo 31 = .ok (.getfield 341, 3) := by decide +kernel
theorem dX7_undo_34 : decode cX7_undo 34 = .ok (.iconst 1, 1) := by decide +kernel
theorem dX7_undo_35 : decode cX7_undo 35 = .ok (.isub, 1) := by decide +kernel
theorem dX7_undo_36 : decode cX7_undo 36 = .ok (.putfield 341, 3) := by decide +kernel
theorem dX7_undo_39 : decode cX7_undo 39 = .ok (.aload_n 0, 1) := by decide +kernel
theorem dX7_undo_40 : decode cX7_undo 40 = .ok (.invokevirtual 96, 3) := by decide +kernel
theorem dX7_undo_43 : decode cX7_undo 43 = .ok (.aload_n 0, 1) := by decide +kernel
theorem dX7_undo_44 : decode cX7_undo 44 = .ok (.getfield 23, 3) := by decide +kernel
theorem dX7_undo_47 : decode cX7_undo 47 = .ok (.getfield 341, 3) := by decide +kernel
theorem dX7_undo_50 : decode cX7_undo 50 = .ok (.ireturn, 1) := by decide +kernel
theorem dX7_anew_0 : decode cX7_anew 0 = .ok (.aload_n 0, 1) := by decide +kernel
theorem dX7_anew_1 : decode cX7_anew 1 = .ok (.getfield 23, 3) := by decide +kernel
theorem dX7_anew_4 : decode cX7_anew 4 = .ok (.getfield 118, 3) := by decide +kernel
theorem dX7_anew_7 : decode cX7_anew 7 = .ok (.ifCond .ne 6, 3) := by decide +kernel
theorem dX7_anew_10 : decode cX7_anew 10 = .ok (.bipush (-2), 2) := by decide +kernel
theorem dX7_anew_12 : decode cX7_anew 12 = .ok (.ireturn, 1) := by decide +kernel
theorem dX7_anew_13 : decode cX7_anew 13 = .ok (.aload_n 0, 1) := by decide +kernel
theorem dX7_anew_14 : decode cX7_anew 14 = .ok (.getfield 23, 3) := by decide +kernel
theorem dX7_anew_17 : decode cX7_anew 17 = .ok (.getfield 341, 3) := by decide +kernel
theorem dX7_anew_20 : decode cX7_anew 20 = .ok (.istore_n 1, 1) := by decide +kernel
theorem dX7_anew_21 : decode cX7_anew 21 = .ok (.aload_n 0, 1) := by decide +kernel
theorem dX7_anew_22 : decode cX7_anew 22 = .ok (.getfield 23, 3) := by decide +kernel
theorem dX7_anew_25 : decode cX7_anew 25 = .ok (.iconst 0, 1) := by decide +kernel
theorem dX7_anew_26 : decode cX7_anew 26 = .ok (.putfield 341, 3) := by decide +kernel
theorem dX7_anew_29 : decode cX7_anew 29 = .ok (.aload_n 0, 1) := by decide +kernel
theorem dX7_anew_30 : decode cX7_anew 30 = .ok (.invokevirtual 96, 3) := by decide +kernel
theorem dX7_anew_33 : decode cX7_anew 33 = .ok (.iload_n 1, 1) := by decide +kernel
theorem dX7_anew_34 : decode cX7_anew 34 = .ok (.ireturn, 1) := by decide +kernel
theorem dX7_drawn_0 : decode cX7_drawn 0 = .ok (.aload_n 0, 1) := by decide +kernel
theorem dX7_drawn_1 : decode cX7_drawn 1 = .ok (.getfield 23, 3) := by decide +kernel
theorem dX7_drawn_4 : decode cX7_drawn 4 = .ok (.getfield 118, 3) := by decide +kernel
theorem dX7_drawn_7 : decode cX7_drawn 7 = .ok (.ifCond .eq 17, 3) := by decide +kernel
theorem dX7_drawn_10 : decode cX7_drawn 10 = .ok (.iload_n 1, 1) := by decide +kernel
theorem dX7_drawn_11 : decode cX7_drawn 11 = .ok (.invokestatic 344, 3) := by decide +kernel
theorem dX7_drawn_14 : decode cX7_drawn 14 = .ok (.ifCond .eq 10, 3) := by decide +kernel
theorem dX7_drawn_17 : decode cX7_drawn 17 = .ok (.iload_n 2, 1) := by decide +kernel
theorem dX7_drawn_18 : decode cX7_drawn 18 = .ok (.invokestatic 278, 3) := by decide +kernel
theorem dX7_drawn_21 : decode cX7_drawn 21 = .ok (.ifCond .ne 6, 3) := by decide +kernel
theorem dX7_drawn_24 : decode cX7_drawn 24 = .ok (.bipush (-2), 2) := by decide +kernel
theorem dX7_drawn_26 : decode cX7_drawn 26 = .ok (.ireturn, 1) := by decide +kernel
theorem dX7_drawn_27 : decode cX7_drawn 27 = .ok (.aload_n 0, 1) := by decide +kernel
theorem dX7_drawn_28 : decode cX7_drawn 28 = .ok (.getfield 68, 3) := by decide +kernel
theorem dX7_drawn_31 : decode cX7_drawn 31 = .ok (.aload_n 0, 1) := by decide +kernel
theorem dX7_drawn_32 : decode cX7_drawn 32 = .ok (.getfield 47, 3) := by decide +kernel
theorem dX7_drawn_35 : decode cX7_drawn 35 = .ok (.aload_n 0, 1) := by decide +kernel
theorem dX7_drawn_36 : decode cX7_drawn 36 = .ok (.iconst 0, 1) := by decide +kernel
theorem dX7_drawn_37 : decode cX7_drawn 37 = .ok (.invokevirtual 152, 3) := by decide +kernel
theorem dX7_drawn_40 : decode cX7_drawn 40 = .ok (.iload_n 1, 1) := by decide +kernel
theorem dX7_drawn_41 : decode cX7_drawn 41 = .ok (.aload_n 0, 1) := by decide +kernel
theorem dX7_drawn_42 : decode cX7_drawn 42 = .ok (.getfield 23, 3) := by decide +kernel
theorem dX7_drawn_45 : decode cX7_drawn 45 = .ok (.getfield 327, 3) := by decide +kernel
theorem dX7_drawn_48 : decode cX7_drawn 48 = .ok (.invokevirtual 347, 3) := by decide +kernel
theorem dX7_drawn_51 : decode cX7_drawn 51 = .ok (.istore_n 3, 1) := by decide +kernel
theorem dX7_drawn_52 : decode cX7_drawn 52 = .ok (.iload_n 2, 1) := by decide +kernel
theorem dX7_drawn_53 : decode cX7_drawn 53 = .ok (.iconst 1, 1) := by decide +kernel
theorem dX7_drawn_54 : decode cX7_drawn 54 = .ok (.if_icmp .ne 7, 3) := by decide +kernel
theorem dX7_drawn_57 : decode cX7_drawn 57 = .ok (.iload_n 3, 1) := by decide +kernel
theorem dX7_drawn_58 : decode cX7_drawn 58 = .ok (.goto 11, 3) := by decide +kernel
theorem dX7_drawn_61 : decode cX7_drawn 61 = .ok (.aload_n 0, 1) := by decide +kernel
theorem dX7_drawn_62 : decode cX7_drawn 62 = .ok (.getfield 47, 3) := by decide +kernel
theorem dX7_drawn_65 : decode cX7_drawn 65 = .ok (.iconst (-1), 1) := by decide +kernel
theorem dX7_drawn_66 : decode cX7_drawn 66 = .ok (.invokevirtual 188, 3) := by decide +kernel
theorem dX7_drawn_69 : decode cX7_drawn 69 = .ok (.ireturn, 1) := by decide +kernel
theorem dX7_isSeed_0 : decode cX7_isSeed 0 = .ok (.iload_n 0, 1) := by decide +kernel
theorem dX7_isSeed_1 : decode cX7_isSeed 1 = .ok (.ifCond .lt 14, 3) := by decide +kernel
theorem dX7_isSeed_4 : decode cX7_isSeed 4 = .ok (.iload_n 0, 1) := by decide +kernel
theorem dX7_isSeed_5 : decode cX7_isSeed 5 = .ok (.ldc_w 351, 3) := by decide +kernel
theorem dX7_isSeed_8 : decode cX7_isSeed 8 = .ok (.if_icmp .gt 7, 3) := by decide +kernel
theorem dX7_isSeed_11 : decode cX7_isSeed 11 = .ok (.iconst 1, 1) := by decide +kernel
theorem dX7_isSeed_12 : decode cX7_isSeed 12 = .ok (.goto 4, 3) := by decide +kernel
theorem dX7_isSeed_15 : decode cX7_isSeed 15 = .ok (.iconst 0, 1) := by decide +kernel
theorem dX7_isSeed_16 : decode cX7_isSeed 16 = .ok (.ireturn, 1) := by decide +kernel
theorem dX7_luck_0 : decode cX7_luck 0 = .ok (.aload_n 0, 1) := by decide +kernel
theorem dX7_luck_1 : decode cX7_luck 1 = .ok (.iload_n 3, 1) := by decide +kernel
theorem dX7_luck_2 : decode cX7_luck 2 = .ok (.invokevirtual 111, 3) := by decide +kernel
theorem dX7_luck_5 : decode cX7_luck 5 = .ok (.ifCond .eq 21, 3) := by decide +kernel
theorem dX7_luck_8 : decode cX7_luck 8 = .ok (.iload_n 1, 1) := by decide +kernel
theorem dX7_luck_9 : decode cX7_luck 9 = .ok (.invokestatic 344, 3) := by decide +kernel
theorem dX7_luck_12 : decode cX7_luck 12 = .ok (.ifCond .eq 14, 3) := by decide +kernel
theorem dX7_luck_15 : decode cX7_luck 15 = .ok (.iload_n 2, 1) := by decide +kernel
theorem dX7_luck_16 : decode cX7_luck 16 = .ok (.iconst 1, 1) := by decide +kernel
theorem dX7_luck_17 : decode cX7_luck 17 = .ok (.if_icmp .lt 9, 3) := by decide +kernel
theorem dX7_luck_20 : decode cX7_luck 20 = .ok (.iload_n 2, 1) := by decide +kernel
theorem dX7_luck_21 : decode cX7_luck 21 = .ok (.bipush 20, 2) := by decide +kernel
theorem dX7_luck_23 : decode cX7_luck 23 = .ok (.if_icmp .le 6, 3) := by decide +kernel
theorem dX7_luck_26 : decode cX7_luck 26 = .ok (.bipush (-2), 2) := by decide +kernel
theorem dX7_luck_28 : decode cX7_luck 28 = .ok (.ireturn, 1) := by decide +kernel
theorem dX7_luck_29 : decode cX7_luck 29 = .ok (.iconst 0, 1) := by decide +kernel
theorem dX7_luck_30 : decode cX7_luck 30 = .ok (.istore 4, 2) := by decide +kernel
theorem dX7_luck_32 : decode cX7_luck 32 = .ok (.iconst 0, 1) := by decide +kernel
theorem dX7_luck_33 : decode cX7_luck 33 = .ok (.istore 5, 2) := by decide +kernel
theorem dX7_luck_35 : decode cX7_luck 35 = .ok (.iload 5, 2) := by decide +kernel
theorem dX7_luck_37 : decode cX7_luck 37 = .ok (.iload_n 2, 1) := by decide +kernel
theorem dX7_luck_38 : decode cX7_luck 38 = .ok (.if_icmp .ge 53, 3) := by decide +kernel
theorem dX7_luck_41 : decode cX7_luck 41 = .ok (.aload_n 0, 1) := by decide +kernel
theorem dX7_luck_42 : decode cX7_luck 42 = .ok (.getfield 68, 3) := by decide +kernel
theorem dX7_luck_45 : decode cX7_luck 45 = .ok (.aload_n 0, 1) := by decide +kernel
theorem dX7_luck_46 : decode cX7_luck 46 = .ok (.getfield 47, 3) := by decide +kernel
theorem dX7_luck_49 : decode cX7_luck 49 = .ok (.aload_n 0, 1) := by decide +kernel
theorem dX7_luck_50 : decode cX7_luck 50 = .ok (.iconst 0, 1) := by decide +kernel
theorem dX7_luck_51 : decode cX7_luck 51 = .ok (.invokevirtual 152, 3) := by decide +kernel
theorem dX7_luck_54 : decode cX7_luck 54 = .ok (.iload_n 1, 1) := by decide +kernel
theorem dX7_luck_55 : decode cX7_luck 55 = .ok (.iload 5, 2) := by decide +kernel
theorem dX7_luck_57 : decode cX7_luck 57 = .ok (.iadd, 1) := by decide +kernel
theorem dX7_luck_58 : decode cX7_luck 58 = .ok (.aload_n 0, 1) := by decide +kernel
theorem dX7_luck_59 : decode cX7_luck 59 = .ok (.getfield 23, 3) := by decide +kernel
theorem dX7_luck_62 : decode cX7_luck 62 = .ok (.getfield 327, 3) := by decide +kernel
theorem dX7_luck_65 : decode cX7_luck 65 = .ok (.invokevirtual 347, 3) := by decide +kernel
theorem dX7_luck_68 : decode cX7_luck 68 = .ok (.pop, 1) := by decide +kernel
theorem dX7_luck_69 : decode cX7_luck 69 = .ok (.aload_n 0, 1) := by decide +kernel
theorem dX7_luck_70 : decode cX7_luck 70 = .ok (.getfield 47, 3) := by decide +kernel
theorem dX7_luck_73 : decode cX7_luck 73 = .ok (.getfield 185, 3) := by decide +kernel
theorem dX7_luck_76 : decode cX7_luck 76 = .ok (.iload_n 3, 1) := by decide +kernel
theorem dX7_luck_77 : decode cX7_luck 77 = .ok (.iaload, 1) := by decide +kernel
theorem dX7_luck_78 : decode cX7_luck 78 = .ok (.iconst (-1), 1) := by decide +kernel
theorem dX7_luck_79 : decode cX7_luck 79 = .ok (.if_icmp .ne 6, 3) := by decide +kernel
theorem dX7_luck_82 : decode cX7_luck 82 = .ok (.iinc 4 1, 3) := by decide +kernel
theorem dX7_luck_85 : decode cX7_luck 85 = .ok (.iinc 5 1, 3) := by decide +kernel
theorem dX7_luck_88 : decode cX7_luck 88 = .ok (.goto (-53), 3) := by decide +kernel
theorem dX7_luck_91 : decode cX7_luck 91 = .ok (.iload 4, 2) := by decide +kernel
theorem dX7_luck_93 : decode cX7_luck 93 = .ok (.ireturn, 1) := by decide +kernel
theorem dX7_rate_0 : decode cX7_rate 0 = .ok (.aload_n 0, 1) := by decide +kernel
theorem dX7_rate_1 : decode cX7_rate 1 = .ok (.getfield 23, 3) := by decide +kernel
theorem dX7_rate_4 : decode cX7_rate 4 = .ok (.getfield 118, 3) := by decide +kernel
theorem dX7_rate_7 : decode cX7_rate 7 = .ok (.ifCond .eq 12, 3) := by decide +kernel
theorem dX7_rate_10 : decode cX7_rate 10 = .ok (.iload_n 1, 1) := by decide +kernel
theorem dX7_rate_11 : decode cX7_rate 11 = .ok (.ifCond .lt 8, 3) := by decide +kernel
theorem dX7_rate_14 : decode cX7_rate 14 = .ok (.iload_n 1, 1) := by decide +kernel
theorem dX7_rate_15 : decode cX7_rate 15 = .ok (.iconst 3, 1) := by decide +kernel
theorem dX7_rate_16 : decode cX7_rate 16 = .ok (.if_icmp .le 6, 3) := by decide +kernel
theorem dX7_rate_19 : decode cX7_rate 19 = .ok (.bipush (-2), 2) := by decide +kernel
theorem dX7_rate_21 : decode cX7_rate 21 = .ok (.ireturn, 1) := by decide +kernel
theorem dX7_rate_22 : decode cX7_rate 22 = .ok (.aload_n 0, 1) := by decide +kernel
theorem dX7_rate_23 : decode cX7_rate 23 = .ok (.getfield 23, 3) := by decide +kernel
theorem dX7_rate_26 : decode cX7_rate 26 = .ok (.getfield 341, 3) := by decide +kernel
theorem dX7_rate_29 : decode cX7_rate 29 = .ok (.ifCond .le 6, 3) := by decide +kernel
theorem dX7_rate_32 : decode cX7_rate 32 = .ok (.bipush (-5), 2) := by decide +kernel
theorem dX7_rate_34 : decode cX7_rate 34 = .ok (.ireturn, 1) := by decide +kernel
theorem dX7_rate_35 : decode cX7_rate 35 = .ok (.aload_n 0, 1) := by decide +kernel
theorem dX7_rate_36 : decode cX7_rate 36 = .ok (.getfield 23, 3) := by decide +kernel
theorem dX7_rate_39 : decode cX7_rate 39 = .ok (.getfield 130, 3) := by decide +kernel
theorem dX7_rate_42 : decode cX7_rate 42 = .ok (.istore_n 2, 1) := by decide +kernel
theorem dX7_rate_43 : decode cX7_rate 43 = .ok (.aload_n 0, 1) := by decide +kernel
theorem dX7_rate_44 : decode cX7_rate 44 = .ok (.getfield 23, 3) := by decide +kernel
theorem dX7_rate_47 : decode cX7_rate 47 = .ok (.iload_n 1, 1) := by decide +kernel
theorem dX7_rate_48 : decode cX7_rate 48 = .ok (.putfield 130, 3) := by decide +kernel
theorem dX7_rate_51 : decode cX7_rate 51 = .ok (.aload_n 0, 1) := by decide +kernel
theorem dX7_rate_52 : decode cX7_rate 52 = .ok (.invokevirtual 96, 3) := by decide +kernel
theorem dX7_rate_55 : decode cX7_rate 55 = .ok (.iload_n 2, 1) := by decide +kernel
theorem dX7_rate_56 : decode cX7_rate 56 = .ok (.ireturn, 1) := by decide +kernel
theorem dX7_count_0 : decode cX7_count 0 = .ok (.iload_n 1, 1) := by decide +kernel
theorem dX7_count_1 : decode cX7_count 1 = .ok (.tableswitch 120 0 8 #[51, 59, 67, 75, 83, 91, 99, 107, 115], 51) := by decide +kernel
theorem dX7_count_52 : decode cX7_count 52 = .ok (.aload_n 0, 1) := by decide +kernel
theorem dX7_count_53 : decode cX7_count 53 = .ok (.getfield 23, 3) := by decide +kernel
theorem dX7_count_56 : decode cX7_count 56 = .ok (.getfield 115, 3) := by decide +kernel
theorem dX7_count_59 : decode cX7_count 59 = .ok (.ireturn, 1) := by decide +kernel
theorem dX7_count_60 : decode cX7_count 60 = .ok (.aload_n 0, 1) := by decide +kernel
theorem dX7_count_61 : decode cX7_count 61 = .ok (.getfield 23, 3) := by decide +kernel
theorem dX7_count_64 : decode cX7_count 64 = .ok (.getfield 352, 3) := by decide +kernel
theorem dX7_count_67 : decode cX7_count 67 = .ok (.ireturn, 1) := by decide +kernel
theorem dX7_count_68 : decode cX7_count 68 = .ok (.aload_n 0, 1) := by decide +kernel
theorem dX7_count_69 : decode cX7_count 69 = .ok (.getfield 23, 3) := by decide +kernel
theorem dX7_count_72 : decode cX7_count 72 = .ok (.getfield 130, 3) := by decide +kernel
theorem dX7_count_75 : decode cX7_count 75 = .ok (.ireturn, 1) := by decide +kernel
theorem dX7_count_76 : decode cX7_count 76 = .ok (.aload_n 0, 1) := by decide +kernel
theorem dX7_count_77 : decode cX7_count 77 = .ok (.getfield 23, 3) := by decide +kernel
theorem dX7_count_80 : decode cX7_count 80 = .ok (.getfield 327, 3) := by decide +kernel
theorem dX7_count_83 : decode cX7_count 83 = .ok (.ireturn, 1) := by decide +kernel
theorem dX7_count_84 : decode cX7_count 84 = .ok (.aload_n 0, 1) := by decide +kernel
theorem dX7_count_85 : decode cX7_count 85 = .ok (.getfield 23, 3) := by decide +kernel
theorem dX7_count_88 : decode cX7_count 88 = .ok (.getfield 108, 3) := by decide +kernel
theorem dX7_count_91 : decode cX7_count 91 = .ok (.ireturn, 1) := by decide +kernel
theorem dX7_count_92 : decode cX7_count 92 = .ok (.aload_n 0, 1) := by decide +kernel
theorem dX7_count_93 : decode cX7_count 93 = .ok (.getfield 23, 3) := by decide +kernel
theorem dX7_count_96 : decode cX7_count 96 = .ok (.getfield 341, 3) := by decide +kernel
theorem dX7_count_99 : decode cX7_count 99 = .ok (.ireturn, 1) := by decide +kernel
theorem dX7_count_100 : decode cX7_count 100 = .ok (.aload_n 0, 1) := by decide +kernel
theorem dX7_count_101 : decode cX7_count 101 = .ok (.getfield 23, 3) := by decide +kernel
theorem dX7_count_104 : decode cX7_count 104 = .ok (.getfield 99, 3) := by decide +kernel
theorem dX7_count_107 : decode cX7_count 107 = .ok (.ireturn, 1) := by decide +kernel
theorem dX7_count_108 : decode cX7_count 108 = .ok (.aload_n 0, 1) := by decide +kernel
theorem dX7_count_109 : decode cX7_count 109 = .ok (.getfield 10, 3) := by decide +kernel
theorem dX7_count_112 : decode cX7_count 112 = .ok (.getfield 80, 3) := by decide +kernel
theorem dX7_count_115 : decode cX7_count 115 = .ok (.ireturn, 1) := by decide +kernel
theorem dX7_count_116 : decode cX7_count 116 = .ok (.aload_n 0, 1) := by decide +kernel
theorem dX7_count_117 : decode cX7_count 117 = .ok (.invokevirtual 355, 3) := by decide +kernel
theorem dX7_count_120 : decode cX7_count 120 = .ok (.ireturn, 1) := by decide +kernel
theorem dX7_count_121 : decode cX7_count 121 = .ok (.iconst (-1), 1) := by decide +kernel
theorem dX7_count_122 : decode cX7_count 122 = .ok (.ireturn, 1) := by decide +kernel
theorem dX7_slotsThere_0 : decode cX7_slotsThere 0 = .ok (.iconst 0, 1) := by decide +kernel
theorem dX7_slotsThere_1 : decode cX7_slotsThere 1 = .ok (.istore_n 1, 1) := by decide +kernel
theorem dX7_slotsThere_2 : decode cX7_slotsThere 2 = .ok (.iconst 0, 1) := by decide +kernel
theorem dX7_slotsThere_3 : decode cX7_slotsThere 3 = .ok (.istore_n 2, 1) := by decide +kernel
theorem dX7_slotsThere_4 : decode cX7_slotsThere 4 = .ok (.iload_n 2, 1) := by decide +kernel
theorem dX7_slotsThere_5 : decode cX7_slotsThere 5 = .ok (.iconst 4, 1) := by decide +kernel
theorem dX7_slotsThere_6 : decode cX7_slotsThere 6 = .ok (.if_icmp .ge 24, 3) := by decide +kernel
theorem dX7_slotsThere_9 : decode cX7_slotsThere 9 = .ok (.aload_n 0, 1) := by decide +kernel
theorem dX7_slotsThere_10 : decode cX7_slotsThere 10 = .ok (.getfield 36, 3) := by decide +kernel
theorem dX7_slotsThere_13 : decode cX7_slotsThere 13 = .ok (.iload_n 2, 1) := by decide +kernel
theorem dX7_slotsThere_14 : decode cX7_slotsThere 14 = .ok (.aaload, 1) := by decide +kernel
theorem dX7_slotsThere_15 : decode cX7_slotsThere 15 = .ok (.getfield 291, 3) := by decide +kernel
theorem dX7_slotsThere_18 : decode cX7_slotsThere 18 = .ok (.ifCond .eq 6, 3) := by decide +kernel
theorem dX7_slotsThere_21 : decode cX7_slotsThere 21 = .ok (.iinc 1 1, 3) := by decide +kernel
theorem dX7_slotsThere_24 : decode cX7_slotsThere 24 = .ok (.iinc 2 1, 3) := by decide +kernel
theorem dX7_slotsThere_27 : decode cX7_slotsThere 27 = .ok (.goto (-23), 3) := by decide +kernel
theorem dX7_slotsThere_30 : decode cX7_slotsThere 30 = .ok (.iload_n 1, 1) := by decide +kernel
theorem dX7_slotsThere_31 : decode cX7_slotsThere 31 = .ok (.ireturn, 1) := by decide +kernel
theorem dX7_image_0 : decode cX7_image 0 = .ok (.iload_n 1, 1) := by decide +kernel
theorem dX7_image_1 : decode cX7_image 1 = .ok (.invokestatic 358, 3) := by decide +kernel
theorem dX7_image_4 : decode cX7_image 4 = .ok (.ifCond .ne 6, 3) := by decide +kernel
theorem dX7_image_7 : decode cX7_image 7 = .ok (.bipush (-2), 2) := by decide +kernel
theorem dX7_image_9 : decode cX7_image 9 = .ok (.ireturn, 1) := by decide +kernel
theorem dX7_image_10 : decode cX7_image 10 = .ok (.aload_n 0, 1) := by decide +kernel
theorem dX7_image_11 : decode cX7_image 11 = .ok (.getfield 26, 3) := by decide +kernel
theorem dX7_image_14 : decode cX7_image 14 = .ok (.iload_n 1, 1) := by decide +kernel
theorem dX7_image_15 : decode cX7_image 15 = .ok (.aaload, 1) := by decide +kernel
theorem dX7_image_16 : decode cX7_image 16 = .ok (.aload_n 0, 1) := by decide +kernel
theorem dX7_image_17 : decode cX7_image 17 = .ok (.getfield 23, 3) := by decide +kernel
theorem dX7_image_20 : decode cX7_image 20 = .ok (.invokevirtual 92, 3) := by decide +kernel
theorem dX7_image_23 : decode cX7_image 23 = .ok (.aload_n 0, 1) := by decide +kernel
theorem dX7_image_24 : decode cX7_image 24 = .ok (.getfield 30, 3) := by decide +kernel
theorem dX7_image_27 : decode cX7_image 27 = .ok (.iload_n 1, 1) := by decide +kernel
theorem dX7_image_28 : decode cX7_image 28 = .ok (.iconst 1, 1) := by decide +kernel
theorem dX7_image_29 : decode cX7_image 29 = .ok (.bastore, 1) := by decide +kernel
theorem dX7_image_30 : decode cX7_image 30 = .ok (.iconst 0, 1) := by decide +kernel
theorem dX7_image_31 : decode cX7_image 31 = .ok (.ireturn, 1) := by decide +kernel
theorem dX7_back_0 : decode cX7_back 0 = .ok (.iload_n 1, 1) := by decide +kernel
theorem dX7_back_1 : decode cX7_back 1 = .ok (.invokestatic 358, 3) := by decide +kernel
theorem dX7_back_4 : decode cX7_back 4 = .ok (.ifCond .ne 6, 3) := by decide +kernel
theorem dX7_back_7 : decode cX7_back 7 = .ok (.bipush (-2), 2) := by decide +kernel
theorem dX7_back_9 : decode cX7_back 9 = .ok (.ireturn, 1) := by decide +kernel
theorem dX7_back_10 : decode cX7_back 10 = .ok (.aload_n 0, 1) := by decide +kernel
theorem dX7_back_11 : decode cX7_back 11 = .ok (.getfield 30, 3) := by decide +kernel
theorem dX7_back_14 : decode cX7_back 14 = .ok (.iload_n 1, 1) := by decide +kernel
theorem dX7_back_15 : decode cX7_back 15 = .ok (.baload, 1) := by decide +kernel
theorem dX7_back_16 : decode cX7_back 16 = .ok (.ifCond .ne 6, 3) := by decide +kernel
theorem dX7_back_19 : decode cX7_back 19 = .ok (.bipush (-6), 2) := by decide +kernel
theorem dX7_back_21 : decode cX7_back 21 = .ok (.ireturn, 1) := by decide +kernel
theorem dX7_back_22 : decode cX7_back 22 = .ok (.aload_n 0, 1) := by decide +kernel
theorem dX7_back_23 : decode cX7_back 23 = .ok (.getfield 23, 3) := by decide +kernel
theorem dX7_back_26 : decode cX7_back 26 = .ok (.aload_n 0, 1) := by decide +kernel
theorem dX7_back_27 : decode cX7_back 27 = .ok (.getfield 26, 3) := by decide +kernel
theorem dX7_back_30 : decode cX7_back 30 = .ok (.iload_n 1, 1) := by decide +kernel
theorem dX7_back_31 : decode cX7_back 31 = .ok (.aaload, 1) := by decide +kernel
theorem dX7_back_32 : decode cX7_back 32 = .ok (.invokevirtual 92, 3) := by decide +kernel
theorem dX7_back_35 : decode cX7_back 35 = .ok (.aload_n 0, 1) := by decide +kernel
theorem dX7_back_36 : decode cX7_back 36 = .ok (.invokevirtual 96, 3) := by decide +kernel
theorem dX7_back_39 : decode cX7_back 39 = .ok (.iconst 0, 1) := by decide +kernel
theorem dX7_back_40 : decode cX7_back 40 = .ok (.ireturn, 1) := by decide +kernel
theorem dX7_row_0 : decode cX7_row 0 = .ok (.iload_n 1, 1) := by decide +kernel
theorem dX7_row_1 : decode cX7_row 1 = .ok (.invokestatic 288, 3) := by decide +kernel
theorem dX7_row_4 : decode cX7_row 4 = .ok (.ifCond .eq 18, 3) := by decide +kernel
theorem dX7_row_7 : decode cX7_row 7 = .ok (.iload_n 2, 1) := by decide +kernel
theorem dX7_row_8 : decode cX7_row 8 = .ok (.ifCond .lt 14, 3) := by decide +kernel
theorem dX7_row_11 : decode cX7_row 11 = .ok (.iload_n 2, 1) := by decide +kernel
theorem dX7_row_12 : decode cX7_row 12 = .ok (.iconst 4, 1) := by decide +kernel
theorem dX7_row_13 : decode cX7_row 13 = .ok (.if_icmp .ge 9, 3) := by decide +kernel
theorem dX7_row_16 : decode cX7_row 16 = .ok (.iload_n 3, 1) := by decide +kernel
theorem dX7_row_17 : decode cX7_row 17 = .ok (.bipush 60, 2) := by decide +kernel
theorem dX7_row_19 : decode cX7_row 19 = .ok (.if_icmp .le 6, 3) := by decide +kernel
theorem dX7_row_22 : decode cX7_row 22 = .ok (.bipush (-2), 2) := by decide +kernel
theorem dX7_row_24 : decode cX7_row 24 = .ok (.ireturn, 1) := by decide +kernel
theorem dX7_row_25 : decode cX7_row 25 = .ok (.iload_n 3, 1) := by decide +kernel
theorem dX7_row_26 : decode cX7_row 26 = .ok (.ifCond .ge 6, 3) := by decide +kernel
theorem dX7_row_29 : decode cX7_row 29 = .ok (.bipush (-3), 2) := by decide +kernel
theorem dX7_row_31 : decode cX7_row 31 = .ok (.ireturn, 1) := by decide +kernel
theorem dX7_row_32 : decode cX7_row 32 = .ok (.aload_n 0, 1) := by decide +kernel
theorem dX7_row_33 : decode cX7_row 33 = .ok (.getfield 36, 3) := by decide +kernel
theorem dX7_row_36 : decode cX7_row 36 = .ok (.iload_n 1, 1) := by decide +kernel
theorem dX7_row_37 : decode cX7_row 37 = .ok (.aaload, 1) := by decide +kernel
theorem dX7_row_38 : decode cX7_row 38 = .ok (.iload_n 2, 1) := by decide +kernel
theorem dX7_row_39 : decode cX7_row 39 = .ok (.iload_n 3, 1) := by decide +kernel
theorem dX7_row_40 : decode cX7_row 40 = .ok (.invokevirtual 361, 3) := by decide +kernel
theorem dX7_row_43 : decode cX7_row 43 = .ok (.iconst 0, 1) := by decide +kernel
theorem dX7_row_44 : decode cX7_row 44 = .ok (.ireturn, 1) := by decide +kernel
theorem dX7_write_0 : decode cX7_write 0 = .ok (.iload_n 1, 1) := by decide +kernel
theorem dX7_write_1 : decode cX7_write 1 = .ok (.invokestatic 288, 3) := by decide +kernel
theorem dX7_write_4 : decode cX7_write 4 = .ok (.ifCond .ne 6, 3) := by decide +kernel
theorem dX7_write_7 : decode cX7_write 7 = .ok (.bipush (-2), 2) := by decide +kernel
theorem dX7_write_9 : decode cX7_write 9 = .ok (.ireturn, 1) := by decide +kernel
theorem dX7_write_10 : decode cX7_write 10 = .ok (.aload_n 0, 1) := by decide +kernel
theorem dX7_write_11 : decode cX7_write 11 = .ok (.getfield 36, 3) := by decide +kernel
theorem dX7_write_14 : decode cX7_write 14 = .ok (.iload_n 1, 1) := by decide +kernel
theorem dX7_write_15 : decode cX7_write 15 = .ok (.aaload, 1) := by decide +kernel
theorem dX7_write_16 : decode cX7_write 16 = .ok (.astore 5, 2) := by decide +kernel
theorem dX7_write_18 : decode cX7_write 18 = .ok (.aload 5, 2) := by decide +kernel
theorem dX7_write_20 : decode cX7_write 20 = .ok (.getfield 291, 3) := by decide +kernel
theorem dX7_write_23 : decode cX7_write 23 = .ok (.ifCond .ne 6, 3) := by decide +kernel
theorem dX7_write_26 : decode cX7_write 26 = .ok (.bipush (-6), 2) := by decide +kernel
theorem dX7_write_28 : decode cX7_write 28 = .ok (.ireturn, 1) := by decide +kernel
theorem dX7_write_29 : decode cX7_write 29 = .ok (.iload_n 2, 1) := by decide +kernel
theorem dX7_write_30 : decode cX7_write 30 = .ok (.ifCond .lt 12, 3) := by decide +kernel
theorem dX7_write_33 : decode cX7_write 33 = .ok (.iload_n 2, 1) := by decide +kernel
theorem dX7_write_34 : decode cX7_write 34 = .ok (.aload 5, 2) := by decide +kernel
theorem dX7_write_36 : decode cX7_write 36 = .ok (.getfield 292, 3) := by decide +kernel
theorem dX7_write_39 : decode cX7_write 39 = .ok (.if_icmp .lt 6, 3) := by decide +kernel
theorem dX7_write_42 : decode cX7_write 42 = .ok (.bipush (-7), 2) := by decide +kernel
theorem dX7_write_44 : decode cX7_write 44 = .ok (.ireturn, 1) := by decide +kernel
theorem dX7_write_45 : decode cX7_write 45 = .ok (.aload 5, 2) := by decide +kernel
theorem dX7_write_47 : decode cX7_write 47 = .ok (.getfield 293, 3) := by decide +kernel
theorem dX7_write_50 : decode cX7_write 50 = .ok (.iload_n 2, 1) := by decide +kernel
theorem dX7_write_51 : decode cX7_write 51 = .ok (.aload 5, 2) := by decide +kernel
theorem dX7_write_53 : decode cX7_write 53 = .ok (.lload_n 3, 1) := by decide +kernel
theorem dX7_write_54 : decode cX7_write 54 = .ok (.invokevirtual 364, 3) := by decide +kernel
theorem dX7_write_57 : decode cX7_write 57 = .ok (.lastore, 1) := by decide +kernel
theorem dX7_write_58 : decode cX7_write 58 = .ok (.iconst 0, 1) := by decide +kernel
theorem dX7_write_59 : decode cX7_write 59 = .ok (.ireturn, 1) := by decide +kernel
theorem dX7_paste_0 : decode cX7_paste 0 = .ok (.iload_n 1, 1) := by decide +kernel
theorem dX7_paste_1 : decode cX7_paste 1 = .ok (.invokestatic 288, 3) := by decide +kernel
theorem dX7_paste_4 : decode cX7_paste 4 = .ok (.ifCond .eq 10, 3) := by decide +kernel
theorem dX7_paste_7 : decode cX7_paste 7 = .ok (.iload_n 3, 1) := by decide +kernel
theorem dX7_paste_8 : decode cX7_paste 8 = .ok (.invokestatic 288, 3) := by decide +kernel
theorem dX7_paste_11 : decode cX7_paste 11 = .ok (.ifCond .ne 6, 3) := by decide +kernel
theorem dX7_paste_14 : decode cX7_paste 14 = .ok (.bipush (-2), 2) := by decide +kernel
theorem dX7_paste_16 : decode cX7_paste 16 = .ok (.ireturn, 1) := by decide +kernel
theorem dX7_paste_17 : decode cX7_paste 17 = .ok (.aload_n 0, 1) := by decide +kernel
theorem dX7_paste_18 : decode cX7_paste 18 = .ok (.getfield 36, 3) := by decide +kernel
theorem dX7_paste_21 : decode cX7_paste 21 = .ok (.iload_n 1, 1) := by decide +kernel
theorem dX7_paste_22 : decode cX7_paste 22 = .ok (.aaload, 1) := by decide +kernel
theorem dX7_paste_23 : decode cX7_paste 23 = .ok (.astore 6, 2) := by decide +kernel
theorem dX7_paste_25 : decode cX7_paste 25 = .ok (.aload_n 0, 1) := by decide +kernel
theorem dX7_paste_26 : decode cX7_paste 26 = .ok (.getfield 36, 3) := by decide +kernel
theorem dX7_paste_29 : decode cX7_paste 29 = .ok (.iload_n 3, 1) := by decide +kernel
theorem dX7_paste_30 : decode cX7_paste 30 = .ok (.aaload, 1) := by decide +kernel
theorem dX7_paste_31 : decode cX7_paste 31 = .ok (.astore 7, 2) := by decide +kernel
theorem dX7_paste_33 : decode cX7_paste 33 = .ok (.aload 6, 2) := by decide +kernel
theorem dX7_paste_35 : decode cX7_paste 35 = .ok (.getfield 291, 3) := by decide +kernel
theorem dX7_paste_38 : decode cX7_paste 38 = .ok (.ifCond .eq 11, 3) := by decide +kernel
theorem dX7_paste_41 : decode cX7_paste 41 = .ok (.aload 7, 2) := by decide +kernel
theorem dX7_paste_43 : decode cX7_paste 43 = .ok (.getfield 291, 3) := by decide +kernel
theorem dX7_paste_46 : decode cX7_paste 46 = .ok (.ifCond .ne 6, 3) := by decide +kernel
theorem dX7_paste_49 : decode cX7_paste 49 = .ok (.bipush (-6), 2) := by decide +kernel
theorem dX7_paste_51 : decode cX7_paste 51 = .ok (.ireturn, 1) := by decide +kernel
theorem dX7_paste_52 : decode cX7_paste 52 = .ok (.aload 6, 2) := by decide +kernel
theorem dX7_paste_54 : decode cX7_paste 54 = .ok (.getfield 368, 3) := by decide +kernel
theorem dX7_paste_57 : decode cX7_paste 57 = .ok (.aload 7, 2) := by decide +kernel
theorem dX7_paste_59 : decode cX7_paste 59 = .ok (.getfield 368, 3) := by decide +kernel
theorem dX7_paste_62 : decode cX7_paste 62 = .ok (.if_icmp .eq 6, 3) := by decide +kernel
theorem dX7_paste_65 : decode cX7_paste 65 = .ok (.bipush (-8), 2) := by decide +kernel
theorem dX7_paste_67 : decode cX7_paste 67 = .ok (.ireturn, 1) := by decide +kernel
theorem dX7_paste_68 : decode cX7_paste 68 = .ok (.aload 6, 2) := by decide +kernel
theorem dX7_paste_70 : decode cX7_paste 70 = .ok (.iload_n 2, 1) := by decide +kernel
theorem dX7_paste_71 : decode cX7_paste 71 = .ok (.iload 5, 2) := by decide +kernel
theorem dX7_paste_73 : decode cX7_paste 73 = .ok (.invokevirtual 371, 3) := by decide +kernel
theorem dX7_paste_76 : decode cX7_paste 76 = .ok (.ifCond .eq 15, 3) := by decide +kernel
theorem dX7_paste_79 : decode cX7_paste 79 = .ok (.aload 7, 2) := by decide +kernel
theorem dX7_paste_81 : decode cX7_paste 81 = .ok (.iload 4, 2) := by decide +kernel
theorem dX7_paste_83 : decode cX7_paste 83 = .ok (.iload 5, 2) := by decide +kernel
theorem dX7_paste_85 : decode cX7_paste 85 = .ok (.invokevirtual 371, 3) := by decide +kernel
theorem dX7_paste_88 : decode cX7_paste 88 = .ok (.ifCond .ne 6, 3) := by decide +kernel
theorem dX7_paste_91 : decode cX7_paste 91 = .ok (.bipush (-7), 2) := by decide +kernel
theorem dX7_paste_93 : decode cX7_paste 93 = .ok (.ireturn, 1) := by decide +kernel
theorem dX7_paste_94 : decode cX7_paste 94 = .ok (.aload 6, 2) := by decide +kernel
theorem dX7_paste_96 : decode cX7_paste 96 = .ok (.getfield 293, 3) := by decide +kernel
theorem dX7_paste_99 : decode cX7_paste 99 = .ok (.iload_n 2, 1) := by decide +kernel
theorem dX7_paste_100 : decode cX7_paste 100 = .ok (.aload 7, 2) := by decide +kernel
theorem dX7_paste_102 : decode cX7_paste 102 = .ok (.getfield 293, 3) := by decide +kernel
theorem dX7_paste_105 : decode cX7_paste 105 = .ok (.iload 4, 2) := by decide +kernel
theorem dX7_paste_107 : decode cX7_paste 107 = .ok (.iload 5, 2) := by decide +kernel
theorem dX7_paste_109 : decode cX7_paste 109 = .ok (.invokestatic 374, 3) := by decide +kernel
theorem dX7_paste_112 : decode cX7_paste 112 = .ok (.iconst 0, 1) := by decide +kernel
theorem dX7_paste_113 : decode cX7_paste 113 = .ok (.ireturn, 1) := by decide +kernel
theorem dX7_holds_0 : decode cX7_holds 0 = .ok (.iload_n 0, 1) := by decide +kernel
theorem dX7_holds_1 : decode cX7_holds 1 = .ok (.iload_n 1, 1) := by decide +kernel
theorem dX7_holds_2 : decode cX7_holds 2 = .ok (.ishr, 1) := by decide +kernel
theorem dX7_holds_3 : decode cX7_holds 3 = .ok (.iconst 1, 1) := by decide +kernel
theorem dX7_holds_4 : decode cX7_holds 4 = .ok (.iand, 1) := by decide +kernel
theorem dX7_holds_5 : decode cX7_holds 5 = .ok (.iconst 1, 1) := by decide +kernel
theorem dX7_holds_6 : decode cX7_holds 6 = .ok (.if_icmp .ne 7, 3) := by decide +kernel
theorem dX7_holds_9 : decode cX7_holds 9 = .ok (.iconst 1, 1) := by decide +kernel
theorem dX7_holds_10 : decode cX7_holds 10 = .ok (.goto 4, 3) := by decide +kernel
theorem dX7_holds_13 : decode cX7_holds 13 = .ok (.iconst 0, 1) := by decide +kernel
theorem dX7_holds_14 : decode cX7_holds 14 = .ok (.ireturn, 1) := by decide +kernel
theorem dX7_favourite_0 : decode cX7_favourite 0 = .ok (.iconst (-1), 1) := by decide +kernel
theorem dX7_favourite_1 : decode cX7_favourite 1 = .ok (.istore_n 3, 1) := by decide +kernel
theorem dX7_favourite_2 : decode cX7_favourite 2 = .ok (.iconst 0, 1) := by decide +kernel
theorem dX7_favourite_3 : decode cX7_favourite 3 = .ok (.istore 4, 2) := by decide +kernel
theorem dX7_favourite_5 : decode cX7_favourite 5 = .ok (.iconst 0, 1) := by decide +kernel
theorem dX7_favourite_6 : decode cX7_favourite 6 = .ok (.istore 5, 2) := by decide +kernel
theorem dX7_favourite_8 : decode cX7_favourite 8 = .ok (.iload 5, 2) := by decide +kernel
theorem dX7_favourite_10 : decode cX7_favourite 10 = .ok (.iconst 5, 1) := by decide +kernel
theorem dX7_favourite_11 : decode cX7_favourite 11 = .ok (.if_icmp .ge 48, 3) := by decide +kernel
theorem dX7_favourite_14 : decode cX7_favourite 14 = .ok (.aload_n 0, 1) := by decide +kernel
theorem dX7_favourite_15 : decode cX7_favourite 15 = .ok (.iload_n 1, 1) := by decide +kernel
theorem dX7_favourite_16 : decode cX7_favourite 16 = .ok (.iconst 5, 1) := by decide +kernel
theorem dX7_favourite_17 : decode cX7_favourite 17 = .ok (.imul, 1) := by decide +kernel
theorem dX7_favourite_18 : decode cX7_favourite 18 = .ok (.iload 5, 2) := by decide +kernel
theorem dX7_favourite_20 : decode cX7_favourite 20 = .ok (.iadd, 1) := by decide +kernel
theorem dX7_favourite_21 : decode cX7_favourite 21 = .ok (.iaload, 1) := by decide +kernel
theorem dX7_favourite_22 : decode cX7_favourite 22 = .ok (.istore 6, 2) := by decide +kernel
theorem dX7_favourite_24 : decode cX7_favourite 24 = .ok (.iload_n 2, 1) := by decide +kernel
theorem dX7_favourite_25 : decode cX7_favourite 25 = .ok (.iload 5, 2) := by decide +kernel
theorem dX7_favourite_27 : decode cX7_favourite 27 = .ok (.ishr, 1) := by decide +kernel
theorem dX7_favourite_28 : decode cX7_favourite 28 = .ok (.iconst 1, 1) := by decide +kernel
theorem dX7_favourite_29 : decode cX7_favourite 29 = .ok (.iand, 1) := by decide +kernel
theorem dX7_favourite_30 : decode cX7_favourite 30 = .ok (.iconst 1, 1) := by decide +kernel
theorem dX7_favourite_31 : decode cX7_favourite 31 = .ok (.if_icmp .ne 22, 3) := by decide +kernel
theorem dX7_favourite_34 : decode cX7_favourite 34 = .ok (.iload_n 3, 1) := by decide +kernel
theorem dX7_favourite_35 : decode cX7_favourite 35 = .ok (.iconst (-1), 1) := by decide +kernel
theorem dX7_favourite_36 : decode cX7_favourite 36 = .ok (.if_icmp .eq 10, 3) := by decide +kernel
theorem dX7_favourite_39 : decode cX7_favourite 39 = .ok (.iload 6, 2) := by decide +kernel
theorem dX7_favourite_41 : decode cX7_favourite 41 = .ok (.iload 4, 2) := by decide +kernel
theorem dX7_favourite_43 : decode cX7_favourite 43 = .ok (.if_icmp .le 10, 3) := by decide +kernel
theorem dX7_favourite_46 : decode cX7_favourite 46 = .ok (.iload 6, 2) := by decide +kernel
theorem dX7_favourite_48 : decode cX7_favourite 48 = .ok (.istore 4, 2) := by decide +kernel
theorem dX7_favourite_50 : decode cX7_favourite 50 = .ok (.iload 5, 2) := by decide +kernel
theorem dX7_favourite_52 : decode cX7_favourite 52 = .ok (.istore_n 3, 1) := by decide +kernel
theorem dX7_favourite_53 : decode cX7_favourite 53 = .ok (.iinc 5 1, 3) := by decide +kernel
theorem dX7_favourite_56 : decode cX7_favourite 56 = .ok (.goto (-48), 3) := by decide +kernel
theorem dX7_favourite_59 : decode cX7_favourite 59 = .ok (.iload_n 3, 1) := by decide +kernel
theorem dX7_favourite_60 : decode cX7_favourite 60 = .ok (.ireturn, 1) := by decide +kernel
theorem dX7_deciderAt_0 : decode cX7_deciderAt 0 = .ok (.iload_n 2, 1) := by decide +kernel
theorem dX7_deciderAt_1 : decode cX7_deciderAt 1 = .ok (.iconst 1, 1) := by decide +kernel
theorem dX7_deciderAt_2 : decode cX7_deciderAt 2 = .ok (.iadd, 1) := by decide +kernel
theorem dX7_deciderAt_3 : decode cX7_deciderAt 3 = .ok (.iload_n 1, 1) := by decide +kernel
theorem dX7_deciderAt_4 : decode cX7_deciderAt 4 = .ok (.if_icmp .ge 9, 3) := by decide +kernel
theorem dX7_deciderAt_7 : decode cX7_deciderAt 7 = .ok (.aload_n 0, 1) := by decide +kernel
theorem dX7_deciderAt_8 : decode cX7_deciderAt 8 = .ok (.iload_n 2, 1) := by decide +kernel
theorem dX7_deciderAt_9 : decode cX7_deciderAt 9 = .ok (.iconst 1, 1) := by decide +kernel
theorem dX7_deciderAt_10 : decode cX7_deciderAt 10 = .ok (.iadd, 1) := by decide +kernel
theorem dX7_deciderAt_11 : decode cX7_deciderAt 11 = .ok (.iaload, 1) := by decide +kernel
theorem dX7_deciderAt_12 : decode cX7_deciderAt 12 = .ok (.ireturn, 1) := by decide +kernel
theorem dX7_deciderAt_13 : decode cX7_deciderAt 13 = .ok (.iload_n 3, 1) := by decide +kernel
theorem dX7_deciderAt_14 : decode cX7_deciderAt 14 = .ok (.iconst 2, 1) := by decide +kernel
theorem dX7_deciderAt_15 : decode cX7_deciderAt 15 = .ok (.if_icmp .ne 7, 3) := by decide +kernel
theorem dX7_deciderAt_18 : decode cX7_deciderAt 18 = .ok (.aload_n 0, 1) := by decide +kernel
theorem dX7_deciderAt_19 : decode cX7_deciderAt 19 = .ok (.iconst 0, 1) := by decide +kernel
theorem dX7_deciderAt_20 : decode cX7_deciderAt 20 = .ok (.iaload, 1) := by decide +kernel
theorem dX7_deciderAt_21 : decode cX7_deciderAt 21 = .ok (.ireturn, 1) := by decide +kernel
theorem dX7_deciderAt_22 : decode cX7_deciderAt 22 = .ok (.iload_n 3, 1) := by decide +kernel
theorem dX7_deciderAt_23 : decode cX7_deciderAt 23 = .ok (.iconst 3, 1) := by decide +kernel
theorem dX7_deciderAt_24 : decode cX7_deciderAt 24 = .ok (.if_icmp .ne 16, 3) := by decide +kernel
theorem dX7_deciderAt_27 : decode cX7_deciderAt 27 = .ok (.iload_n 1, 1) := by decide +kernel
theorem dX7_deciderAt_28 : decode cX7_deciderAt 28 = .ok (.iconst 1, 1) := by decide +kernel
theorem dX7_deciderAt_29 : decode cX7_deciderAt 29 = .ok (.if_icmp .le 11, 3) := by decide +kernel
theorem dX7_deciderAt_32 : decode cX7_deciderAt 32 = .ok (.aload_n 0, 1) := by decide +kernel
theorem dX7_deciderAt_33 : decode cX7_deciderAt 33 = .ok (.iload_n 1, 1) := by decide +kernel
theorem dX7_deciderAt_34 : decode cX7_deciderAt 34 = .ok (.iconst 2, 1) := by decide +kernel
theorem dX7_deciderAt_35 : decode cX7_deciderAt 35 = .ok (.isub, 1) := by decide +kernel
theorem dX7_deciderAt_36 : decode cX7_deciderAt 36 = .ok (.iaload, 1) := by decide +kernel
theorem dX7_deciderAt_37 : decode cX7_deciderAt 37 = .ok (.goto 4, 3) := by decide +kernel
theorem dX7_deciderAt_40 : decode cX7_deciderAt 40 = .ok (.iconst (-1), 1) := by decide +kernel
theorem dX7_deciderAt_41 : decode cX7_deciderAt 41 = .ok (.ireturn, 1) := by decide +kernel
