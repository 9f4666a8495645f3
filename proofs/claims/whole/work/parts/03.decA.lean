theorem dX0_init_0 : decode cX0_init 0 = .ok (.aload_n 0, 1) := by decide +kernel
theorem dX0_init_1 : decode cX0_init 1 = .ok (.invokespecial 3, 3) := by decide +kernel
theorem dX0_init_4 : decode cX0_init 4 = .ok (.aload_n 0, 1) := by decide +kernel
theorem dX0_init_5 : decode cX0_init 5 = .ok (.iconst 0, 1) := by decide +kernel
theorem dX0_init_6 : decode cX0_init 6 = .ok (.putfield 9, 3) := by decide +kernel
theorem dX0_init_9 : decode cX0_init 9 = .ok (.aload_n 0, 1) := by decide +kernel
theorem dX0_init_10 : decode cX0_init 10 = .ok (.iconst 0, 1) := by decide +kernel
theorem dX0_init_11 : decode cX0_init 11 = .ok (.putfield 15, 3) := by decide +kernel
theorem dX0_init_14 : decode cX0_init 14 = .ok (.aload_n 0, 1) := by decide +kernel
theorem dX0_init_15 : decode cX0_init 15 = .ok (.iconst 0, 1) := by decide +kernel
theorem dX0_init_16 : decode cX0_init 16 = .ok (.putfield 19, 3) := by decide +kernel
theorem dX0_init_19 : decode cX0_init 19 = .ok (.aload_n 0, 1) := by decide +kernel
theorem dX0_init_20 : decode cX0_init 20 = .ok (.iconst 0, 1) := by decide +kernel
theorem dX0_init_21 : decode cX0_init 21 = .ok (.putfield 22, 3) := by decide +kernel
theorem dX0_init_24 : decode cX0_init 24 = .ok (.aload_n 0, 1) := by decide +kernel
theorem dX0_init_25 : decode cX0_init 25 = .ok (.iconst 0, 1) := by decide +kernel
theorem dX0_init_26 : decode cX0_init 26 = .ok (.putfield 25, 3) := by decide +kernel
theorem dX0_init_29 : decode cX0_init 29 = .ok (.aload_n 0, 1) := by decide +kernel
theorem dX0_init_30 : decode cX0_init 30 = .ok (.iconst 0, 1) := by decide +kernel
theorem dX0_init_31 : decode cX0_init 31 = .ok (.putfield 28, 3) := by decide +kernel
theorem dX0_init_34 : decode cX0_init 34 = .ok (.aload_n 0, 1) := by decide +kernel
theorem dX0_init_35 : decode cX0_init 35 = .ok (.iconst 0, 1) := by decide +kernel
theorem dX0_init_36 : decode cX0_init 36 = .ok (.putfield 31, 3) := by decide +kernel
theorem dX0_init_39 : decode cX0_init 39 = .ok (.aload_n 0, 1) := by decide +kernel
theorem dX0_init_40 : decode cX0_init 40 = .ok (.bipush 30, 2) := by decide +kernel
theorem dX0_init_42 : decode cX0_init 42 = .ok (.newarray .int, 2) := by decide +kernel
theorem dX0_init_44 : decode cX0_init 44 = .ok (.putfield 34, 3) := by decide +kernel
theorem dX0_init_47 : decode cX0_init 47 = .ok (.aload_n 0, 1) := by decide +kernel
theorem dX0_init_48 : decode cX0_init 48 = .ok (.iconst 0, 1) := by decide +kernel
theorem dX0_init_49 : decode cX0_init 49 = .ok (.putfield 38, 3) := by decide +kernel
theorem dX0_init_52 : decode cX0_init 52 = .ok (.aload_n 0, 1) := by decide +kernel
theorem dX0_init_53 : decode cX0_init 53 = .ok (.bipush 40, 2) := by decide +kernel
theorem dX0_init_55 : decode cX0_init 55 = .ok (.newarray .int, 2) := by decide +kernel
theorem dX0_init_57 : decode cX0_init 57 = .ok (.putfield 41, 3) := by decide +kernel
theorem dX0_init_60 : decode cX0_init 60 = .ok (.aload_n 0, 1) := by decide +kernel
theorem dX0_init_61 : decode cX0_init 61 = .ok (.bipush 40, 2) := by decide +kernel
theorem dX0_init_63 : decode cX0_init 63 = .ok (.newarray .int, 2) := by decide +kernel
theorem dX0_init_65 : decode cX0_init 65 = .ok (.putfield 44, 3) := by decide +kernel
theorem dX0_init_68 : decode cX0_init 68 = .ok (.aload_n 0, 1) := by decide +kernel
theorem dX0_init_69 : decode cX0_init 69 = .ok (.bipush 40, 2) := by decide +kernel
theorem dX0_init_71 : decode cX0_init 71 = .ok (.newarray .int, 2) := by decide +kernel
theorem dX0_init_73 : decode cX0_init 73 = .ok (.putfield 47, 3) := by decide +kernel
theorem dX0_init_76 : decode cX0_init 76 = .ok (.aload_n 0, 1) := by decide +kernel
theorem dX0_init_77 : decode cX0_init 77 = .ok (.bipush 40, 2) := by decide +kernel
theorem dX0_init_79 : decode cX0_init 79 = .ok (.newarray .int, 2) := by decide +kernel
theorem dX0_init_81 : decode cX0_init 81 = .ok (.putfield 50, 3) := by decide +kernel
theorem dX0_init_84 : decode cX0_init 84 = .ok (.return_, 1) := by decide +kernel
theorem dX0_wipe_0 : decode cX0_wipe 0 = .ok (.aload_n 0, 1) := by decide +kernel
theorem dX0_wipe_1 : decode cX0_wipe 1 = .ok (.iconst 0, 1) := by decide +kernel
theorem dX0_wipe_2 : decode cX0_wipe 2 = .ok (.putfield 9, 3) := by decide +kernel
theorem dX0_wipe_5 : decode cX0_wipe 5 = .ok (.aload_n 0, 1) := by decide +kernel
theorem dX0_wipe_6 : decode cX0_wipe 6 = .ok (.iconst 0, 1) := by decide +kernel
theorem dX0_wipe_7 : decode cX0_wipe 7 = .ok (.putfield 15, 3) := by decide +kernel
theorem dX0_wipe_10 : decode cX0_wipe 10 = .ok (.aload_n 0, 1) := by decide +kernel
theorem dX0_wipe_11 : decode cX0_wipe 11 = .ok (.iconst 0, 1) := by decide +kernel
theorem dX0_wipe_12 : decode cX0_wipe 12 = .ok (.putfield 19, 3) := by decide +kernel
theorem dX0_wipe_15 : decode cX0_wipe 15 = .ok (.aload_n 0, 1) := by decide +kernel
theorem dX0_wipe_16 : decode cX0_wipe 16 = .ok (.iconst 0, 1) := by decide +kernel
theorem dX0_wipe_17 : decode cX0_wipe 17 = .ok (.putfield 22, 3) := by decide +kernel
theorem dX0_wipe_20 : decode cX0_wipe 20 = .ok (.aload_n 0, 1) := by decide +kernel
theorem dX0_wipe_21 : decode cX0_wipe 21 = .ok (.iconst 0, 1) := by decide +kernel
theorem dX0_wipe_22 : decode cX0_wipe 22 = .ok (.putfield 25, 3) := by decide +kernel
theorem dX0_wipe_25 : decode cX0_wipe 25 = .ok (.aload_n 0, 1) := by decide +kernel
theorem dX0_wipe_26 : decode cX0_wipe 26 = .ok (.iconst 0, 1) := by decide +kernel
theorem dX0_wipe_27 : decode cX0_wipe 27 = .ok (.putfield 28, 3) := by decide +kernel
theorem dX0_wipe_30 : decode cX0_wipe 30 = .ok (.aload_n 0, 1) := by decide +kernel
theorem dX0_wipe_31 : decode cX0_wipe 31 = .ok (.iconst 0, 1) := by decide +kernel
theorem dX0_wipe_32 : decode cX0_wipe 32 = .ok (.putfield 31, 3) := by decide +kernel
theorem dX0_wipe_35 : decode cX0_wipe 35 = .ok (.aload_n 0, 1) := by decide +kernel
theorem dX0_wipe_36 : decode cX0_wipe 36 = .ok (.getfield 34, 3) := by decide +kernel
theorem dX0_wipe_39 : decode cX0_wipe 39 = .ok (.iconst 0, 1) := by decide +kernel
theorem dX0_wipe_40 : decode cX0_wipe 40 = .ok (.invokestatic 53, 3) := by decide +kernel
theorem dX0_wipe_43 : decode cX0_wipe 43 = .ok (.aload_n 0, 1) := by decide +kernel
theorem dX0_wipe_44 : decode cX0_wipe 44 = .ok (.iconst 0, 1) := by decide +kernel
theorem dX0_wipe_45 : decode cX0_wipe 45 = .ok (.putfield 38, 3) := by decide +kernel
theorem dX0_wipe_48 : decode cX0_wipe 48 = .ok (.return_, 1) := by decide +kernel
theorem dX0_takeFrom_0 : decode cX0_takeFrom 0 = .ok (.aload_n 0, 1) := by decide +kernel
theorem dX0_takeFrom_1 : decode cX0_takeFrom 1 = .ok (.aload_n 1, 1) := by decide +kernel
theorem dX0_takeFrom_2 : decode cX0_takeFrom 2 = .ok (.getfield 9, 3) := by decide +kernel
theorem dX0_takeFrom_5 : decode cX0_takeFrom 5 = .ok (.putfield 9, 3) := by decide +kernel
theorem dX0_takeFrom_8 : decode cX0_takeFrom 8 = .ok (.aload_n 0, 1) := by decide +kernel
theorem dX0_takeFrom_9 : decode cX0_takeFrom 9 = .ok (.aload_n 1, 1) := by decide +kernel
theorem dX0_takeFrom_10 : decode cX0_takeFrom 10 = .ok (.getfield 15, 3) := by decide +kernel
theorem dX0_takeFrom_13 : decode cX0_takeFrom 13 = .ok (.putfield 15, 3) := by decide +kernel
theorem dX0_takeFrom_16 : decode cX0_takeFrom 16 = .ok (.aload_n 0, 1) := by decide +kernel
theorem dX0_takeFrom_17 : decode cX0_takeFrom 17 = .ok (.aload_n 1, 1) := by decide +kernel
theorem dX0_takeFrom_18 : decode cX0_takeFrom 18 = .ok (.getfield 19, 3) := by decide +kernel
theorem dX0_takeFrom_21 : decode cX0_takeFrom 21 = .ok (.putfield 19, 3) := by decide +kernel
theorem dX0_takeFrom_24 : decode cX0_takeFrom 24 = .ok (.aload_n 0, 1) := by decide +kernel
theorem dX0_takeFrom_25 : decode cX0_takeFrom 25 = .ok (.aload_n 1, 1) := by decide +kernel
theorem dX0_takeFrom_26 : decode cX0_takeFrom 26 = .ok (.getfield 22, 3) := by decide +kernel
theorem dX0_takeFrom_29 : decode cX0_takeFrom 29 = .ok (.putfield 22, 3) := by decide +kernel
theorem dX0_takeFrom_32 : decode cX0_takeFrom 32 = .ok (.aload_n 0, 1) := by decide +kernel
theorem dX0_takeFrom_33 : decode cX0_takeFrom 33 = .ok (.aload_n 1, 1) := by decide +kernel
theorem dX0_takeFrom_34 : decode cX0_takeFrom 34 = .ok (.getfield 25, 3) := by decide +kernel
theorem dX0_takeFrom_37 : decode cX0_takeFrom 37 = .ok (.putfield 25, 3) := by decide +kernel
theorem dX0_takeFrom_40 : decode cX0_takeFrom 40 = .ok (.aload_n 0, 1) := by decide +kernel
theorem dX0_takeFrom_41 : decode cX0_takeFrom 41 = .ok (.aload_n 1, 1) := by decide +kernel
theorem dX0_takeFrom_42 : decode cX0_takeFrom 42 = .ok (.getfield 28, 3) := by decide +kernel
theorem dX0_takeFrom_45 : decode cX0_takeFrom 45 = .ok (.putfield 28, 3) := by decide +kernel
theorem dX0_takeFrom_48 : decode cX0_takeFrom 48 = .ok (.aload_n 0, 1) := by decide +kernel
theorem dX0_takeFrom_49 : decode cX0_takeFrom 49 = .ok (.aload_n 1, 1) := by decide +kernel
theorem dX0_takeFrom_50 : decode cX0_takeFrom 50 = .ok (.getfield 31, 3) := by decide +kernel
theorem dX0_takeFrom_53 : decode cX0_takeFrom 53 = .ok (.putfield 31, 3) := by decide +kernel
theorem dX0_takeFrom_56 : decode cX0_takeFrom 56 = .ok (.aload_n 1, 1) := by decide +kernel
theorem dX0_takeFrom_57 : decode cX0_takeFrom 57 = .ok (.getfield 34, 3) := by decide +kernel
theorem dX0_takeFrom_60 : decode cX0_takeFrom 60 = .ok (.iconst 0, 1) := by decide +kernel
theorem dX0_takeFrom_61 : decode cX0_takeFrom 61 = .ok (.aload_n 0, 1) := by decide +kernel
theorem dX0_takeFrom_62 : decode cX0_takeFrom 62 = .ok (.getfield 34, 3) := by decide +kernel
theorem dX0_takeFrom_65 : decode cX0_takeFrom 65 = .ok (.iconst 0, 1) := by decide +kernel
theorem dX0_takeFrom_66 : decode cX0_takeFrom 66 = .ok (.aload_n 0, 1) := by decide +kernel
theorem dX0_takeFrom_67 : decode cX0_takeFrom 67 = .ok (.getfield 34, 3) := by decide +kernel
theorem dX0_takeFrom_70 : decode cX0_takeFrom 70 = .ok (.arraylength, 1) := by decide +kernel
theorem dX0_takeFrom_71 : decode cX0_takeFrom 71 = .ok (.invokestatic 59, 3) := by decide +kernel
theorem dX0_takeFrom_74 : decode cX0_takeFrom 74 = .ok (.aload_n 0, 1) := by decide +kernel
theorem dX0_takeFrom_75 : decode cX0_takeFrom 75 = .ok (.aload_n 1, 1) := by decide +kernel
theorem dX0_takeFrom_76 : decode cX0_takeFrom 76 = .ok (.getfield 38, 3) := by decide +kernel
theorem dX0_takeFrom_79 : decode cX0_takeFrom 79 = .ok (.putfield 38, 3) := by decide +kernel
theorem dX0_takeFrom_82 : decode cX0_takeFrom 82 = .ok (.aload_n 1, 1) := by decide +kernel
theorem dX0_takeFrom_83 : decode cX0_takeFrom 83 = .ok (.getfield 41, 3) := by decide +kernel
theorem dX0_takeFrom_86 : decode cX0_takeFrom 86 = .ok (.iconst 0, 1) := by decide +kernel
theorem dX0_takeFrom_87 : decode cX0_takeFrom 87 = .ok (.aload_n 0, 1) := by decide +kernel
theorem dX0_takeFrom_88 : decode cX0_takeFrom 88 = .ok (.getfield 41, 3) := by decide +kernel
theorem dX0_takeFrom_91 : decode cX0_takeFrom 91 = .ok (.iconst 0, 1) := by decide +kernel
theorem dX0_takeFrom_92 : decode cX0_takeFrom 92 = .ok (.aload_n 0, 1) := by decide +kernel
theorem dX0_takeFrom_93 : decode cX0_takeFrom 93 = .ok (.getfield 38, 3) := by decide +kernel
theorem dX0_takeFrom_96 : decode cX0_takeFrom 96 = .ok (.invokestatic 59, 3) := by decide +kernel
theorem dX0_takeFrom_99 : decode cX0_takeFrom 99 = .ok (.aload_n 1, 1) := by decide +kernel
theorem dX0_takeFrom_100 : decode cX0_takeFrom 100 = .ok (.getfield 44, 3) := by decide +kernel
theorem dX0_takeFrom_103 : decode cX0_takeFrom 103 = .ok (.iconst 0, 1) := by decide +kernel
theorem dX0_takeFrom_104 : decode cX0_takeFrom 104 = .ok (.aload_n 0, 1) := by decide +kernel
theorem dX0_takeFrom_105 : decode cX0_takeFrom 105 = .ok (.getfield 44, 3) := by decide +kernel
theorem dX0_takeFrom_108 : decode cX0_takeFrom 108 = .ok (.iconst 0, 1) := by decide +kernel
theorem dX0_takeFrom_109 : decode cX0_takeFrom 109 = .ok (.aload_n 0, 1) := by decide +kernel
theorem dX0_takeFrom_110 : decode cX0_takeFrom 110 = .ok (.getfield 38, 3) := by decide +kernel
theorem dX0_takeFrom_113 : decode cX0_takeFrom 113 = .ok (.invokestatic 59, 3) := by decide +kernel
theorem dX0_takeFrom_116 : decode cX0_takeFrom 116 = .ok (.aload_n 1, 1) := by decide +kernel
theorem dX0_takeFrom_117 : decode cX0_takeFrom 117 = .ok (.getfield 47, 3) := by decide +kernel
theorem dX0_takeFrom_120 : decode cX0_takeFrom 120 = .ok (.iconst 0, 1) := by decide +kernel
theorem dX0_takeFrom_121 : decode cX0_takeFrom 121 = .ok (.aload_n 0, 1) := by decide +kernel
theorem dX0_takeFrom_122 : decode cX0_takeFrom 122 = .ok (.getfield 47, 3) := by decide +kernel
theorem dX0_takeFrom_125 : decode cX0_takeFrom 125 = .ok (.iconst 0, 1) := by decide +kernel
theorem dX0_takeFrom_126 : decode cX0_takeFrom 126 = .ok (.aload_n 0, 1) := by decide +kernel
theorem dX0_takeFrom_127 : decode cX0_takeFrom 127 = .ok (.getfield 38, 3) := by decide +kernel
theorem dX0_takeFrom_130 : decode cX0_takeFrom 130 = .ok (.invokestatic 59, 3) := by decide +kernel
theorem dX0_takeFrom_133 : decode cX0_takeFrom 133 = .ok (.aload_n 1, 1) := by decide +kernel
theorem dX0_takeFrom_134 : decode cX0_takeFrom 134 = .ok (.getfield 50, 3) := by decide +kernel
theorem dX0_takeFrom_137 : decode cX0_takeFrom 137 = .ok (.iconst 0, 1) := by decide +kernel
theorem dX0_takeFrom_138 : decode cX0_takeFrom 138 = .ok (.aload_n 0, 1) := by decide +kernel
theorem dX0_takeFrom_139 : decode cX0_takeFrom 139 = .ok (.getfield 50, 3) := by decide +kernel
theorem dX0_takeFrom_142 : decode cX0_takeFrom 142 = .ok (.iconst 0, 1) := by decide +kernel
theorem dX0_takeFrom_143 : decode cX0_takeFrom 143 = .ok (.aload_n 0, 1) := by decide +kernel
theorem dX0_takeFrom_144 : decode cX0_takeFrom 144 = .ok (.getfield 38, 3) := by decide +kernel
theorem dX0_takeFrom_147 : decode cX0_takeFrom 147 = .ok (.invokestatic 59, 3) := by decide +kernel
theorem dX0_takeFrom_150 : decode cX0_takeFrom 150 = .ok (.return_, 1) := by decide +kernel
theorem dX0_addAct_0 : decode cX0_addAct 0 = .ok (.aload_n 0, 1) := by decide +kernel
theorem dX0_addAct_1 : decode cX0_addAct 1 = .ok (.getfield 38, 3) := by decide +kernel
theorem dX0_addAct_4 : decode cX0_addAct 4 = .ok (.bipush 40, 2) := by decide +kernel
theorem dX0_addAct_6 : decode cX0_addAct 6 = .ok (.if_icmp .lt 5, 3) := by decide +kernel
theorem dX0_addAct_9 : decode cX0_addAct 9 = .ok (.iconst 0, 1) := by decide +kernel
theorem dX0_addAct_10 : decode cX0_addAct 10 = .ok (.ireturn, 1) := by decide +kernel
theorem dX0_addAct_11 : decode cX0_addAct 11 = .ok (.aload_n 0, 1) := by decide +kernel
theorem dX0_addAct_12 : decode cX0_addAct 12 = .ok (.getfield 41, 3) := by decide +kernel
theorem dX0_addAct_15 : decode cX0_addAct 15 = .ok (.aload_n 0, 1) := by decide +kernel
theorem dX0_addAct_16 : decode cX0_addAct 16 = .ok (.getfield 38, 3) := by decide +kernel
theorem dX0_addAct_19 : decode cX0_addAct 19 = .ok (.iload_n 1, 1) := by decide +kernel
theorem dX0_addAct_20 : decode cX0_addAct 20 = .ok (.iastore, 1) := by decide +kernel
theorem dX0_addAct_21 : decode cX0_addAct 21 = .ok (.aload_n 0, 1) := by decide +kernel
theorem dX0_addAct_22 : decode cX0_addAct 22 = .ok (.getfield 44, 3) := by decide +kernel
theorem dX0_addAct_25 : decode cX0_addAct 25 = .ok (.aload_n 0, 1) := by decide +kernel
theorem dX0_addAct_26 : decode cX0_addAct 26 = .ok (.getfield 38, 3) := by decide +kernel
theorem dX0_addAct_29 : decode cX0_addAct 29 = .ok (.iload_n 2, 1) := by decide +kernel
theorem dX0_addAct_30 : decode cX0_addAct 30 = .ok (.iastore, 1) := by decide +kernel
theorem dX0_addAct_31 : decode cX0_addAct 31 = .ok (.aload_n 0, 1) := by decide +kernel
theorem dX0_addAct_32 : decode cX0_addAct 32 = .ok (.getfield 47, 3) := by decide +kernel
theorem dX0_addAct_35 : decode cX0_addAct 35 = .ok (.aload_n 0, 1) := by decide +kernel
theorem dX0_addAct_36 : decode cX0_addAct 36 = .ok (.getfield 38, 3) := by decide +kernel
theorem dX0_addAct_39 : decode cX0_addAct 39 = .ok (.iload_n 3, 1) := by decide +kernel
theorem dX0_addAct_40 : decode cX0_addAct 40 = .ok (.iastore, 1) := by decide +kernel
theorem dX0_addAct_41 : decode cX0_addAct 41 = .ok (.aload_n 0, 1) := by decide +kernel
theorem dX0_addAct_42 : decode cX0_addAct 42 = .ok (.getfield 50, 3) := by decide +kernel
theorem dX0_addAct_45 : decode cX0_addAct 45 = .ok (.aload_n 0, 1) := by decide +kernel
theorem dX0_addAct_46 : decode cX0_addAct 46 = .ok (.getfield 38, 3) := by decide +kernel
theorem dX0_addAct_49 : decode cX0_addAct 49 = .ok (.iload 4, 2) := by decide +kernel
theorem dX0_addAct_51 : decode cX0_addAct 51 = .ok (.iastore, 1) := by decide +kernel
theorem dX0_addAct_52 : decode cX0_addAct 52 = .ok (.aload_n 0, 1) := by decide +kernel
theorem dX0_addAct_53 : decode cX0_addAct 53 = .ok (.dup, 1) := by decide +kernel
theorem dX0_addAct_54 : decode cX0_addAct 54 = .ok (.getfield 38, 3) := by decide +kernel
theorem dX0_addAct_57 : decode cX0_addAct 57 = .ok (.iconst 1, 1) := by decide +kernel
theorem dX0_addAct_58 : decode cX0_addAct 58 = .ok (.iadd, 1) := by decide +kernel
theorem dX0_addAct_59 : decode cX0_addAct 59 = .ok (.putfield 38, 3) := by decide +kernel
theorem dX0_addAct_62 : decode cX0_addAct 62 = .ok (.iconst 1, 1) := by decide +kernel
theorem dX0_addAct_63 : decode cX0_addAct 63 = .ok (.ireturn, 1) := by decide +kernel
theorem dX0_actIn_0 : decode cX0_actIn 0 = .ok (.iconst 0, 1) := by decide +kernel
theorem dX0_actIn_1 : decode cX0_actIn 1 = .ok (.istore_n 3, 1) := by decide +kernel
theorem dX0_actIn_2 : decode cX0_actIn 2 = .ok (.iload_n 3, 1) := by decide +kernel
theorem dX0_actIn_3 : decode cX0_actIn 3 = .ok (.aload_n 0, 1) := by decide +kernel
theorem dX0_actIn_4 : decode cX0_actIn 4 = .ok (.getfield 38, 3) := by decide +kernel
theorem dX0_actIn_7 : decode cX0_actIn 7 = .ok (.if_icmp .ge 106, 3) := by decide +kernel
theorem dX0_actIn_10 : decode cX0_actIn 10 = .ok (.aload_n 0, 1) := by decide +kernel
theorem dX0_actIn_11 : decode cX0_actIn 11 = .ok (.getfield 50, 3) := by decide +kernel
theorem dX0_actIn_14 : decode cX0_actIn 14 = .ok (.iload_n 3, 1) := by decide +kernel
theorem dX0_actIn_15 : decode cX0_actIn 15 = .ok (.iaload, 1) := by decide +kernel
theorem dX0_actIn_16 : decode cX0_actIn 16 = .ok (.iload_n 1, 1) := by decide +kernel
theorem dX0_actIn_17 : decode cX0_actIn 17 = .ok (.if_icmp .ne 90, 3) := by decide +kernel
theorem dX0_actIn_20 : decode cX0_actIn 20 = .ok (.aload_n 0, 1) := by decide +kernel
theorem dX0_actIn_21 : decode cX0_actIn 21 = .ok (.getfield 41, 3) := by decide +kernel
theorem dX0_actIn_24 : decode cX0_actIn 24 = .ok (.iload_n 3, 1) := by decide +kernel
theorem dX0_actIn_25 : decode cX0_actIn 25 = .ok (.iaload, 1) := by decide +kernel
theorem dX0_actIn_26 : decode cX0_actIn 26 = .ok (.ifCond .ne 22, 3) := by decide +kernel
theorem dX0_actIn_29 : decode cX0_actIn 29 = .ok (.aload_n 2, 1) := by decide +kernel
theorem dX0_actIn_30 : decode cX0_actIn 30 = .ok (.aload_n 0, 1) := by decide +kernel
theorem dX0_actIn_31 : decode cX0_actIn 31 = .ok (.getfield 44, 3) := by decide +kernel
theorem dX0_actIn_34 : decode cX0_actIn 34 = .ok (.iload_n 3, 1) := by decide +kernel
theorem dX0_actIn_35 : decode cX0_actIn 35 = .ok (.iaload, 1) := by decide +kernel
theorem dX0_actIn_36 : decode cX0_actIn 36 = .ok (.aload_n 0, 1) := by decide +kernel
theorem dX0_actIn_37 : decode cX0_actIn 37 = .ok (.getfield 47, 3) := by decide +kernel
theorem dX0_actIn_40 : decode cX0_actIn 40 = .ok (.iload_n 3, 1) := by decide +kernel
theorem dX0_actIn_41 : decode cX0_actIn 41 = .ok (.iaload, 1) := by decide +kernel
theorem dX0_actIn_42 : decode cX0_actIn 42 = .ok (.invokevirtual 65, 3) := by decide +kernel
theorem dX0_actIn_45 : decode cX0_actIn 45 = .ok (.goto 62, 3) := by decide +kernel
theorem dX0_actIn_48 : decode cX0_actIn 48 = .ok (.aload_n 0, 1) := by decide +kernel
theorem dX0_actIn_49 : decode cX0_actIn 49 = .ok (.getfield 41, 3) := by decide +kernel
theorem dX0_actIn_52 : decode cX0_actIn 52 = .ok (.iload_n 3, 1) := by decide +kernel
theorem dX0_actIn_53 : decode cX0_actIn 53 = .ok (.iaload, 1) := by decide +kernel
theorem dX0_actIn_54 : decode cX0_actIn 54 = .ok (.iconst 2, 1) := by decide +kernel
theorem dX0_actIn_55 : decode cX0_actIn 55 = .ok (.if_icmp .ne 28, 3) := by decide +kernel
theorem dX0_actIn_58 : decode cX0_actIn 58 = .ok (.aload_n 2, 1) := by decide +kernel
theorem dX0_actIn_59 : decode cX0_actIn 59 = .ok (.getfield 71, 3) := by decide +kernel
theorem dX0_actIn_62 : decode cX0_actIn 62 = .ok (.aload_n 0, 1) := by decide +kernel
theorem dX0_actIn_63 : decode cX0_actIn 63 = .ok (.getfield 44, 3) := by decide +kernel
theorem dX0_actIn_66 : decode cX0_actIn 66 = .ok (.iload_n 3, 1) := by decide +kernel
theorem dX0_actIn_67 : decode cX0_actIn 67 = .ok (.iaload, 1) := by decide +kernel
theorem dX0_actIn_68 : decode cX0_actIn 68 = .ok (.dup2, 1) := by decide +kernel
theorem dX0_actIn_69 : decode cX0_actIn 69 = .ok (.iaload, 1) := by decide +kernel
theorem dX0_actIn_70 : decode cX0_actIn 70 = .ok (.iconst 1, 1) := by decide +kernel
theorem dX0_actIn_71 : decode cX0_actIn 71 = .ok (.aload_n 0, 1) := by decide +kernel
theorem dX0_actIn_72 : decode cX0_actIn 72 = .ok (.getfield 47, 3) := by decide +kernel
theorem dX0_actIn_75 : decode cX0_actIn 75 = .ok (.iload_n 3, 1) := by decide +kernel
theorem dX0_actIn_76 : decode cX0_actIn 76 = .ok (.iaload, 1) := by decide +kernel
theorem dX0_actIn_77 : decode cX0_actIn 77 = .ok (.ishl, 1) := by decide +kernel
theorem dX0_actIn_78 : decode cX0_actIn 78 = .ok (.ior, 1) := by decide +kernel
theorem dX0_actIn_79 : decode cX0_actIn 79 = .ok (.iastore, 1) := by decide +kernel
theorem dX0_actIn_80 : decode cX0_actIn 80 = .ok (.goto 27, 3) := by decide +kernel
theorem dX0_actIn_83 : decode cX0_actIn 83 = .ok (.aload_n 2, 1) := by decide +kernel
theorem dX0_actIn_84 : decode cX0_actIn 84 = .ok (.getfield 71, 3) := by decide +kernel
theorem dX0_actIn_87 : decode cX0_actIn 87 = .ok (.aload_n 0, 1) := by decide +kernel
theorem dX0_actIn_88 : decode cX0_actIn 88 = .ok (.getfield 44, 3) := by decide +kernel
theorem dX0_actIn_91 : decode cX0_actIn 91 = .ok (.iload_n 3, 1) := by decide +kernel
theorem dX0_actIn_92 : decode cX0_actIn 92 = .ok (.iaload, 1) := by decide +kernel
theorem dX0_actIn_93 : decode cX0_actIn 93 = .ok (.dup2, 1) := by decide +kernel
theorem dX0_actIn_94 : decode cX0_actIn 94 = .ok (.iaload, 1) := by decide +kernel
theorem dX0_actIn_95 : decode cX0_actIn 95 = .ok (.iconst 1, 1) := by decide +kernel
theorem dX0_actIn_96 : decode cX0_actIn 96 = .ok (.aload_n 0, 1) := by decide +kernel
theorem dX0_actIn_97 : decode cX0_actIn 97 = .ok (.getfield 47, 3) := by decide +kernel
theorem dX0_actIn_100 : decode cX0_actIn 100 = .ok (.iload_n 3, 1) := by decide +kernel
theorem dX0_actIn_101 : decode cX0_actIn 101 = .ok (.iaload, 1) := by decide +kernel
theorem dX0_actIn_102 : decode cX0_actIn 102 = .ok (.ishl, 1) := by decide +kernel
theorem dX0_actIn_103 : decode cX0_actIn 103 = .ok (.iconst (-1), 1) := by decide +kernel
theorem dX0_actIn_104 : decode cX0_actIn 104 = .ok (.ixor, 1) := by decide +kernel
theorem dX0_actIn_105 : decode cX0_actIn 105 = .ok (.iand, 1) := by decide +kernel
theorem dX0_actIn_106 : decode cX0_actIn 106 = .ok (.iastore, 1) := by decide +kernel
theorem dX0_actIn_107 : decode cX0_actIn 107 = .ok (.iinc 3 1, 3) := by decide +kernel
theorem dX0_actIn_110 : decode cX0_actIn 110 = .ok (.goto (-108), 3) := by decide +kernel
theorem dX0_actIn_113 : decode cX0_actIn 113 = .ok (.return_, 1) := by decide +kernel
theorem dX1_init_0 : decode cX1_init 0 = .ok (.aload_n 0, 1) := by decide +kernel
theorem dX1_init_1 : decode cX1_init 1 = .ok (.invokespecial 3, 3) := by decide +kernel
theorem dX1_init_4 : decode cX1_init 4 = .ok (.aload_n 0, 1) := by decide +kernel
theorem dX1_init_5 : decode cX1_init 5 = .ok (.iconst 0, 1) := by decide +kernel
theorem dX1_init_6 : decode cX1_init 6 = .ok (.putfield 9, 3) := by decide +kernel
theorem dX1_init_9 : decode cX1_init 9 = .ok (.aload_n 0, 1) := by decide +kernel
theorem dX1_init_10 : decode cX1_init 10 = .ok (.iconst 0, 1) := by decide +kernel
theorem dX1_init_11 : decode cX1_init 11 = .ok (.putfield 15, 3) := by decide +kernel
theorem dX1_init_14 : decode cX1_init 14 = .ok (.aload_n 0, 1) := by decide +kernel
theorem dX1_init_15 : decode cX1_init 15 = .ok (.iconst 0, 1) := by decide +kernel
theorem dX1_init_16 : decode cX1_init 16 = .ok (.putfield 18, 3) := by decide +kernel
theorem dX1_init_19 : decode cX1_init 19 = .ok (.aload_n 0, 1) := by decide +kernel
theorem dX1_init_20 : decode cX1_init 20 = .ok (.iconst 0, 1) := by decide +kernel
theorem dX1_init_21 : decode cX1_init 21 = .ok (.putfield 21, 3) := by decide +kernel
theorem dX1_init_24 : decode cX1_init 24 = .ok (.aload_n 0, 1) := by decide +kernel
theorem dX1_init_25 : decode cX1_init 25 = .ok (.bipush 6, 2) := by decide +kernel
theorem dX1_init_27 : decode cX1_init 27 = .ok (.newarray .int, 2) := by decide +kernel
theorem dX1_init_29 : decode cX1_init 29 = .ok (.putfield 24, 3) := by decide +kernel
theorem dX1_init_32 : decode cX1_init 32 = .ok (.aload_n 0, 1) := by decide +kernel
theorem dX1_init_33 : decode cX1_init 33 = .ok (.bipush 42, 2) := by decide +kernel
theorem dX1_init_35 : decode cX1_init 35 = .ok (.newarray .int, 2) := by decide +kernel
theorem dX1_init_37 : decode cX1_init 37 = .ok (.putfield 28, 3) := by decide +kernel
theorem dX1_init_40 : decode cX1_init 40 = .ok (.aload_n 0, 1) := by decide +kernel
theorem dX1_init_41 : decode cX1_init 41 = .ok (.bipush 42, 2) := by decide +kernel
theorem dX1_init_43 : decode cX1_init 43 = .ok (.newarray .int, 2) := by decide +kernel
theorem dX1_init_45 : decode cX1_init 45 = .ok (.putfield 31, 3) := by decide +kernel
theorem dX1_init_48 : decode cX1_init 48 = .ok (.aload_n 0, 1) := by decide +kernel
theorem dX1_init_49 : decode cX1_init 49 = .ok (.bipush 6, 2) := by decide +kernel
theorem dX1_init_51 : decode cX1_init 51 = .ok (.newarray .int, 2) := by decide +kernel
theorem dX1_init_53 : decode cX1_init 53 = .ok (.putfield 34, 3) := by decide +kernel
theorem dX1_init_56 : decode cX1_init 56 = .ok (.aload_n 0, 1) := by decide +kernel
theorem dX1_init_57 : decode cX1_init 57 = .ok (.iconst 0, 1) := by decide +kernel
theorem dX1_init_58 : decode cX1_init 58 = .ok (.putfield 37, 3) := by decide +kernel
theorem dX1_init_61 : decode cX1_init 61 = .ok (.aload_n 0, 1) := by decide +kernel
theorem dX1_init_62 : decode cX1_init 62 = .ok (.iconst 0, 1) := by decide +kernel
theorem dX1_init_63 : decode cX1_init 63 = .ok (.putfield 40, 3) := by decide +kernel
theorem dX1_init_66 : decode cX1_init 66 = .ok (.aload_n 0, 1) := by decide +kernel
theorem dX1_init_67 : decode cX1_init 67 = .ok (.iconst 0, 1) := by decide +kernel
theorem dX1_init_68 : decode cX1_init 68 = .ok (.putfield 43, 3) := by decide +kernel
theorem dX1_init_71 : decode cX1_init 71 = .ok (.aload_n 0, 1) := by decide +kernel
theorem dX1_init_72 : decode cX1_init 72 = .ok (.iconst 0, 1) := by decide +kernel
theorem dX1_init_73 : decode cX1_init 73 = .ok (.putfield 46, 3) := by decide +kernel
theorem dX1_init_76 : decode cX1_init 76 = .ok (.return_, 1) := by decide +kernel
theorem dX1_weigh_0 : decode cX1_weigh 0 = .ok (.aload_n 0, 1) := by decide +kernel
theorem dX1_weigh_1 : decode cX1_weigh 1 = .ok (.aload_n 1, 1) := by decide +kernel
theorem dX1_weigh_2 : decode cX1_weigh 2 = .ok (.getfield 49, 3) := by decide +kernel
theorem dX1_weigh_5 : decode cX1_weigh 5 = .ok (.putfield 37, 3) := by decide +kernel
theorem dX1_weigh_8 : decode cX1_weigh 8 = .ok (.aload_n 0, 1) := by decide +kernel
theorem dX1_weigh_9 : decode cX1_weigh 9 = .ok (.aload_n 1, 1) := by decide +kernel
theorem dX1_weigh_10 : decode cX1_weigh 10 = .ok (.getfield 52, 3) := by decide +kernel
theorem dX1_weigh_13 : decode cX1_weigh 13 = .ok (.putfield 40, 3) := by decide +kernel
theorem dX1_weigh_16 : decode cX1_weigh 16 = .ok (.aload_n 0, 1) := by decide +kernel
theorem dX1_weigh_17 : decode cX1_weigh 17 = .ok (.aload_n 1, 1) := by decide +kernel
theorem dX1_weigh_18 : decode cX1_weigh 18 = .ok (.invokevirtual 53, 3) := by decide +kernel
theorem dX1_weigh_21 : decode cX1_weigh 21 = .ok (.aload_n 0, 1) := by decide +kernel
theorem dX1_weigh_22 : decode cX1_weigh 22 = .ok (.iconst 0, 1) := by decide +kernel
theorem dX1_weigh_23 : decode cX1_weigh 23 = .ok (.putfield 15, 3) := by decide +kernel
theorem dX1_weigh_26 : decode cX1_weigh 26 = .ok (.aload_n 0, 1) := by decide +kernel
theorem dX1_weigh_27 : decode cX1_weigh 27 = .ok (.iconst 0, 1) := by decide +kernel
theorem dX1_weigh_28 : decode cX1_weigh 28 = .ok (.putfield 21, 3) := by decide +kernel
theorem dX1_weigh_31 : decode cX1_weigh 31 = .ok (.iconst 0, 1) := by decide +kernel
theorem dX1_weigh_32 : decode cX1_weigh 32 = .ok (.istore_n 2, 1) := by decide +kernel
theorem dX1_weigh_33 : decode cX1_weigh 33 = .ok (.iload_n 2, 1) := by decide +kernel
theorem dX1_weigh_34 : decode cX1_weigh 34 = .ok (.aload_n 0, 1) := by decide +kernel
theorem dX1_weigh_35 : decode cX1_weigh 35 = .ok (.getfield 37, 3) := by decide +kernel
theorem dX1_weigh_38 : decode cX1_weigh 38 = .ok (.if_icmp .ge 16, 3) := by decide +kernel
theorem dX1_weigh_41 : decode cX1_weigh 41 = .ok (.aload_n 0, 1) := by decide +kernel
theorem dX1_weigh_42 : decode cX1_weigh 42 = .ok (.getfield 34, 3) := by decide +kernel
theorem dX1_weigh_45 : decode cX1_weigh 45 = .ok (.iload_n 2, 1) := by decide +kernel
theorem dX1_weigh_46 : decode cX1_weigh 46 = .ok (.iload_n 2, 1) := by decide +kernel
theorem dX1_weigh_47 : decode cX1_weigh 47 = .ok (.iastore, 1) := by decide +kernel
theorem dX1_weigh_48 : decode cX1_weigh 48 = .ok (.iinc 2 1, 3) := by decide +kernel
theorem dX1_weigh_51 : decode cX1_weigh 51 = .ok (.goto (-18), 3) := by decide +kernel
theorem dX1_weigh_54 : decode cX1_weigh 54 = .ok (.iconst 1, 1) := by decide +kernel
theorem dX1_weigh_55 : decode cX1_weigh 55 = .ok (.istore_n 2, 1) := by decide +kernel
theorem dX1_weigh_56 : decode cX1_weigh 56 = .ok (.iconst 0, 1) := by decide +kernel
theorem dX1_weigh_57 : decode cX1_weigh 57 = .ok (.istore_n 3, 1) := by decide +kernel
theorem dX1_weigh_58 : decode cX1_weigh 58 = .ok (.iload_n 3, 1) := by decide +kernel
theorem dX1_weigh_59 : decode cX1_weigh 59 = .ok (.sipush 720, 3) := by decide +kernel
theorem dX1_weigh_62 : decode cX1_weigh 62 = .ok (.if_icmp .ge 31, 3) := by decide +kernel
theorem dX1_weigh_65 : decode cX1_weigh 65 = .ok (.iload_n 2, 1) := by decide +kernel
theorem dX1_weigh_66 : decode cX1_weigh 66 = .ok (.ifCond .eq 27, 3) := by decide +kernel
theorem dX1_weigh_69 : decode cX1_weigh 69 = .ok (.aload_n 0, 1) := by decide +kernel
theorem dX1_weigh_70 : decode cX1_weigh 70 = .ok (.iload_n 3, 1) := by decide +kernel
theorem dX1_weigh_71 : decode cX1_weigh 71 = .ok (.ifCond .ne 7, 3) := by decide +kernel
theorem dX1_weigh_74 : decode cX1_weigh 74 = .ok (.iconst 1, 1) := by decide +kernel
theorem dX1_weigh_75 : decode cX1_weigh 75 = .ok (.goto 4, 3) := by decide +kernel
theorem dX1_weigh_78 : decode cX1_weigh 78 = .ok (.iconst 0, 1) := by decide +kernel
theorem dX1_weigh_79 : decode cX1_weigh 79 = .ok (.invokevirtual 57, 3) := by decide +kernel
theorem dX1_weigh_82 : decode cX1_weigh 82 = .ok (.aload_n 0, 1) := by decide +kernel
theorem dX1_weigh_83 : decode cX1_weigh 83 = .ok (.invokevirtual 61, 3) := by decide +kernel
theorem dX1_weigh_86 : decode cX1_weigh 86 = .ok (.istore_n 2, 1) := by decide +kernel
theorem dX1_weigh_87 : decode cX1_weigh 87 = .ok (.iinc 3 1, 3) := by decide +kernel
theorem dX1_weigh_90 : decode cX1_weigh 90 = .ok (.goto (-32), 3) := by decide +kernel
theorem dX1_weigh_93 : decode cX1_weigh 93 = .ok (.return_, 1) := by decide +kernel
theorem dX1_fillTables_0 : decode cX1_fillTables 0 = .ok (.iconst 0, 1) := by decide +kernel
theorem dX1_fillTables_1 : decode cX1_fillTables 1 = .ok (.istore_n 2, 1) := by decide +kernel
theorem dX1_fillTables_2 : decode cX1_fillTables 2 = .ok (.iload_n 2, 1) := by decide +kernel
theorem dX1_fillTables_3 : decode cX1_fillTables 3 = .ok (.aload_n 0, 1) := by decide +kernel
theorem dX1_fillTables_4 : decode cX1_fillTables 4 = .ok (.getfield 37, 3) := by decide +kernel
theorem dX1_fillTables_7 : decode cX1_fillTables 7 = .ok (.if_icmp .ge 84, 3) := by decide +kernel
theorem dX1_fillTables_10 : decode cX1_fillTables 10 = .ok (.iconst (-1), 1) := by decide +kernel
theorem dX1_fillTables_11 : decode cX1_fillTables 11 = .ok (.istore_n 3, 1) := by decide +kernel
theorem dX1_fillTables_12 : decode cX1_fillTables 12 = .ok (.iload_n 3, 1) := by decide +kernel
theorem dX1_fillTables_13 : decode cX1_fillTables 13 = .ok (.aload_n 0, 1) := by decide +kernel
theorem dX1_fillTables_14 : decode cX1_fillTables 14 = .ok (.getfield 37, 3) := by decide +kernel
theorem dX1_fillTables_17 : decode cX1_fillTables 17 = .ok (.if_icmp .ge 68, 3) := by decide +kernel
theorem dX1_fillTables_20 : decode cX1_fillTables 20 = .ok (.aload_n 1, 1) := by decide +kernel
theorem dX1_fillTables_21 : decode cX1_fillTables 21 = .ok (.iload_n 2, 1) := by decide +kernel
theorem dX1_fillTables_22 : decode cX1_fillTables 22 = .ok (.iload_n 3, 1) := by decide +kernel
theorem dX1_fillTables_23 : decode cX1_fillTables 23 = .ok (.invokevirtual 65, 3) := by decide +kernel
theorem dX1_fillTables_26 : decode cX1_fillTables 26 = .ok (.istore 4, 2) := by decide +kernel
theorem dX1_fillTables_28 : decode cX1_fillTables 28 = .ok (.iload_n 2, 1) := by decide +kernel
theorem dX1_fillTables_29 : decode cX1_fillTables 29 = .ok (.bipush 7, 2) := by decide +kernel
theorem dX1_fillTables_31 : decode cX1_fillTables 31 = .ok (.imul, 1) := by decide +kernel
theorem dX1_fillTables_32 : decode cX1_fillTables 32 = .ok (.iload_n 3, 1) := by decide +kernel
theorem dX1_fillTables_33 : decode cX1_fillTables 33 = .ok (.iadd, 1) := by decide +kernel
theorem dX1_fillTables_34 : decode cX1_fillTables 34 = .ok (.iconst 1, 1) := by decide +kernel
theorem dX1_fillTables_35 : decode cX1_fillTables 35 = .ok (.iadd, 1) := by decide +kernel
theorem dX1_fillTables_36 : decode cX1_fillTables 36 = .ok (.istore 5, 2) := by decide +kernel
theorem dX1_fillTables_38 : decode cX1_fillTables 38 = .ok (.aload_n 0, 1) := by decide +kernel
theorem dX1_fillTables_39 : decode cX1_fillTables 39 = .ok (.getfield 28, 3) := by decide +kernel
theorem dX1_fillTables_42 : decode cX1_fillTables 42 = .ok (.iload 5, 2) := by decide +kernel
theorem dX1_fillTables_44 : decode cX1_fillTables 44 = .ok (.aload_n 1, 1) := by decide +kernel
theorem dX1_fillTables_45 : decode cX1_fillTables 45 = .ok (.iload_n 2, 1) := by decide +kernel
theorem dX1_fillTables_46 : decode cX1_fillTables 46 = .ok (.iload 4, 2) := by decide +kernel
theorem dX1_fillTables_48 : decode cX1_fillTables 48 = .ok (.invokevirtual 69, 3) := by decide +kernel
theorem dX1_fillTables_51 : decode cX1_fillTables 51 = .ok (.aload_n 1, 1) := by decide +kernel
theorem dX1_fillTables_52 : decode cX1_fillTables 52 = .ok (.iload_n 2, 1) := by decide +kernel
theorem dX1_fillTables_53 : decode cX1_fillTables 53 = .ok (.iload_n 3, 1) := by decide +kernel
theorem dX1_fillTables_54 : decode cX1_fillTables 54 = .ok (.iload 4, 2) := by decide +kernel
theorem dX1_fillTables_56 : decode cX1_fillTables 56 = .ok (.invokevirtual 72, 3) := by decide +kernel
theorem dX1_fillTables_59 : decode cX1_fillTables 59 = .ok (.isub, 1) := by decide +kernel
theorem dX1_fillTables_60 : decode cX1_fillTables 60 = .ok (.iastore, 1) := by decide +kernel
theorem dX1_fillTables_61 : decode cX1_fillTables 61 = .ok (.aload_n 0, 1) := by decide +kernel
theorem dX1_fillTables_62 : decode cX1_fillTables 62 = .ok (.getfield 31, 3) := by decide +kernel
theorem dX1_fillTables_65 : decode cX1_fillTables 65 = .ok (.iload 5, 2) := by decide +kernel
theorem dX1_fillTables_67 : decode cX1_fillTables 67 = .ok (.iload 4, 2) := by decide +kernel
theorem dX1_fillTables_69 : decode cX1_fillTables 69 = .ok (.iconst (-1), 1) := by decide +kernel
theorem dX1_fillTables_70 : decode cX1_fillTables 70 = .ok (.if_icmp .ne 7, 3) := by decide +kernel
theorem dX1_fillTables_73 : decode cX1_fillTables 73 = .ok (.iconst 1, 1) := by decide +kernel
theorem dX1_fillTables_74 : decode cX1_fillTables 74 = .ok (.goto 4, 3) := by decide +kernel
theorem dX1_fillTables_77 : decode cX1_fillTables 77 = .ok (.iconst 0, 1) := by decide +kernel
theorem dX1_fillTables_78 : decode cX1_fillTables 78 = .ok (.iastore, 1) := by decide +kernel
theorem dX1_fillTables_79 : decode cX1_fillTables 79 = .ok (.iinc 3 1, 3) := by decide +kernel
theorem dX1_fillTables_82 : decode cX1_fillTables 82 = .ok (.goto (-70), 3) := by decide +kernel
theorem dX1_fillTables_85 : decode cX1_fillTables 85 = .ok (.iinc 2 1, 3) := by decide +kernel
theorem dX1_fillTables_88 : decode cX1_fillTables 88 = .ok (.goto (-86), 3) := by decide +kernel
theorem dX1_fillTables_91 : decode cX1_fillTables 91 = .ok (.return_, 1) := by decide +kernel
theorem dX1_weighRow_0 : decode cX1_weighRow 0 = .ok (.aload_n 0, 1) := by decide +kernel
theorem dX1_weighRow_1 : decode cX1_weighRow 1 = .ok (.aload_n 0, 1) := by decide +kernel
theorem dX1_weighRow_2 : decode cX1_weighRow 2 = .ok (.getfield 37, 3) := by decide +kernel
theorem dX1_weighRow_5 : decode cX1_weighRow 5 = .ok (.invokevirtual 76, 3) := by decide +kernel
theorem dX1_weighRow_8 : decode cX1_weighRow 8 = .ok (.iload_n 1, 1) := by decide +kernel
theorem dX1_weighRow_9 : decode cX1_weighRow 9 = .ok (.ifCond .ne 14, 3) := by decide +kernel
theorem dX1_weighRow_12 : decode cX1_weighRow 12 = .ok (.aload_n 0, 1) := by decide +kernel
theorem dX1_weighRow_13 : decode cX1_weighRow 13 = .ok (.getfield 43, 3) := by decide +kernel
theorem dX1_weighRow_16 : decode cX1_weighRow 16 = .ok (.aload_n 0, 1) := by decide +kernel
theorem dX1_weighRow_17 : decode cX1_weighRow 17 = .ok (.getfield 9, 3) := by decide +kernel
theorem dX1_weighRow_20 : decode cX1_weighRow 20 = .ok (.if_icmp .le 33, 3) := by decide +kernel
theorem dX1_weighRow_23 : decode cX1_weighRow 23 = .ok (.aload_n 0, 1) := by decide +kernel
theorem dX1_weighRow_24 : decode cX1_weighRow 24 = .ok (.aload_n 0, 1) := by decide +kernel
theorem dX1_weighRow_25 : decode cX1_weighRow 25 = .ok (.getfield 43, 3) := by decide +kernel
theorem dX1_weighRow_28 : decode cX1_weighRow 28 = .ok (.putfield 9, 3) := by decide +kernel
theorem dX1_weighRow_31 : decode cX1_weighRow 31 = .ok (.aload_n 0, 1) := by decide +kernel
theorem dX1_weighRow_32 : decode cX1_weighRow 32 = .ok (.iconst 0, 1) := by decide +kernel
theorem dX1_weighRow_33 : decode cX1_weighRow 33 = .ok (.putfield 15, 3) := by decide +kernel
theorem dX1_weighRow_36 : decode cX1_weighRow 36 = .ok (.aload_n 0, 1) := by decide +kernel
theorem dX1_weighRow_37 : decode cX1_weighRow 37 = .ok (.getfield 34, 3) := by decide +kernel
theorem dX1_weighRow_40 : decode cX1_weighRow 40 = .ok (.iconst 0, 1) := by decide +kernel
theorem dX1_weighRow_41 : decode cX1_weighRow 41 = .ok (.aload_n 0, 1) := by decide +kernel
theorem dX1_weighRow_42 : decode cX1_weighRow 42 = .ok (.getfield 24, 3) := by decide +kernel
theorem dX1_weighRow_45 : decode cX1_weighRow 45 = .ok (.iconst 0, 1) := by decide +kernel
theorem dX1_weighRow_46 : decode cX1_weighRow 46 = .ok (.aload_n 0, 1) := by decide +kernel
theorem dX1_weighRow_47 : decode cX1_weighRow 47 = .ok (.getfield 37, 3) := by decide +kernel
theorem dX1_weighRow_50 : decode cX1_weighRow 50 = .ok (.invokestatic 80, 3) := by decide +kernel
theorem dX1_weighRow_53 : decode cX1_weighRow 53 = .ok (.aload_n 0, 1) := by decide +kernel
theorem dX1_weighRow_54 : decode cX1_weighRow 54 = .ok (.getfield 43, 3) := by decide +kernel
theorem dX1_weighRow_57 : decode cX1_weighRow 57 = .ok (.aload_n 0, 1) := by decide +kernel
theorem dX1_weighRow_58 : decode cX1_weighRow 58 = .ok (.getfield 9, 3) := by decide +kernel
theorem dX1_weighRow_61 : decode cX1_weighRow 61 = .ok (.if_icmp .ne 13, 3) := by decide +kernel
theorem dX1_weighRow_64 : decode cX1_weighRow 64 = .ok (.aload_n 0, 1) := by decide +kernel
theorem dX1_weighRow_65 : decode cX1_weighRow 65 = .ok (.dup, 1) := by decide +kernel
theorem dX1_weighRow_66 : decode cX1_weighRow 66 = .ok (.getfield 15, 3) := by decide +kernel
theorem dX1_weighRow_69 : decode cX1_weighRow 69 = .ok (.iconst 1, 1) := by decide +kernel
theorem dX1_weighRow_70 : decode cX1_weighRow 70 = .ok (.iadd, 1) := by decide +kernel
theorem dX1_weighRow_71 : decode cX1_weighRow 71 = .ok (.putfield 15, 3) := by decide +kernel
theorem dX1_weighRow_74 : decode cX1_weighRow 74 = .ok (.aload_n 0, 1) := by decide +kernel
theorem dX1_weighRow_75 : decode cX1_weighRow 75 = .ok (.iload_n 1, 1) := by decide +kernel
theorem dX1_weighRow_76 : decode cX1_weighRow 76 = .ok (.ifCond .eq 10, 3) := by decide +kernel
theorem dX1_weighRow_79 : decode cX1_weighRow 79 = .ok (.aload_n 0, 1) := by decide +kernel
theorem dX1_weighRow_80 : decode cX1_weighRow 80 = .ok (.getfield 46, 3) := by decide +kernel
theorem dX1_weighRow_83 : decode cX1_weighRow 83 = .ok (.goto 14, 3) := by decide +kernel
theorem dX1_weighRow_86 : decode cX1_weighRow 86 = .ok (.aload_n 0, 1) := by decide +kernel
theorem dX1_weighRow_87 : decode cX1_weighRow 87 = .ok (.getfield 18, 3) := by decide +kernel
theorem dX1_weighRow_90 : decode cX1_weighRow 90 = .ok (.aload_n 0, 1) := by decide +kernel
theorem dX1_weighRow_91 : decode cX1_weighRow 91 = .ok (.getfield 46, 3) := by decide +kernel
theorem dX1_weighRow_94 : decode cX1_weighRow 94 = .ok (.invokestatic 86, 3) := by decide +kernel
theorem dX1_weighRow_97 : decode cX1_weighRow 97 = .ok (.putfield 18, 3) := by decide +kernel
theorem dX1_weighRow_100 : decode cX1_weighRow 100 = .ok (.aload_n 0, 1) := by decide +kernel
theorem dX1_weighRow_101 : decode cX1_weighRow 101 = .ok (.getfield 46, 3) := by decide +kernel
theorem dX1_weighRow_104 : decode cX1_weighRow 104 = .ok (.ifCond .ne 13, 3) := by decide +kernel
theorem dX1_weighRow_107 : decode cX1_weighRow 107 = .ok (.aload_n 0, 1) := by decide +kernel
theorem dX1_weighRow_108 : decode cX1_weighRow 108 = .ok (.dup, 1) := by decide +kernel
theorem dX1_weighRow_109 : decode cX1_weighRow 109 = .ok (.getfield 21, 3) := by decide +kernel
theorem dX1_weighRow_112 : decode cX1_weighRow 112 = .ok (.iconst 1, 1) := by decide +kernel
theorem dX1_weighRow_113 : decode cX1_weighRow 113 = .ok (.iadd, 1) := by decide +kernel
theorem dX1_weighRow_114 : decode cX1_weighRow 114 = .ok (.putfield 21, 3) := by decide +kernel
theorem dX1_weighRow_117 : decode cX1_weighRow 117 = .ok (.return_, 1) := by decide +kernel
theorem dX1_sumUp_0 : decode cX1_sumUp 0 = .ok (.aload_n 0, 1) := by decide +kernel
theorem dX1_sumUp_1 : decode cX1_sumUp 1 = .ok (.iconst 0, 1) := by decide +kernel
theorem dX1_sumUp_2 : decode cX1_sumUp 2 = .ok (.putfield 43, 3) := by decide +kernel
theorem dX1_sumUp_5 : decode cX1_sumUp 5 = .ok (.aload_n 0, 1) := by decide +kernel
theorem dX1_sumUp_6 : decode cX1_sumUp 6 = .ok (.iconst 0, 1) := by decide +kernel
theorem dX1_sumUp_7 : decode cX1_sumUp 7 = .ok (.putfield 46, 3) := by decide +kernel
theorem dX1_sumUp_10 : decode cX1_sumUp 10 = .ok (.iconst 0, 1) := by decide +kernel
theorem dX1_sumUp_11 : decode cX1_sumUp 11 = .ok (.istore_n 2, 1) := by decide +kernel
theorem dX1_sumUp_12 : decode cX1_sumUp 12 = .ok (.iload_n 2, 1) := by decide +kernel
theorem dX1_sumUp_13 : decode cX1_sumUp 13 = .ok (.iload_n 1, 1) := by decide +kernel
theorem dX1_sumUp_14 : decode cX1_sumUp 14 = .ok (.if_icmp .ge 65, 3) := by decide +kernel
theorem dX1_sumUp_17 : decode cX1_sumUp 17 = .ok (.aload_n 0, 1) := by decide +kernel
theorem dX1_sumUp_18 : decode cX1_sumUp 18 = .ok (.getfield 34, 3) := by decide +kernel
theorem dX1_sumUp_21 : decode cX1_sumUp 21 = .ok (.iload_n 2, 1) := by decide +kernel
theorem dX1_sumUp_22 : decode cX1_sumUp 22 = .ok (.iaload, 1) := by decide +kernel
theorem dX1_sumUp_23 : decode cX1_sumUp 23 = .ok (.bipush 7, 2) := by decide +kernel
theorem dX1_sumUp_25 : decode cX1_sumUp 25 = .ok (.imul, 1) := by decide +kernel
theorem dX1_sumUp_26 : decode cX1_sumUp 26 = .ok (.aload_n 0, 1) := by decide +kernel
theorem dX1_sumUp_27 : decode cX1_sumUp 27 = .ok (.getfield 34, 3) := by decide +kernel
theorem dX1_sumUp_30 : decode cX1_sumUp 30 = .ok (.iload_n 1, 1) := by decide +kernel
theorem dX1_sumUp_31 : decode cX1_sumUp 31 = .ok (.iload_n 2, 1) := by decide +kernel
theorem dX1_sumUp_32 : decode cX1_sumUp 32 = .ok (.aload_n 0, 1) := by decide +kernel
theorem dX1_sumUp_33 : decode cX1_sumUp 33 = .ok (.getfield 40, 3) := by decide +kernel
theorem dX1_sumUp_36 : decode cX1_sumUp 36 = .ok (.invokestatic 91, 3) := by decide +kernel
theorem dX1_sumUp_39 : decode cX1_sumUp 39 = .ok (.iadd, 1) := by decide +kernel
theorem dX1_sumUp_40 : decode cX1_sumUp 40 = .ok (.iconst 1, 1) := by decide +kernel
theorem dX1_sumUp_41 : decode cX1_sumUp 41 = .ok (.iadd, 1) := by decide +kernel
theorem dX1_sumUp_42 : decode cX1_sumUp 42 = .ok (.istore_n 3, 1) := by decide +kernel
theorem dX1_sumUp_43 : decode cX1_sumUp 43 = .ok (.aload_n 0, 1) := by decide +kernel
theorem dX1_sumUp_44 : decode cX1_sumUp 44 = .ok (.dup, 1) := by decide +kernel
theorem dX1_sumUp_45 : decode cX1_sumUp 45 = .ok (.getfield 43, 3) := by decide +kernel
theorem dX1_sumUp_48 : decode cX1_sumUp 48 = .ok (.aload_n 0, 1) := by decide +kernel
theorem dX1_sumUp_49 : decode cX1_sumUp 49 = .ok (.getfield 28, 3) := by decide +kernel
theorem dX1_sumUp_52 : decode cX1_sumUp 52 = .ok (.iload_n 3, 1) := by decide +kernel
theorem dX1_sumUp_53 : decode cX1_sumUp 53 = .ok (.iaload, 1) := by decide +kernel
theorem dX1_sumUp_54 : decode cX1_sumUp 54 = .ok (.iadd, 1) := by decide +kernel
theorem dX1_sumUp_55 : decode cX1_sumUp 55 = .ok (.putfield 43, 3) := by decide +kernel
theorem dX1_sumUp_58 : decode cX1_sumUp 58 = .ok (.aload_n 0, 1) := by decide +kernel
theorem dX1_sumUp_59 : decode cX1_sumUp 59 = .ok (.dup, 1) := by decide +kernel
theorem dX1_sumUp_60 : decode cX1_sumUp 60 = .ok (.getfield 46, 3) := by decide +kernel
theorem dX1_sumUp_63 : decode cX1_sumUp 63 = .ok (.aload_n 0, 1) := by decide +kernel
theorem dX1_sumUp_64 : decode cX1_sumUp 64 = .ok (.getfield 31, 3) := by decide +kernel
theorem dX1_sumUp_67 : decode cX1_sumUp 67 = .ok (.iload_n 3, 1) := by decide +kernel
theorem dX1_sumUp_68 : decode cX1_sumUp 68 = .ok (.iaload, 1) := by decide +kernel
theorem dX1_sumUp_69 : decode cX1_sumUp 69 = .ok (.iadd, 1) := by decide +kernel
theorem dX1_sumUp_70 : decode cX1_sumUp 70 = .ok (.putfield 46, 3) := by decide +kernel
theorem dX1_sumUp_73 : decode cX1_sumUp 73 = .ok (.iinc 2 1, 3) := by decide +kernel
theorem dX1_sumUp_76 : decode cX1_sumUp 76 = .ok (.goto (-64), 3) := by decide +kernel
theorem dX1_sumUp_79 : decode cX1_sumUp 79 = .ok (.return_, 1) := by decide +kernel
theorem dX1_goToNextRow_0 : decode cX1_goToNextRow 0 = .ok (.aload_n 0, 1) := by decide +kernel
theorem dX1_goToNextRow_1 : decode cX1_goToNextRow 1 = .ok (.getfield 37, 3) := by decide +kernel
theorem dX1_goToNextRow_4 : decode cX1_goToNextRow 4 = .ok (.iconst 2, 1) := by decide +kernel
theorem dX1_goToNextRow_5 : decode cX1_goToNextRow 5 = .ok (.isub, 1) := by decide +kernel
theorem dX1_goToNextRow_6 : decode cX1_goToNextRow 6 = .ok (.istore_n 1, 1) := by decide +kernel
theorem dX1_goToNextRow_7 : decode cX1_goToNextRow 7 = .ok (.iload_n 1, 1) := by decide +kernel
theorem dX1_goToNextRow_8 : decode cX1_goToNextRow 8 = .ok (.ifCond .lt 26, 3) := by decide +kernel
theorem dX1_goToNextRow_11 : decode cX1_goToNextRow 11 = .ok (.aload_n 0, 1) := by decide +kernel
theorem dX1_goToNextRow_12 : decode cX1_goToNextRow 12 = .ok (.getfield 34, 3) := by decide +kernel
theorem dX1_goToNextRow_15 : decode cX1_goToNextRow 15 = .ok (.iload_n 1, 1) := by decide +kernel
theorem dX1_goToNextRow_16 : decode cX1_goToNextRow 16 = .ok (.iaload, 1) := by decide +kernel
theorem dX1_goToNextRow_17 : decode cX1_goToNextRow 17 = .ok (.aload_n 0, 1) := by decide +kernel
theorem dX1_goToNextRow_18 : decode cX1_goToNextRow 18 = .ok (.getfield 34, 3) := by decide +kernel
theorem dX1_goToNextRow_21 : decode cX1_goToNextRow 21 = .ok (.iload_n 1, 1) := by decide +kernel
theorem dX1_goToNextRow_22 : decode cX1_goToNextRow 22 = .ok (.iconst 1, 1) := by decide +kernel
theorem dX1_goToNextRow_23 : decode cX1_goToNextRow 23 = .ok (.iadd, 1) := by decide +kernel
theorem dX1_goToNextRow_24 : decode cX1_goToNextRow 24 = .ok (.iaload, 1) := by decide +kernel
theorem dX1_goToNextRow_25 : decode cX1_goToNextRow 25 = .ok (.if_icmp .le 9, 3) := by decide +kernel
theorem dX1_goToNextRow_28 : decode cX1_goToNextRow 28 = .ok (.iinc 1 (-1), 3) := by decide +kernel
theorem dX1_goToNextRow_31 : decode cX1_goToNextRow 31 = .ok (.goto (-24), 3) := by decide +kernel
theorem dX1_goToNextRow_34 : decode cX1_goToNextRow 34 = .ok (.iload_n 1, 1) := by decide +kernel
theorem dX1_goToNextRow_35 : decode cX1_goToNextRow 35 = .ok (.ifCond .ge 5, 3) := by decide +kernel
theorem dX1_goToNextRow_38 : decode cX1_goToNextRow 38 = .ok (.iconst 0, 1) := by decide +kernel
theorem dX1_goToNextRow_39 : decode cX1_goToNextRow 39 = .ok (.ireturn, 1) := by decide +kernel
theorem dX1_goToNextRow_40 : decode cX1_goToNextRow 40 = .ok (.aload_n 0, 1) := by decide +kernel
theorem dX1_goToNextRow_41 : decode cX1_goToNextRow 41 = .ok (.getfield 37, 3) := by decide +kernel
theorem dX1_goToNextRow_44 : decode cX1_goToNextRow 44 = .ok (.iconst 1, 1) := by decide +kernel
theorem dX1_goToNextRow_45 : decode cX1_goToNextRow 45 = .ok (.isub, 1) := by decide +kernel
theorem dX1_goToNextRow_46 : decode cX1_goToNextRow 46 = .ok (.istore_n 2, 1) := by decide +kernel
theorem dX1_goToNextRow_47 : decode cX1_goToNextRow 47 = .ok (.iload_n 2, 1) := by decide +kernel
theorem dX1_goToNextRow_48 : decode cX1_goToNextRow 48 = .ok (.iload_n 1, 1) := by decide +kernel
theorem dX1_goToNextRow_49 : decode cX1_goToNextRow 49 = .ok (.if_icmp .le 24, 3) := by decide +kernel
theorem dX1_goToNextRow_52 : decode cX1_goToNextRow 52 = .ok (.aload_n 0, 1) := by decide +kernel
theorem dX1_goToNextRow_53 : decode cX1_goToNextRow 53 = .ok (.getfield 34, 3) := by decide +kernel
theorem dX1_goToNextRow_56 : decode cX1_goToNextRow 56 = .ok (.iload_n 2, 1) := by decide +kernel
theorem dX1_goToNextRow_57 : decode cX1_goToNextRow 57 = .ok (.iaload, 1) := by decide +kernel
theorem dX1_goToNextRow_58 : decode cX1_goToNextRow 58 = .ok (.aload_n 0, 1) := by decide +kernel
theorem dX1_goToNextRow_59 : decode cX1_goToNextRow 59 = .ok (.getfield 34, 3) := by decide +kernel
theorem dX1_goToNextRow_62 : decode cX1_goToNextRow 62 = .ok (.iload_n 1, 1) := by decide +kernel
theorem dX1_goToNextRow_63 : decode cX1_goToNextRow 63 = .ok (.iaload, 1) := by decide +kernel
theorem dX1_goToNextRow_64 : decode cX1_goToNextRow 64 = .ok (.if_icmp .ge 9, 3) := by decide +kernel
theorem dX1_goToNextRow_67 : decode cX1_goToNextRow 67 = .ok (.iinc 2 (-1), 3) := by decide +kernel
theorem dX1_goToNextRow_70 : decode cX1_goToNextRow 70 = .ok (.goto (-23), 3) := by decide +kernel
theorem dX1_goToNextRow_73 : decode cX1_goToNextRow 73 = .ok (.aload_n 0, 1) := by decide +kernel
theorem dX1_goToNextRow_74 : decode cX1_goToNextRow 74 = .ok (.iload_n 1, 1) := by decide +kernel
theorem dX1_goToNextRow_75 : decode cX1_goToNextRow 75 = .ok (.iload_n 2, 1) := by decide +kernel
theorem dX1_goToNextRow_76 : decode cX1_goToNextRow 76 = .ok (.invokevirtual 95, 3) := by decide +kernel
theorem dX1_goToNextRow_79 : decode cX1_goToNextRow 79 = .ok (.aload_n 0, 1) := by decide +kernel
theorem dX1_goToNextRow_80 : decode cX1_goToNextRow 80 = .ok (.getfield 37, 3) := by decide +kernel
theorem dX1_goToNextRow_83 : decode cX1_goToNextRow 83 = .ok (.iconst 1, 1) := by decide +kernel
theorem dX1_goToNextRow_84 : decode cX1_goToNextRow 84 = .ok (.isub, 1) := by decide +kernel
theorem dX1_goToNextRow_85 : decode cX1_goToNextRow 85 = .ok (.istore_n 3, 1) := by decide +kernel
theorem dX1_goToNextRow_86 : decode cX1_goToNextRow 86 = .ok (.iload_n 1, 1) := by decide +kernel
theorem dX1_goToNextRow_87 : decode cX1_goToNextRow 87 = .ok (.iconst 1, 1) := by decide +kernel
theorem dX1_goToNextRow_88 : decode cX1_goToNextRow 88 = .ok (.iadd, 1) := by decide +kernel
theorem dX1_goToNextRow_89 : decode cX1_goToNextRow 89 = .ok (.istore 4, 2) := by decide +kernel
theorem dX1_goToNextRow_91 : decode cX1_goToNextRow 91 = .ok (.iload 4, 2) := by decide +kernel
theorem dX1_goToNextRow_93 : decode cX1_goToNextRow 93 = .ok (.iload_n 3, 1) := by decide +kernel
theorem dX1_goToNextRow_94 : decode cX1_goToNextRow 94 = .ok (.if_icmp .ge 19, 3) := by decide +kernel
theorem dX1_goToNextRow_97 : decode cX1_goToNextRow 97 = .ok (.aload_n 0, 1) := by decide +kernel
theorem dX1_goToNextRow_98 : decode cX1_goToNextRow 98 = .ok (.iload 4, 2) := by decide +kernel
theorem dX1_goToNextRow_100 : decode cX1_goToNextRow 100 = .ok (.iload_n 3, 1) := by decide +kernel
theorem dX1_goToNextRow_101 : decode cX1_goToNextRow 101 = .ok (.invokevirtual 95, 3) := by decide +kernel
theorem dX1_goToNextRow_104 : decode cX1_goToNextRow 104 = .ok (.iinc 3 (-1), 3) := by decide +kernel
theorem dX1_goToNextRow_107 : decode cX1_goToNextRow 107 = .ok (.iinc 4 1, 3) := by decide +kernel
theorem dX1_goToNextRow_110 : decode cX1_goToNextRow 110 = .ok (.goto (-19), 3) := by decide +kernel
theorem dX1_goToNextRow_113 : decode cX1_goToNextRow 113 = .ok (.iconst 1, 1) := by decide +kernel
theorem dX1_goToNextRow_114 : decode cX1_goToNextRow 114 = .ok (.ireturn, 1) := by decide +kernel
theorem dX1_exchange_0 : decode cX1_exchange 0 = .ok (.aload_n 0, 1) := by decide +kernel
theorem dX1_exchange_1 : decode cX1_exchange 1 = .ok (.getfield 34, 3) := by decide +kernel
theorem dX1_exchange_4 : decode cX1_exchange 4 = .ok (.iload_n 1, 1) := by decide +kernel
theorem dX1_exchange_5 : decode cX1_exchange 5 = .ok (.iaload, 1) := by decide +kernel
theorem dX1_exchange_6 : decode cX1_exchange 6 = .ok (.istore_n 3, 1) := by decide +kernel
theorem dX1_exchange_7 : decode cX1_exchange 7 = .ok (.aload_n 0, 1) := by decide +kernel
theorem dX1_exchange_8 : decode cX1_exchange 8 = .ok (.getfield 34, 3) := by decide +kernel
theorem dX1_exchange_11 : decode cX1_exchange 11 = .ok (.iload_n 1, 1) := by decide +kernel
theorem dX1_exchange_12 : decode cX1_exchange 12 = .ok (.aload_n 0, 1) := by decide +kernel
theorem dX1_exchange_13 : decode cX1_exchange 13 = .ok (.getfield 34, 3) := by decide +kernel
theorem dX1_exchange_16 : decode cX1_exchange 16 = .ok (.iload_n 2, 1) := by decide +kernel
theorem dX1_exchange_17 : decode cX1_exchange 17 = .ok (.iaload, 1) := by decide +kernel
theorem dX1_exchange_18 : decode cX1_exchange 18 = .ok (.iastore, 1) := by decide +kernel
theorem dX1_exchange_19 : decode cX1_exchange 19 = .ok (.aload_n 0, 1) := by decide +kernel
theorem dX1_exchange_20 : decode cX1_exchange 20 = .ok (.getfield 34, 3) := by decide +kernel
theorem dX1_exchange_23 : decode cX1_exchange 23 = .ok (.iload_n 2, 1) := by decide +kernel
theorem dX1_exchange_24 : decode cX1_exchange 24 = .ok (.iload_n 3, 1) := by decide +kernel
theorem dX1_exchange_25 : decode cX1_exchange 25 = .ok (.iastore, 1) := by decide +kernel
theorem dX1_exchange_26 : decode cX1_exchange 26 = .ok (.return_, 1) := by decide +kernel
theorem dX1_leastToGo_0 : decode cX1_leastToGo 0 = .ok (.iconst 1, 1) := by decide +kernel
theorem dX1_leastToGo_1 : decode cX1_leastToGo 1 = .ok (.aload_n 0, 1) := by decide +kernel
theorem dX1_leastToGo_2 : decode cX1_leastToGo 2 = .ok (.getfield 37, 3) := by decide +kernel
theorem dX1_leastToGo_5 : decode cX1_leastToGo 5 = .ok (.ishl, 1) := by decide +kernel
theorem dX1_leastToGo_6 : decode cX1_leastToGo 6 = .ok (.iconst 1, 1) := by decide +kernel
theorem dX1_leastToGo_7 : decode cX1_leastToGo 7 = .ok (.isub, 1) := by decide +kernel
theorem dX1_leastToGo_8 : decode cX1_leastToGo 8 = .ok (.istore_n 2, 1) := by decide +kernel
theorem dX1_leastToGo_9 : decode cX1_leastToGo 9 = .ok (.iconst 0, 1) := by decide +kernel
theorem dX1_leastToGo_10 : decode cX1_leastToGo 10 = .ok (.istore_n 3, 1) := by decide +kernel
theorem dX1_leastToGo_11 : decode cX1_leastToGo 11 = .ok (.iload_n 3, 1) := by decide +kernel
theorem dX1_leastToGo_12 : decode cX1_leastToGo 12 = .ok (.iconst 1, 1) := by decide +kernel
theorem dX1_leastToGo_13 : decode cX1_leastToGo 13 = .ok (.aload_n 0, 1) := by decide +kernel
theorem dX1_leastToGo_14 : decode cX1_leastToGo 14 = .ok (.getfield 37, 3) := by decide +kernel
theorem dX1_leastToGo_17 : decode cX1_leastToGo 17 = .ok (.ishl, 1) := by decide +kernel
theorem dX1_leastToGo_18 : decode cX1_leastToGo 18 = .ok (.if_icmp .ge 87, 3) := by decide +kernel
theorem dX1_leastToGo_21 : decode cX1_leastToGo 21 = .ok (.iconst 0, 1) := by decide +kernel
theorem dX1_leastToGo_22 : decode cX1_leastToGo 22 = .ok (.istore 4, 2) := by decide +kernel
theorem dX1_leastToGo_24 : decode cX1_leastToGo 24 = .ok (.iconst 0, 1) := by decide +kernel
theorem dX1_leastToGo_25 : decode cX1_leastToGo 25 = .ok (.istore 5, 2) := by decide +kernel
theorem dX1_leastToGo_27 : decode cX1_leastToGo 27 = .ok (.iload 5, 2) := by decide +kernel
theorem dX1_leastToGo_29 : decode cX1_leastToGo 29 = .ok (.aload_n 0, 1) := by decide +kernel
theorem dX1_leastToGo_30 : decode cX1_leastToGo 30 = .ok (.getfield 37, 3) := by decide +kernel
theorem dX1_leastToGo_33 : decode cX1_leastToGo 33 = .ok (.if_icmp .ge 40, 3) := by decide +kernel
theorem dX1_leastToGo_36 : decode cX1_leastToGo 36 = .ok (.iload_n 3, 1) := by decide +kernel
theorem dX1_leastToGo_37 : decode cX1_leastToGo 37 = .ok (.aload_n 1, 1) := by decide +kernel
theorem dX1_leastToGo_38 : decode cX1_leastToGo 38 = .ok (.getfield 99, 3) := by decide +kernel
theorem dX1_leastToGo_41 : decode cX1_leastToGo 41 = .ok (.iload 5, 2) := by decide +kernel
theorem dX1_leastToGo_43 : decode cX1_leastToGo 43 = .ok (.iaload, 1) := by decide +kernel
theorem dX1_leastToGo_44 : decode cX1_leastToGo 44 = .ok (.invokestatic 100, 3) := by decide +kernel
theorem dX1_leastToGo_47 : decode cX1_leastToGo 47 = .ok (.ifCond .ne 20, 3) := by decide +kernel
theorem dX1_leastToGo_50 : decode cX1_leastToGo 50 = .ok (.aload_n 0, 1) := by decide +kernel
theorem dX1_leastToGo_51 : decode cX1_leastToGo 51 = .ok (.getfield 34, 3) := by decide +kernel
theorem dX1_leastToGo_54 : decode cX1_leastToGo 54 = .ok (.iload 4, 2) := by decide +kernel
theorem dX1_leastToGo_56 : decode cX1_leastToGo 56 = .ok (.aload_n 1, 1) := by decide +kernel
theorem dX1_leastToGo_57 : decode cX1_leastToGo 57 = .ok (.getfield 99, 3) := by decide +kernel
theorem dX1_leastToGo_60 : decode cX1_leastToGo 60 = .ok (.iload 5, 2) := by decide +kernel
theorem dX1_leastToGo_62 : decode cX1_leastToGo 62 = .ok (.iaload, 1) := by decide +kernel
theorem dX1_leastToGo_63 : decode cX1_leastToGo 63 = .ok (.iastore, 1) := by decide +kernel
theorem dX1_leastToGo_64 : decode cX1_leastToGo 64 = .ok (.iinc 4 1, 3) := by decide +kernel
theorem dX1_leastToGo_67 : decode cX1_leastToGo 67 = .ok (.iinc 5 1, 3) := by decide +kernel
theorem dX1_leastToGo_70 : decode cX1_leastToGo 70 = .ok (.goto (-43), 3) := by decide +kernel
theorem dX1_leastToGo_73 : decode cX1_leastToGo 73 = .ok (.aload_n 0, 1) := by decide +kernel
theorem dX1_leastToGo_74 : decode cX1_leastToGo 74 = .ok (.iload 4, 2) := by decide +kernel
theorem dX1_leastToGo_76 : decode cX1_leastToGo 76 = .ok (.invokevirtual 76, 3) := by decide +kernel
theorem dX1_leastToGo_79 : decode cX1_leastToGo 79 = .ok (.aload_n 0, 1) := by decide +kernel
theorem dX1_leastToGo_80 : decode cX1_leastToGo 80 = .ok (.getfield 46, 3) := by decide +kernel
theorem dX1_leastToGo_83 : decode cX1_leastToGo 83 = .ok (.ifCond .ne 16, 3) := by decide +kernel
theorem dX1_leastToGo_86 : decode cX1_leastToGo 86 = .ok (.iload_n 3, 1) := by decide +kernel
theorem dX1_leastToGo_87 : decode cX1_leastToGo 87 = .ok (.invokestatic 104, 3) := by decide +kernel
theorem dX1_leastToGo_90 : decode cX1_leastToGo 90 = .ok (.iload_n 2, 1) := by decide +kernel
theorem dX1_leastToGo_91 : decode cX1_leastToGo 91 = .ok (.invokestatic 104, 3) := by decide +kernel
theorem dX1_leastToGo_94 : decode cX1_leastToGo 94 = .ok (.if_icmp .ge 5, 3) := by decide +kernel
theorem dX1_leastToGo_97 : decode cX1_leastToGo 97 = .ok (.iload_n 3, 1) := by decide +kernel
theorem dX1_leastToGo_98 : decode cX1_leastToGo 98 = .ok (.istore_n 2, 1) := by decide +kernel
theorem dX1_leastToGo_99 : decode cX1_leastToGo 99 = .ok (.iinc 3 1, 3) := by decide +kernel
theorem dX1_leastToGo_102 : decode cX1_leastToGo 102 = .ok (.goto (-91), 3) := by decide +kernel
theorem dX1_leastToGo_105 : decode cX1_leastToGo 105 = .ok (.iload_n 2, 1) := by decide +kernel
theorem dX1_leastToGo_106 : decode cX1_leastToGo 106 = .ok (.ireturn, 1) := by decide +kernel
theorem dX2_init_0 : decode cX2_init 0 = .ok (.aload_n 0, 1) := by decide +kernel
theorem dX2_init_1 : decode cX2_init 1 = .ok (.invokespecial 3, 3) := by decide +kernel
theorem dX2_init_4 : decode cX2_init 4 = .ok (.aload_n 0, 1) := by decide +kernel
theorem dX2_init_5 : decode cX2_init 5 = .ok (.iconst 0, 1) := by decide +kernel
theorem dX2_init_6 : decode cX2_init 6 = .ok (.putfield 9, 3) := by decide +kernel
theorem dX2_init_9 : decode cX2_init 9 = .ok (.aload_n 0, 1) := by decide +kernel
theorem dX2_init_10 : decode cX2_init 10 = .ok (.iconst (-1), 1) := by decide +kernel
theorem dX2_init_11 : decode cX2_init 11 = .ok (.putfield 15, 3) := by decide +kernel
theorem dX2_init_14 : decode cX2_init 14 = .ok (.aload_n 0, 1) := by decide +kernel
theorem dX2_init_15 : decode cX2_init 15 = .ok (.iconst 0, 1) := by decide +kernel
theorem dX2_init_16 : decode cX2_init 16 = .ok (.putfield 18, 3) := by decide +kernel
theorem dX2_init_19 : decode cX2_init 19 = .ok (.aload_n 0, 1) := by decide +kernel
theorem dX2_init_20 : decode cX2_init 20 = .ok (.sipush 800, 3) := by decide +kernel
theorem dX2_init_23 : decode cX2_init 23 = .ok (.newarray .byte, 2) := by decide +kernel
theorem dX2_init_25 : decode cX2_init 25 = .ok (.putfield 21, 3) := by decide +kernel
theorem dX2_init_28 : decode cX2_init 28 = .ok (.aload_n 0, 1) := by decide +kernel
theorem dX2_init_29 : decode cX2_init 29 = .ok (.iconst 0, 1) := by decide +kernel
theorem dX2_init_30 : decode cX2_init 30 = .ok (.putfield 25, 3) := by decide +kernel
theorem dX2_init_33 : decode cX2_init 33 = .ok (.aload_n 0, 1) := by decide +kernel
theorem dX2_init_34 : decode cX2_init 34 = .ok (.iconst 0, 1) := by decide +kernel
theorem dX2_init_35 : decode cX2_init 35 = .ok (.putfield 28, 3) := by decide +kernel
theorem dX2_init_38 : decode cX2_init 38 = .ok (.aload_n 0, 1) := by decide +kernel
theorem dX2_init_39 : decode cX2_init 39 = .ok (.iconst 0, 1) := by decide +kernel
theorem dX2_init_40 : decode cX2_init 40 = .ok (.putfield 31, 3) := by decide +kernel
theorem dX2_init_43 : decode cX2_init 43 = .ok (.aload_n 0, 1) := by decide +kernel
theorem dX2_init_44 : decode cX2_init 44 = .ok (.iconst 0, 1) := by decide +kernel
theorem dX2_init_45 : decode cX2_init 45 = .ok (.putfield 34, 3) := by decide +kernel
theorem dX2_init_48 : decode cX2_init 48 = .ok (.aload_n 0, 1) := by decide +kernel
theorem dX2_init_49 : decode cX2_init 49 = .ok (.iconst 0, 1) := by decide +kernel
theorem dX2_init_50 : decode cX2_init 50 = .ok (.putfield 37, 3) := by decide +kernel
theorem dX2_init_53 : decode cX2_init 53 = .ok (.return_, 1) := by decide +kernel
theorem dX2_putBytes_0 : decode cX2_putBytes 0 = .ok (.bipush 24, 2) := by decide +kernel
theorem dX2_putBytes_2 : decode cX2_putBytes 2 = .ok (.istore_n 2, 1) := by decide +kernel
theorem dX2_putBytes_3 : decode cX2_putBytes 3 = .ok (.iload_n 2, 1) := by decide +kernel
theorem dX2_putBytes_4 : decode cX2_putBytes 4 = .ok (.ifCond .lt 42, 3) := by decide +kernel
theorem dX2_putBytes_7 : decode cX2_putBytes 7 = .ok (.aload_n 0, 1) := by decide +kernel
theorem dX2_putBytes_8 : decode cX2_putBytes 8 = .ok (.getfield 18, 3) := by decide +kernel
theorem dX2_putBytes_11 : decode cX2_putBytes 11 = .ok (.sipush 800, 3) := by decide +kernel
theorem dX2_putBytes_14 : decode cX2_putBytes 14 = .ok (.if_icmp .ge 26, 3) := by decide +kernel
theorem dX2_putBytes_17 : decode cX2_putBytes 17 = .ok (.aload_n 0, 1) := by decide +kernel
theorem dX2_putBytes_18 : decode cX2_putBytes 18 = .ok (.getfield 21, 3) := by decide +kernel
theorem dX2_putBytes_21 : decode cX2_putBytes 21 = .ok (.aload_n 0, 1) := by decide +kernel
theorem dX2_putBytes_22 : decode cX2_putBytes 22 = .ok (.getfield 18, 3) := by decide +kernel
theorem dX2_putBytes_25 : decode cX2_putBytes 25 = .ok (.iload_n 1, 1) := by decide +kernel
theorem dX2_putBytes_26 : decode cX2_putBytes 26 = .ok (.iload_n 2, 1) := by decide +kernel
theorem dX2_putBytes_27 : decode cX2_putBytes 27 = .ok (.ishr, 1) := by decide +kernel
theorem dX2_putBytes_28 : decode cX2_putBytes 28 = .ok (.i2b, 1) := by decide +kernel
theorem dX2_putBytes_29 : decode cX2_putBytes 29 = .ok (.bastore, 1) := by decide +kernel
theorem dX2_putBytes_30 : decode cX2_putBytes 30 = .ok (.aload_n 0, 1) := by decide +kernel
theorem dX2_putBytes_31 : decode cX2_putBytes 31 = .ok (.dup, 1) := by decide +kernel
theorem dX2_putBytes_32 : decode cX2_putBytes 32 = .ok (.getfield 18, 3) := by decide +kernel
theorem dX2_putBytes_35 : decode cX2_putBytes 35 = .ok (.iconst 1, 1) := by decide +kernel
theorem dX2_putBytes_36 : decode cX2_putBytes 36 = .ok (.iadd, 1) := by decide +kernel
theorem dX2_putBytes_37 : decode cX2_putBytes 37 = .ok (.putfield 18, 3) := by decide +kernel
theorem dX2_putBytes_40 : decode cX2_putBytes 40 = .ok (.iinc 2 (-8), 3) := by decide +kernel
theorem dX2_putBytes_43 : decode cX2_putBytes 43 = .ok (.goto (-40), 3) := by decide +kernel
theorem dX2_putBytes_46 : decode cX2_putBytes 46 = .ok (.return_, 1) := by decide +kernel
theorem dX2_readInto_0 : decode cX2_readInto 0 = .ok (.aload_n 0, 1) := by decide +kernel
theorem dX2_readInto_1 : decode cX2_readInto 1 = .ok (.iconst 0, 1) := by decide +kernel
theorem dX2_readInto_2 : decode cX2_readInto 2 = .ok (.putfield 25, 3) := by decide +kernel
theorem dX2_readInto_5 : decode cX2_readInto 5 = .ok (.aload_n 0, 1) := by decide +kernel
theorem dX2_readInto_6 : decode cX2_readInto 6 = .ok (.iconst 0, 1) := by decide +kernel
theorem dX2_readInto_7 : decode cX2_readInto 7 = .ok (.putfield 9, 3) := by decide +kernel
theorem dX2_readInto_10 : decode cX2_readInto 10 = .ok (.aload_n 0, 1) := by decide +kernel
theorem dX2_readInto_11 : decode cX2_readInto 11 = .ok (.iconst (-1), 1) := by decide +kernel
theorem dX2_readInto_12 : decode cX2_readInto 12 = .ok (.putfield 15, 3) := by decide +kernel
theorem dX2_readInto_15 : decode cX2_readInto 15 = .ok (.aload_n 1, 1) := by decide +kernel
theorem dX2_readInto_16 : decode cX2_readInto 16 = .ok (.invokevirtual 40, 3) := by decide +kernel
theorem dX2_readInto_19 : decode cX2_readInto 19 = .ok (.aload_n 0, 1) := by decide +kernel
theorem dX2_readInto_20 : decode cX2_readInto 20 = .ok (.invokevirtual 45, 3) := by decide +kernel
theorem dX2_readInto_23 : decode cX2_readInto 23 = .ok (.iconst 0, 1) := by decide +kernel
theorem dX2_readInto_24 : decode cX2_readInto 24 = .ok (.istore_n 2, 1) := by decide +kernel
theorem dX2_readInto_25 : decode cX2_readInto 25 = .ok (.iload_n 2, 1) := by decide +kernel
theorem dX2_readInto_26 : decode cX2_readInto 26 = .ok (.aload_n 0, 1) := by decide +kernel
theorem dX2_readInto_27 : decode cX2_readInto 27 = .ok (.getfield 18, 3) := by decide +kernel
theorem dX2_readInto_30 : decode cX2_readInto 30 = .ok (.if_icmp .gt 60, 3) := by decide +kernel
theorem dX2_readInto_33 : decode cX2_readInto 33 = .ok (.aload_n 0, 1) := by decide +kernel
theorem dX2_readInto_34 : decode cX2_readInto 34 = .ok (.getfield 31, 3) := by decide +kernel
theorem dX2_readInto_37 : decode cX2_readInto 37 = .ok (.ifCond .eq 53, 3) := by decide +kernel
theorem dX2_readInto_40 : decode cX2_readInto 40 = .ok (.aload_n 1, 1) := by decide +kernel
theorem dX2_readInto_41 : decode cX2_readInto 41 = .ok (.getfield 48, 3) := by decide +kernel
theorem dX2_readInto_44 : decode cX2_readInto 44 = .ok (.ifCond .ne 11, 3) := by decide +kernel
theorem dX2_readInto_47 : decode cX2_readInto 47 = .ok (.aload_n 0, 1) := by decide +kernel
theorem dX2_readInto_48 : decode cX2_readInto 48 = .ok (.aload_n 1, 1) := by decide +kernel
theorem dX2_readInto_49 : decode cX2_readInto 49 = .ok (.invokevirtual 51, 3) := by decide +kernel
theorem dX2_readInto_52 : decode cX2_readInto 52 = .ok (.goto 8, 3) := by decide +kernel
theorem dX2_readInto_55 : decode cX2_readInto 55 = .ok (.aload_n 0, 1) := by decide +kernel
theorem dX2_readInto_56 : decode cX2_readInto 56 = .ok (.aload_n 1, 1) := by decide +kernel
theorem dX2_readInto_57 : decode cX2_readInto 57 = .ok (.invokevirtual 55, 3) := by decide +kernel
theorem dX2_readInto_60 : decode cX2_readInto 60 = .ok (.istore_n 3, 1) := by decide +kernel
theorem dX2_readInto_61 : decode cX2_readInto 61 = .ok (.iload_n 3, 1) := by decide +kernel
theorem dX2_readInto_62 : decode cX2_readInto 62 = .ok (.ifCond .eq 10, 3) := by decide +kernel
theorem dX2_readInto_65 : decode cX2_readInto 65 = .ok (.aload_n 0, 1) := by decide +kernel
theorem dX2_readInto_66 : decode cX2_readInto 66 = .ok (.invokevirtual 58, 3) := by decide +kernel
theorem dX2_readInto_69 : decode cX2_readInto 69 = .ok (.ifCond .ne 5, 3) := by decide +kernel
theorem dX2_readInto_72 : decode cX2_readInto 72 = .ok (.iconst 0, 1) := by decide +kernel
theorem dX2_readInto_73 : decode cX2_readInto 73 = .ok (.ireturn, 1) := by decide +kernel
theorem dX2_readInto_74 : decode cX2_readInto 74 = .ok (.aload_n 1, 1) := by decide +kernel
theorem dX2_readInto_75 : decode cX2_readInto 75 = .ok (.dup, 1) := by decide +kernel
theorem dX2_readInto_76 : decode cX2_readInto 76 = .ok (.getfield 48, 3) := by decide +kernel
theorem dX2_readInto_79 : decode cX2_readInto 79 = .ok (.iconst 1, 1) := by decide +kernel
theorem dX2_readInto_80 : decode cX2_readInto 80 = .ok (.iadd, 1) := by decide +kernel
theorem dX2_readInto_81 : decode cX2_readInto 81 = .ok (.putfield 48, 3) := by decide +kernel
theorem dX2_readInto_84 : decode cX2_readInto 84 = .ok (.iinc 2 1, 3) := by decide +kernel
theorem dX2_readInto_87 : decode cX2_readInto 87 = .ok (.goto (-62), 3) := by decide +kernel
theorem dX2_readInto_90 : decode cX2_readInto 90 = .ok (.aload_n 1, 1) := by decide +kernel
theorem dX2_readInto_91 : decode cX2_readInto 91 = .ok (.aload_n 1, 1) := by decide +kernel
theorem dX2_readInto_92 : decode cX2_readInto 92 = .ok (.getfield 48, 3) := by decide +kernel
theorem dX2_readInto_95 : decode cX2_readInto 95 = .ok (.ifCond .le 7, 3) := by decide +kernel
theorem dX2_readInto_98 : decode cX2_readInto 98 = .ok (.iconst 1, 1) := by decide +kernel
theorem dX2_readInto_99 : decode cX2_readInto 99 = .ok (.goto 4, 3) := by decide +kernel
theorem dX2_readInto_102 : decode cX2_readInto 102 = .ok (.iconst 0, 1) := by decide +kernel
theorem dX2_readInto_103 : decode cX2_readInto 103 = .ok (.putfield 62, 3) := by decide +kernel
theorem dX2_readInto_106 : decode cX2_readInto 106 = .ok (.iconst 1, 1) := by decide +kernel
theorem dX2_readInto_107 : decode cX2_readInto 107 = .ok (.ireturn, 1) := by decide +kernel
theorem dX2_readHead_0 : decode cX2_readHead 0 = .ok (.aload_n 0, 1) := by decide +kernel
theorem dX2_readHead_1 : decode cX2_readHead 1 = .ok (.ldc 66, 2) := by decide +kernel
theorem dX2_readHead_3 : decode cX2_readHead 3 = .ok (.invokevirtual 68, 3) := by decide +kernel
theorem dX2_readHead_6 : decode cX2_readHead 6 = .ok (.ifCond .eq 21, 3) := by decide +kernel
theorem dX2_readHead_9 : decode cX2_readHead 9 = .ok (.aload_n 0, 1) := by decide +kernel
theorem dX2_readHead_10 : decode cX2_readHead 10 = .ok (.ldc 72, 2) := by decide +kernel
theorem dX2_readHead_12 : decode cX2_readHead 12 = .ok (.invokevirtual 68, 3) := by decide +kernel
theorem dX2_readHead_15 : decode cX2_readHead 15 = .ok (.ifCond .eq 12, 3) := by decide +kernel
theorem dX2_readHead_18 : decode cX2_readHead 18 = .ok (.aload_n 0, 1) := by decide +kernel
theorem dX2_readHead_19 : decode cX2_readHead 19 = .ok (.iconst 1, 1) := by decide +kernel
theorem dX2_readHead_20 : decode cX2_readHead 20 = .ok (.iconst 5, 1) := by decide +kernel
theorem dX2_readHead_21 : decode cX2_readHead 21 = .ok (.invokevirtual 74, 3) := by decide +kernel
theorem dX2_readHead_24 : decode cX2_readHead 24 = .ok (.ifCond .ne 5, 3) := by decide +kernel
theorem dX2_readHead_27 : decode cX2_readHead 27 = .ok (.iconst 0, 1) := by decide +kernel
theorem dX2_readHead_28 : decode cX2_readHead 28 = .ok (.ireturn, 1) := by decide +kernel
theorem dX2_readHead_29 : decode cX2_readHead 29 = .ok (.aload_n 1, 1) := by decide +kernel
theorem dX2_readHead_30 : decode cX2_readHead 30 = .ok (.aload_n 0, 1) := by decide +kernel
theorem dX2_readHead_31 : decode cX2_readHead 31 = .ok (.getfield 37, 3) := by decide +kernel
theorem dX2_readHead_34 : decode cX2_readHead 34 = .ok (.putfield 78, 3) := by decide +kernel
theorem dX2_readHead_37 : decode cX2_readHead 37 = .ok (.aload_n 0, 1) := by decide +kernel
theorem dX2_readHead_38 : decode cX2_readHead 38 = .ok (.ldc 80, 2) := by decide +kernel
theorem dX2_readHead_40 : decode cX2_readHead 40 = .ok (.invokevirtual 68, 3) := by decide +kernel
theorem dX2_readHead_43 : decode cX2_readHead 43 = .ok (.ifCond .eq 12, 3) := by decide +kernel
theorem dX2_readHead_46 : decode cX2_readHead 46 = .ok (.aload_n 0, 1) := by decide +kernel
theorem dX2_readHead_47 : decode cX2_readHead 47 = .ok (.iconst 0, 1) := by decide +kernel
theorem dX2_readHead_48 : decode cX2_readHead 48 = .ok (.iconst 3, 1) := by decide +kernel
theorem dX2_readHead_49 : decode cX2_readHead 49 = .ok (.invokevirtual 74, 3) := by decide +kernel
theorem dX2_readHead_52 : decode cX2_readHead 52 = .ok (.ifCond .ne 5, 3) := by decide +kernel
theorem dX2_readHead_55 : decode cX2_readHead 55 = .ok (.iconst 0, 1) := by decide +kernel
theorem dX2_readHead_56 : decode cX2_readHead 56 = .ok (.ireturn, 1) := by decide +kernel
theorem dX2_readHead_57 : decode cX2_readHead 57 = .ok (.aload_n 1, 1) := by decide +kernel
theorem dX2_readHead_58 : decode cX2_readHead 58 = .ok (.aload_n 0, 1) := by decide +kernel
theorem dX2_readHead_59 : decode cX2_readHead 59 = .ok (.getfield 37, 3) := by decide +kernel
theorem dX2_readHead_62 : decode cX2_readHead 62 = .ok (.putfield 82, 3) := by decide +kernel
theorem dX2_readHead_65 : decode cX2_readHead 65 = .ok (.aload_n 0, 1) := by decide +kernel
theorem dX2_readHead_66 : decode cX2_readHead 66 = .ok (.ldc 84, 2) := by decide +kernel
theorem dX2_readHead_68 : decode cX2_readHead 68 = .ok (.invokevirtual 68, 3) := by decide +kernel
theorem dX2_readHead_71 : decode cX2_readHead 71 = .ok (.ifCond .eq 12, 3) := by decide +kernel
theorem dX2_readHead_74 : decode cX2_readHead 74 = .ok (.aload_n 0, 1) := by decide +kernel
theorem dX2_readHead_75 : decode cX2_readHead 75 = .ok (.iconst 0, 1) := by decide +kernel
theorem dX2_readHead_76 : decode cX2_readHead 76 = .ok (.iconst 3, 1) := by decide +kernel
theorem dX2_readHead_77 : decode cX2_readHead 77 = .ok (.invokevirtual 74, 3) := by decide +kernel
theorem dX2_readHead_80 : decode cX2_readHead 80 = .ok (.ifCond .ne 5, 3) := by decide +kernel
theorem dX2_readHead_83 : decode cX2_readHead 83 = .ok (.iconst 0, 1) := by decide +kernel
theorem dX2_readHead_84 : decode cX2_readHead 84 = .ok (.ireturn, 1) := by decide +kernel
theorem dX2_readHead_85 : decode cX2_readHead 85 = .ok (.aload_n 1, 1) := by decide +kernel
theorem dX2_readHead_86 : decode cX2_readHead 86 = .ok (.aload_n 0, 1) := by decide +kernel
theorem dX2_readHead_87 : decode cX2_readHead 87 = .ok (.getfield 37, 3) := by decide +kernel
theorem dX2_readHead_90 : decode cX2_readHead 90 = .ok (.putfield 86, 3) := by decide +kernel
theorem dX2_readHead_93 : decode cX2_readHead 93 = .ok (.aload_n 0, 1) := by decide +kernel
theorem dX2_readHead_94 : decode cX2_readHead 94 = .ok (.ldc 88, 2) := by decide +kernel
theorem dX2_readHead_96 : decode cX2_readHead 96 = .ok (.invokevirtual 68, 3) := by decide +kernel
theorem dX2_readHead_99 : decode cX2_readHead 99 = .ok (.ifCond .eq 13, 3) := by decide +kernel
theorem dX2_readHead_102 : decode cX2_readHead 102 = .ok (.aload_n 0, 1) := by decide +kernel
theorem dX2_readHead_103 : decode cX2_readHead 103 = .ok (.iconst 0, 1) := by decide +kernel
theorem dX2_readHead_104 : decode cX2_readHead 104 = .ok (.bipush 10, 2) := by decide +kernel
theorem dX2_readHead_106 : decode cX2_readHead 106 = .ok (.invokevirtual 74, 3) := by decide +kernel
theorem dX2_readHead_109 : decode cX2_readHead 109 = .ok (.ifCond .ne 5, 3) := by decide +kernel
theorem dX2_readHead_112 : decode cX2_readHead 112 = .ok (.iconst 0, 1) := by decide +kernel
theorem dX2_readHead_113 : decode cX2_readHead 113 = .ok (.ireturn, 1) := by decide +kernel
theorem dX2_readHead_114 : decode cX2_readHead 114 = .ok (.aload_n 1, 1) := by decide +kernel
theorem dX2_readHead_115 : decode cX2_readHead 115 = .ok (.aload_n 0, 1) := by decide +kernel
theorem dX2_readHead_116 : decode cX2_readHead 116 = .ok (.getfield 37, 3) := by decide +kernel
theorem dX2_readHead_119 : decode cX2_readHead 119 = .ok (.putfield 92, 3) := by decide +kernel
theorem dX2_readHead_122 : decode cX2_readHead 122 = .ok (.iconst 1, 1) := by decide +kernel
theorem dX2_readHead_123 : decode cX2_readHead 123 = .ok (.ireturn, 1) := by decide +kernel
theorem dX2_readPerson_0 : decode cX2_readPerson 0 = .ok (.aload_n 0, 1) := by decide +kernel
theorem dX2_readPerson_1 : decode cX2_readPerson 1 = .ok (.ldc 94, 2) := by decide +kernel
theorem dX2_readPerson_3 : decode cX2_readPerson 3 = .ok (.invokevirtual 96, 3) := by decide +kernel
theorem dX2_readPerson_6 : decode cX2_readPerson 6 = .ok (.ifCond .eq 18, 3) := by decide +kernel
theorem dX2_readPerson_9 : decode cX2_readPerson 9 = .ok (.aload_n 1, 1) := by decide +kernel
theorem dX2_readPerson_10 : decode cX2_readPerson 10 = .ok (.getfield 99, 3) := by decide +kernel
theorem dX2_readPerson_13 : decode cX2_readPerson 13 = .ok (.bipush 6, 2) := by decide +kernel
theorem dX2_readPerson_15 : decode cX2_readPerson 15 = .ok (.if_icmp .lt 9, 3) := by decide +kernel
theorem dX2_readPerson_18 : decode cX2_readPerson 18 = .ok (.aload_n 0, 1) := by decide +kernel
theorem dX2_readPerson_19 : decode cX2_readPerson 19 = .ok (.iconst 3, 1) := by decide +kernel
theorem dX2_readPerson_20 : decode cX2_readPerson 20 = .ok (.invokevirtual 102, 3) := by decide +kernel
theorem dX2_readPerson_23 : decode cX2_readPerson 23 = .ok (.ireturn, 1) := by decide +kernel
theorem dX2_readPerson_24 : decode cX2_readPerson 24 = .ok (.aload_n 0, 1) := by decide +kernel
theorem dX2_readPerson_25 : decode cX2_readPerson 25 = .ok (.ldc 94, 2) := by decide +kernel
theorem dX2_readPerson_27 : decode cX2_readPerson 27 = .ok (.invokevirtual 68, 3) := by decide +kernel
theorem dX2_readPerson_30 : decode cX2_readPerson 30 = .ok (.ifCond .ne 5, 3) := by decide +kernel
theorem dX2_readPerson_33 : decode cX2_readPerson 33 = .ok (.iconst 0, 1) := by decide +kernel
theorem dX2_readPerson_34 : decode cX2_readPerson 34 = .ok (.ireturn, 1) := by decide +kernel
theorem dX2_readPerson_35 : decode cX2_readPerson 35 = .ok (.aload_n 1, 1) := by decide +kernel
theorem dX2_readPerson_36 : decode cX2_readPerson 36 = .ok (.getfield 99, 3) := by decide +kernel
theorem dX2_readPerson_39 : decode cX2_readPerson 39 = .ok (.istore_n 2, 1) := by decide +kernel
theorem dX2_readPerson_40 : decode cX2_readPerson 40 = .ok (.aload_n 1, 1) := by decide +kernel
theorem dX2_readPerson_41 : decode cX2_readPerson 41 = .ok (.dup, 1) := by decide +kernel
theorem dX2_readPerson_42 : decode cX2_readPerson 42 = .ok (.getfield 99, 3) := by decide +kernel
theorem dX2_readPerson_45 : decode cX2_readPerson 45 = .ok (.iconst 1, 1) := by decide +kernel
theorem dX2_readPerson_46 : decode cX2_readPerson 46 = .ok (.iadd, 1) := by decide +kernel
theorem dX2_readPerson_47 : decode cX2_readPerson 47 = .ok (.putfield 99, 3) := by decide +kernel
theorem dX2_readPerson_50 : decode cX2_readPerson 50 = .ok (.iconst 0, 1) := by decide +kernel
theorem dX2_readPerson_51 : decode cX2_readPerson 51 = .ok (.istore_n 3, 1) := by decide +kernel
theorem dX2_readPerson_52 : decode cX2_readPerson 52 = .ok (.iload_n 3, 1) := by decide +kernel
theorem dX2_readPerson_53 : decode cX2_readPerson 53 = .ok (.aload_n 0, 1) := by decide +kernel
theorem dX2_readPerson_54 : decode cX2_readPerson 54 = .ok (.getfield 18, 3) := by decide +kernel
theorem dX2_readPerson_57 : decode cX2_readPerson 57 = .ok (.if_icmp .gt 111, 3) := by decide +kernel
theorem dX2_readPerson_60 : decode cX2_readPerson 60 = .ok (.aload_n 0, 1) := by decide +kernel
theorem dX2_readPerson_61 : decode cX2_readPerson 61 = .ok (.getfield 31, 3) := by decide +kernel
theorem dX2_readPerson_64 : decode cX2_readPerson 64 = .ok (.iconst 1, 1) := by decide +kernel
theorem dX2_readPerson_65 : decode cX2_readPerson 65 = .ok (.if_icmp .ne 103, 3) := by decide +kernel
theorem dX2_readPerson_68 : decode cX2_readPerson 68 = .ok (.aload_n 0, 1) := by decide +kernel
theorem dX2_readPerson_69 : decode cX2_readPerson 69 = .ok (.ldc 106, 2) := by decide +kernel
theorem dX2_readPerson_71 : decode cX2_readPerson 71 = .ok (.invokevirtual 96, 3) := by decide +kernel
theorem dX2_readPerson_74 : decode cX2_readPerson 74 = .ok (.istore 4, 2) := by decide +kernel
theorem dX2_readPerson_76 : decode cX2_readPerson 76 = .ok (.iload 4, 2) := by decide +kernel
theorem dX2_readPerson_78 : decode cX2_readPerson 78 = .ok (.ifCond .ne 18, 3) := by decide +kernel
theorem dX2_readPerson_81 : decode cX2_readPerson 81 = .ok (.aload_n 0, 1) := by decide +kernel
theorem dX2_readPerson_82 : decode cX2_readPerson 82 = .ok (.ldc 108, 2) := by decide +kernel
theorem dX2_readPerson_84 : decode cX2_readPerson 84 = .ok (.invokevirtual 96, 3) := by decide +kernel
theorem dX2_readPerson_87 : decode cX2_readPerson 87 = .ok (.ifCond .ne 9, 3) := by decide +kernel
theorem dX2_readPerson_90 : decode cX2_readPerson 90 = .ok (.aload_n 0, 1) := by decide +kernel
theorem dX2_readPerson_91 : decode cX2_readPerson 91 = .ok (.iconst 1, 1) := by decide +kernel
theorem dX2_readPerson_92 : decode cX2_readPerson 92 = .ok (.invokevirtual 102, 3) := by decide +kernel
theorem dX2_readPerson_95 : decode cX2_readPerson 95 = .ok (.ireturn, 1) := by decide +kernel
theorem dX2_readPerson_96 : decode cX2_readPerson 96 = .ok (.aload_n 0, 1) := by decide +kernel
theorem dX2_readPerson_97 : decode cX2_readPerson 97 = .ok (.invokevirtual 45, 3) := by decide +kernel
theorem dX2_readPerson_100 : decode cX2_readPerson 100 = .ok (.aload_n 0, 1) := by decide +kernel
theorem dX2_readPerson_101 : decode cX2_readPerson 101 = .ok (.iconst 0, 1) := by decide +kernel
theorem dX2_readPerson_102 : decode cX2_readPerson 102 = .ok (.aload_n 1, 1) := by decide +kernel
theorem dX2_readPerson_103 : decode cX2_readPerson 103 = .ok (.getfield 78, 3) := by decide +kernel
theorem dX2_readPerson_106 : decode cX2_readPerson 106 = .ok (.iconst 1, 1) := by decide +kernel
theorem dX2_readPerson_107 : decode cX2_readPerson 107 = .ok (.isub, 1) := by decide +kernel
theorem dX2_readPerson_108 : decode cX2_readPerson 108 = .ok (.invokevirtual 74, 3) := by decide +kernel
theorem dX2_readPerson_111 : decode cX2_readPerson 111 = .ok (.ifCond .ne 5, 3) := by decide +kernel
theorem dX2_readPerson_114 : decode cX2_readPerson 114 = .ok (.iconst 0, 1) := by decide +kernel
theorem dX2_readPerson_115 : decode cX2_readPerson 115 = .ok (.ireturn, 1) := by decide +kernel
theorem dX2_readPerson_116 : decode cX2_readPerson 116 = .ok (.aload_n 0, 1) := by decide +kernel
theorem dX2_readPerson_117 : decode cX2_readPerson 117 = .ok (.getfield 37, 3) := by decide +kernel
theorem dX2_readPerson_120 : decode cX2_readPerson 120 = .ok (.istore 5, 2) := by decide +kernel
theorem dX2_readPerson_122 : decode cX2_readPerson 122 = .ok (.aload_n 0, 1) := by decide +kernel
theorem dX2_readPerson_123 : decode cX2_readPerson 123 = .ok (.iconst 1, 1) := by decide +kernel
theorem dX2_readPerson_124 : decode cX2_readPerson 124 = .ok (.bipush 9, 2) := by decide +kernel
theorem dX2_readPerson_126 : decode cX2_readPerson 126 = .ok (.invokevirtual 74, 3) := by decide +kernel
theorem dX2_readPerson_129 : decode cX2_readPerson 129 = .ok (.ifCond .ne 5, 3) := by decide +kernel
theorem dX2_readPerson_132 : decode cX2_readPerson 132 = .ok (.iconst 0, 1) := by decide +kernel
theorem dX2_readPerson_133 : decode cX2_readPerson 133 = .ok (.ireturn, 1) := by decide +kernel
theorem dX2_readPerson_134 : decode cX2_readPerson 134 = .ok (.aload_n 1, 1) := by decide +kernel
theorem dX2_readPerson_135 : decode cX2_readPerson 135 = .ok (.getfield 110, 3) := by decide +kernel
theorem dX2_readPerson_138 : decode cX2_readPerson 138 = .ok (.iload_n 2, 1) := by decide +kernel
theorem dX2_readPerson_139 : decode cX2_readPerson 139 = .ok (.iconst 5, 1) := by decide +kernel
theorem dX2_readPerson_140 : decode cX2_readPerson 140 = .ok (.imul, 1) := by decide +kernel
theorem dX2_readPerson_141 : decode cX2_readPerson 141 = .ok (.iload 5, 2) := by decide +kernel
theorem dX2_readPerson_143 : decode cX2_readPerson 143 = .ok (.iadd, 1) := by decide +kernel
theorem dX2_readPerson_144 : decode cX2_readPerson 144 = .ok (.iload 4, 2) := by decide +kernel
theorem dX2_readPerson_146 : decode cX2_readPerson 146 = .ok (.ifCond .eq 10, 3) := by decide +kernel
theorem dX2_readPerson_149 : decode cX2_readPerson 149 = .ok (.aload_n 0, 1) := by decide +kernel
theorem dX2_readPerson_150 : decode cX2_readPerson 150 = .ok (.getfield 37, 3) := by decide +kernel
theorem dX2_readPerson_153 : decode cX2_readPerson 153 = .ok (.goto 8, 3) := by decide +kernel
theorem dX2_readPerson_156 : decode cX2_readPerson 156 = .ok (.aload_n 0, 1) := by decide +kernel
theorem dX2_readPerson_157 : decode cX2_readPerson 157 = .ok (.getfield 37, 3) := by decide +kernel
theorem dX2_readPerson_160 : decode cX2_readPerson 160 = .ok (.ineg, 1) := by decide +kernel
theorem dX2_readPerson_161 : decode cX2_readPerson 161 = .ok (.iastore, 1) := by decide +kernel
theorem dX2_readPerson_162 : decode cX2_readPerson 162 = .ok (.iinc 3 1, 3) := by decide +kernel
theorem dX2_readPerson_165 : decode cX2_readPerson 165 = .ok (.goto (-113), 3) := by decide +kernel
theorem dX2_readPerson_168 : decode cX2_readPerson 168 = .ok (.iconst 1, 1) := by decide +kernel
theorem dX2_readPerson_169 : decode cX2_readPerson 169 = .ok (.ireturn, 1) := by decide +kernel
theorem dX2_fail_0 : decode cX2_fail 0 = .ok (.aload_n 0, 1) := by decide +kernel
theorem dX2_fail_1 : decode cX2_fail 1 = .ok (.iload_n 1, 1) := by decide +kernel
theorem dX2_fail_2 : decode cX2_fail 2 = .ok (.putfield 9, 3) := by decide +kernel
theorem dX2_fail_5 : decode cX2_fail 5 = .ok (.aload_n 0, 1) := by decide +kernel
theorem dX2_fail_6 : decode cX2_fail 6 = .ok (.aload_n 0, 1) := by decide +kernel
theorem dX2_fail_7 : decode cX2_fail 7 = .ok (.getfield 28, 3) := by decide +kernel
theorem dX2_fail_10 : decode cX2_fail 10 = .ok (.putfield 15, 3) := by decide +kernel
theorem dX2_fail_13 : decode cX2_fail 13 = .ok (.iconst 0, 1) := by decide +kernel
theorem dX2_fail_14 : decode cX2_fail 14 = .ok (.ireturn, 1) := by decide +kernel
theorem dX2_takeWord_0 : decode cX2_takeWord 0 = .ok (.aload_n 0, 1) := by decide +kernel
theorem dX2_takeWord_1 : decode cX2_takeWord 1 = .ok (.aload_n 1, 1) := by decide +kernel
theorem dX2_takeWord_2 : decode cX2_takeWord 2 = .ok (.invokevirtual 96, 3) := by decide +kernel
theorem dX2_takeWord_5 : decode cX2_takeWord 5 = .ok (.ifCond .ne 9, 3) := by decide +kernel
theorem dX2_takeWord_8 : decode cX2_takeWord 8 = .ok (.aload_n 0, 1) := by decide +kernel
theorem dX2_takeWord_9 : decode cX2_takeWord 9 = .ok (.iconst 1, 1) := by decide +kernel
theorem dX2_takeWord_10 : decode cX2_takeWord 10 = .ok (.invokevirtual 102, 3) := by decide +kernel
theorem dX2_takeWord_13 : decode cX2_takeWord 13 = .ok (.ireturn, 1) := by decide +kernel
theorem dX2_takeWord_14 : decode cX2_takeWord 14 = .ok (.aload_n 0, 1) := by decide +kernel
theorem dX2_takeWord_15 : decode cX2_takeWord 15 = .ok (.invokevirtual 45, 3) := by decide +kernel
theorem dX2_takeWord_18 : decode cX2_takeWord 18 = .ok (.iconst 1, 1) := by decide +kernel
theorem dX2_takeWord_19 : decode cX2_takeWord 19 = .ok (.ireturn, 1) := by decide +kernel
theorem dX2_takeNumber_0 : decode cX2_takeNumber 0 = .ok (.aload_n 0, 1) := by decide +kernel
theorem dX2_takeNumber_1 : decode cX2_takeNumber 1 = .ok (.getfield 31, 3) := by decide +kernel
theorem dX2_takeNumber_4 : decode cX2_takeNumber 4 = .ok (.iconst 2, 1) := by decide +kernel
theorem dX2_takeNumber_5 : decode cX2_takeNumber 5 = .ok (.if_icmp .eq 9, 3) := by decide +kernel
theorem dX2_takeNumber_8 : decode cX2_takeNumber 8 = .ok (.aload_n 0, 1) := by decide +kernel
theorem dX2_takeNumber_9 : decode cX2_takeNumber 9 = .ok (.iconst 1, 1) := by decide +kernel
theorem dX2_takeNumber_10 : decode cX2_takeNumber 10 = .ok (.invokevirtual 102, 3) := by decide +kernel
theorem dX2_takeNumber_13 : decode cX2_takeNumber 13 = .ok (.ireturn, 1) := by decide +kernel
theorem dX2_takeNumber_14 : decode cX2_takeNumber 14 = .ok (.aload_n 0, 1) := by decide +kernel
theorem dX2_takeNumber_15 : decode cX2_takeNumber 15 = .ok (.getfield 34, 3) := by decide +kernel
theorem dX2_takeNumber_18 : decode cX2_takeNumber 18 = .ok (.iload_n 1, 1) := by decide +kernel
theorem dX2_takeNumber_19 : decode cX2_takeNumber 19 = .ok (.if_icmp .lt 11, 3) := by decide +kernel
theorem dX2_takeNumber_22 : decode cX2_takeNumber 22 = .ok (.aload_n 0, 1) := by decide +kernel
theorem dX2_takeNumber_23 : decode cX2_takeNumber 23 = .ok (.getfield 34, 3) := by decide +kernel
theorem dX2_takeNumber_26 : decode cX2_takeNumber 26 = .ok (.iload_n 2, 1) := by decide +kernel
theorem dX2_takeNumber_27 : decode cX2_takeNumber 27 = .ok (.if_icmp .le 9, 3) := by decide +kernel
theorem dX2_takeNumber_30 : decode cX2_takeNumber 30 = .ok (.aload_n 0, 1) := by decide +kernel
theorem dX2_takeNumber_31 : decode cX2_takeNumber 31 = .ok (.iconst 2, 1) := by decide +kernel
theorem dX2_takeNumber_32 : decode cX2_takeNumber 32 = .ok (.invokevirtual 102, 3) := by decide +kernel
theorem dX2_takeNumber_35 : decode cX2_takeNumber 35 = .ok (.ireturn, 1) := by decide +kernel
theorem dX2_takeNumber_36 : decode cX2_takeNumber 36 = .ok (.aload_n 0, 1) := by decide +kernel
theorem dX2_takeNumber_37 : decode cX2_takeNumber 37 = .ok (.aload_n 0, 1) := by decide +kernel
theorem dX2_takeNumber_38 : decode cX2_takeNumber 38 = .ok (.getfield 34, 3) := by decide +kernel
theorem dX2_takeNumber_41 : decode cX2_takeNumber 41 = .ok (.putfield 37, 3) := by decide +kernel
theorem dX2_takeNumber_44 : decode cX2_takeNumber 44 = .ok (.aload_n 0, 1) := by decide +kernel
theorem dX2_takeNumber_45 : decode cX2_takeNumber 45 = .ok (.invokevirtual 45, 3) := by decide +kernel
theorem dX2_takeNumber_48 : decode cX2_takeNumber 48 = .ok (.iconst 1, 1) := by decide +kernel
theorem dX2_takeNumber_49 : decode cX2_takeNumber 49 = .ok (.ireturn, 1) := by decide +kernel
theorem dX2_takeSign_0 : decode cX2_takeSign 0 = .ok (.aload_n 0, 1) := by decide +kernel
theorem dX2_takeSign_1 : decode cX2_takeSign 1 = .ok (.getfield 31, 3) := by decide +kernel
theorem dX2_takeSign_4 : decode cX2_takeSign 4 = .ok (.iconst 3, 1) := by decide +kernel
theorem dX2_takeSign_5 : decode cX2_takeSign 5 = .ok (.if_icmp .eq 9, 3) := by decide +kernel
theorem dX2_takeSign_8 : decode cX2_takeSign 8 = .ok (.aload_n 0, 1) := by decide +kernel
theorem dX2_takeSign_9 : decode cX2_takeSign 9 = .ok (.iconst 1, 1) := by decide +kernel
theorem dX2_takeSign_10 : decode cX2_takeSign 10 = .ok (.invokevirtual 102, 3) := by decide +kernel
theorem dX2_takeSign_13 : decode cX2_takeSign 13 = .ok (.ireturn, 1) := by decide +kernel
theorem dX2_takeSign_14 : decode cX2_takeSign 14 = .ok (.aload_n 0, 1) := by decide +kernel
theorem dX2_takeSign_15 : decode cX2_takeSign 15 = .ok (.invokevirtual 45, 3) := by decide +kernel
theorem dX2_takeSign_18 : decode cX2_takeSign 18 = .ok (.iconst 1, 1) := by decide +kernel
theorem dX2_takeSign_19 : decode cX2_takeSign 19 = .ok (.ireturn, 1) := by decide +kernel
theorem dX2_isWord_0 : decode cX2_isWord 0 = .ok (.aload_n 0, 1) := by decide +kernel
theorem dX2_isWord_1 : decode cX2_isWord 1 = .ok (.getfield 31, 3) := by decide +kernel
theorem dX2_isWord_4 : decode cX2_isWord 4 = .ok (.iconst 1, 1) := by decide +kernel
theorem dX2_isWord_5 : decode cX2_isWord 5 = .ok (.if_icmp .ne 19, 3) := by decide +kernel
theorem dX2_isWord_8 : decode cX2_isWord 8 = .ok (.aload_n 0, 1) := by decide +kernel
theorem dX2_isWord_9 : decode cX2_isWord 9 = .ok (.getfield 25, 3) := by decide +kernel
theorem dX2_isWord_12 : decode cX2_isWord 12 = .ok (.aload_n 0, 1) := by decide +kernel
theorem dX2_isWord_13 : decode cX2_isWord 13 = .ok (.getfield 28, 3) := by decide +kernel
theorem dX2_isWord_16 : decode cX2_isWord 16 = .ok (.isub, 1) := by decide +kernel
theorem dX2_isWord_17 : decode cX2_isWord 17 = .ok (.aload_n 1, 1) := by decide +kernel
theorem dX2_isWord_18 : decode cX2_isWord 18 = .ok (.invokevirtual 114, 3) := by decide +kernel
theorem dX2_isWord_21 : decode cX2_isWord 21 = .ok (.if_icmp .eq 5, 3) := by decide +kernel
theorem dX2_isWord_24 : decode cX2_isWord 24 = .ok (.iconst 0, 1) := by decide +kernel
theorem dX2_isWord_25 : decode cX2_isWord 25 = .ok (.ireturn, 1) := by decide +kernel
theorem dX2_isWord_26 : decode cX2_isWord 26 = .ok (.iconst 0, 1) := by decide +kernel
theorem dX2_isWord_27 : decode cX2_isWord 27 = .ok (.istore_n 2, 1) := by decide +kernel
theorem dX2_isWord_28 : decode cX2_isWord 28 = .ok (.iload_n 2, 1) := by decide +kernel
theorem dX2_isWord_29 : decode cX2_isWord 29 = .ok (.aload_n 1, 1) := by decide +kernel
theorem dX2_isWord_30 : decode cX2_isWord 30 = .ok (.invokevirtual 114, 3) := by decide +kernel
theorem dX2_isWord_33 : decode cX2_isWord 33 = .ok (.if_icmp .ge 30, 3) := by decide +kernel
theorem dX2_isWord_36 : decode cX2_isWord 36 = .ok (.aload_n 0, 1) := by decide +kernel
theorem dX2_isWord_37 : decode cX2_isWord 37 = .ok (.getfield 21, 3) := by decide +kernel
theorem dX2_isWord_40 : decode cX2_isWord 40 = .ok (.aload_n 0, 1) := by decide +kernel
theorem dX2_isWord_41 : decode cX2_isWord 41 = .ok (.getfield 28, 3) := by decide +kernel
theorem dX2_isWord_44 : decode cX2_isWord 44 = .ok (.iload_n 2, 1) := by decide +kernel
theorem dX2_isWord_45 : decode cX2_isWord 45 = .ok (.iadd, 1) := by decide +kernel
theorem dX2_isWord_46 : decode cX2_isWord 46 = .ok (.baload, 1) := by decide +kernel
theorem dX2_isWord_47 : decode cX2_isWord 47 = .ok (.aload_n 1, 1) := by decide +kernel
theorem dX2_isWord_48 : decode cX2_isWord 48 = .ok (.iload_n 2, 1) := by decide +kernel
theorem dX2_isWord_49 : decode cX2_isWord 49 = .ok (.invokevirtual 119, 3) := by decide +kernel
theorem dX2_isWord_52 : decode cX2_isWord 52 = .ok (.if_icmp .eq 5, 3) := by decide +kernel
theorem dX2_isWord_55 : decode cX2_isWord 55 = .ok (.iconst 0, 1) := by decide +kernel
theorem dX2_isWord_56 : decode cX2_isWord 56 = .ok (.ireturn, 1) := by decide +kernel
theorem dX2_isWord_57 : decode cX2_isWord 57 = .ok (.iinc 2 1, 3) := by decide +kernel
theorem dX2_isWord_60 : decode cX2_isWord 60 = .ok (.goto (-32), 3) := by decide +kernel
theorem dX2_isWord_63 : decode cX2_isWord 63 = .ok (.iconst 1, 1) := by decide +kernel
theorem dX2_isWord_64 : decode cX2_isWord 64 = .ok (.ireturn, 1) := by decide +kernel
theorem dX2_isBlank_0 : decode cX2_isBlank 0 = .ok (.aload_n 0, 1) := by decide +kernel
theorem dX2_isBlank_1 : decode cX2_isBlank 1 = .ok (.getfield 21, 3) := by decide +kernel
theorem dX2_isBlank_4 : decode cX2_isBlank 4 = .ok (.iload_n 1, 1) := by decide +kernel
theorem dX2_isBlank_5 : decode cX2_isBlank 5 = .ok (.baload, 1) := by decide +kernel
theorem dX2_isBlank_6 : decode cX2_isBlank 6 = .ok (.bipush 32, 2) := by decide +kernel
theorem dX2_isBlank_8 : decode cX2_isBlank 8 = .ok (.if_icmp .eq 14, 3) := by decide +kernel
theorem dX2_isBlank_11 : decode cX2_isBlank 11 = .ok (.aload_n 0, 1) := by decide +kernel
theorem dX2_isBlank_12 : decode cX2_isBlank 12 = .ok (.getfield 21, 3) := by decide +kernel
theorem dX2_isBlank_15 : decode cX2_isBlank 15 = .ok (.iload_n 1, 1) := by decide +kernel
theorem dX2_isBlank_16 : decode cX2_isBlank 16 = .ok (.baload, 1) := by decide +kernel
theorem dX2_isBlank_17 : decode cX2_isBlank 17 = .ok (.bipush 10, 2) := by decide +kernel
theorem dX2_isBlank_19 : decode cX2_isBlank 19 = .ok (.if_icmp .ne 7, 3) := by decide +kernel
theorem dX2_isBlank_22 : decode cX2_isBlank 22 = .ok (.iconst 1, 1) := by decide +kernel
theorem dX2_isBlank_23 : decode cX2_isBlank 23 = .ok (.goto 4, 3) := by decide +kernel
theorem dX2_isBlank_26 : decode cX2_isBlank 26 = .ok (.iconst 0, 1) := by decide +kernel
theorem dX2_isBlank_27 : decode cX2_isBlank 27 = .ok (.ireturn, 1) := by decide +kernel
theorem dX2_isLetter_0 : decode cX2_isLetter 0 = .ok (.aload_n 0, 1) := by decide +kernel
theorem dX2_isLetter_1 : decode cX2_isLetter 1 = .ok (.getfield 21, 3) := by decide +kernel
theorem dX2_isLetter_4 : decode cX2_isLetter 4 = .ok (.iload_n 1, 1) := by decide +kernel
theorem dX2_isLetter_5 : decode cX2_isLetter 5 = .ok (.baload, 1) := by decide +kernel
theorem dX2_isLetter_6 : decode cX2_isLetter 6 = .ok (.bipush 97, 2) := by decide +kernel
theorem dX2_isLetter_8 : decode cX2_isLetter 8 = .ok (.if_icmp .lt 18, 3) := by decide +kernel
theorem dX2_isLetter_11 : decode cX2_isLetter 11 = .ok (.aload_n 0, 1) := by decide +kernel
theorem dX2_isLetter_12 : decode cX2_isLetter 12 = .ok (.getfield 21, 3) := by decide +kernel
theorem dX2_isLetter_15 : decode cX2_isLetter 15 = .ok (.iload_n 1, 1) := by decide +kernel
theorem dX2_isLetter_16 : decode cX2_isLetter 16 = .ok (.baload, 1) := by decide +kernel
theorem dX2_isLetter_17 : decode cX2_isLetter 17 = .ok (.bipush 122, 2) := by decide +kernel
theorem dX2_isLetter_19 : decode cX2_isLetter 19 = .ok (.if_icmp .gt 7, 3) := by decide +kernel
theorem dX2_isLetter_22 : decode cX2_isLetter 22 = .ok (.iconst 1, 1) := by decide +kernel
theorem dX2_isLetter_23 : decode cX2_isLetter 23 = .ok (.goto 4, 3) := by decide +kernel
theorem dX2_isLetter_26 : decode cX2_isLetter 26 = .ok (.iconst 0, 1) := by decide +kernel
theorem dX2_isLetter_27 : decode cX2_isLetter 27 = .ok (.ireturn, 1) := by decide +kernel
theorem dX2_isDigit_0 : decode cX2_isDigit 0 = .ok (.aload_n 0, 1) := by decide +kernel
theorem dX2_isDigit_1 : decode cX2_isDigit 1 = .ok (.getfield 21, 3) := by decide +kernel
theorem dX2_isDigit_4 : decode cX2_isDigit 4 = .ok (.iload_n 1, 1) := by decide +kernel
theorem dX2_isDigit_5 : decode cX2_isDigit 5 = .ok (.baload, 1) := by decide +kernel
theorem dX2_isDigit_6 : decode cX2_isDigit 6 = .ok (.bipush 48, 2) := by decide +kernel
theorem dX2_isDigit_8 : decode cX2_isDigit 8 = .ok (.if_icmp .lt 18, 3) := by decide +kernel
theorem dX2_isDigit_11 : decode cX2_isDigit 11 = .ok (.aload_n 0, 1) := by decide +kernel
theorem dX2_isDigit_12 : decode cX2_isDigit 12 = .ok (.getfield 21, 3) := by decide +kernel
theorem dX2_isDigit_15 : decode cX2_isDigit 15 = .ok (.iload_n 1, 1) := by decide +kernel
theorem dX2_isDigit_16 : decode cX2_isDigit 16 = .ok (.baload, 1) := by decide +kernel
theorem dX2_isDigit_17 : decode cX2_isDigit 17 = .ok (.bipush 57, 2) := by decide +kernel
theorem dX2_isDigit_19 : decode cX2_isDigit 19 = .ok (.if_icmp .gt 7, 3) := by decide +kernel
theorem dX2_isDigit_22 : decode cX2_isDigit 22 = .ok (.iconst 1, 1) := by decide +kernel
theorem dX2_isDigit_23 : decode cX2_isDigit 23 = .ok (.goto 4, 3) := by decide +kernel
theorem dX2_isDigit_26 : decode cX2_isDigit 26 = .ok (.iconst 0, 1) := by decide +kernel
theorem dX2_isDigit_27 : decode cX2_isDigit 27 = .ok (.ireturn, 1) := by decide +kernel
theorem dX2_step_0 : decode cX2_step 0 = .ok (.aload_n 0, 1) := by decide +kernel
theorem dX2_step_1 : decode cX2_step 1 = .ok (.getfield 25, 3) := by decide +kernel
theorem dX2_step_4 : decode cX2_step 4 = .ok (.aload_n 0, 1) := by decide +kernel
theorem dX2_step_5 : decode cX2_step 5 = .ok (.getfield 18, 3) := by decide +kernel
theorem dX2_step_8 : decode cX2_step 8 = .ok (.if_icmp .ge 27, 3) := by decide +kernel
theorem dX2_step_11 : decode cX2_step 11 = .ok (.aload_n 0, 1) := by decide +kernel
theorem dX2_step_12 : decode cX2_step 12 = .ok (.aload_n 0, 1) := by decide +kernel
theorem dX2_step_13 : decode cX2_step 13 = .ok (.getfield 25, 3) := by decide +kernel
theorem dX2_step_16 : decode cX2_step 16 = .ok (.invokevirtual 123, 3) := by decide +kernel
theorem dX2_step_19 : decode cX2_step 19 = .ok (.ifCond .eq 16, 3) := by decide +kernel
theorem dX2_step_22 : decode cX2_step 22 = .ok (.aload_n 0, 1) := by decide +kernel
theorem dX2_step_23 : decode cX2_step 23 = .ok (.dup, 1) := by decide +kernel
theorem dX2_step_24 : decode cX2_step 24 = .ok (.getfield 25, 3) := by decide +kernel
theorem dX2_step_27 : decode cX2_step 27 = .ok (.iconst 1, 1) := by decide +kernel
theorem dX2_step_28 : decode cX2_step 28 = .ok (.iadd, 1) := by decide +kernel
theorem dX2_step_29 : decode cX2_step 29 = .ok (.putfield 25, 3) := by decide +kernel
theorem dX2_step_32 : decode cX2_step 32 = .ok (.goto (-32), 3) := by decide +kernel
theorem dX2_step_35 : decode cX2_step 35 = .ok (.aload_n 0, 1) := by decide +kernel
theorem dX2_step_36 : decode cX2_step 36 = .ok (.aload_n 0, 1) := by decide +kernel
theorem dX2_step_37 : decode cX2_step 37 = .ok (.getfield 25, 3) := by decide +kernel
theorem dX2_step_40 : decode cX2_step 40 = .ok (.putfield 28, 3) := by decide +kernel
theorem dX2_step_43 : decode cX2_step 43 = .ok (.aload_n 0, 1) := by decide +kernel
theorem dX2_step_44 : decode cX2_step 44 = .ok (.getfield 28, 3) := by decide +kernel
theorem dX2_step_47 : decode cX2_step 47 = .ok (.aload_n 0, 1) := by decide +kernel
theorem dX2_step_48 : decode cX2_step 48 = .ok (.getfield 18, 3) := by decide +kernel
theorem dX2_step_51 : decode cX2_step 51 = .ok (.if_icmp .lt 11, 3) := by decide +kernel
theorem dX2_step_54 : decode cX2_step 54 = .ok (.aload_n 0, 1) := by decide +kernel
theorem dX2_step_55 : decode cX2_step 55 = .ok (.iconst 0, 1) := by decide +kernel
theorem dX2_step_56 : decode cX2_step 56 = .ok (.putfield 31, 3) := by decide +kernel
theorem dX2_step_59 : decode cX2_step 59 = .ok (.goto 72, 3) := by decide +kernel
theorem dX2_step_62 : decode cX2_step 62 = .ok (.aload_n 0, 1) := by decide +kernel
theorem dX2_step_63 : decode cX2_step 63 = .ok (.aload_n 0, 1) := by decide +kernel
theorem dX2_step_64 : decode cX2_step 64 = .ok (.getfield 28, 3) := by decide +kernel
theorem dX2_step_67 : decode cX2_step 67 = .ok (.invokevirtual 126, 3) := by decide +kernel
theorem dX2_step_70 : decode cX2_step 70 = .ok (.ifCond .eq 10, 3) := by decide +kernel
theorem dX2_step_73 : decode cX2_step 73 = .ok (.aload_n 0, 1) := by decide +kernel
theorem dX2_step_74 : decode cX2_step 74 = .ok (.invokevirtual 129, 3) := by decide +kernel
theorem dX2_step_77 : decode cX2_step 77 = .ok (.goto 54, 3) := by decide +kernel
theorem dX2_step_80 : decode cX2_step 80 = .ok (.aload_n 0, 1) := by decide +kernel
theorem dX2_step_81 : decode cX2_step 81 = .ok (.aload_n 0, 1) := by decide +kernel
theorem dX2_step_82 : decode cX2_step 82 = .ok (.getfield 28, 3) := by decide +kernel
theorem dX2_step_85 : decode cX2_step 85 = .ok (.invokevirtual 132, 3) := by decide +kernel
theorem dX2_step_88 : decode cX2_step 88 = .ok (.ifCond .eq 10, 3) := by decide +kernel
theorem dX2_step_91 : decode cX2_step 91 = .ok (.aload_n 0, 1) := by decide +kernel
theorem dX2_step_92 : decode cX2_step 92 = .ok (.invokevirtual 135, 3) := by decide +kernel
theorem dX2_step_95 : decode cX2_step 95 = .ok (.goto 36, 3) := by decide +kernel
theorem dX2_step_98 : decode cX2_step 98 = .ok (.aload_n 0, 1) := by decide +kernel
theorem dX2_step_99 : decode cX2_step 99 = .ok (.aload_n 0, 1) := by decide +kernel
theorem dX2_step_100 : decode cX2_step 100 = .ok (.getfield 21, 3) := by decide +kernel
theorem dX2_step_103 : decode cX2_step 103 = .ok (.aload_n 0, 1) := by decide +kernel
theorem dX2_step_104 : decode cX2_step 104 = .ok (.getfield 28, 3) := by decide +kernel
theorem dX2_step_107 : decode cX2_step 107 = .ok (.baload, 1) := by decide +kernel
theorem dX2_step_108 : decode cX2_step 108 = .ok (.bipush 59, 2) := by decide +kernel
theorem dX2_step_110 : decode cX2_step 110 = .ok (.if_icmp .ne 7, 3) := by decide +kernel
theorem dX2_step_113 : decode cX2_step 113 = .ok (.iconst 3, 1) := by decide +kernel
theorem dX2_step_114 : decode cX2_step 114 = .ok (.goto 4, 3) := by decide +kernel
theorem dX2_step_117 : decode cX2_step 117 = .ok (.iconst 4, 1) := by decide +kernel
theorem dX2_step_118 : decode cX2_step 118 = .ok (.putfield 31, 3) := by decide +kernel
theorem dX2_step_121 : decode cX2_step 121 = .ok (.aload_n 0, 1) := by decide +kernel
theorem dX2_step_122 : decode cX2_step 122 = .ok (.dup, 1) := by decide +kernel
theorem dX2_step_123 : decode cX2_step 123 = .ok (.getfield 25, 3) := by decide +kernel
theorem dX2_step_126 : decode cX2_step 126 = .ok (.iconst 1, 1) := by decide +kernel
theorem dX2_step_127 : decode cX2_step 127 = .ok (.iadd, 1) := by decide +kernel
theorem dX2_step_128 : decode cX2_step 128 = .ok (.putfield 25, 3) := by decide +kernel
theorem dX2_step_131 : decode cX2_step 131 = .ok (.return_, 1) := by decide +kernel
theorem dX2_stepOverWord_0 : decode cX2_stepOverWord 0 = .ok (.aload_n 0, 1) := by decide +kernel
theorem dX2_stepOverWord_1 : decode cX2_stepOverWord 1 = .ok (.iconst 1, 1) := by decide +kernel
theorem dX2_stepOverWord_2 : decode cX2_stepOverWord 2 = .ok (.putfield 31, 3) := by decide +kernel
theorem dX2_stepOverWord_5 : decode cX2_stepOverWord 5 = .ok (.aload_n 0, 1) := by decide +kernel
theorem dX2_stepOverWord_6 : decode cX2_stepOverWord 6 = .ok (.getfield 25, 3) := by decide +kernel
theorem dX2_stepOverWord_9 : decode cX2_stepOverWord 9 = .ok (.aload_n 0, 1) := by decide +kernel
theorem dX2_stepOverWord_10 : decode cX2_stepOverWord 10 = .ok (.getfield 18, 3) := by decide +kernel
theorem dX2_stepOverWord_13 : decode cX2_stepOverWord 13 = .ok (.if_icmp .ge 27, 3) := by decide +kernel
theorem dX2_stepOverWord_16 : decode cX2_stepOverWord 16 = .ok (.aload_n 0, 1) := by decide +kernel
theorem dX2_stepOverWord_17 : decode cX2_stepOverWord 17 = .ok (.aload_n 0, 1) := by decide +kernel
theorem dX2_stepOverWord_18 : decode cX2_stepOverWord 18 = .ok (.getfield 25, 3) := by decide +kernel
theorem dX2_stepOverWord_21 : decode cX2_stepOverWord 21 = .ok (.invokevirtual 126, 3) := by decide +kernel
theorem dX2_stepOverWord_24 : decode cX2_stepOverWord 24 = .ok (.ifCond .eq 16, 3) := by decide +kernel
theorem dX2_stepOverWord_27 : decode cX2_stepOverWord 27 = .ok (.aload_n 0, 1) := by decide +kernel
theorem dX2_stepOverWord_28 : decode cX2_stepOverWord 28 = .ok (.dup, 1) := by decide +kernel
theorem dX2_stepOverWord_29 : decode cX2_stepOverWord 29 = .ok (.getfield 25, 3) := by decide +kernel
theorem dX2_stepOverWord_32 : decode cX2_stepOverWord 32 = .ok (.iconst 1, 1) := by decide +kernel
theorem dX2_stepOverWord_33 : decode cX2_stepOverWord 33 = .ok (.iadd, 1) := by decide +kernel
theorem dX2_stepOverWord_34 : decode cX2_stepOverWord 34 = .ok (.putfield 25, 3) := by decide +kernel
theorem dX2_stepOverWord_37 : decode cX2_stepOverWord 37 = .ok (.goto (-32), 3) := by decide +kernel
theorem dX2_stepOverWord_40 : decode cX2_stepOverWord 40 = .ok (.return_, 1) := by decide +kernel
theorem dX2_stepOverNumber_0 : decode cX2_stepOverNumber 0 = .ok (.aload_n 0, 1) := by decide +kernel
theorem dX2_stepOverNumber_1 : decode cX2_stepOverNumber 1 = .ok (.iconst 2, 1) := by decide +kernel
theorem dX2_stepOverNumber_2 : decode cX2_stepOverNumber 2 = .ok (.putfield 31, 3) := by decide +kernel
theorem dX2_stepOverNumber_5 : decode cX2_stepOverNumber 5 = .ok (.aload_n 0, 1) := by decide +kernel
theorem dX2_stepOverNumber_6 : decode cX2_stepOverNumber 6 = .ok (.iconst 0, 1) := by decide +kernel
theorem dX2_stepOverNumber_7 : decode cX2_stepOverNumber 7 = .ok (.putfield 34, 3) := by decide +kernel
theorem dX2_stepOverNumber_10 : decode cX2_stepOverNumber 10 = .ok (.aload_n 0, 1) := by decide +kernel
theorem dX2_stepOverNumber_11 : decode cX2_stepOverNumber 11 = .ok (.getfield 25, 3) := by decide +kernel
theorem dX2_stepOverNumber_14 : decode cX2_stepOverNumber 14 = .ok (.aload_n 0, 1) := by decide +kernel
theorem dX2_stepOverNumber_15 : decode cX2_stepOverNumber 15 = .ok (.getfield 18, 3) := by decide +kernel
theorem dX2_stepOverNumber_18 : decode cX2_stepOverNumber 18 = .ok (.if_icmp .ge 57, 3) := by decide +kernel
theorem dX2_stepOverNumber_21 : decode cX2_stepOverNumber 21 = .ok (.aload_n 0, 1) := by decide +kernel
theorem dX2_stepOverNumber_22 : decode cX2_stepOverNumber 22 = .ok (.aload_n 0, 1) := by decide +kernel
theorem dX2_stepOverNumber_23 : decode cX2_stepOverNumber 23 = .ok (.getfield 25, 3) := by decide +kernel
theorem dX2_stepOverNumber_26 : decode cX2_stepOverNumber 26 = .ok (.invokevirtual 132, 3) := by decide +kernel
theorem dX2_stepOverNumber_29 : decode cX2_stepOverNumber 29 = .ok (.ifCond .eq 46, 3) := by decide +kernel
theorem dX2_stepOverNumber_32 : decode cX2_stepOverNumber 32 = .ok (.aload_n 0, 1) := by decide +kernel
theorem dX2_stepOverNumber_33 : decode cX2_stepOverNumber 33 = .ok (.aload_n 0, 1) := by decide +kernel
theorem dX2_stepOverNumber_34 : decode cX2_stepOverNumber 34 = .ok (.getfield 34, 3) := by decide +kernel
theorem dX2_stepOverNumber_37 : decode cX2_stepOverNumber 37 = .ok (.bipush 10, 2) := by decide +kernel
theorem dX2_stepOverNumber_39 : decode cX2_stepOverNumber 39 = .ok (.imul, 1) := by decide +kernel
theorem dX2_stepOverNumber_40 : decode cX2_stepOverNumber 40 = .ok (.aload_n 0, 1) := by decide +kernel
theorem dX2_stepOverNumber_41 : decode cX2_stepOverNumber 41 = .ok (.getfield 21, 3) := by decide +kernel
theorem dX2_stepOverNumber_44 : decode cX2_stepOverNumber 44 = .ok (.aload_n 0, 1) := by decide +kernel
theorem dX2_stepOverNumber_45 : decode cX2_stepOverNumber 45 = .ok (.getfield 25, 3) := by decide +kernel
theorem dX2_stepOverNumber_48 : decode cX2_stepOverNumber 48 = .ok (.baload, 1) := by decide +kernel
theorem dX2_stepOverNumber_49 : decode cX2_stepOverNumber 49 = .ok (.iadd, 1) := by decide +kernel
theorem dX2_stepOverNumber_50 : decode cX2_stepOverNumber 50 = .ok (.bipush 48, 2) := by decide +kernel
theorem dX2_stepOverNumber_52 : decode cX2_stepOverNumber 52 = .ok (.isub, 1) := by decide +kernel
theorem dX2_stepOverNumber_53 : decode cX2_stepOverNumber 53 = .ok (.sipush 1000, 3) := by decide +kernel
theorem dX2_stepOverNumber_56 : decode cX2_stepOverNumber 56 = .ok (.invokestatic 138, 3) := by decide +kernel
theorem dX2_stepOverNumber_59 : decode cX2_stepOverNumber 59 = .ok (.putfield 34, 3) := by decide +kernel
theorem dX2_stepOverNumber_62 : decode cX2_stepOverNumber 62 = .ok (.aload_n 0, 1) := by decide +kernel
theorem dX2_stepOverNumber_63 : decode cX2_stepOverNumber 63 = .ok (.dup, 1) := by decide +kernel
theorem dX2_stepOverNumber_64 : decode cX2_stepOverNumber 64 = .ok (.getfield 25, 3) := by decide +kernel
theorem dX2_stepOverNumber_67 : decode cX2_stepOverNumber 67 = .ok (.iconst 1, 1) := by decide +kernel
theorem dX2_stepOverNumber_68 : decode cX2_stepOverNumber 68 = .ok (.iadd, 1) := by decide +kernel
theorem dX2_stepOverNumber_69 : decode cX2_stepOverNumber 69 = .ok (.putfield 25, 3) := by decide +kernel
theorem dX2_stepOverNumber_72 : decode cX2_stepOverNumber 72 = .ok (.goto (-62), 3) := by decide +kernel
theorem dX2_stepOverNumber_75 : decode cX2_stepOverNumber 75 = .ok (.return_, 1) := by decide +kernel
theorem dX3_init_0 : decode cX3_init 0 = .ok (.aload_n 0, 1) := by decide +kernel
theorem dX3_init_1 : decode cX3_init 1 = .ok (.invokespecial 3, 3) := by decide +kernel
theorem dX3_init_4 : decode cX3_init 4 = .ok (.aload_n 0, 1) := by decide +kernel
theorem dX3_init_5 : decode cX3_init 5 = .ok (.iconst 0, 1) := by decide +kernel
theorem dX3_init_6 : decode cX3_init 6 = .ok (.putfield 9, 3) := by decide +kernel
theorem dX3_init_9 : decode cX3_init 9 = .ok (.aload_n 0, 1) := by decide +kernel
theorem dX3_init_10 : decode cX3_init 10 = .ok (.iconst 0, 1) := by decide +kernel
theorem dX3_init_11 : decode cX3_init 11 = .ok (.putfield 15, 3) := by decide +kernel
theorem dX3_init_14 : decode cX3_init 14 = .ok (.aload_n 0, 1) := by decide +kernel
theorem dX3_init_15 : decode cX3_init 15 = .ok (.iconst 0, 1) := by decide +kernel
theorem dX3_init_16 : decode cX3_init 16 = .ok (.putfield 18, 3) := by decide +kernel
theorem dX3_init_19 : decode cX3_init 19 = .ok (.aload_n 0, 1) := by decide +kernel
theorem dX3_init_20 : decode cX3_init 20 = .ok (.bipush 30, 2) := by decide +kernel
theorem dX3_init_22 : decode cX3_init 22 = .ok (.newarray .int, 2) := by decide +kernel
theorem dX3_init_24 : decode cX3_init 24 = .ok (.putfield 21, 3) := by decide +kernel
theorem dX3_init_27 : decode cX3_init 27 = .ok (.aload_n 0, 1) := by decide +kernel
theorem dX3_init_28 : decode cX3_init 28 = .ok (.bipush 6, 2) := by decide +kernel
theorem dX3_init_30 : decode cX3_init 30 = .ok (.newarray .int, 2) := by decide +kernel
theorem dX3_init_32 : decode cX3_init 32 = .ok (.putfield 25, 3) := by decide +kernel
theorem dX3_init_35 : decode cX3_init 35 = .ok (.aload_n 0, 1) := by decide +kernel
theorem dX3_init_36 : decode cX3_init 36 = .ok (.bipush 6, 2) := by decide +kernel
theorem dX3_init_38 : decode cX3_init 38 = .ok (.newarray .int, 2) := by decide +kernel
theorem dX3_init_40 : decode cX3_init 40 = .ok (.putfield 28, 3) := by decide +kernel
theorem dX3_init_43 : decode cX3_init 43 = .ok (.aload_n 0, 1) := by decide +kernel
theorem dX3_init_44 : decode cX3_init 44 = .ok (.bipush 6, 2) := by decide +kernel
theorem dX3_init_46 : decode cX3_init 46 = .ok (.newarray .int, 2) := by decide +kernel
theorem dX3_init_48 : decode cX3_init 48 = .ok (.putfield 31, 3) := by decide +kernel
theorem dX3_init_51 : decode cX3_init 51 = .ok (.aload_n 0, 1) := by decide +kernel
theorem dX3_init_52 : decode cX3_init 52 = .ok (.bipush 6, 2) := by decide +kernel
theorem dX3_init_54 : decode cX3_init 54 = .ok (.newarray .int, 2) := by decide +kernel
theorem dX3_init_56 : decode cX3_init 56 = .ok (.putfield 34, 3) := by decide +kernel
theorem dX3_init_59 : decode cX3_init 59 = .ok (.aload_n 0, 1) := by decide +kernel
theorem dX3_init_60 : decode cX3_init 60 = .ok (.bipush 6, 2) := by decide +kernel
theorem dX3_init_62 : decode cX3_init 62 = .ok (.newarray .int, 2) := by decide +kernel
theorem dX3_init_64 : decode cX3_init 64 = .ok (.putfield 37, 3) := by decide +kernel
theorem dX3_init_67 : decode cX3_init 67 = .ok (.aload_n 0, 1) := by decide +kernel
theorem dX3_init_68 : decode cX3_init 68 = .ok (.bipush 6, 2) := by decide +kernel
theorem dX3_init_70 : decode cX3_init 70 = .ok (.newarray .int, 2) := by decide +kernel
theorem dX3_init_72 : decode cX3_init 72 = .ok (.putfield 40, 3) := by decide +kernel
theorem dX3_init_75 : decode cX3_init 75 = .ok (.return_, 1) := by decide +kernel
theorem dX3_beginWith_0 : decode cX3_beginWith 0 = .ok (.aload_n 0, 1) := by decide +kernel
theorem dX3_beginWith_1 : decode cX3_beginWith 1 = .ok (.aload_n 1, 1) := by decide +kernel
theorem dX3_beginWith_2 : decode cX3_beginWith 2 = .ok (.getfield 43, 3) := by decide +kernel
theorem dX3_beginWith_5 : decode cX3_beginWith 5 = .ok (.putfield 9, 3) := by decide +kernel
theorem dX3_beginWith_8 : decode cX3_beginWith 8 = .ok (.aload_n 0, 1) := by decide +kernel
theorem dX3_beginWith_9 : decode cX3_beginWith 9 = .ok (.aload_n 1, 1) := by decide +kernel
theorem dX3_beginWith_10 : decode cX3_beginWith 10 = .ok (.getfield 46, 3) := by decide +kernel
theorem dX3_beginWith_13 : decode cX3_beginWith 13 = .ok (.putfield 15, 3) := by decide +kernel
theorem dX3_beginWith_16 : decode cX3_beginWith 16 = .ok (.aload_n 0, 1) := by decide +kernel
theorem dX3_beginWith_17 : decode cX3_beginWith 17 = .ok (.aload_n 1, 1) := by decide +kernel
theorem dX3_beginWith_18 : decode cX3_beginWith 18 = .ok (.getfield 47, 3) := by decide +kernel
theorem dX3_beginWith_21 : decode cX3_beginWith 21 = .ok (.putfield 18, 3) := by decide +kernel
theorem dX3_beginWith_24 : decode cX3_beginWith 24 = .ok (.aload_n 1, 1) := by decide +kernel
theorem dX3_beginWith_25 : decode cX3_beginWith 25 = .ok (.getfield 48, 3) := by decide +kernel
theorem dX3_beginWith_28 : decode cX3_beginWith 28 = .ok (.iconst 0, 1) := by decide +kernel
theorem dX3_beginWith_29 : decode cX3_beginWith 29 = .ok (.aload_n 0, 1) := by decide +kernel
theorem dX3_beginWith_30 : decode cX3_beginWith 30 = .ok (.getfield 21, 3) := by decide +kernel
theorem dX3_beginWith_33 : decode cX3_beginWith 33 = .ok (.iconst 0, 1) := by decide +kernel
theorem dX3_beginWith_34 : decode cX3_beginWith 34 = .ok (.aload_n 0, 1) := by decide +kernel
theorem dX3_beginWith_35 : decode cX3_beginWith 35 = .ok (.getfield 21, 3) := by decide +kernel
theorem dX3_beginWith_38 : decode cX3_beginWith 38 = .ok (.arraylength, 1) := by decide +kernel
theorem dX3_beginWith_39 : decode cX3_beginWith 39 = .ok (.invokestatic 51, 3) := by decide +kernel
theorem dX3_beginWith_42 : decode cX3_beginWith 42 = .ok (.iconst 0, 1) := by decide +kernel
theorem dX3_beginWith_43 : decode cX3_beginWith 43 = .ok (.istore_n 2, 1) := by decide +kernel
theorem dX3_beginWith_44 : decode cX3_beginWith 44 = .ok (.iload_n 2, 1) := by decide +kernel
theorem dX3_beginWith_45 : decode cX3_beginWith 45 = .ok (.bipush 6, 2) := by decide +kernel
theorem dX3_beginWith_47 : decode cX3_beginWith 47 = .ok (.if_icmp .ge 23, 3) := by decide +kernel
theorem dX3_beginWith_50 : decode cX3_beginWith 50 = .ok (.aload_n 0, 1) := by decide +kernel
theorem dX3_beginWith_51 : decode cX3_beginWith 51 = .ok (.getfield 25, 3) := by decide +kernel
theorem dX3_beginWith_54 : decode cX3_beginWith 54 = .ok (.iload_n 2, 1) := by decide +kernel
theorem dX3_beginWith_55 : decode cX3_beginWith 55 = .ok (.iload_n 2, 1) := by decide +kernel
theorem dX3_beginWith_56 : decode cX3_beginWith 56 = .ok (.iastore, 1) := by decide +kernel
theorem dX3_beginWith_57 : decode cX3_beginWith 57 = .ok (.aload_n 0, 1) := by decide +kernel
theorem dX3_beginWith_58 : decode cX3_beginWith 58 = .ok (.getfield 28, 3) := by decide +kernel
theorem dX3_beginWith_61 : decode cX3_beginWith 61 = .ok (.iload_n 2, 1) := by decide +kernel
theorem dX3_beginWith_62 : decode cX3_beginWith 62 = .ok (.iconst 0, 1) := by decide +kernel
theorem dX3_beginWith_63 : decode cX3_beginWith 63 = .ok (.iastore, 1) := by decide +kernel
theorem dX3_beginWith_64 : decode cX3_beginWith 64 = .ok (.iinc 2 1, 3) := by decide +kernel
theorem dX3_beginWith_67 : decode cX3_beginWith 67 = .ok (.goto (-23), 3) := by decide +kernel
theorem dX3_beginWith_70 : decode cX3_beginWith 70 = .ok (.return_, 1) := by decide +kernel
theorem dX3_takeFrom_0 : decode cX3_takeFrom 0 = .ok (.aload_n 0, 1) := by decide +kernel
theorem dX3_takeFrom_1 : decode cX3_takeFrom 1 = .ok (.aload_n 1, 1) := by decide +kernel
theorem dX3_takeFrom_2 : decode cX3_takeFrom 2 = .ok (.getfield 9, 3) := by decide +kernel
theorem dX3_takeFrom_5 : decode cX3_takeFrom 5 = .ok (.putfield 9, 3) := by decide +kernel
theorem dX3_takeFrom_8 : decode cX3_takeFrom 8 = .ok (.aload_n 0, 1) := by decide +kernel
theorem dX3_takeFrom_9 : decode cX3_takeFrom 9 = .ok (.aload_n 1, 1) := by decide +kernel
theorem dX3_takeFrom_10 : decode cX3_takeFrom 10 = .ok (.getfield 15, 3) := by decide +kernel
theorem dX3_takeFrom_13 : decode cX3_takeFrom 13 = .ok (.putfield 15, 3) := by decide +kernel
theorem dX3_takeFrom_16 : decode cX3_takeFrom 16 = .ok (.aload_n 0, 1) := by decide +kernel
theorem dX3_takeFrom_17 : decode cX3_takeFrom 17 = .ok (.aload_n 1, 1) := by decide +kernel
theorem dX3_takeFrom_18 : decode cX3_takeFrom 18 = .ok (.getfield 18, 3) := by decide +kernel
theorem dX3_takeFrom_21 : decode cX3_takeFrom 21 = .ok (.putfield 18, 3) := by decide +kernel
theorem dX3_takeFrom_24 : decode cX3_takeFrom 24 = .ok (.aload_n 1, 1) := by decide +kernel
theorem dX3_takeFrom_25 : decode cX3_takeFrom 25 = .ok (.getfield 21, 3) := by decide +kernel
theorem dX3_takeFrom_28 : decode cX3_takeFrom 28 = .ok (.iconst 0, 1) := by decide +kernel
theorem dX3_takeFrom_29 : decode cX3_takeFrom 29 = .ok (.aload_n 0, 1) := by decide +kernel
theorem dX3_takeFrom_30 : decode cX3_takeFrom 30 = .ok (.getfield 21, 3) := by decide +kernel
theorem dX3_takeFrom_33 : decode cX3_takeFrom 33 = .ok (.iconst 0, 1) := by decide +kernel
theorem dX3_takeFrom_34 : decode cX3_takeFrom 34 = .ok (.aload_n 0, 1) := by decide +kernel
theorem dX3_takeFrom_35 : decode cX3_takeFrom 35 = .ok (.getfield 21, 3) := by decide +kernel
theorem dX3_takeFrom_38 : decode cX3_takeFrom 38 = .ok (.arraylength, 1) := by decide +kernel
theorem dX3_takeFrom_39 : decode cX3_takeFrom 39 = .ok (.invokestatic 51, 3) := by decide +kernel
theorem dX3_takeFrom_42 : decode cX3_takeFrom 42 = .ok (.aload_n 1, 1) := by decide +kernel
theorem dX3_takeFrom_43 : decode cX3_takeFrom 43 = .ok (.getfield 25, 3) := by decide +kernel
theorem dX3_takeFrom_46 : decode cX3_takeFrom 46 = .ok (.iconst 0, 1) := by decide +kernel
theorem dX3_takeFrom_47 : decode cX3_takeFrom 47 = .ok (.aload_n 0, 1) := by decide +kernel
theorem dX3_takeFrom_48 : decode cX3_takeFrom 48 = .ok (.getfield 25, 3) := by decide +kernel
theorem dX3_takeFrom_51 : decode cX3_takeFrom 51 = .ok (.iconst 0, 1) := by decide +kernel
theorem dX3_takeFrom_52 : decode cX3_takeFrom 52 = .ok (.aload_n 0, 1) := by decide +kernel
theorem dX3_takeFrom_53 : decode cX3_takeFrom 53 = .ok (.getfield 25, 3) := by decide +kernel
theorem dX3_takeFrom_56 : decode cX3_takeFrom 56 = .ok (.arraylength, 1) := by decide +kernel
theorem dX3_takeFrom_57 : decode cX3_takeFrom 57 = .ok (.invokestatic 51, 3) := by decide +kernel
theorem dX3_takeFrom_60 : decode cX3_takeFrom 60 = .ok (.aload_n 1, 1) := by decide +kernel
theorem dX3_takeFrom_61 : decode cX3_takeFrom 61 = .ok (.getfield 28, 3) := by decide +kernel
theorem dX3_takeFrom_64 : decode cX3_takeFrom 64 = .ok (.iconst 0, 1) := by decide +kernel
theorem dX3_takeFrom_65 : decode cX3_takeFrom 65 = .ok (.aload_n 0, 1) := by decide +kernel
theorem dX3_takeFrom_66 : decode cX3_takeFrom 66 = .ok (.getfield 28, 3) := by decide +kernel
theorem dX3_takeFrom_69 : decode cX3_takeFrom 69 = .ok (.iconst 0, 1) := by decide +kernel
theorem dX3_takeFrom_70 : decode cX3_takeFrom 70 = .ok (.aload_n 0, 1) := by decide +kernel
theorem dX3_takeFrom_71 : decode cX3_takeFrom 71 = .ok (.getfield 28, 3) := by decide +kernel
theorem dX3_takeFrom_74 : decode cX3_takeFrom 74 = .ok (.arraylength, 1) := by decide +kernel
theorem dX3_takeFrom_75 : decode cX3_takeFrom 75 = .ok (.invokestatic 51, 3) := by decide +kernel
theorem dX3_takeFrom_78 : decode cX3_takeFrom 78 = .ok (.return_, 1) := by decide +kernel
theorem dX3_followOn_0 : decode cX3_followOn 0 = .ok (.aload_n 0, 1) := by decide +kernel
theorem dX3_followOn_1 : decode cX3_followOn 1 = .ok (.aload_n 1, 1) := by decide +kernel
theorem dX3_followOn_2 : decode cX3_followOn 2 = .ok (.invokevirtual 57, 3) := by decide +kernel
theorem dX3_followOn_5 : decode cX3_followOn 5 = .ok (.iconst 0, 1) := by decide +kernel
theorem dX3_followOn_6 : decode cX3_followOn 6 = .ok (.istore_n 3, 1) := by decide +kernel
theorem dX3_followOn_7 : decode cX3_followOn 7 = .ok (.iload_n 3, 1) := by decide +kernel
theorem dX3_followOn_8 : decode cX3_followOn 8 = .ok (.aload_n 0, 1) := by decide +kernel
theorem dX3_followOn_9 : decode cX3_followOn 9 = .ok (.getfield 18, 3) := by decide +kernel
theorem dX3_followOn_12 : decode cX3_followOn 12 = .ok (.if_icmp .ge 52, 3) := by decide +kernel
theorem dX3_followOn_15 : decode cX3_followOn 15 = .ok (.aload_n 1, 1) := by decide +kernel
theorem dX3_followOn_16 : decode cX3_followOn 16 = .ok (.getfield 37, 3) := by decide +kernel
theorem dX3_followOn_19 : decode cX3_followOn 19 = .ok (.iload_n 3, 1) := by decide +kernel
theorem dX3_followOn_20 : decode cX3_followOn 20 = .ok (.iaload, 1) := by decide +kernel
theorem dX3_followOn_21 : decode cX3_followOn 21 = .ok (.istore 4, 2) := by decide +kernel
theorem dX3_followOn_23 : decode cX3_followOn 23 = .ok (.iload 4, 2) := by decide +kernel
theorem dX3_followOn_25 : decode cX3_followOn 25 = .ok (.iconst (-1), 1) := by decide +kernel
theorem dX3_followOn_26 : decode cX3_followOn 26 = .ok (.if_icmp .eq 32, 3) := by decide +kernel
theorem dX3_followOn_29 : decode cX3_followOn 29 = .ok (.iload_n 3, 1) := by decide +kernel
theorem dX3_followOn_30 : decode cX3_followOn 30 = .ok (.iconst 5, 1) := by decide +kernel
theorem dX3_followOn_31 : decode cX3_followOn 31 = .ok (.imul, 1) := by decide +kernel
theorem dX3_followOn_32 : decode cX3_followOn 32 = .ok (.iload 4, 2) := by decide +kernel
theorem dX3_followOn_34 : decode cX3_followOn 34 = .ok (.iadd, 1) := by decide +kernel
theorem dX3_followOn_35 : decode cX3_followOn 35 = .ok (.istore 5, 2) := by decide +kernel
theorem dX3_followOn_37 : decode cX3_followOn 37 = .ok (.aload_n 0, 1) := by decide +kernel
theorem dX3_followOn_38 : decode cX3_followOn 38 = .ok (.getfield 21, 3) := by decide +kernel
theorem dX3_followOn_41 : decode cX3_followOn 41 = .ok (.iload 5, 2) := by decide +kernel
theorem dX3_followOn_43 : decode cX3_followOn 43 = .ok (.aload_n 0, 1) := by decide +kernel
theorem dX3_followOn_44 : decode cX3_followOn 44 = .ok (.getfield 21, 3) := by decide +kernel
theorem dX3_followOn_47 : decode cX3_followOn 47 = .ok (.iload 5, 2) := by decide +kernel
theorem dX3_followOn_49 : decode cX3_followOn 49 = .ok (.iaload, 1) := by decide +kernel
theorem dX3_followOn_50 : decode cX3_followOn 50 = .ok (.iconst 1, 1) := by decide +kernel
theorem dX3_followOn_51 : decode cX3_followOn 51 = .ok (.iadd, 1) := by decide +kernel
theorem dX3_followOn_52 : decode cX3_followOn 52 = .ok (.bipush 9, 2) := by decide +kernel
theorem dX3_followOn_54 : decode cX3_followOn 54 = .ok (.invokestatic 61, 3) := by decide +kernel
theorem dX3_followOn_57 : decode cX3_followOn 57 = .ok (.iastore, 1) := by decide +kernel
theorem dX3_followOn_58 : decode cX3_followOn 58 = .ok (.iinc 3 1, 3) := by decide +kernel
theorem dX3_followOn_61 : decode cX3_followOn 61 = .ok (.goto (-54), 3) := by decide +kernel
theorem dX3_followOn_64 : decode cX3_followOn 64 = .ok (.iconst 0, 1) := by decide +kernel
theorem dX3_followOn_65 : decode cX3_followOn 65 = .ok (.istore_n 3, 1) := by decide +kernel
theorem dX3_followOn_66 : decode cX3_followOn 66 = .ok (.iload_n 3, 1) := by decide +kernel
theorem dX3_followOn_67 : decode cX3_followOn 67 = .ok (.aload_n 0, 1) := by decide +kernel
theorem dX3_followOn_68 : decode cX3_followOn 68 = .ok (.getfield 21, 3) := by decide +kernel
theorem dX3_followOn_71 : decode cX3_followOn 71 = .ok (.arraylength, 1) := by decide +kernel
theorem dX3_followOn_72 : decode cX3_followOn 72 = .ok (.if_icmp .ge 36, 3) := by decide +kernel
theorem dX3_followOn_75 : decode cX3_followOn 75 = .ok (.aload_n 0, 1) := by decide +kernel
theorem dX3_followOn_76 : decode cX3_followOn 76 = .ok (.getfield 21, 3) := by decide +kernel
theorem dX3_followOn_79 : decode cX3_followOn 79 = .ok (.iload_n 3, 1) := by decide +kernel
theorem dX3_followOn_80 : decode cX3_followOn 80 = .ok (.iaload, 1) := by decide +kernel
theorem dX3_followOn_81 : decode cX3_followOn 81 = .ok (.ifCond .ge 21, 3) := by decide +kernel
theorem dX3_followOn_84 : decode cX3_followOn 84 = .ok (.aload_n 0, 1) := by decide +kernel
theorem dX3_followOn_85 : decode cX3_followOn 85 = .ok (.getfield 21, 3) := by decide +kernel
theorem dX3_followOn_88 : decode cX3_followOn 88 = .ok (.iload_n 3, 1) := by decide +kernel
theorem dX3_followOn_89 : decode cX3_followOn 89 = .ok (.aload_n 0, 1) := by decide +kernel
theorem dX3_followOn_90 : decode cX3_followOn 90 = .ok (.getfield 21, 3) := by decide +kernel
theorem dX3_followOn_93 : decode cX3_followOn 93 = .ok (.iload_n 3, 1) := by decide +kernel
theorem dX3_followOn_94 : decode cX3_followOn 94 = .ok (.iaload, 1) := by decide +kernel
theorem dX3_followOn_95 : decode cX3_followOn 95 = .ok (.iload_n 2, 1) := by decide +kernel
theorem dX3_followOn_96 : decode cX3_followOn 96 = .ok (.iadd, 1) := by decide +kernel
theorem dX3_followOn_97 : decode cX3_followOn 97 = .ok (.iconst 0, 1) := by decide +kernel
theorem dX3_followOn_98 : decode cX3_followOn 98 = .ok (.invokestatic 61, 3) := by decide +kernel
theorem dX3_followOn_101 : decode cX3_followOn 101 = .ok (.iastore, 1) := by decide +kernel
theorem dX3_followOn_102 : decode cX3_followOn 102 = .ok (.iinc 3 1, 3) := by decide +kernel
theorem dX3_followOn_105 : decode cX3_followOn 105 = .ok (.goto (-39), 3) := by decide +kernel
theorem dX3_followOn_108 : decode cX3_followOn 108 = .ok (.return_, 1) := by decide +kernel
theorem dX3_changePlots_0 : decode cX3_changePlots 0 = .ok (.aload_n 0, 1) := by decide +kernel
theorem dX3_changePlots_1 : decode cX3_changePlots 1 = .ok (.iload_n 1, 1) := by decide +kernel
theorem dX3_changePlots_2 : decode cX3_changePlots 2 = .ok (.invokevirtual 67, 3) := by decide +kernel
theorem dX3_changePlots_5 : decode cX3_changePlots 5 = .ok (.istore_n 3, 1) := by decide +kernel
theorem dX3_changePlots_6 : decode cX3_changePlots 6 = .ok (.aload_n 0, 1) := by decide +kernel
theorem dX3_changePlots_7 : decode cX3_changePlots 7 = .ok (.iload_n 2, 1) := by decide +kernel
theorem dX3_changePlots_8 : decode cX3_changePlots 8 = .ok (.invokevirtual 67, 3) := by decide +kernel
theorem dX3_changePlots_11 : decode cX3_changePlots 11 = .ok (.istore 4, 2) := by decide +kernel
theorem dX3_changePlots_13 : decode cX3_changePlots 13 = .ok (.aload_n 0, 1) := by decide +kernel
theorem dX3_changePlots_14 : decode cX3_changePlots 14 = .ok (.getfield 25, 3) := by decide +kernel
theorem dX3_changePlots_17 : decode cX3_changePlots 17 = .ok (.iload_n 3, 1) := by decide +kernel
theorem dX3_changePlots_18 : decode cX3_changePlots 18 = .ok (.iload_n 2, 1) := by decide +kernel
theorem dX3_changePlots_19 : decode cX3_changePlots 19 = .ok (.iastore, 1) := by decide +kernel
theorem dX3_changePlots_20 : decode cX3_changePlots 20 = .ok (.aload_n 0, 1) := by decide +kernel
theorem dX3_changePlots_21 : decode cX3_changePlots 21 = .ok (.getfield 25, 3) := by decide +kernel
theorem dX3_changePlots_24 : decode cX3_changePlots 24 = .ok (.iload 4, 2) := by decide +kernel
theorem dX3_changePlots_26 : decode cX3_changePlots 26 = .ok (.iload_n 1, 1) := by decide +kernel
theorem dX3_changePlots_27 : decode cX3_changePlots 27 = .ok (.iastore, 1) := by decide +kernel
theorem dX3_changePlots_28 : decode cX3_changePlots 28 = .ok (.return_, 1) := by decide +kernel
theorem dX3_plotOf_0 : decode cX3_plotOf 0 = .ok (.iconst 0, 1) := by decide +kernel
theorem dX3_plotOf_1 : decode cX3_plotOf 1 = .ok (.istore_n 2, 1) := by decide +kernel
theorem dX3_plotOf_2 : decode cX3_plotOf 2 = .ok (.iload_n 2, 1) := by decide +kernel
theorem dX3_plotOf_3 : decode cX3_plotOf 3 = .ok (.aload_n 0, 1) := by decide +kernel
theorem dX3_plotOf_4 : decode cX3_plotOf 4 = .ok (.getfield 18, 3) := by decide +kernel
theorem dX3_plotOf_7 : decode cX3_plotOf 7 = .ok (.if_icmp .ge 21, 3) := by decide +kernel
theorem dX3_plotOf_10 : decode cX3_plotOf 10 = .ok (.aload_n 0, 1) := by decide +kernel
theorem dX3_plotOf_11 : decode cX3_plotOf 11 = .ok (.getfield 25, 3) := by decide +kernel
theorem dX3_plotOf_14 : decode cX3_plotOf 14 = .ok (.iload_n 2, 1) := by decide +kernel
theorem dX3_plotOf_15 : decode cX3_plotOf 15 = .ok (.iaload, 1) := by decide +kernel
theorem dX3_plotOf_16 : decode cX3_plotOf 16 = .ok (.iload_n 1, 1) := by decide +kernel
theorem dX3_plotOf_17 : decode cX3_plotOf 17 = .ok (.if_icmp .ne 5, 3) := by decide +kernel
theorem dX3_plotOf_20 : decode cX3_plotOf 20 = .ok (.iload_n 2, 1) := by decide +kernel
theorem dX3_plotOf_21 : decode cX3_plotOf 21 = .ok (.ireturn, 1) := by decide +kernel
theorem dX3_plotOf_22 : decode cX3_plotOf 22 = .ok (.iinc 2 1, 3) := by decide +kernel
theorem dX3_plotOf_25 : decode cX3_plotOf 25 = .ok (.goto (-23), 3) := by decide +kernel
theorem dX3_plotOf_28 : decode cX3_plotOf 28 = .ok (.iconst 0, 1) := by decide +kernel
theorem dX3_plotOf_29 : decode cX3_plotOf 29 = .ok (.ireturn, 1) := by decide +kernel
theorem dX3_settle_0 : decode cX3_settle 0 = .ok (.iconst 0, 1) := by decide +kernel
theorem dX3_settle_1 : decode cX3_settle 1 = .ok (.istore_n 1, 1) := by decide +kernel
theorem dX3_settle_2 : decode cX3_settle 2 = .ok (.iload_n 1, 1) := by decide +kernel
theorem dX3_settle_3 : decode cX3_settle 3 = .ok (.aload_n 0, 1) := by decide +kernel
theorem dX3_settle_4 : decode cX3_settle 4 = .ok (.getfield 18, 3) := by decide +kernel
theorem dX3_settle_7 : decode cX3_settle 7 = .ok (.if_icmp .ge 36, 3) := by decide +kernel
theorem dX3_settle_10 : decode cX3_settle 10 = .ok (.aload_n 0, 1) := by decide +kernel
theorem dX3_settle_11 : decode cX3_settle 11 = .ok (.getfield 31, 3) := by decide +kernel
theorem dX3_settle_14 : decode cX3_settle 14 = .ok (.iload_n 1, 1) := by decide +kernel
theorem dX3_settle_15 : decode cX3_settle 15 = .ok (.aload_n 0, 1) := by decide +kernel
theorem dX3_settle_16 : decode cX3_settle 16 = .ok (.iload_n 1, 1) := by decide +kernel
theorem dX3_settle_17 : decode cX3_settle 17 = .ok (.invokevirtual 71, 3) := by decide +kernel
theorem dX3_settle_20 : decode cX3_settle 20 = .ok (.aload_n 0, 1) := by decide +kernel
theorem dX3_settle_21 : decode cX3_settle 21 = .ok (.getfield 28, 3) := by decide +kernel
theorem dX3_settle_24 : decode cX3_settle 24 = .ok (.iload_n 1, 1) := by decide +kernel
theorem dX3_settle_25 : decode cX3_settle 25 = .ok (.iaload, 1) := by decide +kernel
theorem dX3_settle_26 : decode cX3_settle 26 = .ok (.iconst (-1), 1) := by decide +kernel
theorem dX3_settle_27 : decode cX3_settle 27 = .ok (.ixor, 1) := by decide +kernel
theorem dX3_settle_28 : decode cX3_settle 28 = .ok (.iand, 1) := by decide +kernel
theorem dX3_settle_29 : decode cX3_settle 29 = .ok (.iastore, 1) := by decide +kernel
theorem dX3_settle_30 : decode cX3_settle 30 = .ok (.aload_n 0, 1) := by decide +kernel
theorem dX3_settle_31 : decode cX3_settle 31 = .ok (.getfield 40, 3) := by decide +kernel
theorem dX3_settle_34 : decode cX3_settle 34 = .ok (.iload_n 1, 1) := by decide +kernel
theorem dX3_settle_35 : decode cX3_settle 35 = .ok (.iconst 0, 1) := by decide +kernel
theorem dX3_settle_36 : decode cX3_settle 36 = .ok (.iastore, 1) := by decide +kernel
theorem dX3_settle_37 : decode cX3_settle 37 = .ok (.iinc 1 1, 3) := by decide +kernel
theorem dX3_settle_40 : decode cX3_settle 40 = .ok (.goto (-38), 3) := by decide +kernel
theorem dX3_settle_43 : decode cX3_settle 43 = .ok (.iconst 0, 1) := by decide +kernel
theorem dX3_settle_44 : decode cX3_settle 44 = .ok (.istore_n 1, 1) := by decide +kernel
theorem dX3_settle_45 : decode cX3_settle 45 = .ok (.iload_n 1, 1) := by decide +kernel
theorem dX3_settle_46 : decode cX3_settle 46 = .ok (.aload_n 0, 1) := by decide +kernel
theorem dX3_settle_47 : decode cX3_settle 47 = .ok (.getfield 18, 3) := by decide +kernel
theorem dX3_settle_50 : decode cX3_settle 50 = .ok (.if_icmp .ge 55, 3) := by decide +kernel
theorem dX3_settle_53 : decode cX3_settle 53 = .ok (.aload_n 0, 1) := by decide +kernel
theorem dX3_settle_54 : decode cX3_settle 54 = .ok (.getfield 25, 3) := by decide +kernel
theorem dX3_settle_57 : decode cX3_settle 57 = .ok (.iload_n 1, 1) := by decide +kernel
theorem dX3_settle_58 : decode cX3_settle 58 = .ok (.iaload, 1) := by decide +kernel
theorem dX3_settle_59 : decode cX3_settle 59 = .ok (.istore_n 2, 1) := by decide +kernel
theorem dX3_settle_60 : decode cX3_settle 60 = .ok (.aload_n 0, 1) := by decide +kernel
theorem dX3_settle_61 : decode cX3_settle 61 = .ok (.getfield 34, 3) := by decide +kernel
theorem dX3_settle_64 : decode cX3_settle 64 = .ok (.iload_n 2, 1) := by decide +kernel
theorem dX3_settle_65 : decode cX3_settle 65 = .ok (.aload_n 0, 1) := by decide +kernel
theorem dX3_settle_66 : decode cX3_settle 66 = .ok (.getfield 25, 3) := by decide +kernel
theorem dX3_settle_69 : decode cX3_settle 69 = .ok (.aload_n 0, 1) := by decide +kernel
theorem dX3_settle_70 : decode cX3_settle 70 = .ok (.getfield 18, 3) := by decide +kernel
theorem dX3_settle_73 : decode cX3_settle 73 = .ok (.iload_n 1, 1) := by decide +kernel
theorem dX3_settle_74 : decode cX3_settle 74 = .ok (.aload_n 0, 1) := by decide +kernel
theorem dX3_settle_75 : decode cX3_settle 75 = .ok (.getfield 15, 3) := by decide +kernel
theorem dX3_settle_78 : decode cX3_settle 78 = .ok (.invokestatic 74, 3) := by decide +kernel
theorem dX3_settle_81 : decode cX3_settle 81 = .ok (.iastore, 1) := by decide +kernel
theorem dX3_settle_82 : decode cX3_settle 82 = .ok (.aload_n 0, 1) := by decide +kernel
theorem dX3_settle_83 : decode cX3_settle 83 = .ok (.getfield 37, 3) := by decide +kernel
theorem dX3_settle_86 : decode cX3_settle 86 = .ok (.iload_n 2, 1) := by decide +kernel
theorem dX3_settle_87 : decode cX3_settle 87 = .ok (.aload_n 0, 1) := by decide +kernel
theorem dX3_settle_88 : decode cX3_settle 88 = .ok (.iload_n 2, 1) := by decide +kernel
theorem dX3_settle_89 : decode cX3_settle 89 = .ok (.aload_n 0, 1) := by decide +kernel
theorem dX3_settle_90 : decode cX3_settle 90 = .ok (.getfield 34, 3) := by decide +kernel
theorem dX3_settle_93 : decode cX3_settle 93 = .ok (.iload_n 2, 1) := by decide +kernel
theorem dX3_settle_94 : decode cX3_settle 94 = .ok (.iaload, 1) := by decide +kernel
theorem dX3_settle_95 : decode cX3_settle 95 = .ok (.invokevirtual 78, 3) := by decide +kernel
theorem dX3_settle_98 : decode cX3_settle 98 = .ok (.iastore, 1) := by decide +kernel
theorem dX3_settle_99 : decode cX3_settle 99 = .ok (.iinc 1 1, 3) := by decide +kernel
theorem dX3_settle_102 : decode cX3_settle 102 = .ok (.goto (-57), 3) := by decide +kernel
theorem dX3_settle_105 : decode cX3_settle 105 = .ok (.iconst 0, 1) := by decide +kernel
theorem dX3_settle_106 : decode cX3_settle 106 = .ok (.istore_n 1, 1) := by decide +kernel
theorem dX3_settle_107 : decode cX3_settle 107 = .ok (.iload_n 1, 1) := by decide +kernel
theorem dX3_settle_108 : decode cX3_settle 108 = .ok (.aload_n 0, 1) := by decide +kernel
theorem dX3_settle_109 : decode cX3_settle 109 = .ok (.getfield 18, 3) := by decide +kernel
theorem dX3_settle_112 : decode cX3_settle 112 = .ok (.if_icmp .ge 50, 3) := by decide +kernel
theorem dX3_settle_115 : decode cX3_settle 115 = .ok (.aload_n 0, 1) := by decide +kernel
theorem dX3_settle_116 : decode cX3_settle 116 = .ok (.getfield 34, 3) := by decide +kernel
theorem dX3_settle_119 : decode cX3_settle 119 = .ok (.iload_n 1, 1) := by decide +kernel
theorem dX3_settle_120 : decode cX3_settle 120 = .ok (.iaload, 1) := by decide +kernel
theorem dX3_settle_121 : decode cX3_settle 121 = .ok (.iconst (-1), 1) := by decide +kernel
theorem dX3_settle_122 : decode cX3_settle 122 = .ok (.if_icmp .eq 34, 3) := by decide +kernel
theorem dX3_settle_125 : decode cX3_settle 125 = .ok (.aload_n 0, 1) := by decide +kernel
theorem dX3_settle_126 : decode cX3_settle 126 = .ok (.getfield 40, 3) := by decide +kernel
theorem dX3_settle_129 : decode cX3_settle 129 = .ok (.aload_n 0, 1) := by decide +kernel
theorem dX3_settle_130 : decode cX3_settle 130 = .ok (.getfield 34, 3) := by decide +kernel
theorem dX3_settle_133 : decode cX3_settle 133 = .ok (.iload_n 1, 1) := by decide +kernel
theorem dX3_settle_134 : decode cX3_settle 134 = .ok (.iaload, 1) := by decide +kernel
theorem dX3_settle_135 : decode cX3_settle 135 = .ok (.dup2, 1) := by decide +kernel
theorem dX3_settle_136 : decode cX3_settle 136 = .ok (.iaload, 1) := by decide +kernel
theorem dX3_settle_137 : decode cX3_settle 137 = .ok (.aload_n 0, 1) := by decide +kernel
theorem dX3_settle_138 : decode cX3_settle 138 = .ok (.iload_n 1, 1) := by decide +kernel
theorem dX3_settle_139 : decode cX3_settle 139 = .ok (.aload_n 0, 1) := by decide +kernel
theorem dX3_settle_140 : decode cX3_settle 140 = .ok (.getfield 34, 3) := by decide +kernel
theorem dX3_settle_143 : decode cX3_settle 143 = .ok (.iload_n 1, 1) := by decide +kernel
theorem dX3_settle_144 : decode cX3_settle 144 = .ok (.iaload, 1) := by decide +kernel
theorem dX3_settle_145 : decode cX3_settle 145 = .ok (.aload_n 0, 1) := by decide +kernel
theorem dX3_settle_146 : decode cX3_settle 146 = .ok (.getfield 37, 3) := by decide +kernel
theorem dX3_settle_149 : decode cX3_settle 149 = .ok (.iload_n 1, 1) := by decide +kernel
theorem dX3_settle_150 : decode cX3_settle 150 = .ok (.iaload, 1) := by decide +kernel
theorem dX3_settle_151 : decode cX3_settle 151 = .ok (.invokevirtual 81, 3) := by decide +kernel
theorem dX3_settle_154 : decode cX3_settle 154 = .ok (.iadd, 1) := by decide +kernel
theorem dX3_settle_155 : decode cX3_settle 155 = .ok (.iastore, 1) := by decide +kernel
theorem dX3_settle_156 : decode cX3_settle 156 = .ok (.iinc 1 1, 3) := by decide +kernel
theorem dX3_settle_159 : decode cX3_settle 159 = .ok (.goto (-52), 3) := by decide +kernel
theorem dX3_settle_162 : decode cX3_settle 162 = .ok (.return_, 1) := by decide +kernel
theorem dX3_grownUnder_0 : decode cX3_grownUnder 0 = .ok (.aload_n 0, 1) := by decide +kernel
theorem dX3_grownUnder_1 : decode cX3_grownUnder 1 = .ok (.getfield 21, 3) := by decide +kernel
theorem dX3_grownUnder_4 : decode cX3_grownUnder 4 = .ok (.iload_n 1, 1) := by decide +kernel
theorem dX3_grownUnder_5 : decode cX3_grownUnder 5 = .ok (.aload_n 0, 1) := by decide +kernel
theorem dX3_grownUnder_6 : decode cX3_grownUnder 6 = .ok (.iload_n 2, 1) := by decide +kernel
theorem dX3_grownUnder_7 : decode cX3_grownUnder 7 = .ok (.invokevirtual 85, 3) := by decide +kernel
theorem dX3_grownUnder_10 : decode cX3_grownUnder 10 = .ok (.invokestatic 88, 3) := by decide +kernel
theorem dX3_grownUnder_13 : decode cX3_grownUnder 13 = .ok (.ireturn, 1) := by decide +kernel
theorem dX3_allowedBy_0 : decode cX3_allowedBy 0 = .ok (.iload_n 1, 1) := by decide +kernel
theorem dX3_allowedBy_1 : decode cX3_allowedBy 1 = .ok (.iconst (-1), 1) := by decide +kernel
theorem dX3_allowedBy_2 : decode cX3_allowedBy 2 = .ok (.if_icmp .eq 10, 3) := by decide +kernel
theorem dX3_allowedBy_5 : decode cX3_allowedBy 5 = .ok (.aload_n 0, 1) := by decide +kernel
theorem dX3_allowedBy_6 : decode cX3_allowedBy 6 = .ok (.getfield 31, 3) := by decide +kernel
theorem dX3_allowedBy_9 : decode cX3_allowedBy 9 = .ok (.iload_n 1, 1) := by decide +kernel
theorem dX3_allowedBy_10 : decode cX3_allowedBy 10 = .ok (.iaload, 1) := by decide +kernel
theorem dX3_allowedBy_11 : decode cX3_allowedBy 11 = .ok (.ireturn, 1) := by decide +kernel
theorem dX3_allowedBy_12 : decode cX3_allowedBy 12 = .ok (.aload_n 0, 1) := by decide +kernel
theorem dX3_allowedBy_13 : decode cX3_allowedBy 13 = .ok (.getfield 15, 3) := by decide +kernel
theorem dX3_allowedBy_16 : decode cX3_allowedBy 16 = .ok (.iconst 1, 1) := by decide +kernel
theorem dX3_allowedBy_17 : decode cX3_allowedBy 17 = .ok (.if_icmp .ne 14, 3) := by decide +kernel
theorem dX3_allowedBy_20 : decode cX3_allowedBy 20 = .ok (.iconst 1, 1) := by decide +kernel
theorem dX3_allowedBy_21 : decode cX3_allowedBy 21 = .ok (.aload_n 0, 1) := by decide +kernel
theorem dX3_allowedBy_22 : decode cX3_allowedBy 22 = .ok (.getfield 9, 3) := by decide +kernel
theorem dX3_allowedBy_25 : decode cX3_allowedBy 25 = .ok (.ishl, 1) := by decide +kernel
theorem dX3_allowedBy_26 : decode cX3_allowedBy 26 = .ok (.iconst 1, 1) := by decide +kernel
theorem dX3_allowedBy_27 : decode cX3_allowedBy 27 = .ok (.isub, 1) := by decide +kernel
theorem dX3_allowedBy_28 : decode cX3_allowedBy 28 = .ok (.goto 4, 3) := by decide +kernel
theorem dX3_allowedBy_31 : decode cX3_allowedBy 31 = .ok (.iconst 0, 1) := by decide +kernel
theorem dX3_allowedBy_32 : decode cX3_allowedBy 32 = .ok (.ireturn, 1) := by decide +kernel
theorem dX3_stenchFrom_0 : decode cX3_stenchFrom 0 = .ok (.iload_n 2, 1) := by decide +kernel
theorem dX3_stenchFrom_1 : decode cX3_stenchFrom 1 = .ok (.iconst (-1), 1) := by decide +kernel
theorem dX3_stenchFrom_2 : decode cX3_stenchFrom 2 = .ok (.if_icmp .eq 8, 3) := by decide +kernel
theorem dX3_stenchFrom_5 : decode cX3_stenchFrom 5 = .ok (.iload_n 2, 1) := by decide +kernel
theorem dX3_stenchFrom_6 : decode cX3_stenchFrom 6 = .ok (.iload_n 1, 1) := by decide +kernel
theorem dX3_stenchFrom_7 : decode cX3_stenchFrom 7 = .ok (.if_icmp .ne 7, 3) := by decide +kernel
theorem dX3_stenchFrom_10 : decode cX3_stenchFrom 10 = .ok (.iconst 0, 1) := by decide +kernel
theorem dX3_stenchFrom_11 : decode cX3_stenchFrom 11 = .ok (.goto 14, 3) := by decide +kernel
theorem dX3_stenchFrom_14 : decode cX3_stenchFrom 14 = .ok (.aload_n 0, 1) := by decide +kernel
theorem dX3_stenchFrom_15 : decode cX3_stenchFrom 15 = .ok (.iload_n 2, 1) := by decide +kernel
theorem dX3_stenchFrom_16 : decode cX3_stenchFrom 16 = .ok (.iload_n 3, 1) := by decide +kernel
theorem dX3_stenchFrom_17 : decode cX3_stenchFrom 17 = .ok (.invokevirtual 92, 3) := by decide +kernel
theorem dX3_stenchFrom_20 : decode cX3_stenchFrom 20 = .ok (.ineg, 1) := by decide +kernel
theorem dX3_stenchFrom_21 : decode cX3_stenchFrom 21 = .ok (.iconst 0, 1) := by decide +kernel
theorem dX3_stenchFrom_22 : decode cX3_stenchFrom 22 = .ok (.invokestatic 95, 3) := by decide +kernel
theorem dX3_stenchFrom_25 : decode cX3_stenchFrom 25 = .ok (.ireturn, 1) := by decide +kernel
theorem dX3_tasteOf_0 : decode cX3_tasteOf 0 = .ok (.iload_n 2, 1) := by decide +kernel
theorem dX3_tasteOf_1 : decode cX3_tasteOf 1 = .ok (.iconst (-1), 1) := by decide +kernel
theorem dX3_tasteOf_2 : decode cX3_tasteOf 2 = .ok (.if_icmp .ne 7, 3) := by decide +kernel
theorem dX3_tasteOf_5 : decode cX3_tasteOf 5 = .ok (.iconst 0, 1) := by decide +kernel
theorem dX3_tasteOf_6 : decode cX3_tasteOf 6 = .ok (.goto 13, 3) := by decide +kernel
theorem dX3_tasteOf_9 : decode cX3_tasteOf 9 = .ok (.aload_n 0, 1) := by decide +kernel
theorem dX3_tasteOf_10 : decode cX3_tasteOf 10 = .ok (.getfield 21, 3) := by decide +kernel
theorem dX3_tasteOf_13 : decode cX3_tasteOf 13 = .ok (.iload_n 1, 1) := by decide +kernel
theorem dX3_tasteOf_14 : decode cX3_tasteOf 14 = .ok (.iconst 5, 1) := by decide +kernel
theorem dX3_tasteOf_15 : decode cX3_tasteOf 15 = .ok (.imul, 1) := by decide +kernel
theorem dX3_tasteOf_16 : decode cX3_tasteOf 16 = .ok (.iload_n 2, 1) := by decide +kernel
theorem dX3_tasteOf_17 : decode cX3_tasteOf 17 = .ok (.iadd, 1) := by decide +kernel
theorem dX3_tasteOf_18 : decode cX3_tasteOf 18 = .ok (.iaload, 1) := by decide +kernel
theorem dX3_tasteOf_19 : decode cX3_tasteOf 19 = .ok (.ireturn, 1) := by decide +kernel
theorem dX3_hated_0 : decode cX3_hated 0 = .ok (.iconst 0, 1) := by decide +kernel
theorem dX3_hated_1 : decode cX3_hated 1 = .ok (.istore_n 2, 1) := by decide +kernel
theorem dX3_hated_2 : decode cX3_hated 2 = .ok (.iconst 0, 1) := by decide +kernel
theorem dX3_hated_3 : decode cX3_hated 3 = .ok (.istore_n 3, 1) := by decide +kernel
theorem dX3_hated_4 : decode cX3_hated 4 = .ok (.iload_n 3, 1) := by decide +kernel
theorem dX3_hated_5 : decode cX3_hated 5 = .ok (.aload_n 0, 1) := by decide +kernel
theorem dX3_hated_6 : decode cX3_hated 6 = .ok (.getfield 9, 3) := by decide +kernel
theorem dX3_hated_9 : decode cX3_hated 9 = .ok (.if_icmp .ge 28, 3) := by decide +kernel
theorem dX3_hated_12 : decode cX3_hated 12 = .ok (.aload_n 0, 1) := by decide +kernel
theorem dX3_hated_13 : decode cX3_hated 13 = .ok (.getfield 21, 3) := by decide +kernel
theorem dX3_hated_16 : decode cX3_hated 16 = .ok (.iload_n 1, 1) := by decide +kernel
theorem dX3_hated_17 : decode cX3_hated 17 = .ok (.iconst 5, 1) := by decide +kernel
theorem dX3_hated_18 : decode cX3_hated 18 = .ok (.imul, 1) := by decide +kernel
theorem dX3_hated_19 : decode cX3_hated 19 = .ok (.iload_n 3, 1) := by decide +kernel
theorem dX3_hated_20 : decode cX3_hated 20 = .ok (.iadd, 1) := by decide +kernel
theorem dX3_hated_21 : decode cX3_hated 21 = .ok (.iaload, 1) := by decide +kernel
theorem dX3_hated_22 : decode cX3_hated 22 = .ok (.ifCond .ge 9, 3) := by decide +kernel
theorem dX3_hated_25 : decode cX3_hated 25 = .ok (.iload_n 2, 1) := by decide +kernel
theorem dX3_hated_26 : decode cX3_hated 26 = .ok (.iconst 1, 1) := by decide +kernel
theorem dX3_hated_27 : decode cX3_hated 27 = .ok (.iload_n 3, 1) := by decide +kernel
theorem dX3_hated_28 : decode cX3_hated 28 = .ok (.ishl, 1) := by decide +kernel
theorem dX3_hated_29 : decode cX3_hated 29 = .ok (.ior, 1) := by decide +kernel
theorem dX3_hated_30 : decode cX3_hated 30 = .ok (.istore_n 2, 1) := by decide +kernel
theorem dX3_hated_31 : decode cX3_hated 31 = .ok (.iinc 3 1, 3) := by decide +kernel
theorem dX3_hated_34 : decode cX3_hated 34 = .ok (.goto (-30), 3) := by decide +kernel
theorem dX3_hated_37 : decode cX3_hated 37 = .ok (.iload_n 2, 1) := by decide +kernel
theorem dX3_hated_38 : decode cX3_hated 38 = .ok (.ireturn, 1) := by decide +kernel
theorem dX3_loved_0 : decode cX3_loved 0 = .ok (.iconst 0, 1) := by decide +kernel
theorem dX3_loved_1 : decode cX3_loved 1 = .ok (.istore_n 2, 1) := by decide +kernel
theorem dX3_loved_2 : decode cX3_loved 2 = .ok (.iconst 0, 1) := by decide +kernel
theorem dX3_loved_3 : decode cX3_loved 3 = .ok (.istore_n 3, 1) := by decide +kernel
theorem dX3_loved_4 : decode cX3_loved 4 = .ok (.iload_n 3, 1) := by decide +kernel
theorem dX3_loved_5 : decode cX3_loved 5 = .ok (.aload_n 0, 1) := by decide +kernel
theorem dX3_loved_6 : decode cX3_loved 6 = .ok (.getfield 9, 3) := by decide +kernel
theorem dX3_loved_9 : decode cX3_loved 9 = .ok (.if_icmp .ge 28, 3) := by decide +kernel
theorem dX3_loved_12 : decode cX3_loved 12 = .ok (.aload_n 0, 1) := by decide +kernel
theorem dX3_loved_13 : decode cX3_loved 13 = .ok (.getfield 21, 3) := by decide +kernel
theorem dX3_loved_16 : decode cX3_loved 16 = .ok (.iload_n 1, 1) := by decide +kernel
theorem dX3_loved_17 : decode cX3_loved 17 = .ok (.iconst 5, 1) := by decide +kernel
theorem dX3_loved_18 : decode cX3_loved 18 = .ok (.imul, 1) := by decide +kernel
theorem dX3_loved_19 : decode cX3_loved 19 = .ok (.iload_n 3, 1) := by decide +kernel
theorem dX3_loved_20 : decode cX3_loved 20 = .ok (.iadd, 1) := by decide +kernel
theorem dX3_loved_21 : decode cX3_loved 21 = .ok (.iaload, 1) := by decide +kernel
theorem dX3_loved_22 : decode cX3_loved 22 = .ok (.ifCond .le 9, 3) := by decide +kernel
theorem dX3_loved_25 : decode cX3_loved 25 = .ok (.iload_n 2, 1) := by decide +kernel
theorem dX3_loved_26 : decode cX3_loved 26 = .ok (.iconst 1, 1) := by decide +kernel
theorem dX3_loved_27 : decode cX3_loved 27 = .ok (.iload_n 3, 1) := by decide +kernel
theorem dX3_loved_28 : decode cX3_loved 28 = .ok (.ishl, 1) := by decide +kernel
theorem dX3_loved_29 : decode cX3_loved 29 = .ok (.ior, 1) := by decide +kernel
theorem dX3_loved_30 : decode cX3_loved 30 = .ok (.istore_n 2, 1) := by decide +kernel
theorem dX3_loved_31 : decode cX3_loved 31 = .ok (.iinc 3 1, 3) := by decide +kernel
theorem dX3_loved_34 : decode cX3_loved 34 = .ok (.goto (-30), 3) := by decide +kernel
theorem dX3_loved_37 : decode cX3_loved 37 = .ok (.iload_n 2, 1) := by decide +kernel
theorem dX3_loved_38 : decode cX3_loved 38 = .ok (.ireturn, 1) := by decide +kernel
theorem dX3_hasHate_0 : decode cX3_hasHate 0 = .ok (.iconst 0, 1) := by decide +kernel
theorem dX3_hasHate_1 : decode cX3_hasHate 1 = .ok (.istore_n 1, 1) := by decide +kernel
theorem dX3_hasHate_2 : decode cX3_hasHate 2 = .ok (.iload_n 1, 1) := by decide +kernel
theorem dX3_hasHate_3 : decode cX3_hasHate 3 = .ok (.aload_n 0, 1) := by decide +kernel
theorem dX3_hasHate_4 : decode cX3_hasHate 4 = .ok (.getfield 18, 3) := by decide +kernel
theorem dX3_hasHate_7 : decode cX3_hasHate 7 = .ok (.if_icmp .ge 19, 3) := by decide +kernel
theorem dX3_hasHate_10 : decode cX3_hasHate 10 = .ok (.aload_n 0, 1) := by decide +kernel
theorem dX3_hasHate_11 : decode cX3_hasHate 11 = .ok (.iload_n 1, 1) := by decide +kernel
theorem dX3_hasHate_12 : decode cX3_hasHate 12 = .ok (.invokevirtual 71, 3) := by decide +kernel
theorem dX3_hasHate_15 : decode cX3_hasHate 15 = .ok (.ifCond .eq 5, 3) := by decide +kernel
theorem dX3_hasHate_18 : decode cX3_hasHate 18 = .ok (.iconst 1, 1) := by decide +kernel
theorem dX3_hasHate_19 : decode cX3_hasHate 19 = .ok (.ireturn, 1) := by decide +kernel
theorem dX3_hasHate_20 : decode cX3_hasHate 20 = .ok (.iinc 1 1, 3) := by decide +kernel
theorem dX3_hasHate_23 : decode cX3_hasHate 23 = .ok (.goto (-21), 3) := by decide +kernel
theorem dX3_hasHate_26 : decode cX3_hasHate 26 = .ok (.iconst 0, 1) := by decide +kernel
theorem dX3_hasHate_27 : decode cX3_hasHate 27 = .ok (.ireturn, 1) := by decide +kernel
theorem dX3_hateFor_0 : decode cX3_hateFor 0 = .ok (.iconst 0, 1) := by decide +kernel
theorem dX3_hateFor_1 : decode cX3_hateFor 1 = .ok (.istore_n 2, 1) := by decide +kernel
theorem dX3_hateFor_2 : decode cX3_hateFor 2 = .ok (.iconst 0, 1) := by decide +kernel
theorem dX3_hateFor_3 : decode cX3_hateFor 3 = .ok (.istore_n 3, 1) := by decide +kernel
theorem dX3_hateFor_4 : decode cX3_hateFor 4 = .ok (.iload_n 3, 1) := by decide +kernel
theorem dX3_hateFor_5 : decode cX3_hateFor 5 = .ok (.aload_n 0, 1) := by decide +kernel
theorem dX3_hateFor_6 : decode cX3_hateFor 6 = .ok (.getfield 18, 3) := by decide +kernel
theorem dX3_hateFor_9 : decode cX3_hateFor 9 = .ok (.if_icmp .ge 23, 3) := by decide +kernel
theorem dX3_hateFor_12 : decode cX3_hateFor 12 = .ok (.iload_n 2, 1) := by decide +kernel
theorem dX3_hateFor_13 : decode cX3_hateFor 13 = .ok (.aload_n 0, 1) := by decide +kernel
theorem dX3_hateFor_14 : decode cX3_hateFor 14 = .ok (.iload_n 3, 1) := by decide +kernel
theorem dX3_hateFor_15 : decode cX3_hateFor 15 = .ok (.iload_n 1, 1) := by decide +kernel
theorem dX3_hateFor_16 : decode cX3_hateFor 16 = .ok (.invokevirtual 92, 3) := by decide +kernel
theorem dX3_hateFor_19 : decode cX3_hateFor 19 = .ok (.ineg, 1) := by decide +kernel
theorem dX3_hateFor_20 : decode cX3_hateFor 20 = .ok (.iconst 0, 1) := by decide +kernel
theorem dX3_hateFor_21 : decode cX3_hateFor 21 = .ok (.invokestatic 95, 3) := by decide +kernel
theorem dX3_hateFor_24 : decode cX3_hateFor 24 = .ok (.iadd, 1) := by decide +kernel
theorem dX3_hateFor_25 : decode cX3_hateFor 25 = .ok (.istore_n 2, 1) := by decide +kernel
theorem dX3_hateFor_26 : decode cX3_hateFor 26 = .ok (.iinc 3 1, 3) := by decide +kernel
theorem dX3_hateFor_29 : decode cX3_hateFor 29 = .ok (.goto (-25), 3) := by decide +kernel
theorem dX3_hateFor_32 : decode cX3_hateFor 32 = .ok (.iload_n 2, 1) := by decide +kernel
theorem dX3_hateFor_33 : decode cX3_hateFor 33 = .ok (.ireturn, 1) := by decide +kernel
theorem dX3_growersOf_0 : decode cX3_growersOf 0 = .ok (.iconst 0, 1) := by decide +kernel
theorem dX3_growersOf_1 : decode cX3_growersOf 1 = .ok (.istore_n 2, 1) := by decide +kernel
theorem dX3_growersOf_2 : decode cX3_growersOf 2 = .ok (.iconst 0, 1) := by decide +kernel
theorem dX3_growersOf_3 : decode cX3_growersOf 3 = .ok (.istore_n 3, 1) := by decide +kernel
theorem dX3_growersOf_4 : decode cX3_growersOf 4 = .ok (.iload_n 3, 1) := by decide +kernel
theorem dX3_growersOf_5 : decode cX3_growersOf 5 = .ok (.aload_n 0, 1) := by decide +kernel
theorem dX3_growersOf_6 : decode cX3_growersOf 6 = .ok (.getfield 18, 3) := by decide +kernel
theorem dX3_growersOf_9 : decode cX3_growersOf 9 = .ok (.if_icmp .ge 25, 3) := by decide +kernel
theorem dX3_growersOf_12 : decode cX3_growersOf 12 = .ok (.aload_n 0, 1) := by decide +kernel
theorem dX3_growersOf_13 : decode cX3_growersOf 13 = .ok (.getfield 37, 3) := by decide +kernel
theorem dX3_growersOf_16 : decode cX3_growersOf 16 = .ok (.iload_n 3, 1) := by decide +kernel
theorem dX3_growersOf_17 : decode cX3_growersOf 17 = .ok (.iaload, 1) := by decide +kernel
theorem dX3_growersOf_18 : decode cX3_growersOf 18 = .ok (.iload_n 1, 1) := by decide +kernel
theorem dX3_growersOf_19 : decode cX3_growersOf 19 = .ok (.if_icmp .ne 9, 3) := by decide +kernel
theorem dX3_growersOf_22 : decode cX3_growersOf 22 = .ok (.iload_n 2, 1) := by decide +kernel
theorem dX3_growersOf_23 : decode cX3_growersOf 23 = .ok (.iconst 1, 1) := by decide +kernel
theorem dX3_growersOf_24 : decode cX3_growersOf 24 = .ok (.iload_n 3, 1) := by decide +kernel
theorem dX3_growersOf_25 : decode cX3_growersOf 25 = .ok (.ishl, 1) := by decide +kernel
theorem dX3_growersOf_26 : decode cX3_growersOf 26 = .ok (.ior, 1) := by decide +kernel
theorem dX3_growersOf_27 : decode cX3_growersOf 27 = .ok (.istore_n 2, 1) := by decide +kernel
theorem dX3_growersOf_28 : decode cX3_growersOf 28 = .ok (.iinc 3 1, 3) := by decide +kernel
theorem dX3_growersOf_31 : decode cX3_growersOf 31 = .ok (.goto (-27), 3) := by decide +kernel
theorem dX3_growersOf_34 : decode cX3_growersOf 34 = .ok (.iload_n 2, 1) := by decide +kernel
theorem dX3_growersOf_35 : decode cX3_growersOf 35 = .ok (.ireturn, 1) := by decide +kernel
theorem dX3_joyOf_0 : decode cX3_joyOf 0 = .ok (.aload_n 0, 1) := by decide +kernel
theorem dX3_joyOf_1 : decode cX3_joyOf 1 = .ok (.iload_n 1, 1) := by decide +kernel
theorem dX3_joyOf_2 : decode cX3_joyOf 2 = .ok (.aload_n 0, 1) := by decide +kernel
theorem dX3_joyOf_3 : decode cX3_joyOf 3 = .ok (.getfield 37, 3) := by decide +kernel
theorem dX3_joyOf_6 : decode cX3_joyOf 6 = .ok (.iload_n 1, 1) := by decide +kernel
theorem dX3_joyOf_7 : decode cX3_joyOf 7 = .ok (.iaload, 1) := by decide +kernel
theorem dX3_joyOf_8 : decode cX3_joyOf 8 = .ok (.invokevirtual 92, 3) := by decide +kernel
theorem dX3_joyOf_11 : decode cX3_joyOf 11 = .ok (.ireturn, 1) := by decide +kernel
theorem dX3_shareOf_0 : decode cX3_shareOf 0 = .ok (.aload_n 0, 1) := by decide +kernel
theorem dX3_shareOf_1 : decode cX3_shareOf 1 = .ok (.iload_n 1, 1) := by decide +kernel
theorem dX3_shareOf_2 : decode cX3_shareOf 2 = .ok (.invokevirtual 98, 3) := by decide +kernel
theorem dX3_shareOf_5 : decode cX3_shareOf 5 = .ok (.aload_n 0, 1) := by decide +kernel
theorem dX3_shareOf_6 : decode cX3_shareOf 6 = .ok (.getfield 40, 3) := by decide +kernel
theorem dX3_shareOf_9 : decode cX3_shareOf 9 = .ok (.iload_n 1, 1) := by decide +kernel
theorem dX3_shareOf_10 : decode cX3_shareOf 10 = .ok (.iaload, 1) := by decide +kernel
theorem dX3_shareOf_11 : decode cX3_shareOf 11 = .ok (.isub, 1) := by decide +kernel
theorem dX3_shareOf_12 : decode cX3_shareOf 12 = .ok (.ireturn, 1) := by decide +kernel
theorem dX3_sumOfShares_0 : decode cX3_sumOfShares 0 = .ok (.iconst 0, 1) := by decide +kernel
theorem dX3_sumOfShares_1 : decode cX3_sumOfShares 1 = .ok (.istore_n 1, 1) := by decide +kernel
theorem dX3_sumOfShares_2 : decode cX3_sumOfShares 2 = .ok (.iconst 0, 1) := by decide +kernel
theorem dX3_sumOfShares_3 : decode cX3_sumOfShares 3 = .ok (.istore_n 2, 1) := by decide +kernel
theorem dX3_sumOfShares_4 : decode cX3_sumOfShares 4 = .ok (.iload_n 2, 1) := by decide +kernel
theorem dX3_sumOfShares_5 : decode cX3_sumOfShares 5 = .ok (.aload_n 0, 1) := by decide +kernel
theorem dX3_sumOfShares_6 : decode cX3_sumOfShares 6 = .ok (.getfield 18, 3) := by decide +kernel
theorem dX3_sumOfShares_9 : decode cX3_sumOfShares 9 = .ok (.if_icmp .ge 17, 3) := by decide +kernel
theorem dX3_sumOfShares_12 : decode cX3_sumOfShares 12 = .ok (.iload_n 1, 1) := by decide +kernel
theorem dX3_sumOfShares_13 : decode cX3_sumOfShares 13 = .ok (.aload_n 0, 1) := by decide +kernel
theorem dX3_sumOfShares_14 : decode cX3_sumOfShares 14 = .ok (.iload_n 2, 1) := by decide +kernel
theorem dX3_sumOfShares_15 : decode cX3_sumOfShares 15 = .ok (.invokevirtual 101, 3) := by decide +kernel
theorem dX3_sumOfShares_18 : decode cX3_sumOfShares 18 = .ok (.iadd, 1) := by decide +kernel
theorem dX3_sumOfShares_19 : decode cX3_sumOfShares 19 = .ok (.istore_n 1, 1) := by decide +kernel
theorem dX3_sumOfShares_20 : decode cX3_sumOfShares 20 = .ok (.iinc 2 1, 3) := by decide +kernel
theorem dX3_sumOfShares_23 : decode cX3_sumOfShares 23 = .ok (.goto (-19), 3) := by decide +kernel
theorem dX3_sumOfShares_26 : decode cX3_sumOfShares 26 = .ok (.iload_n 1, 1) := by decide +kernel
theorem dX3_sumOfShares_27 : decode cX3_sumOfShares 27 = .ok (.ireturn, 1) := by decide +kernel
theorem dX4_init_0 : decode cX4_init 0 = .ok (.aload_n 0, 1) := by decide +kernel
theorem dX4_init_1 : decode cX4_init 1 = .ok (.invokespecial 3, 3) := by decide +kernel
theorem dX4_init_4 : decode cX4_init 4 = .ok (.aload_n 0, 1) := by decide +kernel
theorem dX4_init_5 : decode cX4_init 5 = .ok (.iconst 0, 1) := by decide +kernel
theorem dX4_init_6 : decode cX4_init 6 = .ok (.putfield 9, 3) := by decide +kernel
theorem dX4_init_9 : decode cX4_init 9 = .ok (.aload_n 0, 1) := by decide +kernel
theorem dX4_init_10 : decode cX4_init 10 = .ok (.iconst 0, 1) := by decide +kernel
theorem dX4_init_11 : decode cX4_init 11 = .ok (.putfield 15, 3) := by decide +kernel
theorem dX4_init_14 : decode cX4_init 14 = .ok (.aload_n 0, 1) := by decide +kernel
theorem dX4_init_15 : decode cX4_init 15 = .ok (.iconst 0, 1) := by decide +kernel
theorem dX4_init_16 : decode cX4_init 16 = .ok (.putfield 19, 3) := by decide +kernel
theorem dX4_init_19 : decode cX4_init 19 = .ok (.aload_n 0, 1) := by decide +kernel
theorem dX4_init_20 : decode cX4_init 20 = .ok (.bipush 60, 2) := by decide +kernel
theorem dX4_init_22 : decode cX4_init 22 = .ok (.newarray .long, 2) := by decide +kernel
theorem dX4_init_24 : decode cX4_init 24 = .ok (.putfield 22, 3) := by decide +kernel
theorem dX4_init_27 : decode cX4_init 27 = .ok (.return_, 1) := by decide +kernel
theorem dX4_begin_0 : decode cX4_begin 0 = .ok (.aload_n 0, 1) := by decide +kernel
theorem dX4_begin_1 : decode cX4_begin 1 = .ok (.iconst 1, 1) := by decide +kernel
theorem dX4_begin_2 : decode cX4_begin 2 = .ok (.putfield 9, 3) := by decide +kernel
theorem dX4_begin_5 : decode cX4_begin 5 = .ok (.aload_n 0, 1) := by decide +kernel
theorem dX4_begin_6 : decode cX4_begin 6 = .ok (.iload_n 1, 1) := by decide +kernel
theorem dX4_begin_7 : decode cX4_begin 7 = .ok (.putfield 15, 3) := by decide +kernel
theorem dX4_begin_10 : decode cX4_begin 10 = .ok (.aload_n 0, 1) := by decide +kernel
theorem dX4_begin_11 : decode cX4_begin 11 = .ok (.iload_n 2, 1) := by decide +kernel
theorem dX4_begin_12 : decode cX4_begin 12 = .ok (.putfield 19, 3) := by decide +kernel
theorem dX4_begin_15 : decode cX4_begin 15 = .ok (.aload_n 0, 1) := by decide +kernel
theorem dX4_begin_16 : decode cX4_begin 16 = .ok (.getfield 22, 3) := by decide +kernel
theorem dX4_begin_19 : decode cX4_begin 19 = .ok (.lconst 0, 1) := by decide +kernel
theorem dX4_begin_20 : decode cX4_begin 20 = .ok (.invokestatic 26, 3) := by decide +kernel
theorem dX4_begin_23 : decode cX4_begin 23 = .ok (.return_, 1) := by decide +kernel
theorem dX4_cut_0 : decode cX4_cut 0 = .ok (.aload_n 0, 1) := by decide +kernel
theorem dX4_cut_1 : decode cX4_cut 1 = .ok (.getfield 15, 3) := by decide +kernel
theorem dX4_cut_4 : decode cX4_cut 4 = .ok (.tableswitch 42 0 2 #[28, 33, 38], 28) := by decide +kernel
theorem dX4_cut_32 : decode cX4_cut 32 = .ok (.lload_n 1, 1) := by decide +kernel
theorem dX4_cut_33 : decode cX4_cut 33 = .ok (.l2i, 1) := by decide +kernel
theorem dX4_cut_34 : decode cX4_cut 34 = .ok (.i2b, 1) := by decide +kernel
theorem dX4_cut_35 : decode cX4_cut 35 = .ok (.i2l, 1) := by decide +kernel
theorem dX4_cut_36 : decode cX4_cut 36 = .ok (.lreturn, 1) := by decide +kernel
theorem dX4_cut_37 : decode cX4_cut 37 = .ok (.lload_n 1, 1) := by decide +kernel
theorem dX4_cut_38 : decode cX4_cut 38 = .ok (.l2i, 1) := by decide +kernel
theorem dX4_cut_39 : decode cX4_cut 39 = .ok (.i2s, 1) := by decide +kernel
theorem dX4_cut_40 : decode cX4_cut 40 = .ok (.i2l, 1) := by decide +kernel
theorem dX4_cut_41 : decode cX4_cut 41 = .ok (.lreturn, 1) := by decide +kernel
theorem dX4_cut_42 : decode cX4_cut 42 = .ok (.lload_n 1, 1) := by decide +kernel
theorem dX4_cut_43 : decode cX4_cut 43 = .ok (.l2i, 1) := by decide +kernel
theorem dX4_cut_44 : decode cX4_cut 44 = .ok (.i2l, 1) := by decide +kernel
theorem dX4_cut_45 : decode cX4_cut 45 = .ok (.lreturn, 1) := by decide +kernel
theorem dX4_cut_46 : decode cX4_cut 46 = .ok (.lload_n 1, 1) := by decide +kernel
theorem dX4_cut_47 : decode cX4_cut 47 = .ok (.lreturn, 1) := by decide +kernel
theorem dX4_hasPart_0 : decode cX4_hasPart 0 = .ok (.iload_n 1, 1) := by decide +kernel
theorem dX4_hasPart_1 : decode cX4_hasPart 1 = .ok (.ifCond .lt 29, 3) := by decide +kernel
theorem dX4_hasPart_4 : decode cX4_hasPart 4 = .ok (.iload_n 2, 1) := by decide +kernel
theorem dX4_hasPart_5 : decode cX4_hasPart 5 = .ok (.ifCond .lt 25, 3) := by decide +kernel
theorem dX4_hasPart_8 : decode cX4_hasPart 8 = .ok (.iload_n 1, 1) := by decide +kernel
theorem dX4_hasPart_9 : decode cX4_hasPart 9 = .ok (.aload_n 0, 1) := by decide +kernel
theorem dX4_hasPart_10 : decode cX4_hasPart 10 = .ok (.getfield 19, 3) := by decide +kernel
theorem dX4_hasPart_13 : decode cX4_hasPart 13 = .ok (.if_icmp .gt 17, 3) := by decide +kernel
theorem dX4_hasPart_16 : decode cX4_hasPart 16 = .ok (.iload_n 2, 1) := by decide +kernel
theorem dX4_hasPart_17 : decode cX4_hasPart 17 = .ok (.aload_n 0, 1) := by decide +kernel
theorem dX4_hasPart_18 : decode cX4_hasPart 18 = .ok (.getfield 19, 3) := by decide +kernel
theorem dX4_hasPart_21 : decode cX4_hasPart 21 = .ok (.iload_n 1, 1) := by decide +kernel
theorem dX4_hasPart_22 : decode cX4_hasPart 22 = .ok (.isub, 1) := by decide +kernel
theorem dX4_hasPart_23 : decode cX4_hasPart 23 = .ok (.if_icmp .gt 7, 3) := by decide +kernel
theorem dX4_hasPart_26 : decode cX4_hasPart 26 = .ok (.iconst 1, 1) := by decide +kernel
theorem dX4_hasPart_27 : decode cX4_hasPart 27 = .ok (.goto 4, 3) := by decide +kernel
theorem dX4_hasPart_30 : decode cX4_hasPart 30 = .ok (.iconst 0, 1) := by decide +kernel
theorem dX4_hasPart_31 : decode cX4_hasPart 31 = .ok (.ireturn, 1) := by decide +kernel
theorem dX5_init_0 : decode cX5_init 0 = .ok (.aload_n 0, 1) := by decide +kernel
theorem dX5_init_1 : decode cX5_init 1 = .ok (.invokespecial 3, 3) := by decide +kernel
theorem dX5_init_4 : decode cX5_init 4 = .ok (.aload_n 0, 1) := by decide +kernel
theorem dX5_init_5 : decode cX5_init 5 = .ok (.iconst 0, 1) := by decide +kernel
theorem dX5_init_6 : decode cX5_init 6 = .ok (.putfield 9, 3) := by decide +kernel
theorem dX5_init_9 : decode cX5_init 9 = .ok (.aload_n 0, 1) := by decide +kernel
theorem dX5_init_10 : decode cX5_init 10 = .ok (.sipush 192, 3) := by decide +kernel
theorem dX5_init_13 : decode cX5_init 13 = .ok (.newarray .int, 2) := by decide +kernel
theorem dX5_init_15 : decode cX5_init 15 = .ok (.putfield 15, 3) := by decide +kernel
theorem dX5_init_18 : decode cX5_init 18 = .ok (.aload_n 0, 1) := by decide +kernel
theorem dX5_init_19 : decode cX5_init 19 = .ok (.bipush 32, 2) := by decide +kernel
theorem dX5_init_21 : decode cX5_init 21 = .ok (.newarray .boolean, 2) := by decide +kernel
theorem dX5_init_23 : decode cX5_init 23 = .ok (.putfield 19, 3) := by decide +kernel
theorem dX5_init_26 : decode cX5_init 26 = .ok (.aload_n 0, 1) := by decide +kernel
theorem dX5_init_27 : decode cX5_init 27 = .ok (.bipush 6, 2) := by decide +kernel
theorem dX5_init_29 : decode cX5_init 29 = .ok (.newarray .int, 2) := by decide +kernel
theorem dX5_init_31 : decode cX5_init 31 = .ok (.putfield 23, 3) := by decide +kernel
theorem dX5_init_34 : decode cX5_init 34 = .ok (.aload_n 0, 1) := by decide +kernel
theorem dX5_init_35 : decode cX5_init 35 = .ok (.iconst 0, 1) := by decide +kernel
theorem dX5_init_36 : decode cX5_init 36 = .ok (.putfield 26, 3) := by decide +kernel
theorem dX5_init_39 : decode cX5_init 39 = .ok (.aload_n 0, 1) := by decide +kernel
theorem dX5_init_40 : decode cX5_init 40 = .ok (.iconst 0, 1) := by decide +kernel
theorem dX5_init_41 : decode cX5_init 41 = .ok (.putfield 29, 3) := by decide +kernel
theorem dX5_init_44 : decode cX5_init 44 = .ok (.aload_n 0, 1) := by decide +kernel
theorem dX5_init_45 : decode cX5_init 45 = .ok (.iconst 0, 1) := by decide +kernel
theorem dX5_init_46 : decode cX5_init 46 = .ok (.putfield 32, 3) := by decide +kernel
theorem dX5_init_49 : decode cX5_init 49 = .ok (.return_, 1) := by decide +kernel
theorem dX5_lay_0 : decode cX5_lay 0 = .ok (.aload_n 0, 1) := by decide +kernel
theorem dX5_lay_1 : decode cX5_lay 1 = .ok (.aload_n 1, 1) := by decide +kernel
theorem dX5_lay_2 : decode cX5_lay 2 = .ok (.getfield 35, 3) := by decide +kernel
theorem dX5_lay_5 : decode cX5_lay 5 = .ok (.putfield 26, 3) := by decide +kernel
theorem dX5_lay_8 : decode cX5_lay 8 = .ok (.aload_n 0, 1) := by decide +kernel
theorem dX5_lay_9 : decode cX5_lay 9 = .ok (.aload_n 1, 1) := by decide +kernel
theorem dX5_lay_10 : decode cX5_lay 10 = .ok (.getfield 38, 3) := by decide +kernel
theorem dX5_lay_13 : decode cX5_lay 13 = .ok (.putfield 29, 3) := by decide +kernel
theorem dX5_lay_16 : decode cX5_lay 16 = .ok (.aload_n 0, 1) := by decide +kernel
theorem dX5_lay_17 : decode cX5_lay 17 = .ok (.iconst 1, 1) := by decide +kernel
theorem dX5_lay_18 : decode cX5_lay 18 = .ok (.aload_n 0, 1) := by decide +kernel
theorem dX5_lay_19 : decode cX5_lay 19 = .ok (.getfield 29, 3) := by decide +kernel
theorem dX5_lay_22 : decode cX5_lay 22 = .ok (.ishl, 1) := by decide +kernel
theorem dX5_lay_23 : decode cX5_lay 23 = .ok (.putfield 32, 3) := by decide +kernel
theorem dX5_lay_26 : decode cX5_lay 26 = .ok (.iconst 0, 1) := by decide +kernel
theorem dX5_lay_27 : decode cX5_lay 27 = .ok (.istore_n 2, 1) := by decide +kernel
theorem dX5_lay_28 : decode cX5_lay 28 = .ok (.iload_n 2, 1) := by decide +kernel
theorem dX5_lay_29 : decode cX5_lay 29 = .ok (.aload_n 0, 1) := by decide +kernel
theorem dX5_lay_30 : decode cX5_lay 30 = .ok (.getfield 26, 3) := by decide +kernel
theorem dX5_lay_33 : decode cX5_lay 33 = .ok (.if_icmp .ge 45, 3) := by decide +kernel
theorem dX5_lay_36 : decode cX5_lay 36 = .ok (.iconst 0, 1) := by decide +kernel
theorem dX5_lay_37 : decode cX5_lay 37 = .ok (.istore_n 3, 1) := by decide +kernel
theorem dX5_lay_38 : decode cX5_lay 38 = .ok (.iload_n 3, 1) := by decide +kernel
theorem dX5_lay_39 : decode cX5_lay 39 = .ok (.aload_n 0, 1) := by decide +kernel
theorem dX5_lay_40 : decode cX5_lay 40 = .ok (.getfield 32, 3) := by decide +kernel
theorem dX5_lay_43 : decode cX5_lay 43 = .ok (.if_icmp .ge 29, 3) := by decide +kernel
theorem dX5_lay_46 : decode cX5_lay 46 = .ok (.aload_n 0, 1) := by decide +kernel
theorem dX5_lay_47 : decode cX5_lay 47 = .ok (.getfield 15, 3) := by decide +kernel
theorem dX5_lay_50 : decode cX5_lay 50 = .ok (.iload_n 2, 1) := by decide +kernel
theorem dX5_lay_51 : decode cX5_lay 51 = .ok (.bipush 32, 2) := by decide +kernel
theorem dX5_lay_53 : decode cX5_lay 53 = .ok (.imul, 1) := by decide +kernel
theorem dX5_lay_54 : decode cX5_lay 54 = .ok (.iload_n 3, 1) := by decide +kernel
theorem dX5_lay_55 : decode cX5_lay 55 = .ok (.iadd, 1) := by decide +kernel
theorem dX5_lay_56 : decode cX5_lay 56 = .ok (.aload_n 1, 1) := by decide +kernel
theorem dX5_lay_57 : decode cX5_lay 57 = .ok (.getfield 39, 3) := by decide +kernel
theorem dX5_lay_60 : decode cX5_lay 60 = .ok (.iload_n 2, 1) := by decide +kernel
theorem dX5_lay_61 : decode cX5_lay 61 = .ok (.iload_n 3, 1) := by decide +kernel
theorem dX5_lay_62 : decode cX5_lay 62 = .ok (.invokestatic 42, 3) := by decide +kernel
theorem dX5_lay_65 : decode cX5_lay 65 = .ok (.iastore, 1) := by decide +kernel
theorem dX5_lay_66 : decode cX5_lay 66 = .ok (.iinc 3 1, 3) := by decide +kernel
theorem dX5_lay_69 : decode cX5_lay 69 = .ok (.goto (-31), 3) := by decide +kernel
theorem dX5_lay_72 : decode cX5_lay 72 = .ok (.iinc 2 1, 3) := by decide +kernel
theorem dX5_lay_75 : decode cX5_lay 75 = .ok (.goto (-47), 3) := by decide +kernel
theorem dX5_lay_78 : decode cX5_lay 78 = .ok (.return_, 1) := by decide +kernel
theorem dX5_hear_0 : decode cX5_hear 0 = .ok (.aload_n 0, 1) := by decide +kernel
theorem dX5_hear_1 : decode cX5_hear 1 = .ok (.iconst 0, 1) := by decide +kernel
theorem dX5_hear_2 : decode cX5_hear 2 = .ok (.putfield 9, 3) := by decide +kernel
theorem dX5_hear_5 : decode cX5_hear 5 = .ok (.iconst 0, 1) := by decide +kernel
theorem dX5_hear_6 : decode cX5_hear 6 = .ok (.istore_n 2, 1) := by decide +kernel
theorem dX5_hear_7 : decode cX5_hear 7 = .ok (.iload_n 2, 1) := by decide +kernel
theorem dX5_hear_8 : decode cX5_hear 8 = .ok (.aload_n 0, 1) := by decide +kernel
theorem dX5_hear_9 : decode cX5_hear 9 = .ok (.getfield 32, 3) := by decide +kernel
theorem dX5_hear_12 : decode cX5_hear 12 = .ok (.if_icmp .ge 94, 3) := by decide +kernel
theorem dX5_hear_15 : decode cX5_hear 15 = .ok (.aload_n 0, 1) := by decide +kernel
theorem dX5_hear_16 : decode cX5_hear 16 = .ok (.getfield 19, 3) := by decide +kernel
theorem dX5_hear_19 : decode cX5_hear 19 = .ok (.iload_n 2, 1) := by decide +kernel
theorem dX5_hear_20 : decode cX5_hear 20 = .ok (.iconst 1, 1) := by decide +kernel
theorem dX5_hear_21 : decode cX5_hear 21 = .ok (.bastore, 1) := by decide +kernel
theorem dX5_hear_22 : decode cX5_hear 22 = .ok (.iconst 0, 1) := by decide +kernel
theorem dX5_hear_23 : decode cX5_hear 23 = .ok (.istore_n 3, 1) := by decide +kernel
theorem dX5_hear_24 : decode cX5_hear 24 = .ok (.iload_n 3, 1) := by decide +kernel
theorem dX5_hear_25 : decode cX5_hear 25 = .ok (.iconst 1, 1) := by decide +kernel
theorem dX5_hear_26 : decode cX5_hear 26 = .ok (.iadd, 1) := by decide +kernel
theorem dX5_hear_27 : decode cX5_hear 27 = .ok (.aload_n 1, 1) := by decide +kernel
theorem dX5_hear_28 : decode cX5_hear 28 = .ok (.getfield 46, 3) := by decide +kernel
theorem dX5_hear_31 : decode cX5_hear 31 = .ok (.if_icmp .ge 50, 3) := by decide +kernel
theorem dX5_hear_34 : decode cX5_hear 34 = .ok (.aload_n 1, 1) := by decide +kernel
theorem dX5_hear_35 : decode cX5_hear 35 = .ok (.getfield 51, 3) := by decide +kernel
theorem dX5_hear_38 : decode cX5_hear 38 = .ok (.iload_n 3, 1) := by decide +kernel
theorem dX5_hear_39 : decode cX5_hear 39 = .ok (.laload, 1) := by decide +kernel
theorem dX5_hear_40 : decode cX5_hear 40 = .ok (.l2i, 1) := by decide +kernel
theorem dX5_hear_41 : decode cX5_hear 41 = .ok (.istore 4, 2) := by decide +kernel
theorem dX5_hear_43 : decode cX5_hear 43 = .ok (.aload_n 0, 1) := by decide +kernel
theorem dX5_hear_44 : decode cX5_hear 44 = .ok (.getfield 15, 3) := by decide +kernel
theorem dX5_hear_47 : decode cX5_hear 47 = .ok (.iload 4, 2) := by decide +kernel
theorem dX5_hear_49 : decode cX5_hear 49 = .ok (.bipush 32, 2) := by decide +kernel
theorem dX5_hear_51 : decode cX5_hear 51 = .ok (.imul, 1) := by decide +kernel
theorem dX5_hear_52 : decode cX5_hear 52 = .ok (.iload_n 2, 1) := by decide +kernel
theorem dX5_hear_53 : decode cX5_hear 53 = .ok (.iadd, 1) := by decide +kernel
theorem dX5_hear_54 : decode cX5_hear 54 = .ok (.iaload, 1) := by decide +kernel
theorem dX5_hear_55 : decode cX5_hear 55 = .ok (.i2l, 1) := by decide +kernel
theorem dX5_hear_56 : decode cX5_hear 56 = .ok (.aload_n 1, 1) := by decide +kernel
theorem dX5_hear_57 : decode cX5_hear 57 = .ok (.getfield 51, 3) := by decide +kernel
theorem dX5_hear_60 : decode cX5_hear 60 = .ok (.iload_n 3, 1) := by decide +kernel
theorem dX5_hear_61 : decode cX5_hear 61 = .ok (.iconst 1, 1) := by decide +kernel
theorem dX5_hear_62 : decode cX5_hear 62 = .ok (.iadd, 1) := by decide +kernel
theorem dX5_hear_63 : decode cX5_hear 63 = .ok (.laload, 1) := by decide +kernel
theorem dX5_hear_64 : decode cX5_hear 64 = .ok (.lcmp, 1) := by decide +kernel
theorem dX5_hear_65 : decode cX5_hear 65 = .ok (.ifCond .eq 10, 3) := by decide +kernel
theorem dX5_hear_68 : decode cX5_hear 68 = .ok (.aload_n 0, 1) := by decide +kernel
theorem dX5_hear_69 : decode cX5_hear 69 = .ok (.getfield 19, 3) := by decide +kernel
theorem dX5_hear_72 : decode cX5_hear 72 = .ok (.iload_n 2, 1) := by decide +kernel
theorem dX5_hear_73 : decode cX5_hear 73 = .ok (.iconst 0, 1) := by decide +kernel
theorem dX5_hear_74 : decode cX5_hear 74 = .ok (.bastore, 1) := by decide +kernel
theorem dX5_hear_75 : decode cX5_hear 75 = .ok (.iinc 3 2, 3) := by decide +kernel
theorem dX5_hear_78 : decode cX5_hear 78 = .ok (.goto (-54), 3) := by decide +kernel
theorem dX5_hear_81 : decode cX5_hear 81 = .ok (.aload_n 0, 1) := by decide +kernel
theorem dX5_hear_82 : decode cX5_hear 82 = .ok (.getfield 19, 3) := by decide +kernel
theorem dX5_hear_85 : decode cX5_hear 85 = .ok (.iload_n 2, 1) := by decide +kernel
theorem dX5_hear_86 : decode cX5_hear 86 = .ok (.baload, 1) := by decide +kernel
theorem dX5_hear_87 : decode cX5_hear 87 = .ok (.ifCond .eq 13, 3) := by decide +kernel
theorem dX5_hear_90 : decode cX5_hear 90 = .ok (.aload_n 0, 1) := by decide +kernel
theorem dX5_hear_91 : decode cX5_hear 91 = .ok (.dup, 1) := by decide +kernel
theorem dX5_hear_92 : decode cX5_hear 92 = .ok (.getfield 9, 3) := by decide +kernel
theorem dX5_hear_95 : decode cX5_hear 95 = .ok (.iconst 1, 1) := by decide +kernel
theorem dX5_hear_96 : decode cX5_hear 96 = .ok (.iadd, 1) := by decide +kernel
theorem dX5_hear_97 : decode cX5_hear 97 = .ok (.putfield 9, 3) := by decide +kernel
theorem dX5_hear_100 : decode cX5_hear 100 = .ok (.iinc 2 1, 3) := by decide +kernel
theorem dX5_hear_103 : decode cX5_hear 103 = .ok (.goto (-96), 3) := by decide +kernel
theorem dX5_hear_106 : decode cX5_hear 106 = .ok (.return_, 1) := by decide +kernel
theorem dX5_kindsInAll_0 : decode cX5_kindsInAll 0 = .ok (.aload_n 0, 1) := by decide +kernel
theorem dX5_kindsInAll_1 : decode cX5_kindsInAll 1 = .ok (.getfield 32, 3) := by decide +kernel
theorem dX5_kindsInAll_4 : decode cX5_kindsInAll 4 = .ok (.iconst 1, 1) := by decide +kernel
theorem dX5_kindsInAll_5 : decode cX5_kindsInAll 5 = .ok (.isub, 1) := by decide +kernel
theorem dX5_kindsInAll_6 : decode cX5_kindsInAll 6 = .ok (.istore_n 1, 1) := by decide +kernel
theorem dX5_kindsInAll_7 : decode cX5_kindsInAll 7 = .ok (.iconst 0, 1) := by decide +kernel
theorem dX5_kindsInAll_8 : decode cX5_kindsInAll 8 = .ok (.istore_n 2, 1) := by decide +kernel
theorem dX5_kindsInAll_9 : decode cX5_kindsInAll 9 = .ok (.iload_n 2, 1) := by decide +kernel
theorem dX5_kindsInAll_10 : decode cX5_kindsInAll 10 = .ok (.aload_n 0, 1) := by decide +kernel
theorem dX5_kindsInAll_11 : decode cX5_kindsInAll 11 = .ok (.getfield 32, 3) := by decide +kernel
theorem dX5_kindsInAll_14 : decode cX5_kindsInAll 14 = .ok (.if_icmp .ge 22, 3) := by decide +kernel
theorem dX5_kindsInAll_17 : decode cX5_kindsInAll 17 = .ok (.aload_n 0, 1) := by decide +kernel
theorem dX5_kindsInAll_18 : decode cX5_kindsInAll 18 = .ok (.getfield 19, 3) := by decide +kernel
theorem dX5_kindsInAll_21 : decode cX5_kindsInAll 21 = .ok (.iload_n 2, 1) := by decide +kernel
theorem dX5_kindsInAll_22 : decode cX5_kindsInAll 22 = .ok (.baload, 1) := by decide +kernel
theorem dX5_kindsInAll_23 : decode cX5_kindsInAll 23 = .ok (.ifCond .eq 7, 3) := by decide +kernel
theorem dX5_kindsInAll_26 : decode cX5_kindsInAll 26 = .ok (.iload_n 1, 1) := by decide +kernel
theorem dX5_kindsInAll_27 : decode cX5_kindsInAll 27 = .ok (.iload_n 2, 1) := by decide +kernel
theorem dX5_kindsInAll_28 : decode cX5_kindsInAll 28 = .ok (.iand, 1) := by decide +kernel
theorem dX5_kindsInAll_29 : decode cX5_kindsInAll 29 = .ok (.istore_n 1, 1) := by decide +kernel
theorem dX5_kindsInAll_30 : decode cX5_kindsInAll 30 = .ok (.iinc 2 1, 3) := by decide +kernel
theorem dX5_kindsInAll_33 : decode cX5_kindsInAll 33 = .ok (.goto (-24), 3) := by decide +kernel
theorem dX5_kindsInAll_36 : decode cX5_kindsInAll 36 = .ok (.iload_n 1, 1) := by decide +kernel
theorem dX5_kindsInAll_37 : decode cX5_kindsInAll 37 = .ok (.ireturn, 1) := by decide +kernel
theorem dX5_kindsInNone_0 : decode cX5_kindsInNone 0 = .ok (.iconst 0, 1) := by decide +kernel
theorem dX5_kindsInNone_1 : decode cX5_kindsInNone 1 = .ok (.istore_n 1, 1) := by decide +kernel
theorem dX5_kindsInNone_2 : decode cX5_kindsInNone 2 = .ok (.iconst 0, 1) := by decide +kernel
theorem dX5_kindsInNone_3 : decode cX5_kindsInNone 3 = .ok (.istore_n 2, 1) := by decide +kernel
theorem dX5_kindsInNone_4 : decode cX5_kindsInNone 4 = .ok (.iload_n 2, 1) := by decide +kernel
theorem dX5_kindsInNone_5 : decode cX5_kindsInNone 5 = .ok (.aload_n 0, 1) := by decide +kernel
theorem dX5_kindsInNone_6 : decode cX5_kindsInNone 6 = .ok (.getfield 32, 3) := by decide +kernel
theorem dX5_kindsInNone_9 : decode cX5_kindsInNone 9 = .ok (.if_icmp .ge 22, 3) := by decide +kernel
theorem dX5_kindsInNone_12 : decode cX5_kindsInNone 12 = .ok (.aload_n 0, 1) := by decide +kernel
theorem dX5_kindsInNone_13 : decode cX5_kindsInNone 13 = .ok (.getfield 19, 3) := by decide +kernel
theorem dX5_kindsInNone_16 : decode cX5_kindsInNone 16 = .ok (.iload_n 2, 1) := by decide +kernel
theorem dX5_kindsInNone_17 : decode cX5_kindsInNone 17 = .ok (.baload, 1) := by decide +kernel
theorem dX5_kindsInNone_18 : decode cX5_kindsInNone 18 = .ok (.ifCond .eq 7, 3) := by decide +kernel
theorem dX5_kindsInNone_21 : decode cX5_kindsInNone 21 = .ok (.iload_n 1, 1) := by decide +kernel
theorem dX5_kindsInNone_22 : decode cX5_kindsInNone 22 = .ok (.iload_n 2, 1) := by decide +kernel
theorem dX5_kindsInNone_23 : decode cX5_kindsInNone 23 = .ok (.ior, 1) := by decide +kernel
theorem dX5_kindsInNone_24 : decode cX5_kindsInNone 24 = .ok (.istore_n 1, 1) := by decide +kernel
theorem dX5_kindsInNone_25 : decode cX5_kindsInNone 25 = .ok (.iinc 2 1, 3) := by decide +kernel
theorem dX5_kindsInNone_28 : decode cX5_kindsInNone 28 = .ok (.goto (-24), 3) := by decide +kernel
theorem dX5_kindsInNone_31 : decode cX5_kindsInNone 31 = .ok (.aload_n 0, 1) := by decide +kernel
theorem dX5_kindsInNone_32 : decode cX5_kindsInNone 32 = .ok (.getfield 32, 3) := by decide +kernel
theorem dX5_kindsInNone_35 : decode cX5_kindsInNone 35 = .ok (.iconst 1, 1) := by decide +kernel
theorem dX5_kindsInNone_36 : decode cX5_kindsInNone 36 = .ok (.isub, 1) := by decide +kernel
theorem dX5_kindsInNone_37 : decode cX5_kindsInNone 37 = .ok (.iload_n 1, 1) := by decide +kernel
theorem dX5_kindsInNone_38 : decode cX5_kindsInNone 38 = .ok (.iconst (-1), 1) := by decide +kernel
theorem dX5_kindsInNone_39 : decode cX5_kindsInNone 39 = .ok (.ixor, 1) := by decide +kernel
theorem dX5_kindsInNone_40 : decode cX5_kindsInNone 40 = .ok (.iand, 1) := by decide +kernel
theorem dX5_kindsInNone_41 : decode cX5_kindsInNone 41 = .ok (.ireturn, 1) := by decide +kernel
theorem dX5_worstBehind_0 : decode cX5_worstBehind 0 = .ok (.aload_n 0, 1) := by decide +kernel
theorem dX5_worstBehind_1 : decode cX5_worstBehind 1 = .ok (.getfield 23, 3) := by decide +kernel
theorem dX5_worstBehind_4 : decode cX5_worstBehind 4 = .ok (.iconst 0, 1) := by decide +kernel
theorem dX5_worstBehind_5 : decode cX5_worstBehind 5 = .ok (.invokestatic 55, 3) := by decide +kernel
theorem dX5_worstBehind_8 : decode cX5_worstBehind 8 = .ok (.iconst 0, 1) := by decide +kernel
theorem dX5_worstBehind_9 : decode cX5_worstBehind 9 = .ok (.istore_n 2, 1) := by decide +kernel
theorem dX5_worstBehind_10 : decode cX5_worstBehind 10 = .ok (.iconst 0, 1) := by decide +kernel
theorem dX5_worstBehind_11 : decode cX5_worstBehind 11 = .ok (.istore_n 3, 1) := by decide +kernel
theorem dX5_worstBehind_12 : decode cX5_worstBehind 12 = .ok (.iload_n 3, 1) := by decide +kernel
theorem dX5_worstBehind_13 : decode cX5_worstBehind 13 = .ok (.aload_n 0, 1) := by decide +kernel
theorem dX5_worstBehind_14 : decode cX5_worstBehind 14 = .ok (.getfield 32, 3) := by decide +kernel
theorem dX5_worstBehind_17 : decode cX5_worstBehind 17 = .ok (.if_icmp .ge 56, 3) := by decide +kernel
theorem dX5_worstBehind_20 : decode cX5_worstBehind 20 = .ok (.aload_n 0, 1) := by decide +kernel
theorem dX5_worstBehind_21 : decode cX5_worstBehind 21 = .ok (.getfield 19, 3) := by decide +kernel
theorem dX5_worstBehind_24 : decode cX5_worstBehind 24 = .ok (.iload_n 3, 1) := by decide +kernel
theorem dX5_worstBehind_25 : decode cX5_worstBehind 25 = .ok (.baload, 1) := by decide +kernel
theorem dX5_worstBehind_26 : decode cX5_worstBehind 26 = .ok (.ifCond .eq 41, 3) := by decide +kernel
theorem dX5_worstBehind_29 : decode cX5_worstBehind 29 = .ok (.aload_n 0, 1) := by decide +kernel
theorem dX5_worstBehind_30 : decode cX5_worstBehind 30 = .ok (.getfield 15, 3) := by decide +kernel
theorem dX5_worstBehind_33 : decode cX5_worstBehind 33 = .ok (.iload_n 1, 1) := by decide +kernel
theorem dX5_worstBehind_34 : decode cX5_worstBehind 34 = .ok (.bipush 32, 2) := by decide +kernel
theorem dX5_worstBehind_36 : decode cX5_worstBehind 36 = .ok (.imul, 1) := by decide +kernel
theorem dX5_worstBehind_37 : decode cX5_worstBehind 37 = .ok (.iload_n 3, 1) := by decide +kernel
theorem dX5_worstBehind_38 : decode cX5_worstBehind 38 = .ok (.iadd, 1) := by decide +kernel
theorem dX5_worstBehind_39 : decode cX5_worstBehind 39 = .ok (.iaload, 1) := by decide +kernel
theorem dX5_worstBehind_40 : decode cX5_worstBehind 40 = .ok (.iconst 1, 1) := by decide +kernel
theorem dX5_worstBehind_41 : decode cX5_worstBehind 41 = .ok (.iadd, 1) := by decide +kernel
theorem dX5_worstBehind_42 : decode cX5_worstBehind 42 = .ok (.istore 4, 2) := by decide +kernel
theorem dX5_worstBehind_44 : decode cX5_worstBehind 44 = .ok (.aload_n 0, 1) := by decide +kernel
theorem dX5_worstBehind_45 : decode cX5_worstBehind 45 = .ok (.getfield 23, 3) := by decide +kernel
theorem dX5_worstBehind_48 : decode cX5_worstBehind 48 = .ok (.iload 4, 2) := by decide +kernel
theorem dX5_worstBehind_50 : decode cX5_worstBehind 50 = .ok (.dup2, 1) := by decide +kernel
theorem dX5_worstBehind_51 : decode cX5_worstBehind 51 = .ok (.iaload, 1) := by decide +kernel
theorem dX5_worstBehind_52 : decode cX5_worstBehind 52 = .ok (.iconst 1, 1) := by decide +kernel
theorem dX5_worstBehind_53 : decode cX5_worstBehind 53 = .ok (.iadd, 1) := by decide +kernel
theorem dX5_worstBehind_54 : decode cX5_worstBehind 54 = .ok (.iastore, 1) := by decide +kernel
theorem dX5_worstBehind_55 : decode cX5_worstBehind 55 = .ok (.iload_n 2, 1) := by decide +kernel
theorem dX5_worstBehind_56 : decode cX5_worstBehind 56 = .ok (.aload_n 0, 1) := by decide +kernel
theorem dX5_worstBehind_57 : decode cX5_worstBehind 57 = .ok (.getfield 23, 3) := by decide +kernel
theorem dX5_worstBehind_60 : decode cX5_worstBehind 60 = .ok (.iload 4, 2) := by decide +kernel
theorem dX5_worstBehind_62 : decode cX5_worstBehind 62 = .ok (.iaload, 1) := by decide +kernel
theorem dX5_worstBehind_63 : decode cX5_worstBehind 63 = .ok (.invokestatic 61, 3) := by decide +kernel
theorem dX5_worstBehind_66 : decode cX5_worstBehind 66 = .ok (.istore_n 2, 1) := by decide +kernel
theorem dX5_worstBehind_67 : decode cX5_worstBehind 67 = .ok (.iinc 3 1, 3) := by decide +kernel
theorem dX5_worstBehind_70 : decode cX5_worstBehind 70 = .ok (.goto (-58), 3) := by decide +kernel
theorem dX5_worstBehind_73 : decode cX5_worstBehind 73 = .ok (.iload_n 2, 1) := by decide +kernel
theorem dX5_worstBehind_74 : decode cX5_worstBehind 74 = .ok (.ireturn, 1) := by decide +kernel
theorem dX5_bestAsked_0 : decode cX5_bestAsked 0 = .ok (.iconst (-1), 1) := by decide +kernel
theorem dX5_bestAsked_1 : decode cX5_bestAsked 1 = .ok (.istore_n 1, 1) := by decide +kernel
theorem dX5_bestAsked_2 : decode cX5_bestAsked 2 = .ok (.aload_n 0, 1) := by decide +kernel
theorem dX5_bestAsked_3 : decode cX5_bestAsked 3 = .ok (.getfield 9, 3) := by decide +kernel
theorem dX5_bestAsked_6 : decode cX5_bestAsked 6 = .ok (.istore_n 2, 1) := by decide +kernel
theorem dX5_bestAsked_7 : decode cX5_bestAsked 7 = .ok (.iconst 0, 1) := by decide +kernel
theorem dX5_bestAsked_8 : decode cX5_bestAsked 8 = .ok (.istore_n 3, 1) := by decide +kernel
theorem dX5_bestAsked_9 : decode cX5_bestAsked 9 = .ok (.iload_n 3, 1) := by decide +kernel
theorem dX5_bestAsked_10 : decode cX5_bestAsked 10 = .ok (.aload_n 0, 1) := by decide +kernel
theorem dX5_bestAsked_11 : decode cX5_bestAsked 11 = .ok (.getfield 26, 3) := by decide +kernel
theorem dX5_bestAsked_14 : decode cX5_bestAsked 14 = .ok (.if_icmp .ge 27, 3) := by decide +kernel
theorem dX5_bestAsked_17 : decode cX5_bestAsked 17 = .ok (.aload_n 0, 1) := by decide +kernel
theorem dX5_bestAsked_18 : decode cX5_bestAsked 18 = .ok (.iload_n 3, 1) := by decide +kernel
theorem dX5_bestAsked_19 : decode cX5_bestAsked 19 = .ok (.invokevirtual 67, 3) := by decide +kernel
theorem dX5_bestAsked_22 : decode cX5_bestAsked 22 = .ok (.istore 4, 2) := by decide +kernel
theorem dX5_bestAsked_24 : decode cX5_bestAsked 24 = .ok (.iload 4, 2) := by decide +kernel
theorem dX5_bestAsked_26 : decode cX5_bestAsked 26 = .ok (.iload_n 2, 1) := by decide +kernel
theorem dX5_bestAsked_27 : decode cX5_bestAsked 27 = .ok (.if_icmp .ge 8, 3) := by decide +kernel
theorem dX5_bestAsked_30 : decode cX5_bestAsked 30 = .ok (.iload 4, 2) := by decide +kernel
theorem dX5_bestAsked_32 : decode cX5_bestAsked 32 = .ok (.istore_n 2, 1) := by decide +kernel
theorem dX5_bestAsked_33 : decode cX5_bestAsked 33 = .ok (.iload_n 3, 1) := by decide +kernel
theorem dX5_bestAsked_34 : decode cX5_bestAsked 34 = .ok (.istore_n 1, 1) := by decide +kernel
theorem dX5_bestAsked_35 : decode cX5_bestAsked 35 = .ok (.iinc 3 1, 3) := by decide +kernel
theorem dX5_bestAsked_38 : decode cX5_bestAsked 38 = .ok (.goto (-29), 3) := by decide +kernel
theorem dX5_bestAsked_41 : decode cX5_bestAsked 41 = .ok (.iload_n 1, 1) := by decide +kernel
theorem dX5_bestAsked_42 : decode cX5_bestAsked 42 = .ok (.ireturn, 1) := by decide +kernel
theorem dX5_fewestJudges_0 : decode cX5_fewestJudges 0 = .ok (.iconst 0, 1) := by decide +kernel
theorem dX5_fewestJudges_1 : decode cX5_fewestJudges 1 = .ok (.istore_n 1, 1) := by decide +kernel
theorem dX5_fewestJudges_2 : decode cX5_fewestJudges 2 = .ok (.iconst 0, 1) := by decide +kernel
theorem dX5_fewestJudges_3 : decode cX5_fewestJudges 3 = .ok (.istore_n 2, 1) := by decide +kernel
theorem dX5_fewestJudges_4 : decode cX5_fewestJudges 4 = .ok (.iload_n 2, 1) := by decide +kernel
theorem dX5_fewestJudges_5 : decode cX5_fewestJudges 5 = .ok (.aload_n 0, 1) := by decide +kernel
theorem dX5_fewestJudges_6 : decode cX5_fewestJudges 6 = .ok (.getfield 29, 3) := by decide +kernel
theorem dX5_fewestJudges_9 : decode cX5_fewestJudges 9 = .ok (.if_icmp .ge 28, 3) := by decide +kernel
theorem dX5_fewestJudges_12 : decode cX5_fewestJudges 12 = .ok (.aload_n 0, 1) := by decide +kernel
theorem dX5_fewestJudges_13 : decode cX5_fewestJudges 13 = .ok (.iload_n 2, 1) := by decide +kernel
theorem dX5_fewestJudges_14 : decode cX5_fewestJudges 14 = .ok (.invokevirtual 71, 3) := by decide +kernel
theorem dX5_fewestJudges_17 : decode cX5_fewestJudges 17 = .ok (.istore_n 3, 1) := by decide +kernel
theorem dX5_fewestJudges_18 : decode cX5_fewestJudges 18 = .ok (.iload_n 3, 1) := by decide +kernel
theorem dX5_fewestJudges_19 : decode cX5_fewestJudges 19 = .ok (.iconst (-1), 1) := by decide +kernel
theorem dX5_fewestJudges_20 : decode cX5_fewestJudges 20 = .ok (.if_icmp .ne 5, 3) := by decide +kernel
theorem dX5_fewestJudges_23 : decode cX5_fewestJudges 23 = .ok (.iconst (-1), 1) := by decide +kernel
theorem dX5_fewestJudges_24 : decode cX5_fewestJudges 24 = .ok (.ireturn, 1) := by decide +kernel
theorem dX5_fewestJudges_25 : decode cX5_fewestJudges 25 = .ok (.iload_n 1, 1) := by decide +kernel
theorem dX5_fewestJudges_26 : decode cX5_fewestJudges 26 = .ok (.iconst 1, 1) := by decide +kernel
theorem dX5_fewestJudges_27 : decode cX5_fewestJudges 27 = .ok (.iload_n 3, 1) := by decide +kernel
theorem dX5_fewestJudges_28 : decode cX5_fewestJudges 28 = .ok (.ishl, 1) := by decide +kernel
theorem dX5_fewestJudges_29 : decode cX5_fewestJudges 29 = .ok (.ior, 1) := by decide +kernel
theorem dX5_fewestJudges_30 : decode cX5_fewestJudges 30 = .ok (.istore_n 1, 1) := by decide +kernel
theorem dX5_fewestJudges_31 : decode cX5_fewestJudges 31 = .ok (.iinc 2 1, 3) := by decide +kernel
theorem dX5_fewestJudges_34 : decode cX5_fewestJudges 34 = .ok (.goto (-30), 3) := by decide +kernel
theorem dX5_fewestJudges_37 : decode cX5_fewestJudges 37 = .ok (.iload_n 1, 1) := by decide +kernel
theorem dX5_fewestJudges_38 : decode cX5_fewestJudges 38 = .ok (.ireturn, 1) := by decide +kernel
theorem dX5_firstWith_0 : decode cX5_firstWith 0 = .ok (.iconst 0, 1) := by decide +kernel
theorem dX5_firstWith_1 : decode cX5_firstWith 1 = .ok (.istore_n 2, 1) := by decide +kernel
theorem dX5_firstWith_2 : decode cX5_firstWith 2 = .ok (.iload_n 2, 1) := by decide +kernel
theorem dX5_firstWith_3 : decode cX5_firstWith 3 = .ok (.aload_n 0, 1) := by decide +kernel
theorem dX5_firstWith_4 : decode cX5_firstWith 4 = .ok (.getfield 26, 3) := by decide +kernel
theorem dX5_firstWith_7 : decode cX5_firstWith 7 = .ok (.if_icmp .ge 31, 3) := by decide +kernel
theorem dX5_firstWith_10 : decode cX5_firstWith 10 = .ok (.aload_n 0, 1) := by decide +kernel
theorem dX5_firstWith_11 : decode cX5_firstWith 11 = .ok (.getfield 15, 3) := by decide +kernel
theorem dX5_firstWith_14 : decode cX5_firstWith 14 = .ok (.iload_n 2, 1) := by decide +kernel
theorem dX5_firstWith_15 : decode cX5_firstWith 15 = .ok (.bipush 32, 2) := by decide +kernel
theorem dX5_firstWith_17 : decode cX5_firstWith 17 = .ok (.imul, 1) := by decide +kernel
theorem dX5_firstWith_18 : decode cX5_firstWith 18 = .ok (.aload_n 0, 1) := by decide +kernel
theorem dX5_firstWith_19 : decode cX5_firstWith 19 = .ok (.getfield 32, 3) := by decide +kernel
theorem dX5_firstWith_22 : decode cX5_firstWith 22 = .ok (.iadd, 1) := by decide +kernel
theorem dX5_firstWith_23 : decode cX5_firstWith 23 = .ok (.iconst 1, 1) := by decide +kernel
theorem dX5_firstWith_24 : decode cX5_firstWith 24 = .ok (.isub, 1) := by decide +kernel
theorem dX5_firstWith_25 : decode cX5_firstWith 25 = .ok (.iaload, 1) := by decide +kernel
theorem dX5_firstWith_26 : decode cX5_firstWith 26 = .ok (.iload_n 1, 1) := by decide +kernel
theorem dX5_firstWith_27 : decode cX5_firstWith 27 = .ok (.if_icmp .ne 5, 3) := by decide +kernel
theorem dX5_firstWith_30 : decode cX5_firstWith 30 = .ok (.iload_n 2, 1) := by decide +kernel
theorem dX5_firstWith_31 : decode cX5_firstWith 31 = .ok (.ireturn, 1) := by decide +kernel
theorem dX5_firstWith_32 : decode cX5_firstWith 32 = .ok (.iinc 2 1, 3) := by decide +kernel
theorem dX5_firstWith_35 : decode cX5_firstWith 35 = .ok (.goto (-33), 3) := by decide +kernel
theorem dX5_firstWith_38 : decode cX5_firstWith 38 = .ok (.iconst (-1), 1) := by decide +kernel
theorem dX5_firstWith_39 : decode cX5_firstWith 39 = .ok (.ireturn, 1) := by decide +kernel
theorem dX6_init_0 : decode cX6_init 0 = .ok (.aload_n 0, 1) := by decide +kernel
theorem dX6_init_1 : decode cX6_init 1 = .ok (.invokespecial 3, 3) := by decide +kernel
theorem dX6_init_4 : decode cX6_init 4 = .ok (.return_, 1) := by decide +kernel
theorem dX6_partsBare_0 : decode cX6_partsBare 0 = .ok (.aload_n 1, 1) := by decide +kernel
theorem dX6_partsBare_1 : decode cX6_partsBare 1 = .ok (.getfield 9, 3) := by decide +kernel
theorem dX6_partsBare_4 : decode cX6_partsBare 4 = .ok (.iload_n 2, 1) := by decide +kernel
theorem dX6_partsBare_5 : decode cX6_partsBare 5 = .ok (.iaload, 1) := by decide +kernel
theorem dX6_partsBare_6 : decode cX6_partsBare 6 = .ok (.istore 4, 2) := by decide +kernel
theorem dX6_partsBare_8 : decode cX6_partsBare 8 = .ok (.aload_n 1, 1) := by decide +kernel
theorem dX6_partsBare_9 : decode cX6_partsBare 9 = .ok (.getfield 15, 3) := by decide +kernel
theorem dX6_partsBare_12 : decode cX6_partsBare 12 = .ok (.iconst 1, 1) := by decide +kernel
theorem dX6_partsBare_13 : decode cX6_partsBare 13 = .ok (.if_icmp .ne 13, 3) := by decide +kernel
theorem dX6_partsBare_16 : decode cX6_partsBare 16 = .ok (.iload 4, 2) := by decide +kernel
theorem dX6_partsBare_18 : decode cX6_partsBare 18 = .ok (.iconst (-1), 1) := by decide +kernel
theorem dX6_partsBare_19 : decode cX6_partsBare 19 = .ok (.if_icmp .ne 7, 3) := by decide +kernel
theorem dX6_partsBare_22 : decode cX6_partsBare 22 = .ok (.iconst 0, 1) := by decide +kernel
theorem dX6_partsBare_23 : decode cX6_partsBare 23 = .ok (.goto 5, 3) := by decide +kernel
theorem dX6_partsBare_26 : decode cX6_partsBare 26 = .ok (.ldc 21, 2) := by decide +kernel
theorem dX6_partsBare_28 : decode cX6_partsBare 28 = .ok (.istore 5, 2) := by decide +kernel
theorem dX6_partsBare_30 : decode cX6_partsBare 30 = .ok (.iload 4, 2) := by decide +kernel
theorem dX6_partsBare_32 : decode cX6_partsBare 32 = .ok (.iconst (-1), 1) := by decide +kernel
theorem dX6_partsBare_33 : decode cX6_partsBare 33 = .ok (.if_icmp .eq 40, 3) := by decide +kernel
theorem dX6_partsBare_36 : decode cX6_partsBare 36 = .ok (.aload_n 1, 1) := by decide +kernel
theorem dX6_partsBare_37 : decode cX6_partsBare 37 = .ok (.getfield 22, 3) := by decide +kernel
theorem dX6_partsBare_40 : decode cX6_partsBare 40 = .ok (.iload 4, 2) := by decide +kernel
theorem dX6_partsBare_42 : decode cX6_partsBare 42 = .ok (.iaload, 1) := by decide +kernel
theorem dX6_partsBare_43 : decode cX6_partsBare 43 = .ok (.invokestatic 25, 3) := by decide +kernel
theorem dX6_partsBare_46 : decode cX6_partsBare 46 = .ok (.istore 6, 2) := by decide +kernel
theorem dX6_partsBare_48 : decode cX6_partsBare 48 = .ok (.iconst 0, 1) := by decide +kernel
theorem dX6_partsBare_49 : decode cX6_partsBare 49 = .ok (.istore 7, 2) := by decide +kernel
theorem dX6_partsBare_51 : decode cX6_partsBare 51 = .ok (.iload 7, 2) := by decide +kernel
theorem dX6_partsBare_53 : decode cX6_partsBare 53 = .ok (.iload 6, 2) := by decide +kernel
theorem dX6_partsBare_55 : decode cX6_partsBare 55 = .ok (.if_icmp .ge 18, 3) := by decide +kernel
theorem dX6_partsBare_58 : decode cX6_partsBare 58 = .ok (.iload 5, 2) := by decide +kernel
theorem dX6_partsBare_60 : decode cX6_partsBare 60 = .ok (.bipush 10, 2) := by decide +kernel
theorem dX6_partsBare_62 : decode cX6_partsBare 62 = .ok (.idiv, 1) := by decide +kernel
theorem dX6_partsBare_63 : decode cX6_partsBare 63 = .ok (.iload_n 3, 1) := by decide +kernel
theorem dX6_partsBare_64 : decode cX6_partsBare 64 = .ok (.imul, 1) := by decide +kernel
theorem dX6_partsBare_65 : decode cX6_partsBare 65 = .ok (.istore 5, 2) := by decide +kernel
theorem dX6_partsBare_67 : decode cX6_partsBare 67 = .ok (.iinc 7 1, 3) := by decide +kernel
theorem dX6_partsBare_70 : decode cX6_partsBare 70 = .ok (.goto (-19), 3) := by decide +kernel
theorem dX6_partsBare_73 : decode cX6_partsBare 73 = .ok (.iload 5, 2) := by decide +kernel
theorem dX6_partsBare_75 : decode cX6_partsBare 75 = .ok (.ireturn, 1) := by decide +kernel
theorem dX6_reduced_0 : decode cX6_reduced 0 = .ok (.ldc 21, 2) := by decide +kernel
theorem dX6_reduced_2 : decode cX6_reduced 2 = .ok (.istore_n 3, 1) := by decide +kernel
theorem dX6_reduced_3 : decode cX6_reduced 3 = .ok (.iload_n 1, 1) := by decide +kernel
theorem dX6_reduced_4 : decode cX6_reduced 4 = .ok (.istore 4, 2) := by decide +kernel
theorem dX6_reduced_6 : decode cX6_reduced 6 = .ok (.iconst 0, 1) := by decide +kernel
theorem dX6_reduced_7 : decode cX6_reduced 7 = .ok (.istore 5, 2) := by decide +kernel
theorem dX6_reduced_9 : decode cX6_reduced 9 = .ok (.iload 5, 2) := by decide +kernel
theorem dX6_reduced_11 : decode cX6_reduced 11 = .ok (.bipush 64, 2) := by decide +kernel
theorem dX6_reduced_13 : decode cX6_reduced 13 = .ok (.if_icmp .ge 27, 3) := by decide +kernel
theorem dX6_reduced_16 : decode cX6_reduced 16 = .ok (.iload 4, 2) := by decide +kernel
theorem dX6_reduced_18 : decode cX6_reduced 18 = .ok (.ifCond .eq 22, 3) := by decide +kernel
theorem dX6_reduced_21 : decode cX6_reduced 21 = .ok (.iload_n 3, 1) := by decide +kernel
theorem dX6_reduced_22 : decode cX6_reduced 22 = .ok (.iload 4, 2) := by decide +kernel
theorem dX6_reduced_24 : decode cX6_reduced 24 = .ok (.irem, 1) := by decide +kernel
theorem dX6_reduced_25 : decode cX6_reduced 25 = .ok (.istore 6, 2) := by decide +kernel
theorem dX6_reduced_27 : decode cX6_reduced 27 = .ok (.iload 4, 2) := by decide +kernel
theorem dX6_reduced_29 : decode cX6_reduced 29 = .ok (.istore_n 3, 1) := by decide +kernel
theorem dX6_reduced_30 : decode cX6_reduced 30 = .ok (.iload 6, 2) := by decide +kernel
theorem dX6_reduced_32 : decode cX6_reduced 32 = .ok (.istore 4, 2) := by decide +kernel
theorem dX6_reduced_34 : decode cX6_reduced 34 = .ok (.iinc 5 1, 3) := by decide +kernel
theorem dX6_reduced_37 : decode cX6_reduced 37 = .ok (.goto (-28), 3) := by decide +kernel
theorem dX6_reduced_40 : decode cX6_reduced 40 = .ok (.iload_n 3, 1) := by decide +kernel
theorem dX6_reduced_41 : decode cX6_reduced 41 = .ok (.iconst 1, 1) := by decide +kernel
theorem dX6_reduced_42 : decode cX6_reduced 42 = .ok (.if_icmp .ge 5, 3) := by decide +kernel
theorem dX6_reduced_45 : decode cX6_reduced 45 = .ok (.iconst 0, 1) := by decide +kernel
theorem dX6_reduced_46 : decode cX6_reduced 46 = .ok (.ireturn, 1) := by decide +kernel
theorem dX6_reduced_47 : decode cX6_reduced 47 = .ok (.iload_n 2, 1) := by decide +kernel
theorem dX6_reduced_48 : decode cX6_reduced 48 = .ok (.ifCond .ne 9, 3) := by decide +kernel
theorem dX6_reduced_51 : decode cX6_reduced 51 = .ok (.iload_n 1, 1) := by decide +kernel
theorem dX6_reduced_52 : decode cX6_reduced 52 = .ok (.iload_n 3, 1) := by decide +kernel
theorem dX6_reduced_53 : decode cX6_reduced 53 = .ok (.idiv, 1) := by decide +kernel
theorem dX6_reduced_54 : decode cX6_reduced 54 = .ok (.goto 7, 3) := by decide +kernel
theorem dX6_reduced_57 : decode cX6_reduced 57 = .ok (.ldc 21, 2) := by decide +kernel
theorem dX6_reduced_59 : decode cX6_reduced 59 = .ok (.iload_n 3, 1) := by decide +kernel
theorem dX6_reduced_60 : decode cX6_reduced 60 = .ok (.idiv, 1) := by decide +kernel
theorem dX6_reduced_61 : decode cX6_reduced 61 = .ok (.ireturn, 1) := by decide +kernel
theorem dX6_drawInto_0 : decode cX6_drawInto 0 = .ok (.aload_n 1, 1) := by decide +kernel
theorem dX6_drawInto_1 : decode cX6_drawInto 1 = .ok (.aload_n 2, 1) := by decide +kernel
theorem dX6_drawInto_2 : decode cX6_drawInto 2 = .ok (.invokevirtual 31, 3) := by decide +kernel
theorem dX6_drawInto_5 : decode cX6_drawInto 5 = .ok (.iload_n 3, 1) := by decide +kernel
theorem dX6_drawInto_6 : decode cX6_drawInto 6 = .ok (.i2l, 1) := by decide +kernel
theorem dX6_drawInto_7 : decode cX6_drawInto 7 = .ok (.lstore 5, 2) := by decide +kernel
theorem dX6_drawInto_9 : decode cX6_drawInto 9 = .ok (.iconst 0, 1) := by decide +kernel
theorem dX6_drawInto_10 : decode cX6_drawInto 10 = .ok (.istore 7, 2) := by decide +kernel
theorem dX6_drawInto_12 : decode cX6_drawInto 12 = .ok (.iconst 0, 1) := by decide +kernel
theorem dX6_drawInto_13 : decode cX6_drawInto 13 = .ok (.istore 8, 2) := by decide +kernel
theorem dX6_drawInto_15 : decode cX6_drawInto 15 = .ok (.iload 8, 2) := by decide +kernel
theorem dX6_drawInto_17 : decode cX6_drawInto 17 = .ok (.aload_n 2, 1) := by decide +kernel
theorem dX6_drawInto_18 : decode cX6_drawInto 18 = .ok (.getfield 35, 3) := by decide +kernel
theorem dX6_drawInto_21 : decode cX6_drawInto 21 = .ok (.if_icmp .ge 96, 3) := by decide +kernel
theorem dX6_drawInto_24 : decode cX6_drawInto 24 = .ok (.aload_n 2, 1) := by decide +kernel
theorem dX6_drawInto_25 : decode cX6_drawInto 25 = .ok (.getfield 22, 3) := by decide +kernel
theorem dX6_drawInto_28 : decode cX6_drawInto 28 = .ok (.iload 8, 2) := by decide +kernel
theorem dX6_drawInto_30 : decode cX6_drawInto 30 = .ok (.iaload, 1) := by decide +kernel
theorem dX6_drawInto_31 : decode cX6_drawInto 31 = .ok (.istore 9, 2) := by decide +kernel
theorem dX6_drawInto_33 : decode cX6_drawInto 33 = .ok (.iconst 0, 1) := by decide +kernel
theorem dX6_drawInto_34 : decode cX6_drawInto 34 = .ok (.istore 10, 2) := by decide +kernel
theorem dX6_drawInto_36 : decode cX6_drawInto 36 = .ok (.iload 10, 2) := by decide +kernel
theorem dX6_drawInto_38 : decode cX6_drawInto 38 = .ok (.aload_n 2, 1) := by decide +kernel
theorem dX6_drawInto_39 : decode cX6_drawInto 39 = .ok (.getfield 38, 3) := by decide +kernel
theorem dX6_drawInto_42 : decode cX6_drawInto 42 = .ok (.if_icmp .ge 69, 3) := by decide +kernel
theorem dX6_drawInto_45 : decode cX6_drawInto 45 = .ok (.iload 9, 2) := by decide +kernel
theorem dX6_drawInto_47 : decode cX6_drawInto 47 = .ok (.iload 10, 2) := by decide +kernel
theorem dX6_drawInto_49 : decode cX6_drawInto 49 = .ok (.invokestatic 41, 3) := by decide +kernel
theorem dX6_drawInto_52 : decode cX6_drawInto 52 = .ok (.ifCond .eq 53, 3) := by decide +kernel
theorem dX6_drawInto_55 : decode cX6_drawInto 55 = .ok (.ldc2_w 45, 3) := by decide +kernel
theorem dX6_drawInto_58 : decode cX6_drawInto 58 = .ok (.lload 5, 2) := by decide +kernel
theorem dX6_drawInto_60 : decode cX6_drawInto 60 = .ok (.lmul, 1) := by decide +kernel
theorem dX6_drawInto_61 : decode cX6_drawInto 61 = .ok (.ldc2_w 47, 3) := by decide +kernel
theorem dX6_drawInto_64 : decode cX6_drawInto 64 = .ok (.ladd, 1) := by decide +kernel
theorem dX6_drawInto_65 : decode cX6_drawInto 65 = .ok (.ldc2_w 49, 3) := by decide +kernel
theorem dX6_drawInto_68 : decode cX6_drawInto 68 = .ok (.land, 1) := by decide +kernel
theorem dX6_drawInto_69 : decode cX6_drawInto 69 = .ok (.lstore 5, 2) := by decide +kernel
theorem dX6_drawInto_71 : decode cX6_drawInto 71 = .ok (.lload 5, 2) := by decide +kernel
theorem dX6_drawInto_73 : decode cX6_drawInto 73 = .ok (.ldc2_w 51, 3) := by decide +kernel
theorem dX6_drawInto_76 : decode cX6_drawInto 76 = .ok (.ldiv, 1) := by decide +kernel
theorem dX6_drawInto_77 : decode cX6_drawInto 77 = .ok (.ldc2_w 53, 3) := by decide +kernel
theorem dX6_drawInto_80 : decode cX6_drawInto 80 = .ok (.lrem, 1) := by decide +kernel
theorem dX6_drawInto_81 : decode cX6_drawInto 81 = .ok (.iload 4, 2) := by decide +kernel
theorem dX6_drawInto_83 : decode cX6_drawInto 83 = .ok (.i2l, 1) := by decide +kernel
theorem dX6_drawInto_84 : decode cX6_drawInto 84 = .ok (.lcmp, 1) := by decide +kernel
theorem dX6_drawInto_85 : decode cX6_drawInto 85 = .ok (.ifCond .ge 20, 3) := by decide +kernel
theorem dX6_drawInto_88 : decode cX6_drawInto 88 = .ok (.aload_n 1, 1) := by decide +kernel
theorem dX6_drawInto_89 : decode cX6_drawInto 89 = .ok (.getfield 55, 3) := by decide +kernel
theorem dX6_drawInto_92 : decode cX6_drawInto 92 = .ok (.iload 8, 2) := by decide +kernel
theorem dX6_drawInto_94 : decode cX6_drawInto 94 = .ok (.dup2, 1) := by decide +kernel
theorem dX6_drawInto_95 : decode cX6_drawInto 95 = .ok (.iaload, 1) := by decide +kernel
theorem dX6_drawInto_96 : decode cX6_drawInto 96 = .ok (.iconst 1, 1) := by decide +kernel
theorem dX6_drawInto_97 : decode cX6_drawInto 97 = .ok (.iload 10, 2) := by decide +kernel
theorem dX6_drawInto_99 : decode cX6_drawInto 99 = .ok (.ishl, 1) := by decide +kernel
theorem dX6_drawInto_100 : decode cX6_drawInto 100 = .ok (.ior, 1) := by decide +kernel
theorem dX6_drawInto_101 : decode cX6_drawInto 101 = .ok (.iastore, 1) := by decide +kernel
theorem dX6_drawInto_102 : decode cX6_drawInto 102 = .ok (.iinc 7 1, 3) := by decide +kernel
theorem dX6_drawInto_105 : decode cX6_drawInto 105 = .ok (.iinc 10 1, 3) := by decide +kernel
theorem dX6_drawInto_108 : decode cX6_drawInto 108 = .ok (.goto (-72), 3) := by decide +kernel
theorem dX6_drawInto_111 : decode cX6_drawInto 111 = .ok (.iinc 8 1, 3) := by decide +kernel
theorem dX6_drawInto_114 : decode cX6_drawInto 114 = .ok (.goto (-99), 3) := by decide +kernel
theorem dX6_drawInto_117 : decode cX6_drawInto 117 = .ok (.aload_n 1, 1) := by decide +kernel
theorem dX6_drawInto_118 : decode cX6_drawInto 118 = .ok (.invokevirtual 58, 3) := by decide +kernel
theorem dX6_drawInto_121 : decode cX6_drawInto 121 = .ok (.iload 7, 2) := by decide +kernel
theorem dX6_drawInto_123 : decode cX6_drawInto 123 = .ok (.ireturn, 1) := by decide +kernel
theorem dJ6_bitCount_0f7a4_0 : decode cJ6_bitCount_0f7a4 0 = .ok (.iload_n 0, 1) := by decide +kernel
theorem dJ6_bitCount_0f7a4_1 : decode cJ6_bitCount_0f7a4 1 = .ok (.iload_n 0, 1) := by decide +kernel
theorem dJ6_bitCount_0f7a4_2 : decode cJ6_bitCount_0f7a4 2 = .ok (.iconst 1, 1) := by decide +kernel
theorem dJ6_bitCount_0f7a4_3 : decode cJ6_bitCount_0f7a4 3 = .ok (.iushr, 1) := by decide +kernel
theorem dJ6_bitCount_0f7a4_4 : decode cJ6_bitCount_0f7a4 4 = .ok (.ldc_w 265, 3) := by decide +kernel
theorem dJ6_bitCount_0f7a4_7 : decode cJ6_bitCount_0f7a4 7 = .ok (.iand, 1) := by decide +kernel
theorem dJ6_bitCount_0f7a4_8 : decode cJ6_bitCount_0f7a4 8 = .ok (.isub, 1) := by decide +kernel
theorem dJ6_bitCount_0f7a4_9 : decode cJ6_bitCount_0f7a4 9 = .ok (.istore_n 0, 1) := by decide +kernel
theorem dJ6_bitCount_0f7a4_10 : decode cJ6_bitCount_0f7a4 10 = .ok (.iload_n 0, 1) := by decide +kernel
theorem dJ6_bitCount_0f7a4_11 : decode cJ6_bitCount_0f7a4 11 = .ok (.ldc_w 266, 3) := by decide +kernel
theorem dJ6_bitCount_0f7a4_14 : decode cJ6_bitCount_0f7a4 14 = .ok (.iand, 1) := by decide +kernel
theorem dJ6_bitCount_0f7a4_15 : decode cJ6_bitCount_0f7a4 15 = .ok (.iload_n 0, 1) := by decide +kernel
theorem dJ6_bitCount_0f7a4_16 : decode cJ6_bitCount_0f7a4 16 = .ok (.iconst 2, 1) := by decide +kernel
theorem dJ6_bitCount_0f7a4_17 : decode cJ6_bitCount_0f7a4 17 = .ok (.iushr, 1) := by decide +kernel
theorem dJ6_bitCount_0f7a4_18 : decode cJ6_bitCount_0f7a4 18 = .ok (.ldc_w 266, 3) := by decide +kernel
theorem dJ6_bitCount_0f7a4_21 : decode cJ6_bitCount_0f7a4 21 = .ok (.iand, 1) := by decide +kernel
theorem dJ6_bitCount_0f7a4_22 : decode cJ6_bitCount_0f7a4 22 = .ok (.iadd, 1) := by decide +kernel
theorem dJ6_bitCount_0f7a4_23 : decode cJ6_bitCount_0f7a4 23 = .ok (.istore_n 0, 1) := by decide +kernel
theorem dJ6_bitCount_0f7a4_24 : decode cJ6_bitCount_0f7a4 24 = .ok (.iload_n 0, 1) := by decide +kernel
theorem dJ6_bitCount_0f7a4_25 : decode cJ6_bitCount_0f7a4 25 = .ok (.iload_n 0, 1) := by decide +kernel
theorem dJ6_bitCount_0f7a4_26 : decode cJ6_bitCount_0f7a4 26 = .ok (.iconst 4, 1) := by decide +kernel
theorem dJ6_bitCount_0f7a4_27 : decode cJ6_bitCount_0f7a4 27 = .ok (.iushr, 1) := by decide +kernel
theorem dJ6_bitCount_0f7a4_28 : decode cJ6_bitCount_0f7a4 28 = .ok (.iadd, 1) := by decide +kernel
theorem dJ6_bitCount_0f7a4_29 : decode cJ6_bitCount_0f7a4 29 = .ok (.ldc_w 267, 3) := by decide +kernel
theorem dJ6_bitCount_0f7a4_32 : decode cJ6_bitCount_0f7a4 32 = .ok (.iand, 1) := by decide +kernel
theorem dJ6_bitCount_0f7a4_33 : decode cJ6_bitCount_0f7a4 33 = .ok (.istore_n 0, 1) := by decide +kernel
theorem dJ6_bitCount_0f7a4_34 : decode cJ6_bitCount_0f7a4 34 = .ok (.iload_n 0, 1) := by decide +kernel
theorem dJ6_bitCount_0f7a4_35 : decode cJ6_bitCount_0f7a4 35 = .ok (.iload_n 0, 1) := by decide +kernel
theorem dJ6_bitCount_0f7a4_36 : decode cJ6_bitCount_0f7a4 36 = .ok (.bipush 8, 2) := by decide +kernel
theorem dJ6_bitCount_0f7a4_38 : decode cJ6_bitCount_0f7a4 38 = .ok (.iushr, 1) := by decide +kernel
theorem dJ6_bitCount_0f7a4_39 : decode cJ6_bitCount_0f7a4 39 = .ok (.iadd, 1) := by decide +kernel
theorem dJ6_bitCount_0f7a4_40 : decode cJ6_bitCount_0f7a4 40 = .ok (.istore_n 0, 1) := by decide +kernel
theorem dJ6_bitCount_0f7a4_41 : decode cJ6_bitCount_0f7a4 41 = .ok (.iload_n 0, 1) := by decide +kernel
theorem dJ6_bitCount_0f7a4_42 : decode cJ6_bitCount_0f7a4 42 = .ok (.iload_n 0, 1) := by decide +kernel
theorem dJ6_bitCount_0f7a4_43 : decode cJ6_bitCount_0f7a4 43 = .ok (.bipush 16, 2) := by decide +kernel
theorem dJ6_bitCount_0f7a4_45 : decode cJ6_bitCount_0f7a4 45 = .ok (.iushr, 1) := by decide +kernel
theorem dJ6_bitCount_0f7a4_46 : decode cJ6_bitCount_0f7a4 46 = .ok (.iadd, 1) := by decide +kernel
theorem dJ6_bitCount_0f7a4_47 : decode cJ6_bitCount_0f7a4 47 = .ok (.istore_n 0, 1) := by decide +kernel
theorem dJ6_bitCount_0f7a4_48 : decode cJ6_bitCount_0f7a4 48 = .ok (.iload_n 0, 1) := by decide +kernel
theorem dJ6_bitCount_0f7a4_49 : decode cJ6_bitCount_0f7a4 49 = .ok (.bipush 63, 2) := by decide +kernel
theorem dJ6_bitCount_0f7a4_51 : decode cJ6_bitCount_0f7a4 51 = .ok (.iand, 1) := by decide +kernel
theorem dJ6_bitCount_0f7a4_52 : decode cJ6_bitCount_0f7a4 52 = .ok (.ireturn, 1) := by decide +kernel
theorem dJ9_max_7cf53_0 : decode cJ9_max_7cf53 0 = .ok (.iload_n 0, 1) := by decide +kernel
theorem dJ9_max_7cf53_1 : decode cJ9_max_7cf53 1 = .ok (.iload_n 1, 1) := by decide +kernel
theorem dJ9_max_7cf53_2 : decode cJ9_max_7cf53 2 = .ok (.if_icmp .lt 7, 3) := by decide +kernel
theorem dJ9_max_7cf53_5 : decode cJ9_max_7cf53 5 = .ok (.iload_n 0, 1) := by decide +kernel
theorem dJ9_max_7cf53_6 : decode cJ9_max_7cf53 6 = .ok (.goto 4, 3) := by decide +kernel
theorem dJ9_max_7cf53_9 : decode cJ9_max_7cf53 9 = .ok (.iload_n 1, 1) := by decide +kernel
theorem dJ9_max_7cf53_10 : decode cJ9_max_7cf53 10 = .ok (.ireturn, 1) := by decide +kernel
theorem dJ9_min_7cf53_0 : decode cJ9_min_7cf53 0 = .ok (.iload_n 0, 1) := by decide +kernel
theorem dJ9_min_7cf53_1 : decode cJ9_min_7cf53 1 = .ok (.iload_n 1, 1) := by decide +kernel
theorem dJ9_min_7cf53_2 : decode cJ9_min_7cf53 2 = .ok (.if_icmp .gt 7, 3) := by decide +kernel
theorem dJ9_min_7cf53_5 : decode cJ9_min_7cf53 5 = .ok (.iload_n 0, 1) := by decide +kernel
theorem dJ9_min_7cf53_6 : decode cJ9_min_7cf53 6 = .ok (.goto 4, 3) := by decide +kernel
theorem dJ9_min_7cf53_9 : decode cJ9_min_7cf53 9 = .ok (.iload_n 1, 1) := by decide +kernel
theorem dJ9_min_7cf53_10 : decode cJ9_min_7cf53 10 = .ok (.ireturn, 1) := by decide +kernel
theorem dJ0_length_8abf5_0 : decode cJ0_length_8abf5 0 = .ok (.aload_n 0, 1) := by decide +kernel
theorem dJ0_length_8abf5_1 : decode cJ0_length_8abf5 1 = .ok (.getfield 9, 3) := by decide +kernel
theorem dJ0_length_8abf5_4 : decode cJ0_length_8abf5 4 = .ok (.arraylength, 1) := by decide +kernel
theorem dJ0_length_8abf5_5 : decode cJ0_length_8abf5 5 = .ok (.aload_n 0, 1) := by decide +kernel
theorem dJ0_length_8abf5_6 : decode cJ0_length_8abf5 6 = .ok (.invokevirtual 335, 3) := by decide +kernel
theorem dJ0_length_8abf5_9 : decode cJ0_length_8abf5 9 = .ok (.ishr, 1) := by decide +kernel
theorem dJ0_length_8abf5_10 : decode cJ0_length_8abf5 10 = .ok (.ireturn, 1) := by decide +kernel
theorem dJ0_charAt_5068e_0 : decode cJ0_charAt_5068e 0 = .ok (.aload_n 0, 1) := by decide +kernel
theorem dJ0_charAt_5068e_1 : decode cJ0_charAt_5068e 1 = .ok (.invokevirtual 492, 3) := by decide +kernel
theorem dJ0_charAt_5068e_4 : decode cJ0_charAt_5068e 4 = .ok (.ifCond .eq 12, 3) := by decide +kernel
theorem dJ0_charAt_5068e_7 : decode cJ0_charAt_5068e 7 = .ok (.aload_n 0, 1) := by decide +kernel
theorem dJ0_charAt_5068e_8 : decode cJ0_charAt_5068e 8 = .ok (.getfield 9, 3) := by decide +kernel
theorem dJ0_charAt_5068e_11 : decode cJ0_charAt_5068e 11 = .ok (.iload_n 1, 1) := by decide +kernel
theorem dJ0_charAt_5068e_12 : decode cJ0_charAt_5068e 12 = .ok (.invokestatic 495, 3) := by decide +kernel
theorem dJ0_charAt_5068e_15 : decode cJ0_charAt_5068e 15 = .ok (.ireturn, 1) := by decide +kernel
theorem dJ0_charAt_5068e_16 : decode cJ0_charAt_5068e 16 = .ok (.aload_n 0, 1) := by decide +kernel
theorem dJ0_charAt_5068e_17 : decode cJ0_charAt_5068e 17 = .ok (.getfield 9, 3) := by decide +kernel
theorem dJ0_charAt_5068e_20 : decode cJ0_charAt_5068e 20 = .ok (.iload_n 1, 1) := by decide +kernel
theorem dJ0_charAt_5068e_21 : decode cJ0_charAt_5068e 21 = .ok (.invokestatic 498, 3) := by decide +kernel
theorem dJ0_charAt_5068e_24 : decode cJ0_charAt_5068e 24 = .ok (.ireturn, 1) := by decide +kernel
theorem dJ0_coder_7d493_0 : decode cJ0_coder_7d493 0 = .ok (.getstatic 38, 3) := by decide +kernel
theorem dJ0_coder_7d493_3 : decode cJ0_coder_7d493 3 = .ok (.ifCond .eq 10, 3) := by decide +kernel
theorem dJ0_coder_7d493_6 : decode cJ0_coder_7d493 6 = .ok (.aload_n 0, 1) := by decide +kernel
theorem dJ0_coder_7d493_7 : decode cJ0_coder_7d493 7 = .ok (.getfield 15, 3) := by decide +kernel
theorem dJ0_coder_7d493_10 : decode cJ0_coder_7d493 10 = .ok (.goto 4, 3) := by decide +kernel
theorem dJ0_coder_7d493_13 : decode cJ0_coder_7d493 13 = .ok (.iconst 1, 1) := by decide +kernel
theorem dJ0_coder_7d493_14 : decode cJ0_coder_7d493 14 = .ok (.ireturn, 1) := by decide +kernel
theorem dJ0_isLatin1_aae02_0 : decode cJ0_isLatin1_aae02 0 = .ok (.getstatic 38, 3) := by decide +kernel
theorem dJ0_isLatin1_aae02_3 : decode cJ0_isLatin1_aae02 3 = .ok (.ifCond .eq 14, 3) := by decide +kernel
theorem dJ0_isLatin1_aae02_6 : decode cJ0_isLatin1_aae02 6 = .ok (.aload_n 0, 1) := by decide +kernel
theorem dJ0_isLatin1_aae02_7 : decode cJ0_isLatin1_aae02 7 = .ok (.getfield 15, 3) := by decide +kernel
theorem dJ0_isLatin1_aae02_10 : decode cJ0_isLatin1_aae02 10 = .ok (.ifCond .ne 7, 3) := by decide +kernel
theorem dJ0_isLatin1_aae02_13 : decode cJ0_isLatin1_aae02 13 = .ok (.iconst 1, 1) := by decide +kernel
theorem dJ0_isLatin1_aae02_14 : decode cJ0_isLatin1_aae02 14 = .ok (.goto 4, 3) := by decide +kernel
theorem dJ0_isLatin1_aae02_17 : decode cJ0_isLatin1_aae02 17 = .ok (.iconst 0, 1) := by decide +kernel
theorem dJ0_isLatin1_aae02_18 : decode cJ0_isLatin1_aae02 18 = .ok (.ireturn, 1) := by decide +kernel
theorem dJ0_checkIndex_df160_0 : decode cJ0_checkIndex_df160 0 = .ok (.iload_n 0, 1) := by decide +kernel
theorem dJ0_checkIndex_df160_1 : decode cJ0_checkIndex_df160 1 = .ok (.iload_n 1, 1) := by decide +kernel
theorem dJ0_checkIndex_df160_2 : decode cJ0_checkIndex_df160 2 = .ok (.getstatic 1053, 3) := by decide +kernel
theorem dJ0_checkIndex_df160_5 : decode cJ0_checkIndex_df160 5 = .ok (.invokestatic 1059, 3) := by decide +kernel
theorem dJ0_checkIndex_df160_8 : decode cJ0_checkIndex_df160 8 = .ok (.pop, 1) := by decide +kernel
theorem dJ0_checkIndex_df160_9 : decode cJ0_checkIndex_df160 9 = .ok (.return_, 1) := by decide +kernel
theorem dJ1_charAt_3b067_0 : decode cJ1_charAt_3b067 0 = .ok (.iload_n 1, 1) := by decide +kernel
theorem dJ1_charAt_3b067_1 : decode cJ1_charAt_3b067 1 = .ok (.aload_n 0, 1) := by decide +kernel
theorem dJ1_charAt_3b067_2 : decode cJ1_charAt_3b067 2 = .ok (.arraylength, 1) := by decide +kernel
theorem dJ1_charAt_3b067_3 : decode cJ1_charAt_3b067 3 = .ok (.invokestatic 9, 3) := by decide +kernel
theorem dJ1_charAt_3b067_6 : decode cJ1_charAt_3b067 6 = .ok (.aload_n 0, 1) := by decide +kernel
theorem dJ1_charAt_3b067_7 : decode cJ1_charAt_3b067 7 = .ok (.iload_n 1, 1) := by decide +kernel
theorem dJ1_charAt_3b067_8 : decode cJ1_charAt_3b067 8 = .ok (.baload, 1) := by decide +kernel
theorem dJ1_charAt_3b067_9 : decode cJ1_charAt_3b067 9 = .ok (.sipush 255, 3) := by decide +kernel
theorem dJ1_charAt_3b067_12 : decode cJ1_charAt_3b067 12 = .ok (.iand, 1) := by decide +kernel
theorem dJ1_charAt_3b067_13 : decode cJ1_charAt_3b067 13 = .ok (.i2c, 1) := by decide +kernel
theorem dJ1_charAt_3b067_14 : decode cJ1_charAt_3b067 14 = .ok (.ireturn, 1) := by decide +kernel
theorem dJ2_getChar_3b067_0 : decode cJ2_getChar_3b067 0 = .ok (.getstatic 44, 3) := by decide +kernel
theorem dJ2_getChar_3b067_3 : decode cJ2_getChar_3b067 3 = .ok (.ifCond .ne 25, 3) := by decide +kernel
theorem dJ2_getChar_3b067_6 : decode cJ2_getChar_3b067 6 = .ok (.iload_n 1, 1) := by decide +kernel
theorem dJ2_getChar_3b067_7 : decode cJ2_getChar_3b067 7 = .ok (.ifCond .lt 11, 3) := by decide +kernel
theorem dJ2_getChar_3b067_10 : decode cJ2_getChar_3b067 10 = .ok (.iload_n 1, 1) := by decide +kernel
theorem dJ2_getChar_3b067_11 : decode cJ2_getChar_3b067 11 = .ok (.aload_n 0, 1) := by decide +kernel
theorem dJ2_getChar_3b067_12 : decode cJ2_getChar_3b067 12 = .ok (.invokestatic 48, 3) := by decide +kernel
theorem dJ2_getChar_3b067_15 : decode cJ2_getChar_3b067 15 = .ok (.if_icmp .lt 13, 3) := by decide +kernel
theorem dJ2_getChar_3b067_18 : decode cJ2_getChar_3b067 18 = .ok (.new 52, 3) := by decide +kernel
theorem dJ2_getChar_3b067_21 : decode cJ2_getChar_3b067 21 = .ok (.dup, 1) := by decide +kernel
theorem dJ2_getChar_3b067_22 : decode cJ2_getChar_3b067 22 = .ok (.ldc 54, 2) := by decide +kernel
theorem dJ2_getChar_3b067_24 : decode cJ2_getChar_3b067 24 = .ok (.invokespecial 56, 3) := by decide +kernel
theorem dJ2_getChar_3b067_27 : decode cJ2_getChar_3b067 27 = .ok (.athrow, 1) := by decide +kernel
theorem dJ2_getChar_3b067_28 : decode cJ2_getChar_3b067 28 = .ok (.iload_n 1, 1) := by decide +kernel
theorem dJ2_getChar_3b067_29 : decode cJ2_getChar_3b067 29 = .ok (.iconst 1, 1) := by decide +kernel
theorem dJ2_getChar_3b067_30 : decode cJ2_getChar_3b067 30 = .ok (.ishl, 1) := by decide +kernel
theorem dJ2_getChar_3b067_31 : decode cJ2_getChar_3b067 31 = .ok (.istore_n 1, 1) := by decide +kernel
theorem dJ2_getChar_3b067_32 : decode cJ2_getChar_3b067 32 = .ok (.aload_n 0, 1) := by decide +kernel
theorem dJ2_getChar_3b067_33 : decode cJ2_getChar_3b067 33 = .ok (.iload_n 1, 1) := by decide +kernel
theorem dJ2_getChar_3b067_34 : decode cJ2_getChar_3b067 34 = .ok (.iinc 1 1, 3) := by decide +kernel
theorem dJ2_getChar_3b067_37 : decode cJ2_getChar_3b067 37 = .ok (.baload, 1) := by decide +kernel
theorem dJ2_getChar_3b067_38 : decode cJ2_getChar_3b067 38 = .ok (.sipush 255, 3) := by decide +kernel
theorem dJ2_getChar_3b067_41 : decode cJ2_getChar_3b067 41 = .ok (.iand, 1) := by decide +kernel
theorem dJ2_getChar_3b067_42 : decode cJ2_getChar_3b067 42 = .ok (.getstatic 59, 3) := by decide +kernel
theorem dJ2_getChar_3b067_45 : decode cJ2_getChar_3b067 45 = .ok (.ishl, 1) := by decide +kernel
theorem dJ2_getChar_3b067_46 : decode cJ2_getChar_3b067 46 = .ok (.aload_n 0, 1) := by decide +kernel
theorem dJ2_getChar_3b067_47 : decode cJ2_getChar_3b067 47 = .ok (.iload_n 1, 1) := by decide +kernel
theorem dJ2_getChar_3b067_48 : decode cJ2_getChar_3b067 48 = .ok (.baload, 1) := by decide +kernel
theorem dJ2_getChar_3b067_49 : decode cJ2_getChar_3b067 49 = .ok (.sipush 255, 3) := by decide +kernel
theorem dJ2_getChar_3b067_52 : decode cJ2_getChar_3b067 52 = .ok (.iand, 1) := by decide +kernel
theorem dJ2_getChar_3b067_53 : decode cJ2_getChar_3b067 53 = .ok (.getstatic 63, 3) := by decide +kernel
theorem dJ2_getChar_3b067_56 : decode cJ2_getChar_3b067 56 = .ok (.ishl, 1) := by decide +kernel
theorem dJ2_getChar_3b067_57 : decode cJ2_getChar_3b067 57 = .ok (.ior, 1) := by decide +kernel
theorem dJ2_getChar_3b067_58 : decode cJ2_getChar_3b067 58 = .ok (.i2c, 1) := by decide +kernel
theorem dJ2_getChar_3b067_59 : decode cJ2_getChar_3b067 59 = .ok (.ireturn, 1) := by decide +kernel
theorem dJ2_length_9d52b_0 : decode cJ2_length_9d52b 0 = .ok (.aload_n 0, 1) := by decide +kernel
theorem dJ2_length_9d52b_1 : decode cJ2_length_9d52b 1 = .ok (.arraylength, 1) := by decide +kernel
theorem dJ2_length_9d52b_2 : decode cJ2_length_9d52b 2 = .ok (.iconst 1, 1) := by decide +kernel
theorem dJ2_length_9d52b_3 : decode cJ2_length_9d52b 3 = .ok (.ishr, 1) := by decide +kernel
theorem dJ2_length_9d52b_4 : decode cJ2_length_9d52b 4 = .ok (.ireturn, 1) := by decide +kernel
theorem dJ2_charAt_3b067_0 : decode cJ2_charAt_3b067 0 = .ok (.iload_n 1, 1) := by decide +kernel
theorem dJ2_charAt_3b067_1 : decode cJ2_charAt_3b067 1 = .ok (.aload_n 0, 1) := by decide +kernel
theorem dJ2_charAt_3b067_2 : decode cJ2_charAt_3b067 2 = .ok (.invokestatic 67, 3) := by decide +kernel
theorem dJ2_charAt_3b067_5 : decode cJ2_charAt_3b067 5 = .ok (.aload_n 0, 1) := by decide +kernel
theorem dJ2_charAt_3b067_6 : decode cJ2_charAt_3b067 6 = .ok (.iload_n 1, 1) := by decide +kernel
theorem dJ2_charAt_3b067_7 : decode cJ2_charAt_3b067 7 = .ok (.invokestatic 71, 3) := by decide +kernel
theorem dJ2_charAt_3b067_10 : decode cJ2_charAt_3b067 10 = .ok (.ireturn, 1) := by decide +kernel
theorem dJ2_checkIndex_2214a_0 : decode cJ2_checkIndex_2214a 0 = .ok (.iload_n 0, 1) := by decide +kernel
theorem dJ2_checkIndex_2214a_1 : decode cJ2_checkIndex_2214a 1 = .ok (.aload_n 1, 1) := by decide +kernel
theorem dJ2_checkIndex_2214a_2 : decode cJ2_checkIndex_2214a 2 = .ok (.invokestatic 48, 3) := by decide +kernel
theorem dJ2_checkIndex_2214a_5 : decode cJ2_checkIndex_2214a 5 = .ok (.invokestatic 414, 3) := by decide +kernel
theorem dJ2_checkIndex_2214a_8 : decode cJ2_checkIndex_2214a 8 = .ok (.return_, 1) := by decide +kernel
theorem dJ7_fill_d0a16_0 : decode cJ7_fill_d0a16 0 = .ok (.iconst 0, 1) := by decide +kernel
theorem dJ7_fill_d0a16_1 : decode cJ7_fill_d0a16 1 = .ok (.istore_n 3, 1) := by decide +kernel
theorem dJ7_fill_d0a16_2 : decode cJ7_fill_d0a16 2 = .ok (.aload_n 0, 1) := by decide +kernel
theorem dJ7_fill_d0a16_3 : decode cJ7_fill_d0a16 3 = .ok (.arraylength, 1) := by decide +kernel
theorem dJ7_fill_d0a16_4 : decode cJ7_fill_d0a16 4 = .ok (.istore 4, 2) := by decide +kernel
theorem dJ7_fill_d0a16_6 : decode cJ7_fill_d0a16 6 = .ok (.iload_n 3, 1) := by decide +kernel
theorem dJ7_fill_d0a16_7 : decode cJ7_fill_d0a16 7 = .ok (.iload 4, 2) := by decide +kernel
theorem dJ7_fill_d0a16_9 : decode cJ7_fill_d0a16 9 = .ok (.if_icmp .ge 13, 3) := by decide +kernel
theorem dJ7_fill_d0a16_12 : decode cJ7_fill_d0a16 12 = .ok (.aload_n 0, 1) := by decide +kernel
theorem dJ7_fill_d0a16_13 : decode cJ7_fill_d0a16 13 = .ok (.iload_n 3, 1) := by decide +kernel
theorem dJ7_fill_d0a16_14 : decode cJ7_fill_d0a16 14 = .ok (.lload_n 1, 1) := by decide +kernel
theorem dJ7_fill_d0a16_15 : decode cJ7_fill_d0a16 15 = .ok (.lastore, 1) := by decide +kernel
theorem dJ7_fill_d0a16_16 : decode cJ7_fill_d0a16 16 = .ok (.iinc 3 1, 3) := by decide +kernel
theorem dJ7_fill_d0a16_19 : decode cJ7_fill_d0a16 19 = .ok (.goto (-13), 3) := by decide +kernel
theorem dJ7_fill_d0a16_22 : decode cJ7_fill_d0a16 22 = .ok (.return_, 1) := by decide +kernel
theorem dJ7_fill_53178_0 : decode cJ7_fill_53178 0 = .ok (.iconst 0, 1) := by decide +kernel
theorem dJ7_fill_53178_1 : decode cJ7_fill_53178 1 = .ok (.istore_n 2, 1) := by decide +kernel
theorem dJ7_fill_53178_2 : decode cJ7_fill_53178 2 = .ok (.aload_n 0, 1) := by decide +kernel
theorem dJ7_fill_53178_3 : decode cJ7_fill_53178 3 = .ok (.arraylength, 1) := by decide +kernel
theorem dJ7_fill_53178_4 : decode cJ7_fill_53178 4 = .ok (.istore_n 3, 1) := by decide +kernel
theorem dJ7_fill_53178_5 : decode cJ7_fill_53178 5 = .ok (.iload_n 2, 1) := by decide +kernel
theorem dJ7_fill_53178_6 : decode cJ7_fill_53178 6 = .ok (.iload_n 3, 1) := by decide +kernel
theorem dJ7_fill_53178_7 : decode cJ7_fill_53178 7 = .ok (.if_icmp .ge 13, 3) := by decide +kernel
theorem dJ7_fill_53178_10 : decode cJ7_fill_53178 10 = .ok (.aload_n 0, 1) := by decide +kernel
theorem dJ7_fill_53178_11 : decode cJ7_fill_53178 11 = .ok (.iload_n 2, 1) := by decide +kernel
theorem dJ7_fill_53178_12 : decode cJ7_fill_53178 12 = .ok (.iload_n 1, 1) := by decide +kernel
theorem dJ7_fill_53178_13 : decode cJ7_fill_53178 13 = .ok (.iastore, 1) := by decide +kernel
theorem dJ7_fill_53178_14 : decode cJ7_fill_53178 14 = .ok (.iinc 2 1, 3) := by decide +kernel
theorem dJ7_fill_53178_17 : decode cJ7_fill_53178 17 = .ok (.goto (-12), 3) := by decide +kernel
theorem dJ7_fill_53178_20 : decode cJ7_fill_53178 20 = .ok (.return_, 1) := by decide +kernel
theorem dJ3_checkIndex_8e157_0 : decode cJ3_checkIndex_8e157 0 = .ok (.iload_n 0, 1) := by decide +kernel
theorem dJ3_checkIndex_8e157_1 : decode cJ3_checkIndex_8e157 1 = .ok (.ifCond .lt 8, 3) := by decide +kernel
theorem dJ3_checkIndex_8e157_4 : decode cJ3_checkIndex_8e157 4 = .ok (.iload_n 0, 1) := by decide +kernel
theorem dJ3_checkIndex_8e157_5 : decode cJ3_checkIndex_8e157 5 = .ok (.iload_n 1, 1) := by decide +kernel
theorem dJ3_checkIndex_8e157_6 : decode cJ3_checkIndex_8e157 6 = .ok (.if_icmp .lt 10, 3) := by decide +kernel
theorem dJ3_checkIndex_8e157_9 : decode cJ3_checkIndex_8e157 9 = .ok (.aload_n 2, 1) := by decide +kernel
theorem dJ3_checkIndex_8e157_10 : decode cJ3_checkIndex_8e157 10 = .ok (.iload_n 0, 1) := by decide +kernel
theorem dJ3_checkIndex_8e157_11 : decode cJ3_checkIndex_8e157 11 = .ok (.iload_n 1, 1) := by decide +kernel
theorem dJ3_checkIndex_8e157_12 : decode cJ3_checkIndex_8e157 12 = .ok (.invokestatic 95, 3) := by decide +kernel
theorem dJ3_checkIndex_8e157_15 : decode cJ3_checkIndex_8e157 15 = .ok (.athrow, 1) := by decide +kernel
theorem dJ3_checkIndex_8e157_16 : decode cJ3_checkIndex_8e157 16 = .ok (.iload_n 0, 1) := by decide +kernel
theorem dJ3_checkIndex_8e157_17 : decode cJ3_checkIndex_8e157 17 = .ok (.ireturn, 1) := by decide +kernel
