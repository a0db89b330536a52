theorem dX0_init_0 : decode cX0_init 0 = .ok (.aload_n 0, 1) := by decide +kernel
theorem dX0_init_1 : decode cX0_init 1 = .ok (.invokespecial 3, 3) := by decide +kernel
theorem dX0_init_4 : decode cX0_init 4 = .ok (.aload_n 0, 1) := by decide +kernel
theorem dX0_init_5 : decode cX0_init 5 = .ok (.bipush 8, 2) := by decide +kernel
theorem dX0_init_7 : decode cX0_init 7 = .ok (.anewarray 9, 3) := by decide +kernel
theorem dX0_init_10 : decode cX0_init 10 = .ok (.putfield 11, 3) := by decide +kernel
theorem dX0_init_13 : decode cX0_init 13 = .ok (.aload_n 0, 1) := by decide +kernel
theorem dX0_init_14 : decode cX0_init 14 = .ok (.bipush 32, 2) := by decide +kernel
theorem dX0_init_16 : decode cX0_init 16 = .ok (.newarray .int, 2) := by decide +kernel
theorem dX0_init_18 : decode cX0_init 18 = .ok (.putfield 17, 3) := by decide +kernel
theorem dX0_init_21 : decode cX0_init 21 = .ok (.aload_n 0, 1) := by decide +kernel
theorem dX0_init_22 : decode cX0_init 22 = .ok (.bipush 32, 2) := by decide +kernel
theorem dX0_init_24 : decode cX0_init 24 = .ok (.newarray .int, 2) := by decide +kernel
theorem dX0_init_26 : decode cX0_init 26 = .ok (.putfield 21, 3) := by decide +kernel
theorem dX0_init_29 : decode cX0_init 29 = .ok (.aload_n 0, 1) := by decide +kernel
theorem dX0_init_30 : decode cX0_init 30 = .ok (.bipush 32, 2) := by decide +kernel
theorem dX0_init_32 : decode cX0_init 32 = .ok (.newarray .int, 2) := by decide +kernel
theorem dX0_init_34 : decode cX0_init 34 = .ok (.putfield 24, 3) := by decide +kernel
theorem dX0_init_37 : decode cX0_init 37 = .ok (.return_, 1) := by decide +kernel
theorem dX0_get_0 : decode cX0_get 0 = .ok (.iload_n 1, 1) := by decide +kernel
theorem dX0_get_1 : decode cX0_get 1 = .ok (.ifCond .lt 20, 3) := by decide +kernel
theorem dX0_get_4 : decode cX0_get 4 = .ok (.iload_n 1, 1) := by decide +kernel
theorem dX0_get_5 : decode cX0_get 5 = .ok (.aload_n 0, 1) := by decide +kernel
theorem dX0_get_6 : decode cX0_get 6 = .ok (.getfield 27, 3) := by decide +kernel
theorem dX0_get_9 : decode cX0_get 9 = .ok (.if_icmp .ge 12, 3) := by decide +kernel
theorem dX0_get_12 : decode cX0_get 12 = .ok (.aload_n 0, 1) := by decide +kernel
theorem dX0_get_13 : decode cX0_get 13 = .ok (.getfield 11, 3) := by decide +kernel
theorem dX0_get_16 : decode cX0_get 16 = .ok (.iload_n 1, 1) := by decide +kernel
theorem dX0_get_17 : decode cX0_get 17 = .ok (.aaload, 1) := by decide +kernel
theorem dX0_get_18 : decode cX0_get 18 = .ok (.goto 4, 3) := by decide +kernel
theorem dX0_get_21 : decode cX0_get 21 = .ok (.aconst_null, 1) := by decide +kernel
theorem dX0_get_22 : decode cX0_get 22 = .ok (.areturn, 1) := by decide +kernel
theorem dX0_restart_0 : decode cX0_restart 0 = .ok (.iconst 0, 1) := by decide +kernel
theorem dX0_restart_1 : decode cX0_restart 1 = .ok (.istore_n 1, 1) := by decide +kernel
theorem dX0_restart_2 : decode cX0_restart 2 = .ok (.iload_n 1, 1) := by decide +kernel
theorem dX0_restart_3 : decode cX0_restart 3 = .ok (.aload_n 0, 1) := by decide +kernel
theorem dX0_restart_4 : decode cX0_restart 4 = .ok (.getfield 27, 3) := by decide +kernel
theorem dX0_restart_7 : decode cX0_restart 7 = .ok (.if_icmp .ge 29, 3) := by decide +kernel
theorem dX0_restart_10 : decode cX0_restart 10 = .ok (.aload_n 0, 1) := by decide +kernel
theorem dX0_restart_11 : decode cX0_restart 11 = .ok (.getfield 11, 3) := by decide +kernel
theorem dX0_restart_14 : decode cX0_restart 14 = .ok (.iload_n 1, 1) := by decide +kernel
theorem dX0_restart_15 : decode cX0_restart 15 = .ok (.aaload, 1) := by decide +kernel
theorem dX0_restart_16 : decode cX0_restart 16 = .ok (.iconst 0, 1) := by decide +kernel
theorem dX0_restart_17 : decode cX0_restart 17 = .ok (.putfield 31, 3) := by decide +kernel
theorem dX0_restart_20 : decode cX0_restart 20 = .ok (.aload_n 0, 1) := by decide +kernel
theorem dX0_restart_21 : decode cX0_restart 21 = .ok (.getfield 11, 3) := by decide +kernel
theorem dX0_restart_24 : decode cX0_restart 24 = .ok (.iload_n 1, 1) := by decide +kernel
theorem dX0_restart_25 : decode cX0_restart 25 = .ok (.aaload, 1) := by decide +kernel
theorem dX0_restart_26 : decode cX0_restart 26 = .ok (.iconst 0, 1) := by decide +kernel
theorem dX0_restart_27 : decode cX0_restart 27 = .ok (.putfield 34, 3) := by decide +kernel
theorem dX0_restart_30 : decode cX0_restart 30 = .ok (.iinc 1 1, 3) := by decide +kernel
theorem dX0_restart_33 : decode cX0_restart 33 = .ok (.goto (-31), 3) := by decide +kernel
theorem dX0_restart_36 : decode cX0_restart 36 = .ok (.return_, 1) := by decide +kernel
theorem dX0_dropBeyond_0 : decode cX0_dropBeyond 0 = .ok (.aload_n 1, 1) := by decide +kernel
theorem dX0_dropBeyond_1 : decode cX0_dropBeyond 1 = .ok (.invokevirtual 37, 3) := by decide +kernel
theorem dX0_dropBeyond_4 : decode cX0_dropBeyond 4 = .ok (.astore_n 2, 1) := by decide +kernel
theorem dX0_dropBeyond_5 : decode cX0_dropBeyond 5 = .ok (.iconst 0, 1) := by decide +kernel
theorem dX0_dropBeyond_6 : decode cX0_dropBeyond 6 = .ok (.istore_n 3, 1) := by decide +kernel
theorem dX0_dropBeyond_7 : decode cX0_dropBeyond 7 = .ok (.iload_n 3, 1) := by decide +kernel
theorem dX0_dropBeyond_8 : decode cX0_dropBeyond 8 = .ok (.aload_n 0, 1) := by decide +kernel
theorem dX0_dropBeyond_9 : decode cX0_dropBeyond 9 = .ok (.getfield 27, 3) := by decide +kernel
theorem dX0_dropBeyond_12 : decode cX0_dropBeyond 12 = .ok (.if_icmp .ge 59, 3) := by decide +kernel
theorem dX0_dropBeyond_15 : decode cX0_dropBeyond 15 = .ok (.aload_n 0, 1) := by decide +kernel
theorem dX0_dropBeyond_16 : decode cX0_dropBeyond 16 = .ok (.getfield 11, 3) := by decide +kernel
theorem dX0_dropBeyond_19 : decode cX0_dropBeyond 19 = .ok (.iload_n 3, 1) := by decide +kernel
theorem dX0_dropBeyond_20 : decode cX0_dropBeyond 20 = .ok (.aaload, 1) := by decide +kernel
theorem dX0_dropBeyond_21 : decode cX0_dropBeyond 21 = .ok (.getfield 31, 3) := by decide +kernel
theorem dX0_dropBeyond_24 : decode cX0_dropBeyond 24 = .ok (.aload_n 1, 1) := by decide +kernel
theorem dX0_dropBeyond_25 : decode cX0_dropBeyond 25 = .ok (.getfield 43, 3) := by decide +kernel
theorem dX0_dropBeyond_28 : decode cX0_dropBeyond 28 = .ok (.if_icmp .le 37, 3) := by decide +kernel
theorem dX0_dropBeyond_31 : decode cX0_dropBeyond 31 = .ok (.aload_n 0, 1) := by decide +kernel
theorem dX0_dropBeyond_32 : decode cX0_dropBeyond 32 = .ok (.getfield 11, 3) := by decide +kernel
theorem dX0_dropBeyond_35 : decode cX0_dropBeyond 35 = .ok (.iload_n 3, 1) := by decide +kernel
theorem dX0_dropBeyond_36 : decode cX0_dropBeyond 36 = .ok (.aaload, 1) := by decide +kernel
theorem dX0_dropBeyond_37 : decode cX0_dropBeyond 37 = .ok (.aload_n 1, 1) := by decide +kernel
theorem dX0_dropBeyond_38 : decode cX0_dropBeyond 38 = .ok (.getfield 43, 3) := by decide +kernel
theorem dX0_dropBeyond_41 : decode cX0_dropBeyond 41 = .ok (.putfield 31, 3) := by decide +kernel
theorem dX0_dropBeyond_44 : decode cX0_dropBeyond 44 = .ok (.aload_n 0, 1) := by decide +kernel
theorem dX0_dropBeyond_45 : decode cX0_dropBeyond 45 = .ok (.getfield 11, 3) := by decide +kernel
theorem dX0_dropBeyond_48 : decode cX0_dropBeyond 48 = .ok (.iload_n 3, 1) := by decide +kernel
theorem dX0_dropBeyond_49 : decode cX0_dropBeyond 49 = .ok (.aaload, 1) := by decide +kernel
theorem dX0_dropBeyond_50 : decode cX0_dropBeyond 50 = .ok (.aload_n 2, 1) := by decide +kernel
theorem dX0_dropBeyond_51 : decode cX0_dropBeyond 51 = .ok (.ifnonnull 7, 3) := by decide +kernel
theorem dX0_dropBeyond_54 : decode cX0_dropBeyond 54 = .ok (.iconst 0, 1) := by decide +kernel
theorem dX0_dropBeyond_55 : decode cX0_dropBeyond 55 = .ok (.goto 7, 3) := by decide +kernel
theorem dX0_dropBeyond_58 : decode cX0_dropBeyond 58 = .ok (.aload_n 2, 1) := by decide +kernel
theorem dX0_dropBeyond_59 : decode cX0_dropBeyond 59 = .ok (.getfield 44, 3) := by decide +kernel
theorem dX0_dropBeyond_62 : decode cX0_dropBeyond 62 = .ok (.putfield 34, 3) := by decide +kernel
theorem dX0_dropBeyond_65 : decode cX0_dropBeyond 65 = .ok (.iinc 3 1, 3) := by decide +kernel
theorem dX0_dropBeyond_68 : decode cX0_dropBeyond 68 = .ok (.goto (-61), 3) := by decide +kernel
theorem dX0_dropBeyond_71 : decode cX0_dropBeyond 71 = .ok (.return_, 1) := by decide +kernel
theorem dX0_survey_0 : decode cX0_survey 0 = .ok (.aload_n 0, 1) := by decide +kernel
theorem dX0_survey_1 : decode cX0_survey 1 = .ok (.getfield 49, 3) := by decide +kernel
theorem dX0_survey_4 : decode cX0_survey 4 = .ok (.iload_n 2, 1) := by decide +kernel
theorem dX0_survey_5 : decode cX0_survey 5 = .ok (.if_icmp .ne 4, 3) := by decide +kernel
theorem dX0_survey_8 : decode cX0_survey 8 = .ok (.return_, 1) := by decide +kernel
theorem dX0_survey_9 : decode cX0_survey 9 = .ok (.aload_n 0, 1) := by decide +kernel
theorem dX0_survey_10 : decode cX0_survey 10 = .ok (.iload_n 2, 1) := by decide +kernel
theorem dX0_survey_11 : decode cX0_survey 11 = .ok (.putfield 49, 3) := by decide +kernel
theorem dX0_survey_14 : decode cX0_survey 14 = .ok (.aload_n 0, 1) := by decide +kernel
theorem dX0_survey_15 : decode cX0_survey 15 = .ok (.iconst 0, 1) := by decide +kernel
theorem dX0_survey_16 : decode cX0_survey 16 = .ok (.putfield 52, 3) := by decide +kernel
theorem dX0_survey_19 : decode cX0_survey 19 = .ok (.aload_n 0, 1) := by decide +kernel
theorem dX0_survey_20 : decode cX0_survey 20 = .ok (.getfield 17, 3) := by decide +kernel
theorem dX0_survey_23 : decode cX0_survey 23 = .ok (.iconst (-1), 1) := by decide +kernel
theorem dX0_survey_24 : decode cX0_survey 24 = .ok (.invokestatic 55, 3) := by decide +kernel
theorem dX0_survey_27 : decode cX0_survey 27 = .ok (.aload_n 0, 1) := by decide +kernel
theorem dX0_survey_28 : decode cX0_survey 28 = .ok (.getfield 21, 3) := by decide +kernel
theorem dX0_survey_31 : decode cX0_survey 31 = .ok (.iconst (-1), 1) := by decide +kernel
theorem dX0_survey_32 : decode cX0_survey 32 = .ok (.invokestatic 55, 3) := by decide +kernel
theorem dX0_survey_35 : decode cX0_survey 35 = .ok (.iconst 0, 1) := by decide +kernel
theorem dX0_survey_36 : decode cX0_survey 36 = .ok (.istore_n 3, 1) := by decide +kernel
theorem dX0_survey_37 : decode cX0_survey 37 = .ok (.iload_n 3, 1) := by decide +kernel
theorem dX0_survey_38 : decode cX0_survey 38 = .ok (.aload_n 0, 1) := by decide +kernel
theorem dX0_survey_39 : decode cX0_survey 39 = .ok (.getfield 27, 3) := by decide +kernel
theorem dX0_survey_42 : decode cX0_survey 42 = .ok (.if_icmp .ge 107, 3) := by decide +kernel
theorem dX0_survey_45 : decode cX0_survey 45 = .ok (.aload_n 1, 1) := by decide +kernel
theorem dX0_survey_46 : decode cX0_survey 46 = .ok (.aload_n 0, 1) := by decide +kernel
theorem dX0_survey_47 : decode cX0_survey 47 = .ok (.getfield 11, 3) := by decide +kernel
theorem dX0_survey_50 : decode cX0_survey 50 = .ok (.iload_n 3, 1) := by decide +kernel
theorem dX0_survey_51 : decode cX0_survey 51 = .ok (.aaload, 1) := by decide +kernel
theorem dX0_survey_52 : decode cX0_survey 52 = .ok (.invokevirtual 61, 3) := by decide +kernel
theorem dX0_survey_55 : decode cX0_survey 55 = .ok (.aload_n 1, 1) := by decide +kernel
theorem dX0_survey_56 : decode cX0_survey 56 = .ok (.aload_n 0, 1) := by decide +kernel
theorem dX0_survey_57 : decode cX0_survey 57 = .ok (.getfield 11, 3) := by decide +kernel
theorem dX0_survey_60 : decode cX0_survey 60 = .ok (.iload_n 3, 1) := by decide +kernel
theorem dX0_survey_61 : decode cX0_survey 61 = .ok (.aaload, 1) := by decide +kernel
theorem dX0_survey_62 : decode cX0_survey 62 = .ok (.invokevirtual 65, 3) := by decide +kernel
theorem dX0_survey_65 : decode cX0_survey 65 = .ok (.iconst (-1), 1) := by decide +kernel
theorem dX0_survey_66 : decode cX0_survey 66 = .ok (.if_icmp .ne 77, 3) := by decide +kernel
theorem dX0_survey_69 : decode cX0_survey 69 = .ok (.aload_n 0, 1) := by decide +kernel
theorem dX0_survey_70 : decode cX0_survey 70 = .ok (.dup, 1) := by decide +kernel
theorem dX0_survey_71 : decode cX0_survey 71 = .ok (.getfield 52, 3) := by decide +kernel
theorem dX0_survey_74 : decode cX0_survey 74 = .ok (.iconst 1, 1) := by decide +kernel
theorem dX0_survey_75 : decode cX0_survey 75 = .ok (.iload_n 3, 1) := by decide +kernel
theorem dX0_survey_76 : decode cX0_survey 76 = .ok (.ishl, 1) := by decide +kernel
theorem dX0_survey_77 : decode cX0_survey 77 = .ok (.ior, 1) := by decide +kernel
theorem dX0_survey_78 : decode cX0_survey 78 = .ok (.putfield 52, 3) := by decide +kernel
theorem dX0_survey_81 : decode cX0_survey 81 = .ok (.iconst 0, 1) := by decide +kernel
theorem dX0_survey_82 : decode cX0_survey 82 = .ok (.istore 4, 2) := by decide +kernel
theorem dX0_survey_84 : decode cX0_survey 84 = .ok (.iload 4, 2) := by decide +kernel
theorem dX0_survey_86 : decode cX0_survey 86 = .ok (.bipush 32, 2) := by decide +kernel
theorem dX0_survey_88 : decode cX0_survey 88 = .ok (.if_icmp .ge 55, 3) := by decide +kernel
theorem dX0_survey_91 : decode cX0_survey 91 = .ok (.aload_n 0, 1) := by decide +kernel
theorem dX0_survey_92 : decode cX0_survey 92 = .ok (.getfield 17, 3) := by decide +kernel
theorem dX0_survey_95 : decode cX0_survey 95 = .ok (.iload 4, 2) := by decide +kernel
theorem dX0_survey_97 : decode cX0_survey 97 = .ok (.dup2, 1) := by decide +kernel
theorem dX0_survey_98 : decode cX0_survey 98 = .ok (.iaload, 1) := by decide +kernel
theorem dX0_survey_99 : decode cX0_survey 99 = .ok (.aload_n 0, 1) := by decide +kernel
theorem dX0_survey_100 : decode cX0_survey 100 = .ok (.getfield 11, 3) := by decide +kernel
theorem dX0_survey_103 : decode cX0_survey 103 = .ok (.iload_n 3, 1) := by decide +kernel
theorem dX0_survey_104 : decode cX0_survey 104 = .ok (.aaload, 1) := by decide +kernel
theorem dX0_survey_105 : decode cX0_survey 105 = .ok (.getfield 69, 3) := by decide +kernel
theorem dX0_survey_108 : decode cX0_survey 108 = .ok (.iload 4, 2) := by decide +kernel
theorem dX0_survey_110 : decode cX0_survey 110 = .ok (.iaload, 1) := by decide +kernel
theorem dX0_survey_111 : decode cX0_survey 111 = .ok (.iand, 1) := by decide +kernel
theorem dX0_survey_112 : decode cX0_survey 112 = .ok (.iastore, 1) := by decide +kernel
theorem dX0_survey_113 : decode cX0_survey 113 = .ok (.aload_n 0, 1) := by decide +kernel
theorem dX0_survey_114 : decode cX0_survey 114 = .ok (.getfield 21, 3) := by decide +kernel
theorem dX0_survey_117 : decode cX0_survey 117 = .ok (.iload 4, 2) := by decide +kernel
theorem dX0_survey_119 : decode cX0_survey 119 = .ok (.dup2, 1) := by decide +kernel
theorem dX0_survey_120 : decode cX0_survey 120 = .ok (.iaload, 1) := by decide +kernel
theorem dX0_survey_121 : decode cX0_survey 121 = .ok (.aload_n 0, 1) := by decide +kernel
theorem dX0_survey_122 : decode cX0_survey 122 = .ok (.getfield 11, 3) := by decide +kernel
theorem dX0_survey_125 : decode cX0_survey 125 = .ok (.iload_n 3, 1) := by decide +kernel
theorem dX0_survey_126 : decode cX0_survey 126 = .ok (.aaload, 1) := by decide +kernel
theorem dX0_survey_127 : decode cX0_survey 127 = .ok (.getfield 69, 3) := by decide +kernel
theorem dX0_survey_130 : decode cX0_survey 130 = .ok (.iload 4, 2) := by decide +kernel
theorem dX0_survey_132 : decode cX0_survey 132 = .ok (.iaload, 1) := by decide +kernel
theorem dX0_survey_133 : decode cX0_survey 133 = .ok (.iconst (-1), 1) := by decide +kernel
theorem dX0_survey_134 : decode cX0_survey 134 = .ok (.ixor, 1) := by decide +kernel
theorem dX0_survey_135 : decode cX0_survey 135 = .ok (.iand, 1) := by decide +kernel
theorem dX0_survey_136 : decode cX0_survey 136 = .ok (.iastore, 1) := by decide +kernel
theorem dX0_survey_137 : decode cX0_survey 137 = .ok (.iinc 4 1, 3) := by decide +kernel
theorem dX0_survey_140 : decode cX0_survey 140 = .ok (.goto (-56), 3) := by decide +kernel
theorem dX0_survey_143 : decode cX0_survey 143 = .ok (.iinc 3 1, 3) := by decide +kernel
theorem dX0_survey_146 : decode cX0_survey 146 = .ok (.goto (-109), 3) := by decide +kernel
theorem dX0_survey_149 : decode cX0_survey 149 = .ok (.aload_n 0, 1) := by decide +kernel
theorem dX0_survey_150 : decode cX0_survey 150 = .ok (.getfield 52, 3) := by decide +kernel
theorem dX0_survey_153 : decode cX0_survey 153 = .ok (.ifCond .ne 19, 3) := by decide +kernel
theorem dX0_survey_156 : decode cX0_survey 156 = .ok (.aload_n 0, 1) := by decide +kernel
theorem dX0_survey_157 : decode cX0_survey 157 = .ok (.getfield 17, 3) := by decide +kernel
theorem dX0_survey_160 : decode cX0_survey 160 = .ok (.iconst 0, 1) := by decide +kernel
theorem dX0_survey_161 : decode cX0_survey 161 = .ok (.invokestatic 55, 3) := by decide +kernel
theorem dX0_survey_164 : decode cX0_survey 164 = .ok (.aload_n 0, 1) := by decide +kernel
theorem dX0_survey_165 : decode cX0_survey 165 = .ok (.getfield 21, 3) := by decide +kernel
theorem dX0_survey_168 : decode cX0_survey 168 = .ok (.iconst 0, 1) := by decide +kernel
theorem dX0_survey_169 : decode cX0_survey 169 = .ok (.invokestatic 55, 3) := by decide +kernel
theorem dX0_survey_172 : decode cX0_survey 172 = .ok (.return_, 1) := by decide +kernel
theorem dX0_isSureWater_0 : decode cX0_isSureWater 0 = .ok (.aload_n 0, 1) := by decide +kernel
theorem dX0_isSureWater_1 : decode cX0_isSureWater 1 = .ok (.getfield 21, 3) := by decide +kernel
theorem dX0_isSureWater_4 : decode cX0_isSureWater 4 = .ok (.iload_n 2, 1) := by decide +kernel
theorem dX0_isSureWater_5 : decode cX0_isSureWater 5 = .ok (.iaload, 1) := by decide +kernel
theorem dX0_isSureWater_6 : decode cX0_isSureWater 6 = .ok (.iload_n 1, 1) := by decide +kernel
theorem dX0_isSureWater_7 : decode cX0_isSureWater 7 = .ok (.iushr, 1) := by decide +kernel
theorem dX0_isSureWater_8 : decode cX0_isSureWater 8 = .ok (.iconst 1, 1) := by decide +kernel
theorem dX0_isSureWater_9 : decode cX0_isSureWater 9 = .ok (.iand, 1) := by decide +kernel
theorem dX0_isSureWater_10 : decode cX0_isSureWater 10 = .ok (.iconst 1, 1) := by decide +kernel
theorem dX0_isSureWater_11 : decode cX0_isSureWater 11 = .ok (.if_icmp .ne 7, 3) := by decide +kernel
theorem dX0_isSureWater_14 : decode cX0_isSureWater 14 = .ok (.iconst 1, 1) := by decide +kernel
theorem dX0_isSureWater_15 : decode cX0_isSureWater 15 = .ok (.goto 4, 3) := by decide +kernel
theorem dX0_isSureWater_18 : decode cX0_isSureWater 18 = .ok (.iconst 0, 1) := by decide +kernel
theorem dX0_isSureWater_19 : decode cX0_isSureWater 19 = .ok (.ireturn, 1) := by decide +kernel
theorem dX0_lowestFitting_0 : decode cX0_lowestFitting 0 = .ok (.iconst 0, 1) := by decide +kernel
theorem dX0_lowestFitting_1 : decode cX0_lowestFitting 1 = .ok (.istore 4, 2) := by decide +kernel
theorem dX0_lowestFitting_3 : decode cX0_lowestFitting 3 = .ok (.iload 4, 2) := by decide +kernel
theorem dX0_lowestFitting_5 : decode cX0_lowestFitting 5 = .ok (.aload_n 0, 1) := by decide +kernel
theorem dX0_lowestFitting_6 : decode cX0_lowestFitting 6 = .ok (.getfield 27, 3) := by decide +kernel
theorem dX0_lowestFitting_9 : decode cX0_lowestFitting 9 = .ok (.if_icmp .ge 41, 3) := by decide +kernel
theorem dX0_lowestFitting_12 : decode cX0_lowestFitting 12 = .ok (.aload_n 0, 1) := by decide +kernel
theorem dX0_lowestFitting_13 : decode cX0_lowestFitting 13 = .ok (.getfield 52, 3) := by decide +kernel
theorem dX0_lowestFitting_16 : decode cX0_lowestFitting 16 = .ok (.iload 4, 2) := by decide +kernel
theorem dX0_lowestFitting_18 : decode cX0_lowestFitting 18 = .ok (.iushr, 1) := by decide +kernel
theorem dX0_lowestFitting_19 : decode cX0_lowestFitting 19 = .ok (.iconst 1, 1) := by decide +kernel
theorem dX0_lowestFitting_20 : decode cX0_lowestFitting 20 = .ok (.iand, 1) := by decide +kernel
theorem dX0_lowestFitting_21 : decode cX0_lowestFitting 21 = .ok (.iconst 1, 1) := by decide +kernel
theorem dX0_lowestFitting_22 : decode cX0_lowestFitting 22 = .ok (.if_icmp .ne 22, 3) := by decide +kernel
theorem dX0_lowestFitting_25 : decode cX0_lowestFitting 25 = .ok (.aload_n 0, 1) := by decide +kernel
theorem dX0_lowestFitting_26 : decode cX0_lowestFitting 26 = .ok (.getfield 11, 3) := by decide +kernel
theorem dX0_lowestFitting_29 : decode cX0_lowestFitting 29 = .ok (.iload 4, 2) := by decide +kernel
theorem dX0_lowestFitting_31 : decode cX0_lowestFitting 31 = .ok (.aaload, 1) := by decide +kernel
theorem dX0_lowestFitting_32 : decode cX0_lowestFitting 32 = .ok (.iload_n 1, 1) := by decide +kernel
theorem dX0_lowestFitting_33 : decode cX0_lowestFitting 33 = .ok (.iload_n 2, 1) := by decide +kernel
theorem dX0_lowestFitting_34 : decode cX0_lowestFitting 34 = .ok (.invokevirtual 72, 3) := by decide +kernel
theorem dX0_lowestFitting_37 : decode cX0_lowestFitting 37 = .ok (.iload_n 3, 1) := by decide +kernel
theorem dX0_lowestFitting_38 : decode cX0_lowestFitting 38 = .ok (.if_icmp .ne 6, 3) := by decide +kernel
theorem dX0_lowestFitting_41 : decode cX0_lowestFitting 41 = .ok (.iload 4, 2) := by decide +kernel
theorem dX0_lowestFitting_43 : decode cX0_lowestFitting 43 = .ok (.ireturn, 1) := by decide +kernel
theorem dX0_lowestFitting_44 : decode cX0_lowestFitting 44 = .ok (.iinc 4 1, 3) := by decide +kernel
theorem dX0_lowestFitting_47 : decode cX0_lowestFitting 47 = .ok (.goto (-44), 3) := by decide +kernel
theorem dX0_lowestFitting_50 : decode cX0_lowestFitting 50 = .ok (.iconst (-1), 1) := by decide +kernel
theorem dX0_lowestFitting_51 : decode cX0_lowestFitting 51 = .ok (.ireturn, 1) := by decide +kernel
theorem dX0_fillPool_0 : decode cX0_fillPool 0 = .ok (.aload_n 0, 1) := by decide +kernel
theorem dX0_fillPool_1 : decode cX0_fillPool 1 = .ok (.getfield 24, 3) := by decide +kernel
theorem dX0_fillPool_4 : decode cX0_fillPool 4 = .ok (.iconst 0, 1) := by decide +kernel
theorem dX0_fillPool_5 : decode cX0_fillPool 5 = .ok (.invokestatic 55, 3) := by decide +kernel
theorem dX0_fillPool_8 : decode cX0_fillPool 8 = .ok (.aload_n 0, 1) := by decide +kernel
theorem dX0_fillPool_9 : decode cX0_fillPool 9 = .ok (.getfield 24, 3) := by decide +kernel
theorem dX0_fillPool_12 : decode cX0_fillPool 12 = .ok (.iload_n 2, 1) := by decide +kernel
theorem dX0_fillPool_13 : decode cX0_fillPool 13 = .ok (.iconst 1, 1) := by decide +kernel
theorem dX0_fillPool_14 : decode cX0_fillPool 14 = .ok (.iload_n 1, 1) := by decide +kernel
theorem dX0_fillPool_15 : decode cX0_fillPool 15 = .ok (.ishl, 1) := by decide +kernel
theorem dX0_fillPool_16 : decode cX0_fillPool 16 = .ok (.aload_n 0, 1) := by decide +kernel
theorem dX0_fillPool_17 : decode cX0_fillPool 17 = .ok (.getfield 21, 3) := by decide +kernel
theorem dX0_fillPool_20 : decode cX0_fillPool 20 = .ok (.iload_n 2, 1) := by decide +kernel
theorem dX0_fillPool_21 : decode cX0_fillPool 21 = .ok (.iaload, 1) := by decide +kernel
theorem dX0_fillPool_22 : decode cX0_fillPool 22 = .ok (.iand, 1) := by decide +kernel
theorem dX0_fillPool_23 : decode cX0_fillPool 23 = .ok (.iastore, 1) := by decide +kernel
theorem dX0_fillPool_24 : decode cX0_fillPool 24 = .ok (.aload_n 0, 1) := by decide +kernel
theorem dX0_fillPool_25 : decode cX0_fillPool 25 = .ok (.getfield 24, 3) := by decide +kernel
theorem dX0_fillPool_28 : decode cX0_fillPool 28 = .ok (.iload_n 2, 1) := by decide +kernel
theorem dX0_fillPool_29 : decode cX0_fillPool 29 = .ok (.iaload, 1) := by decide +kernel
theorem dX0_fillPool_30 : decode cX0_fillPool 30 = .ok (.ifCond .eq 7, 3) := by decide +kernel
theorem dX0_fillPool_33 : decode cX0_fillPool 33 = .ok (.iconst 1, 1) := by decide +kernel
theorem dX0_fillPool_34 : decode cX0_fillPool 34 = .ok (.goto 4, 3) := by decide +kernel
theorem dX0_fillPool_37 : decode cX0_fillPool 37 = .ok (.iconst 0, 1) := by decide +kernel
theorem dX0_fillPool_38 : decode cX0_fillPool 38 = .ok (.istore_n 3, 1) := by decide +kernel
theorem dX0_fillPool_39 : decode cX0_fillPool 39 = .ok (.iconst 0, 1) := by decide +kernel
theorem dX0_fillPool_40 : decode cX0_fillPool 40 = .ok (.istore 4, 2) := by decide +kernel
theorem dX0_fillPool_42 : decode cX0_fillPool 42 = .ok (.iload_n 3, 1) := by decide +kernel
theorem dX0_fillPool_43 : decode cX0_fillPool 43 = .ok (.ifCond .eq 69, 3) := by decide +kernel
theorem dX0_fillPool_46 : decode cX0_fillPool 46 = .ok (.iload 4, 2) := by decide +kernel
theorem dX0_fillPool_48 : decode cX0_fillPool 48 = .ok (.sipush 1024, 3) := by decide +kernel
theorem dX0_fillPool_51 : decode cX0_fillPool 51 = .ok (.if_icmp .ge 61, 3) := by decide +kernel
theorem dX0_fillPool_54 : decode cX0_fillPool 54 = .ok (.iconst 0, 1) := by decide +kernel
theorem dX0_fillPool_55 : decode cX0_fillPool 55 = .ok (.istore_n 3, 1) := by decide +kernel
theorem dX0_fillPool_56 : decode cX0_fillPool 56 = .ok (.iconst 0, 1) := by decide +kernel
theorem dX0_fillPool_57 : decode cX0_fillPool 57 = .ok (.istore 5, 2) := by decide +kernel
theorem dX0_fillPool_59 : decode cX0_fillPool 59 = .ok (.iload 5, 2) := by decide +kernel
theorem dX0_fillPool_61 : decode cX0_fillPool 61 = .ok (.bipush 64, 2) := by decide +kernel
theorem dX0_fillPool_63 : decode cX0_fillPool 63 = .ok (.if_icmp .ge 43, 3) := by decide +kernel
theorem dX0_fillPool_66 : decode cX0_fillPool 66 = .ok (.aload_n 0, 1) := by decide +kernel
theorem dX0_fillPool_67 : decode cX0_fillPool 67 = .ok (.iload 5, 2) := by decide +kernel
theorem dX0_fillPool_69 : decode cX0_fillPool 69 = .ok (.bipush 32, 2) := by decide +kernel
theorem dX0_fillPool_71 : decode cX0_fillPool 71 = .ok (.if_icmp .ge 8, 3) := by decide +kernel
theorem dX0_fillPool_74 : decode cX0_fillPool 74 = .ok (.iload 5, 2) := by decide +kernel
theorem dX0_fillPool_76 : decode cX0_fillPool 76 = .ok (.goto 8, 3) := by decide +kernel
theorem dX0_fillPool_79 : decode cX0_fillPool 79 = .ok (.bipush 63, 2) := by decide +kernel
theorem dX0_fillPool_81 : decode cX0_fillPool 81 = .ok (.iload 5, 2) := by decide +kernel
theorem dX0_fillPool_83 : decode cX0_fillPool 83 = .ok (.isub, 1) := by decide +kernel
theorem dX0_fillPool_84 : decode cX0_fillPool 84 = .ok (.invokevirtual 76, 3) := by decide +kernel
theorem dX0_fillPool_87 : decode cX0_fillPool 87 = .ok (.ifCond .ne 7, 3) := by decide +kernel
theorem dX0_fillPool_90 : decode cX0_fillPool 90 = .ok (.iload_n 3, 1) := by decide +kernel
theorem dX0_fillPool_91 : decode cX0_fillPool 91 = .ok (.ifCond .eq 7, 3) := by decide +kernel
theorem dX0_fillPool_94 : decode cX0_fillPool 94 = .ok (.iconst 1, 1) := by decide +kernel
theorem dX0_fillPool_95 : decode cX0_fillPool 95 = .ok (.goto 4, 3) := by decide +kernel
theorem dX0_fillPool_98 : decode cX0_fillPool 98 = .ok (.iconst 0, 1) := by decide +kernel
theorem dX0_fillPool_99 : decode cX0_fillPool 99 = .ok (.istore_n 3, 1) := by decide +kernel
theorem dX0_fillPool_100 : decode cX0_fillPool 100 = .ok (.iinc 5 1, 3) := by decide +kernel
theorem dX0_fillPool_103 : decode cX0_fillPool 103 = .ok (.goto (-44), 3) := by decide +kernel
theorem dX0_fillPool_106 : decode cX0_fillPool 106 = .ok (.iinc 4 1, 3) := by decide +kernel
theorem dX0_fillPool_109 : decode cX0_fillPool 109 = .ok (.goto (-67), 3) := by decide +kernel
theorem dX0_fillPool_112 : decode cX0_fillPool 112 = .ok (.return_, 1) := by decide +kernel
theorem dX0_growPool_0 : decode cX0_growPool 0 = .ok (.aload_n 0, 1) := by decide +kernel
theorem dX0_growPool_1 : decode cX0_growPool 1 = .ok (.getfield 24, 3) := by decide +kernel
theorem dX0_growPool_4 : decode cX0_growPool 4 = .ok (.iload_n 1, 1) := by decide +kernel
theorem dX0_growPool_5 : decode cX0_growPool 5 = .ok (.iaload, 1) := by decide +kernel
theorem dX0_growPool_6 : decode cX0_growPool 6 = .ok (.istore_n 2, 1) := by decide +kernel
theorem dX0_growPool_7 : decode cX0_growPool 7 = .ok (.iconst 0, 1) := by decide +kernel
theorem dX0_growPool_8 : decode cX0_growPool 8 = .ok (.istore_n 3, 1) := by decide +kernel
theorem dX0_growPool_9 : decode cX0_growPool 9 = .ok (.iload_n 2, 1) := by decide +kernel
theorem dX0_growPool_10 : decode cX0_growPool 10 = .ok (.aload_n 0, 1) := by decide +kernel
theorem dX0_growPool_11 : decode cX0_growPool 11 = .ok (.iload_n 1, 1) := by decide +kernel
theorem dX0_growPool_12 : decode cX0_growPool 12 = .ok (.invokevirtual 80, 3) := by decide +kernel
theorem dX0_growPool_15 : decode cX0_growPool 15 = .ok (.ior, 1) := by decide +kernel
theorem dX0_growPool_16 : decode cX0_growPool 16 = .ok (.aload_n 0, 1) := by decide +kernel
theorem dX0_growPool_17 : decode cX0_growPool 17 = .ok (.getfield 21, 3) := by decide +kernel
theorem dX0_growPool_20 : decode cX0_growPool 20 = .ok (.iload_n 1, 1) := by decide +kernel
theorem dX0_growPool_21 : decode cX0_growPool 21 = .ok (.iaload, 1) := by decide +kernel
theorem dX0_growPool_22 : decode cX0_growPool 22 = .ok (.iand, 1) := by decide +kernel
theorem dX0_growPool_23 : decode cX0_growPool 23 = .ok (.istore 4, 2) := by decide +kernel
theorem dX0_growPool_25 : decode cX0_growPool 25 = .ok (.iconst 0, 1) := by decide +kernel
theorem dX0_growPool_26 : decode cX0_growPool 26 = .ok (.istore 5, 2) := by decide +kernel
theorem dX0_growPool_28 : decode cX0_growPool 28 = .ok (.iload 5, 2) := by decide +kernel
theorem dX0_growPool_30 : decode cX0_growPool 30 = .ok (.bipush 32, 2) := by decide +kernel
theorem dX0_growPool_32 : decode cX0_growPool 32 = .ok (.if_icmp .ge 36, 3) := by decide +kernel
theorem dX0_growPool_35 : decode cX0_growPool 35 = .ok (.iload 4, 2) := by decide +kernel
theorem dX0_growPool_37 : decode cX0_growPool 37 = .ok (.iload_n 3, 1) := by decide +kernel
theorem dX0_growPool_38 : decode cX0_growPool 38 = .ok (.if_icmp .eq 30, 3) := by decide +kernel
theorem dX0_growPool_41 : decode cX0_growPool 41 = .ok (.iload 4, 2) := by decide +kernel
theorem dX0_growPool_43 : decode cX0_growPool 43 = .ok (.istore_n 3, 1) := by decide +kernel
theorem dX0_growPool_44 : decode cX0_growPool 44 = .ok (.iload_n 3, 1) := by decide +kernel
theorem dX0_growPool_45 : decode cX0_growPool 45 = .ok (.iload_n 3, 1) := by decide +kernel
theorem dX0_growPool_46 : decode cX0_growPool 46 = .ok (.iconst 1, 1) := by decide +kernel
theorem dX0_growPool_47 : decode cX0_growPool 47 = .ok (.ishl, 1) := by decide +kernel
theorem dX0_growPool_48 : decode cX0_growPool 48 = .ok (.ior, 1) := by decide +kernel
theorem dX0_growPool_49 : decode cX0_growPool 49 = .ok (.iload_n 3, 1) := by decide +kernel
theorem dX0_growPool_50 : decode cX0_growPool 50 = .ok (.iconst 1, 1) := by decide +kernel
theorem dX0_growPool_51 : decode cX0_growPool 51 = .ok (.iushr, 1) := by decide +kernel
theorem dX0_growPool_52 : decode cX0_growPool 52 = .ok (.ior, 1) := by decide +kernel
theorem dX0_growPool_53 : decode cX0_growPool 53 = .ok (.aload_n 0, 1) := by decide +kernel
theorem dX0_growPool_54 : decode cX0_growPool 54 = .ok (.getfield 21, 3) := by decide +kernel
theorem dX0_growPool_57 : decode cX0_growPool 57 = .ok (.iload_n 1, 1) := by decide +kernel
theorem dX0_growPool_58 : decode cX0_growPool 58 = .ok (.iaload, 1) := by decide +kernel
theorem dX0_growPool_59 : decode cX0_growPool 59 = .ok (.iand, 1) := by decide +kernel
theorem dX0_growPool_60 : decode cX0_growPool 60 = .ok (.istore 4, 2) := by decide +kernel
theorem dX0_growPool_62 : decode cX0_growPool 62 = .ok (.iinc 5 1, 3) := by decide +kernel
theorem dX0_growPool_65 : decode cX0_growPool 65 = .ok (.goto (-37), 3) := by decide +kernel
theorem dX0_growPool_68 : decode cX0_growPool 68 = .ok (.aload_n 0, 1) := by decide +kernel
theorem dX0_growPool_69 : decode cX0_growPool 69 = .ok (.getfield 24, 3) := by decide +kernel
theorem dX0_growPool_72 : decode cX0_growPool 72 = .ok (.iload_n 1, 1) := by decide +kernel
theorem dX0_growPool_73 : decode cX0_growPool 73 = .ok (.iload 4, 2) := by decide +kernel
theorem dX0_growPool_75 : decode cX0_growPool 75 = .ok (.iastore, 1) := by decide +kernel
theorem dX0_growPool_76 : decode cX0_growPool 76 = .ok (.iload 4, 2) := by decide +kernel
theorem dX0_growPool_78 : decode cX0_growPool 78 = .ok (.iload_n 2, 1) := by decide +kernel
theorem dX0_growPool_79 : decode cX0_growPool 79 = .ok (.if_icmp .eq 7, 3) := by decide +kernel
theorem dX0_growPool_82 : decode cX0_growPool 82 = .ok (.iconst 1, 1) := by decide +kernel
theorem dX0_growPool_83 : decode cX0_growPool 83 = .ok (.goto 4, 3) := by decide +kernel
theorem dX0_growPool_86 : decode cX0_growPool 86 = .ok (.iconst 0, 1) := by decide +kernel
theorem dX0_growPool_87 : decode cX0_growPool 87 = .ok (.ireturn, 1) := by decide +kernel
theorem dX0_besidePool_0 : decode cX0_besidePool 0 = .ok (.iload_n 1, 1) := by decide +kernel
theorem dX0_besidePool_1 : decode cX0_besidePool 1 = .ok (.ifCond .le 14, 3) := by decide +kernel
theorem dX0_besidePool_4 : decode cX0_besidePool 4 = .ok (.aload_n 0, 1) := by decide +kernel
theorem dX0_besidePool_5 : decode cX0_besidePool 5 = .ok (.getfield 24, 3) := by decide +kernel
theorem dX0_besidePool_8 : decode cX0_besidePool 8 = .ok (.iload_n 1, 1) := by decide +kernel
theorem dX0_besidePool_9 : decode cX0_besidePool 9 = .ok (.iconst 1, 1) := by decide +kernel
theorem dX0_besidePool_10 : decode cX0_besidePool 10 = .ok (.isub, 1) := by decide +kernel
theorem dX0_besidePool_11 : decode cX0_besidePool 11 = .ok (.iaload, 1) := by decide +kernel
theorem dX0_besidePool_12 : decode cX0_besidePool 12 = .ok (.goto 4, 3) := by decide +kernel
theorem dX0_besidePool_15 : decode cX0_besidePool 15 = .ok (.iconst 0, 1) := by decide +kernel
theorem dX0_besidePool_16 : decode cX0_besidePool 16 = .ok (.istore_n 2, 1) := by decide +kernel
theorem dX0_besidePool_17 : decode cX0_besidePool 17 = .ok (.iload_n 1, 1) := by decide +kernel
theorem dX0_besidePool_18 : decode cX0_besidePool 18 = .ok (.bipush 31, 2) := by decide +kernel
theorem dX0_besidePool_20 : decode cX0_besidePool 20 = .ok (.if_icmp .ge 14, 3) := by decide +kernel
theorem dX0_besidePool_23 : decode cX0_besidePool 23 = .ok (.aload_n 0, 1) := by decide +kernel
theorem dX0_besidePool_24 : decode cX0_besidePool 24 = .ok (.getfield 24, 3) := by decide +kernel
theorem dX0_besidePool_27 : decode cX0_besidePool 27 = .ok (.iload_n 1, 1) := by decide +kernel
theorem dX0_besidePool_28 : decode cX0_besidePool 28 = .ok (.iconst 1, 1) := by decide +kernel
theorem dX0_besidePool_29 : decode cX0_besidePool 29 = .ok (.iadd, 1) := by decide +kernel
theorem dX0_besidePool_30 : decode cX0_besidePool 30 = .ok (.iaload, 1) := by decide +kernel
theorem dX0_besidePool_31 : decode cX0_besidePool 31 = .ok (.goto 4, 3) := by decide +kernel
theorem dX0_besidePool_34 : decode cX0_besidePool 34 = .ok (.iconst 0, 1) := by decide +kernel
theorem dX0_besidePool_35 : decode cX0_besidePool 35 = .ok (.istore_n 3, 1) := by decide +kernel
theorem dX0_besidePool_36 : decode cX0_besidePool 36 = .ok (.iload_n 2, 1) := by decide +kernel
theorem dX0_besidePool_37 : decode cX0_besidePool 37 = .ok (.iload_n 3, 1) := by decide +kernel
theorem dX0_besidePool_38 : decode cX0_besidePool 38 = .ok (.ior, 1) := by decide +kernel
theorem dX0_besidePool_39 : decode cX0_besidePool 39 = .ok (.ireturn, 1) := by decide +kernel
theorem dX0_wallCells_0 : decode cX0_wallCells 0 = .ok (.iconst 0, 1) := by decide +kernel
theorem dX0_wallCells_1 : decode cX0_wallCells 1 = .ok (.istore_n 2, 1) := by decide +kernel
theorem dX0_wallCells_2 : decode cX0_wallCells 2 = .ok (.iconst 0, 1) := by decide +kernel
theorem dX0_wallCells_3 : decode cX0_wallCells 3 = .ok (.istore_n 3, 1) := by decide +kernel
theorem dX0_wallCells_4 : decode cX0_wallCells 4 = .ok (.iload_n 3, 1) := by decide +kernel
theorem dX0_wallCells_5 : decode cX0_wallCells 5 = .ok (.bipush 32, 2) := by decide +kernel
theorem dX0_wallCells_7 : decode cX0_wallCells 7 = .ok (.if_icmp .ge 69, 3) := by decide +kernel
theorem dX0_wallCells_10 : decode cX0_wallCells 10 = .ok (.aload_n 0, 1) := by decide +kernel
theorem dX0_wallCells_11 : decode cX0_wallCells 11 = .ok (.getfield 24, 3) := by decide +kernel
theorem dX0_wallCells_14 : decode cX0_wallCells 14 = .ok (.iload_n 3, 1) := by decide +kernel
theorem dX0_wallCells_15 : decode cX0_wallCells 15 = .ok (.iaload, 1) := by decide +kernel
theorem dX0_wallCells_16 : decode cX0_wallCells 16 = .ok (.iconst 1, 1) := by decide +kernel
theorem dX0_wallCells_17 : decode cX0_wallCells 17 = .ok (.ishl, 1) := by decide +kernel
theorem dX0_wallCells_18 : decode cX0_wallCells 18 = .ok (.aload_n 0, 1) := by decide +kernel
theorem dX0_wallCells_19 : decode cX0_wallCells 19 = .ok (.getfield 24, 3) := by decide +kernel
theorem dX0_wallCells_22 : decode cX0_wallCells 22 = .ok (.iload_n 3, 1) := by decide +kernel
theorem dX0_wallCells_23 : decode cX0_wallCells 23 = .ok (.iaload, 1) := by decide +kernel
theorem dX0_wallCells_24 : decode cX0_wallCells 24 = .ok (.iconst 1, 1) := by decide +kernel
theorem dX0_wallCells_25 : decode cX0_wallCells 25 = .ok (.iushr, 1) := by decide +kernel
theorem dX0_wallCells_26 : decode cX0_wallCells 26 = .ok (.ior, 1) := by decide +kernel
theorem dX0_wallCells_27 : decode cX0_wallCells 27 = .ok (.aload_n 0, 1) := by decide +kernel
theorem dX0_wallCells_28 : decode cX0_wallCells 28 = .ok (.iload_n 3, 1) := by decide +kernel
theorem dX0_wallCells_29 : decode cX0_wallCells 29 = .ok (.invokevirtual 80, 3) := by decide +kernel
theorem dX0_wallCells_32 : decode cX0_wallCells 32 = .ok (.ior, 1) := by decide +kernel
theorem dX0_wallCells_33 : decode cX0_wallCells 33 = .ok (.aload_n 0, 1) := by decide +kernel
theorem dX0_wallCells_34 : decode cX0_wallCells 34 = .ok (.getfield 21, 3) := by decide +kernel
theorem dX0_wallCells_37 : decode cX0_wallCells 37 = .ok (.iload_n 3, 1) := by decide +kernel
theorem dX0_wallCells_38 : decode cX0_wallCells 38 = .ok (.iaload, 1) := by decide +kernel
theorem dX0_wallCells_39 : decode cX0_wallCells 39 = .ok (.iconst (-1), 1) := by decide +kernel
theorem dX0_wallCells_40 : decode cX0_wallCells 40 = .ok (.ixor, 1) := by decide +kernel
theorem dX0_wallCells_41 : decode cX0_wallCells 41 = .ok (.iand, 1) := by decide +kernel
theorem dX0_wallCells_42 : decode cX0_wallCells 42 = .ok (.istore 4, 2) := by decide +kernel
theorem dX0_wallCells_44 : decode cX0_wallCells 44 = .ok (.iload_n 2, 1) := by decide +kernel
theorem dX0_wallCells_45 : decode cX0_wallCells 45 = .ok (.iload_n 1, 1) := by decide +kernel
theorem dX0_wallCells_46 : decode cX0_wallCells 46 = .ok (.ifCond .eq 17, 3) := by decide +kernel
theorem dX0_wallCells_49 : decode cX0_wallCells 49 = .ok (.iload 4, 2) := by decide +kernel
theorem dX0_wallCells_51 : decode cX0_wallCells 51 = .ok (.aload_n 0, 1) := by decide +kernel
theorem dX0_wallCells_52 : decode cX0_wallCells 52 = .ok (.getfield 17, 3) := by decide +kernel
theorem dX0_wallCells_55 : decode cX0_wallCells 55 = .ok (.iload_n 3, 1) := by decide +kernel
theorem dX0_wallCells_56 : decode cX0_wallCells 56 = .ok (.iaload, 1) := by decide +kernel
theorem dX0_wallCells_57 : decode cX0_wallCells 57 = .ok (.iconst (-1), 1) := by decide +kernel
theorem dX0_wallCells_58 : decode cX0_wallCells 58 = .ok (.ixor, 1) := by decide +kernel
theorem dX0_wallCells_59 : decode cX0_wallCells 59 = .ok (.iand, 1) := by decide +kernel
theorem dX0_wallCells_60 : decode cX0_wallCells 60 = .ok (.goto 5, 3) := by decide +kernel
theorem dX0_wallCells_63 : decode cX0_wallCells 63 = .ok (.iload 4, 2) := by decide +kernel
theorem dX0_wallCells_65 : decode cX0_wallCells 65 = .ok (.invokestatic 84, 3) := by decide +kernel
theorem dX0_wallCells_68 : decode cX0_wallCells 68 = .ok (.iadd, 1) := by decide +kernel
theorem dX0_wallCells_69 : decode cX0_wallCells 69 = .ok (.istore_n 2, 1) := by decide +kernel
theorem dX0_wallCells_70 : decode cX0_wallCells 70 = .ok (.iinc 3 1, 3) := by decide +kernel
theorem dX0_wallCells_73 : decode cX0_wallCells 73 = .ok (.goto (-69), 3) := by decide +kernel
theorem dX0_wallCells_76 : decode cX0_wallCells 76 = .ok (.iload_n 2, 1) := by decide +kernel
theorem dX0_wallCells_77 : decode cX0_wallCells 77 = .ok (.ireturn, 1) := by decide +kernel
theorem dX1_init_0 : decode cX1_init 0 = .ok (.aload_n 0, 1) := by decide +kernel
theorem dX1_init_1 : decode cX1_init 1 = .ok (.invokespecial 3, 3) := by decide +kernel
theorem dX1_init_4 : decode cX1_init 4 = .ok (.aload_n 0, 1) := by decide +kernel
theorem dX1_init_5 : decode cX1_init 5 = .ok (.bipush 32, 2) := by decide +kernel
theorem dX1_init_7 : decode cX1_init 7 = .ok (.newarray .int, 2) := by decide +kernel
theorem dX1_init_9 : decode cX1_init 9 = .ok (.putfield 9, 3) := by decide +kernel
theorem dX1_init_12 : decode cX1_init 12 = .ok (.aload_n 0, 1) := by decide +kernel
theorem dX1_init_13 : decode cX1_init 13 = .ok (.bipush 32, 2) := by decide +kernel
theorem dX1_init_15 : decode cX1_init 15 = .ok (.newarray .int, 2) := by decide +kernel
theorem dX1_init_17 : decode cX1_init 17 = .ok (.putfield 15, 3) := by decide +kernel
theorem dX1_init_20 : decode cX1_init 20 = .ok (.aload_n 0, 1) := by decide +kernel
theorem dX1_init_21 : decode cX1_init 21 = .ok (.sipush 4096, 3) := by decide +kernel
theorem dX1_init_24 : decode cX1_init 24 = .ok (.newarray .int, 2) := by decide +kernel
theorem dX1_init_26 : decode cX1_init 26 = .ok (.putfield 18, 3) := by decide +kernel
theorem dX1_init_29 : decode cX1_init 29 = .ok (.aload_n 0, 1) := by decide +kernel
theorem dX1_init_30 : decode cX1_init 30 = .ok (.iconst 4, 1) := by decide +kernel
theorem dX1_init_31 : decode cX1_init 31 = .ok (.newarray .boolean, 2) := by decide +kernel
theorem dX1_init_33 : decode cX1_init 33 = .ok (.putfield 21, 3) := by decide +kernel
theorem dX1_init_36 : decode cX1_init 36 = .ok (.aload_n 0, 1) := by decide +kernel
theorem dX1_init_37 : decode cX1_init 37 = .ok (.sipush 1536, 3) := by decide +kernel
theorem dX1_init_40 : decode cX1_init 40 = .ok (.newarray .int, 2) := by decide +kernel
theorem dX1_init_42 : decode cX1_init 42 = .ok (.putfield 25, 3) := by decide +kernel
theorem dX1_init_45 : decode cX1_init 45 = .ok (.aload_n 0, 1) := by decide +kernel
theorem dX1_init_46 : decode cX1_init 46 = .ok (.iload_n 1, 1) := by decide +kernel
theorem dX1_init_47 : decode cX1_init 47 = .ok (.putfield 28, 3) := by decide +kernel
theorem dX1_init_50 : decode cX1_init 50 = .ok (.aload_n 0, 1) := by decide +kernel
theorem dX1_init_51 : decode cX1_init 51 = .ok (.iload_n 2, 1) := by decide +kernel
theorem dX1_init_52 : decode cX1_init 52 = .ok (.putfield 32, 3) := by decide +kernel
theorem dX1_init_55 : decode cX1_init 55 = .ok (.aload_n 0, 1) := by decide +kernel
theorem dX1_init_56 : decode cX1_init 56 = .ok (.bipush 16, 2) := by decide +kernel
theorem dX1_init_58 : decode cX1_init 58 = .ok (.newarray .int, 2) := by decide +kernel
theorem dX1_init_60 : decode cX1_init 60 = .ok (.putfield 35, 3) := by decide +kernel
theorem dX1_init_63 : decode cX1_init 63 = .ok (.aload_n 0, 1) := by decide +kernel
theorem dX1_init_64 : decode cX1_init 64 = .ok (.bipush 16, 2) := by decide +kernel
theorem dX1_init_66 : decode cX1_init 66 = .ok (.newarray .int, 2) := by decide +kernel
theorem dX1_init_68 : decode cX1_init 68 = .ok (.putfield 38, 3) := by decide +kernel
theorem dX1_init_71 : decode cX1_init 71 = .ok (.aload_n 0, 1) := by decide +kernel
theorem dX1_init_72 : decode cX1_init 72 = .ok (.bipush 16, 2) := by decide +kernel
theorem dX1_init_74 : decode cX1_init 74 = .ok (.newarray .int, 2) := by decide +kernel
theorem dX1_init_76 : decode cX1_init 76 = .ok (.putfield 41, 3) := by decide +kernel
theorem dX1_init_79 : decode cX1_init 79 = .ok (.return_, 1) := by decide +kernel
theorem dX1_copyMoved_0 : decode cX1_copyMoved 0 = .ok (.iload_n 2, 1) := by decide +kernel
theorem dX1_copyMoved_1 : decode cX1_copyMoved 1 = .ok (.iconst 1, 1) := by decide +kernel
theorem dX1_copyMoved_2 : decode cX1_copyMoved 2 = .ok (.iadd, 1) := by decide +kernel
theorem dX1_copyMoved_3 : decode cX1_copyMoved 3 = .ok (.aload_n 0, 1) := by decide +kernel
theorem dX1_copyMoved_4 : decode cX1_copyMoved 4 = .ok (.getfield 32, 3) := by decide +kernel
theorem dX1_copyMoved_7 : decode cX1_copyMoved 7 = .ok (.if_icmp .ge 9, 3) := by decide +kernel
theorem dX1_copyMoved_10 : decode cX1_copyMoved 10 = .ok (.iload_n 2, 1) := by decide +kernel
theorem dX1_copyMoved_11 : decode cX1_copyMoved 11 = .ok (.iconst 1, 1) := by decide +kernel
theorem dX1_copyMoved_12 : decode cX1_copyMoved 12 = .ok (.iadd, 1) := by decide +kernel
theorem dX1_copyMoved_13 : decode cX1_copyMoved 13 = .ok (.goto 4, 3) := by decide +kernel
theorem dX1_copyMoved_16 : decode cX1_copyMoved 16 = .ok (.iconst 0, 1) := by decide +kernel
theorem dX1_copyMoved_17 : decode cX1_copyMoved 17 = .ok (.istore 4, 2) := by decide +kernel
theorem dX1_copyMoved_19 : decode cX1_copyMoved 19 = .ok (.iload_n 2, 1) := by decide +kernel
theorem dX1_copyMoved_20 : decode cX1_copyMoved 20 = .ok (.iconst 1, 1) := by decide +kernel
theorem dX1_copyMoved_21 : decode cX1_copyMoved 21 = .ok (.iand, 1) := by decide +kernel
theorem dX1_copyMoved_22 : decode cX1_copyMoved 22 = .ok (.ifCond .ne 7, 3) := by decide +kernel
theorem dX1_copyMoved_25 : decode cX1_copyMoved 25 = .ok (.iconst 1, 1) := by decide +kernel
theorem dX1_copyMoved_26 : decode cX1_copyMoved 26 = .ok (.goto 4, 3) := by decide +kernel
theorem dX1_copyMoved_29 : decode cX1_copyMoved 29 = .ok (.iconst 0, 1) := by decide +kernel
theorem dX1_copyMoved_30 : decode cX1_copyMoved 30 = .ok (.istore 5, 2) := by decide +kernel
theorem dX1_copyMoved_32 : decode cX1_copyMoved 32 = .ok (.iconst 0, 1) := by decide +kernel
theorem dX1_copyMoved_33 : decode cX1_copyMoved 33 = .ok (.istore 6, 2) := by decide +kernel
theorem dX1_copyMoved_35 : decode cX1_copyMoved 35 = .ok (.iload 6, 2) := by decide +kernel
theorem dX1_copyMoved_37 : decode cX1_copyMoved 37 = .ok (.aload_n 0, 1) := by decide +kernel
theorem dX1_copyMoved_38 : decode cX1_copyMoved 38 = .ok (.getfield 32, 3) := by decide +kernel
theorem dX1_copyMoved_41 : decode cX1_copyMoved 41 = .ok (.if_icmp .ge 103, 3) := by decide +kernel
theorem dX1_copyMoved_44 : decode cX1_copyMoved 44 = .ok (.iload 6, 2) := by decide +kernel
theorem dX1_copyMoved_46 : decode cX1_copyMoved 46 = .ok (.iload_n 2, 1) := by decide +kernel
theorem dX1_copyMoved_47 : decode cX1_copyMoved 47 = .ok (.if_icmp .eq 10, 3) := by decide +kernel
theorem dX1_copyMoved_50 : decode cX1_copyMoved 50 = .ok (.iload 6, 2) := by decide +kernel
theorem dX1_copyMoved_52 : decode cX1_copyMoved 52 = .ok (.iload 4, 2) := by decide +kernel
theorem dX1_copyMoved_54 : decode cX1_copyMoved 54 = .ok (.if_icmp .ne 7, 3) := by decide +kernel
theorem dX1_copyMoved_57 : decode cX1_copyMoved 57 = .ok (.iconst 1, 1) := by decide +kernel
theorem dX1_copyMoved_58 : decode cX1_copyMoved 58 = .ok (.goto 4, 3) := by decide +kernel
theorem dX1_copyMoved_61 : decode cX1_copyMoved 61 = .ok (.iconst 0, 1) := by decide +kernel
theorem dX1_copyMoved_62 : decode cX1_copyMoved 62 = .ok (.istore 7, 2) := by decide +kernel
theorem dX1_copyMoved_64 : decode cX1_copyMoved 64 = .ok (.aload_n 0, 1) := by decide +kernel
theorem dX1_copyMoved_65 : decode cX1_copyMoved 65 = .ok (.getfield 35, 3) := by decide +kernel
theorem dX1_copyMoved_68 : decode cX1_copyMoved 68 = .ok (.iload 6, 2) := by decide +kernel
theorem dX1_copyMoved_70 : decode cX1_copyMoved 70 = .ok (.aload_n 1, 1) := by decide +kernel
theorem dX1_copyMoved_71 : decode cX1_copyMoved 71 = .ok (.getfield 35, 3) := by decide +kernel
theorem dX1_copyMoved_74 : decode cX1_copyMoved 74 = .ok (.iload 6, 2) := by decide +kernel
theorem dX1_copyMoved_76 : decode cX1_copyMoved 76 = .ok (.iaload, 1) := by decide +kernel
theorem dX1_copyMoved_77 : decode cX1_copyMoved 77 = .ok (.iload 7, 2) := by decide +kernel
theorem dX1_copyMoved_79 : decode cX1_copyMoved 79 = .ok (.ifCond .eq 12, 3) := by decide +kernel
theorem dX1_copyMoved_82 : decode cX1_copyMoved 82 = .ok (.iload 5, 2) := by decide +kernel
theorem dX1_copyMoved_84 : decode cX1_copyMoved 84 = .ok (.ifCond .ne 7, 3) := by decide +kernel
theorem dX1_copyMoved_87 : decode cX1_copyMoved 87 = .ok (.iload_n 3, 1) := by decide +kernel
theorem dX1_copyMoved_88 : decode cX1_copyMoved 88 = .ok (.goto 4, 3) := by decide +kernel
theorem dX1_copyMoved_91 : decode cX1_copyMoved 91 = .ok (.iconst 0, 1) := by decide +kernel
theorem dX1_copyMoved_92 : decode cX1_copyMoved 92 = .ok (.iadd, 1) := by decide +kernel
theorem dX1_copyMoved_93 : decode cX1_copyMoved 93 = .ok (.iastore, 1) := by decide +kernel
theorem dX1_copyMoved_94 : decode cX1_copyMoved 94 = .ok (.aload_n 0, 1) := by decide +kernel
theorem dX1_copyMoved_95 : decode cX1_copyMoved 95 = .ok (.getfield 38, 3) := by decide +kernel
theorem dX1_copyMoved_98 : decode cX1_copyMoved 98 = .ok (.iload 6, 2) := by decide +kernel
theorem dX1_copyMoved_100 : decode cX1_copyMoved 100 = .ok (.aload_n 1, 1) := by decide +kernel
theorem dX1_copyMoved_101 : decode cX1_copyMoved 101 = .ok (.getfield 38, 3) := by decide +kernel
theorem dX1_copyMoved_104 : decode cX1_copyMoved 104 = .ok (.iload 6, 2) := by decide +kernel
theorem dX1_copyMoved_106 : decode cX1_copyMoved 106 = .ok (.iaload, 1) := by decide +kernel
theorem dX1_copyMoved_107 : decode cX1_copyMoved 107 = .ok (.iload 7, 2) := by decide +kernel
theorem dX1_copyMoved_109 : decode cX1_copyMoved 109 = .ok (.ifCond .eq 12, 3) := by decide +kernel
theorem dX1_copyMoved_112 : decode cX1_copyMoved 112 = .ok (.iload 5, 2) := by decide +kernel
theorem dX1_copyMoved_114 : decode cX1_copyMoved 114 = .ok (.ifCond .eq 7, 3) := by decide +kernel
theorem dX1_copyMoved_117 : decode cX1_copyMoved 117 = .ok (.iload_n 3, 1) := by decide +kernel
theorem dX1_copyMoved_118 : decode cX1_copyMoved 118 = .ok (.goto 4, 3) := by decide +kernel
theorem dX1_copyMoved_121 : decode cX1_copyMoved 121 = .ok (.iconst 0, 1) := by decide +kernel
theorem dX1_copyMoved_122 : decode cX1_copyMoved 122 = .ok (.iadd, 1) := by decide +kernel
theorem dX1_copyMoved_123 : decode cX1_copyMoved 123 = .ok (.iastore, 1) := by decide +kernel
theorem dX1_copyMoved_124 : decode cX1_copyMoved 124 = .ok (.aload_n 0, 1) := by decide +kernel
theorem dX1_copyMoved_125 : decode cX1_copyMoved 125 = .ok (.getfield 41, 3) := by decide +kernel
theorem dX1_copyMoved_128 : decode cX1_copyMoved 128 = .ok (.iload 6, 2) := by decide +kernel
theorem dX1_copyMoved_130 : decode cX1_copyMoved 130 = .ok (.aload_n 1, 1) := by decide +kernel
theorem dX1_copyMoved_131 : decode cX1_copyMoved 131 = .ok (.getfield 41, 3) := by decide +kernel
theorem dX1_copyMoved_134 : decode cX1_copyMoved 134 = .ok (.iload 6, 2) := by decide +kernel
theorem dX1_copyMoved_136 : decode cX1_copyMoved 136 = .ok (.iaload, 1) := by decide +kernel
theorem dX1_copyMoved_137 : decode cX1_copyMoved 137 = .ok (.iastore, 1) := by decide +kernel
theorem dX1_copyMoved_138 : decode cX1_copyMoved 138 = .ok (.iinc 6 1, 3) := by decide +kernel
theorem dX1_copyMoved_141 : decode cX1_copyMoved 141 = .ok (.goto (-106), 3) := by decide +kernel
theorem dX1_copyMoved_144 : decode cX1_copyMoved 144 = .ok (.return_, 1) := by decide +kernel
theorem dX1_canMoveSide_0 : decode cX1_canMoveSide 0 = .ok (.iload_n 1, 1) := by decide +kernel
theorem dX1_canMoveSide_1 : decode cX1_canMoveSide 1 = .ok (.iconst 1, 1) := by decide +kernel
theorem dX1_canMoveSide_2 : decode cX1_canMoveSide 2 = .ok (.iand, 1) := by decide +kernel
theorem dX1_canMoveSide_3 : decode cX1_canMoveSide 3 = .ok (.ifCond .ne 10, 3) := by decide +kernel
theorem dX1_canMoveSide_6 : decode cX1_canMoveSide 6 = .ok (.aload_n 0, 1) := by decide +kernel
theorem dX1_canMoveSide_7 : decode cX1_canMoveSide 7 = .ok (.getfield 38, 3) := by decide +kernel
theorem dX1_canMoveSide_10 : decode cX1_canMoveSide 10 = .ok (.goto 7, 3) := by decide +kernel
theorem dX1_canMoveSide_13 : decode cX1_canMoveSide 13 = .ok (.aload_n 0, 1) := by decide +kernel
theorem dX1_canMoveSide_14 : decode cX1_canMoveSide 14 = .ok (.getfield 35, 3) := by decide +kernel
theorem dX1_canMoveSide_17 : decode cX1_canMoveSide 17 = .ok (.astore_n 3, 1) := by decide +kernel
theorem dX1_canMoveSide_18 : decode cX1_canMoveSide 18 = .ok (.iload_n 1, 1) := by decide +kernel
theorem dX1_canMoveSide_19 : decode cX1_canMoveSide 19 = .ok (.ifCond .le 9, 3) := by decide +kernel
theorem dX1_canMoveSide_22 : decode cX1_canMoveSide 22 = .ok (.iload_n 1, 1) := by decide +kernel
theorem dX1_canMoveSide_23 : decode cX1_canMoveSide 23 = .ok (.iconst 1, 1) := by decide +kernel
theorem dX1_canMoveSide_24 : decode cX1_canMoveSide 24 = .ok (.isub, 1) := by decide +kernel
theorem dX1_canMoveSide_25 : decode cX1_canMoveSide 25 = .ok (.goto 9, 3) := by decide +kernel
theorem dX1_canMoveSide_28 : decode cX1_canMoveSide 28 = .ok (.aload_n 0, 1) := by decide +kernel
theorem dX1_canMoveSide_29 : decode cX1_canMoveSide 29 = .ok (.getfield 32, 3) := by decide +kernel
theorem dX1_canMoveSide_32 : decode cX1_canMoveSide 32 = .ok (.iconst 1, 1) := by decide +kernel
theorem dX1_canMoveSide_33 : decode cX1_canMoveSide 33 = .ok (.isub, 1) := by decide +kernel
theorem dX1_canMoveSide_34 : decode cX1_canMoveSide 34 = .ok (.istore 4, 2) := by decide +kernel
theorem dX1_canMoveSide_36 : decode cX1_canMoveSide 36 = .ok (.iload_n 1, 1) := by decide +kernel
theorem dX1_canMoveSide_37 : decode cX1_canMoveSide 37 = .ok (.iconst 2, 1) := by decide +kernel
theorem dX1_canMoveSide_38 : decode cX1_canMoveSide 38 = .ok (.iadd, 1) := by decide +kernel
theorem dX1_canMoveSide_39 : decode cX1_canMoveSide 39 = .ok (.aload_n 0, 1) := by decide +kernel
theorem dX1_canMoveSide_40 : decode cX1_canMoveSide 40 = .ok (.getfield 32, 3) := by decide +kernel
theorem dX1_canMoveSide_43 : decode cX1_canMoveSide 43 = .ok (.if_icmp .ge 9, 3) := by decide +kernel
theorem dX1_canMoveSide_46 : decode cX1_canMoveSide 46 = .ok (.iload_n 1, 1) := by decide +kernel
theorem dX1_canMoveSide_47 : decode cX1_canMoveSide 47 = .ok (.iconst 2, 1) := by decide +kernel
theorem dX1_canMoveSide_48 : decode cX1_canMoveSide 48 = .ok (.iadd, 1) := by decide +kernel
theorem dX1_canMoveSide_49 : decode cX1_canMoveSide 49 = .ok (.goto 11, 3) := by decide +kernel
theorem dX1_canMoveSide_52 : decode cX1_canMoveSide 52 = .ok (.iload_n 1, 1) := by decide +kernel
theorem dX1_canMoveSide_53 : decode cX1_canMoveSide 53 = .ok (.iconst 2, 1) := by decide +kernel
theorem dX1_canMoveSide_54 : decode cX1_canMoveSide 54 = .ok (.iadd, 1) := by decide +kernel
theorem dX1_canMoveSide_55 : decode cX1_canMoveSide 55 = .ok (.aload_n 0, 1) := by decide +kernel
theorem dX1_canMoveSide_56 : decode cX1_canMoveSide 56 = .ok (.getfield 32, 3) := by decide +kernel
theorem dX1_canMoveSide_59 : decode cX1_canMoveSide 59 = .ok (.isub, 1) := by decide +kernel
theorem dX1_canMoveSide_60 : decode cX1_canMoveSide 60 = .ok (.istore 5, 2) := by decide +kernel
theorem dX1_canMoveSide_62 : decode cX1_canMoveSide 62 = .ok (.aload_n 3, 1) := by decide +kernel
theorem dX1_canMoveSide_63 : decode cX1_canMoveSide 63 = .ok (.iload_n 1, 1) := by decide +kernel
theorem dX1_canMoveSide_64 : decode cX1_canMoveSide 64 = .ok (.iaload, 1) := by decide +kernel
theorem dX1_canMoveSide_65 : decode cX1_canMoveSide 65 = .ok (.iload_n 2, 1) := by decide +kernel
theorem dX1_canMoveSide_66 : decode cX1_canMoveSide 66 = .ok (.iadd, 1) := by decide +kernel
theorem dX1_canMoveSide_67 : decode cX1_canMoveSide 67 = .ok (.istore 6, 2) := by decide +kernel
theorem dX1_canMoveSide_69 : decode cX1_canMoveSide 69 = .ok (.iload 6, 2) := by decide +kernel
theorem dX1_canMoveSide_71 : decode cX1_canMoveSide 71 = .ok (.iconst 0, 1) := by decide +kernel
theorem dX1_canMoveSide_72 : decode cX1_canMoveSide 72 = .ok (.bipush 32, 2) := by decide +kernel
theorem dX1_canMoveSide_74 : decode cX1_canMoveSide 74 = .ok (.invokestatic 44, 3) := by decide +kernel
theorem dX1_canMoveSide_77 : decode cX1_canMoveSide 77 = .ok (.ifCond .eq 25, 3) := by decide +kernel
theorem dX1_canMoveSide_80 : decode cX1_canMoveSide 80 = .ok (.aload_n 3, 1) := by decide +kernel
theorem dX1_canMoveSide_81 : decode cX1_canMoveSide 81 = .ok (.iload 4, 2) := by decide +kernel
theorem dX1_canMoveSide_83 : decode cX1_canMoveSide 83 = .ok (.iaload, 1) := by decide +kernel
theorem dX1_canMoveSide_84 : decode cX1_canMoveSide 84 = .ok (.iload 6, 2) := by decide +kernel
theorem dX1_canMoveSide_86 : decode cX1_canMoveSide 86 = .ok (.if_icmp .eq 16, 3) := by decide +kernel
theorem dX1_canMoveSide_89 : decode cX1_canMoveSide 89 = .ok (.aload_n 3, 1) := by decide +kernel
theorem dX1_canMoveSide_90 : decode cX1_canMoveSide 90 = .ok (.iload 5, 2) := by decide +kernel
theorem dX1_canMoveSide_92 : decode cX1_canMoveSide 92 = .ok (.iaload, 1) := by decide +kernel
theorem dX1_canMoveSide_93 : decode cX1_canMoveSide 93 = .ok (.iload 6, 2) := by decide +kernel
theorem dX1_canMoveSide_95 : decode cX1_canMoveSide 95 = .ok (.if_icmp .eq 7, 3) := by decide +kernel
theorem dX1_canMoveSide_98 : decode cX1_canMoveSide 98 = .ok (.iconst 1, 1) := by decide +kernel
theorem dX1_canMoveSide_99 : decode cX1_canMoveSide 99 = .ok (.goto 4, 3) := by decide +kernel
theorem dX1_canMoveSide_102 : decode cX1_canMoveSide 102 = .ok (.iconst 0, 1) := by decide +kernel
theorem dX1_canMoveSide_103 : decode cX1_canMoveSide 103 = .ok (.ireturn, 1) := by decide +kernel
theorem dX1_drawLand_0 : decode cX1_drawLand 0 = .ok (.iconst 0, 1) := by decide +kernel
theorem dX1_drawLand_1 : decode cX1_drawLand 1 = .ok (.istore_n 1, 1) := by decide +kernel
theorem dX1_drawLand_2 : decode cX1_drawLand 2 = .ok (.iload_n 1, 1) := by decide +kernel
theorem dX1_drawLand_3 : decode cX1_drawLand 3 = .ok (.aload_n 0, 1) := by decide +kernel
theorem dX1_drawLand_4 : decode cX1_drawLand 4 = .ok (.getfield 32, 3) := by decide +kernel
theorem dX1_drawLand_7 : decode cX1_drawLand 7 = .ok (.if_icmp .ge 87, 3) := by decide +kernel
theorem dX1_drawLand_10 : decode cX1_drawLand 10 = .ok (.iload_n 1, 1) := by decide +kernel
theorem dX1_drawLand_11 : decode cX1_drawLand 11 = .ok (.iconst 1, 1) := by decide +kernel
theorem dX1_drawLand_12 : decode cX1_drawLand 12 = .ok (.iadd, 1) := by decide +kernel
theorem dX1_drawLand_13 : decode cX1_drawLand 13 = .ok (.aload_n 0, 1) := by decide +kernel
theorem dX1_drawLand_14 : decode cX1_drawLand 14 = .ok (.getfield 32, 3) := by decide +kernel
theorem dX1_drawLand_17 : decode cX1_drawLand 17 = .ok (.if_icmp .ge 9, 3) := by decide +kernel
theorem dX1_drawLand_20 : decode cX1_drawLand 20 = .ok (.iload_n 1, 1) := by decide +kernel
theorem dX1_drawLand_21 : decode cX1_drawLand 21 = .ok (.iconst 1, 1) := by decide +kernel
theorem dX1_drawLand_22 : decode cX1_drawLand 22 = .ok (.iadd, 1) := by decide +kernel
theorem dX1_drawLand_23 : decode cX1_drawLand 23 = .ok (.goto 4, 3) := by decide +kernel
theorem dX1_drawLand_26 : decode cX1_drawLand 26 = .ok (.iconst 0, 1) := by decide +kernel
theorem dX1_drawLand_27 : decode cX1_drawLand 27 = .ok (.istore_n 2, 1) := by decide +kernel
theorem dX1_drawLand_28 : decode cX1_drawLand 28 = .ok (.iload_n 1, 1) := by decide +kernel
theorem dX1_drawLand_29 : decode cX1_drawLand 29 = .ok (.iconst 1, 1) := by decide +kernel
theorem dX1_drawLand_30 : decode cX1_drawLand 30 = .ok (.iand, 1) := by decide +kernel
theorem dX1_drawLand_31 : decode cX1_drawLand 31 = .ok (.iconst 1, 1) := by decide +kernel
theorem dX1_drawLand_32 : decode cX1_drawLand 32 = .ok (.if_icmp .ne 31, 3) := by decide +kernel
theorem dX1_drawLand_35 : decode cX1_drawLand 35 = .ok (.aload_n 0, 1) := by decide +kernel
theorem dX1_drawLand_36 : decode cX1_drawLand 36 = .ok (.getfield 9, 3) := by decide +kernel
theorem dX1_drawLand_39 : decode cX1_drawLand 39 = .ok (.aload_n 0, 1) := by decide +kernel
theorem dX1_drawLand_40 : decode cX1_drawLand 40 = .ok (.getfield 38, 3) := by decide +kernel
theorem dX1_drawLand_43 : decode cX1_drawLand 43 = .ok (.iload_n 1, 1) := by decide +kernel
theorem dX1_drawLand_44 : decode cX1_drawLand 44 = .ok (.iaload, 1) := by decide +kernel
theorem dX1_drawLand_45 : decode cX1_drawLand 45 = .ok (.aload_n 0, 1) := by decide +kernel
theorem dX1_drawLand_46 : decode cX1_drawLand 46 = .ok (.getfield 38, 3) := by decide +kernel
theorem dX1_drawLand_49 : decode cX1_drawLand 49 = .ok (.iload_n 2, 1) := by decide +kernel
theorem dX1_drawLand_50 : decode cX1_drawLand 50 = .ok (.iaload, 1) := by decide +kernel
theorem dX1_drawLand_51 : decode cX1_drawLand 51 = .ok (.aload_n 0, 1) := by decide +kernel
theorem dX1_drawLand_52 : decode cX1_drawLand 52 = .ok (.getfield 35, 3) := by decide +kernel
theorem dX1_drawLand_55 : decode cX1_drawLand 55 = .ok (.iload_n 1, 1) := by decide +kernel
theorem dX1_drawLand_56 : decode cX1_drawLand 56 = .ok (.iaload, 1) := by decide +kernel
theorem dX1_drawLand_57 : decode cX1_drawLand 57 = .ok (.invokestatic 48, 3) := by decide +kernel
theorem dX1_drawLand_60 : decode cX1_drawLand 60 = .ok (.goto 28, 3) := by decide +kernel
theorem dX1_drawLand_63 : decode cX1_drawLand 63 = .ok (.aload_n 0, 1) := by decide +kernel
theorem dX1_drawLand_64 : decode cX1_drawLand 64 = .ok (.getfield 15, 3) := by decide +kernel
theorem dX1_drawLand_67 : decode cX1_drawLand 67 = .ok (.aload_n 0, 1) := by decide +kernel
theorem dX1_drawLand_68 : decode cX1_drawLand 68 = .ok (.getfield 35, 3) := by decide +kernel
theorem dX1_drawLand_71 : decode cX1_drawLand 71 = .ok (.iload_n 1, 1) := by decide +kernel
theorem dX1_drawLand_72 : decode cX1_drawLand 72 = .ok (.iaload, 1) := by decide +kernel
theorem dX1_drawLand_73 : decode cX1_drawLand 73 = .ok (.aload_n 0, 1) := by decide +kernel
theorem dX1_drawLand_74 : decode cX1_drawLand 74 = .ok (.getfield 35, 3) := by decide +kernel
theorem dX1_drawLand_77 : decode cX1_drawLand 77 = .ok (.iload_n 2, 1) := by decide +kernel
theorem dX1_drawLand_78 : decode cX1_drawLand 78 = .ok (.iaload, 1) := by decide +kernel
theorem dX1_drawLand_79 : decode cX1_drawLand 79 = .ok (.aload_n 0, 1) := by decide +kernel
theorem dX1_drawLand_80 : decode cX1_drawLand 80 = .ok (.getfield 38, 3) := by decide +kernel
theorem dX1_drawLand_83 : decode cX1_drawLand 83 = .ok (.iload_n 1, 1) := by decide +kernel
theorem dX1_drawLand_84 : decode cX1_drawLand 84 = .ok (.iaload, 1) := by decide +kernel
theorem dX1_drawLand_85 : decode cX1_drawLand 85 = .ok (.invokestatic 48, 3) := by decide +kernel
theorem dX1_drawLand_88 : decode cX1_drawLand 88 = .ok (.iinc 1 1, 3) := by decide +kernel
theorem dX1_drawLand_91 : decode cX1_drawLand 91 = .ok (.goto (-89), 3) := by decide +kernel
theorem dX1_drawLand_94 : decode cX1_drawLand 94 = .ok (.return_, 1) := by decide +kernel
theorem dX1_turnBeyond_0 : decode cX1_turnBeyond 0 = .ok (.iload_n 3, 1) := by decide +kernel
theorem dX1_turnBeyond_1 : decode cX1_turnBeyond 1 = .ok (.bipush 32, 2) := by decide +kernel
theorem dX1_turnBeyond_3 : decode cX1_turnBeyond 3 = .ok (.if_icmp .ge 9, 3) := by decide +kernel
theorem dX1_turnBeyond_6 : decode cX1_turnBeyond 6 = .ok (.iconst (-1), 1) := by decide +kernel
theorem dX1_turnBeyond_7 : decode cX1_turnBeyond 7 = .ok (.iload_n 3, 1) := by decide +kernel
theorem dX1_turnBeyond_8 : decode cX1_turnBeyond 8 = .ok (.ishl, 1) := by decide +kernel
theorem dX1_turnBeyond_9 : decode cX1_turnBeyond 9 = .ok (.goto 4, 3) := by decide +kernel
theorem dX1_turnBeyond_12 : decode cX1_turnBeyond 12 = .ok (.iconst 0, 1) := by decide +kernel
theorem dX1_turnBeyond_13 : decode cX1_turnBeyond 13 = .ok (.istore 4, 2) := by decide +kernel
theorem dX1_turnBeyond_15 : decode cX1_turnBeyond 15 = .ok (.bipush 32, 2) := by decide +kernel
theorem dX1_turnBeyond_17 : decode cX1_turnBeyond 17 = .ok (.iload_n 1, 1) := by decide +kernel
theorem dX1_turnBeyond_18 : decode cX1_turnBeyond 18 = .ok (.iload_n 2, 1) := by decide +kernel
theorem dX1_turnBeyond_19 : decode cX1_turnBeyond 19 = .ok (.invokestatic 52, 3) := by decide +kernel
theorem dX1_turnBeyond_22 : decode cX1_turnBeyond 22 = .ok (.invokestatic 58, 3) := by decide +kernel
theorem dX1_turnBeyond_25 : decode cX1_turnBeyond 25 = .ok (.istore 5, 2) := by decide +kernel
theorem dX1_turnBeyond_27 : decode cX1_turnBeyond 27 = .ok (.iconst 0, 1) := by decide +kernel
theorem dX1_turnBeyond_28 : decode cX1_turnBeyond 28 = .ok (.iload_n 1, 1) := by decide +kernel
theorem dX1_turnBeyond_29 : decode cX1_turnBeyond 29 = .ok (.iload_n 2, 1) := by decide +kernel
theorem dX1_turnBeyond_30 : decode cX1_turnBeyond 30 = .ok (.invokestatic 58, 3) := by decide +kernel
theorem dX1_turnBeyond_33 : decode cX1_turnBeyond 33 = .ok (.invokestatic 52, 3) := by decide +kernel
theorem dX1_turnBeyond_36 : decode cX1_turnBeyond 36 = .ok (.istore 6, 2) := by decide +kernel
theorem dX1_turnBeyond_38 : decode cX1_turnBeyond 38 = .ok (.iload 6, 2) := by decide +kernel
theorem dX1_turnBeyond_40 : decode cX1_turnBeyond 40 = .ok (.iload 5, 2) := by decide +kernel
theorem dX1_turnBeyond_42 : decode cX1_turnBeyond 42 = .ok (.if_icmp .ge 18, 3) := by decide +kernel
theorem dX1_turnBeyond_45 : decode cX1_turnBeyond 45 = .ok (.aload_n 0, 1) := by decide +kernel
theorem dX1_turnBeyond_46 : decode cX1_turnBeyond 46 = .ok (.iload 6, 2) := by decide +kernel
theorem dX1_turnBeyond_48 : decode cX1_turnBeyond 48 = .ok (.dup2, 1) := by decide +kernel
theorem dX1_turnBeyond_49 : decode cX1_turnBeyond 49 = .ok (.iaload, 1) := by decide +kernel
theorem dX1_turnBeyond_50 : decode cX1_turnBeyond 50 = .ok (.iload 4, 2) := by decide +kernel
theorem dX1_turnBeyond_52 : decode cX1_turnBeyond 52 = .ok (.ixor, 1) := by decide +kernel
theorem dX1_turnBeyond_53 : decode cX1_turnBeyond 53 = .ok (.iastore, 1) := by decide +kernel
theorem dX1_turnBeyond_54 : decode cX1_turnBeyond 54 = .ok (.iinc 6 1, 3) := by decide +kernel
theorem dX1_turnBeyond_57 : decode cX1_turnBeyond 57 = .ok (.goto (-19), 3) := by decide +kernel
theorem dX1_turnBeyond_60 : decode cX1_turnBeyond 60 = .ok (.return_, 1) := by decide +kernel
theorem dX1_isLand_0 : decode cX1_isLand 0 = .ok (.aload_n 0, 1) := by decide +kernel
theorem dX1_isLand_1 : decode cX1_isLand 1 = .ok (.getfield 9, 3) := by decide +kernel
theorem dX1_isLand_4 : decode cX1_isLand 4 = .ok (.iload_n 2, 1) := by decide +kernel
theorem dX1_isLand_5 : decode cX1_isLand 5 = .ok (.iaload, 1) := by decide +kernel
theorem dX1_isLand_6 : decode cX1_isLand 6 = .ok (.iload_n 1, 1) := by decide +kernel
theorem dX1_isLand_7 : decode cX1_isLand 7 = .ok (.iushr, 1) := by decide +kernel
theorem dX1_isLand_8 : decode cX1_isLand 8 = .ok (.iconst 1, 1) := by decide +kernel
theorem dX1_isLand_9 : decode cX1_isLand 9 = .ok (.iand, 1) := by decide +kernel
theorem dX1_isLand_10 : decode cX1_isLand 10 = .ok (.iconst 1, 1) := by decide +kernel
theorem dX1_isLand_11 : decode cX1_isLand 11 = .ok (.if_icmp .ne 7, 3) := by decide +kernel
theorem dX1_isLand_14 : decode cX1_isLand 14 = .ok (.iconst 1, 1) := by decide +kernel
theorem dX1_isLand_15 : decode cX1_isLand 15 = .ok (.goto 4, 3) := by decide +kernel
theorem dX1_isLand_18 : decode cX1_isLand 18 = .ok (.iconst 0, 1) := by decide +kernel
theorem dX1_isLand_19 : decode cX1_isLand 19 = .ok (.ireturn, 1) := by decide +kernel
theorem dX1_landBetween_0 : decode cX1_landBetween 0 = .ok (.iload_n 1, 1) := by decide +kernel
theorem dX1_landBetween_1 : decode cX1_landBetween 1 = .ok (.iload_n 3, 1) := by decide +kernel
theorem dX1_landBetween_2 : decode cX1_landBetween 2 = .ok (.invokestatic 61, 3) := by decide +kernel
theorem dX1_landBetween_5 : decode cX1_landBetween 5 = .ok (.iconst 1, 1) := by decide +kernel
theorem dX1_landBetween_6 : decode cX1_landBetween 6 = .ok (.iload_n 1, 1) := by decide +kernel
theorem dX1_landBetween_7 : decode cX1_landBetween 7 = .ok (.ishl, 1) := by decide +kernel
theorem dX1_landBetween_8 : decode cX1_landBetween 8 = .ok (.iconst (-1), 1) := by decide +kernel
theorem dX1_landBetween_9 : decode cX1_landBetween 9 = .ok (.ixor, 1) := by decide +kernel
theorem dX1_landBetween_10 : decode cX1_landBetween 10 = .ok (.iand, 1) := by decide +kernel
theorem dX1_landBetween_11 : decode cX1_landBetween 11 = .ok (.istore 5, 2) := by decide +kernel
theorem dX1_landBetween_13 : decode cX1_landBetween 13 = .ok (.iload_n 2, 1) := by decide +kernel
theorem dX1_landBetween_14 : decode cX1_landBetween 14 = .ok (.iload 4, 2) := by decide +kernel
theorem dX1_landBetween_16 : decode cX1_landBetween 16 = .ok (.if_icmp .ne 13, 3) := by decide +kernel
theorem dX1_landBetween_19 : decode cX1_landBetween 19 = .ok (.iload 5, 2) := by decide +kernel
theorem dX1_landBetween_21 : decode cX1_landBetween 21 = .ok (.iconst 1, 1) := by decide +kernel
theorem dX1_landBetween_22 : decode cX1_landBetween 22 = .ok (.iload_n 3, 1) := by decide +kernel
theorem dX1_landBetween_23 : decode cX1_landBetween 23 = .ok (.ishl, 1) := by decide +kernel
theorem dX1_landBetween_24 : decode cX1_landBetween 24 = .ok (.iconst (-1), 1) := by decide +kernel
theorem dX1_landBetween_25 : decode cX1_landBetween 25 = .ok (.ixor, 1) := by decide +kernel
theorem dX1_landBetween_26 : decode cX1_landBetween 26 = .ok (.iand, 1) := by decide +kernel
theorem dX1_landBetween_27 : decode cX1_landBetween 27 = .ok (.istore 5, 2) := by decide +kernel
theorem dX1_landBetween_29 : decode cX1_landBetween 29 = .ok (.iload_n 2, 1) := by decide +kernel
theorem dX1_landBetween_30 : decode cX1_landBetween 30 = .ok (.iload 4, 2) := by decide +kernel
theorem dX1_landBetween_32 : decode cX1_landBetween 32 = .ok (.invokestatic 61, 3) := by decide +kernel
theorem dX1_landBetween_35 : decode cX1_landBetween 35 = .ok (.iconst 1, 1) := by decide +kernel
theorem dX1_landBetween_36 : decode cX1_landBetween 36 = .ok (.iload_n 2, 1) := by decide +kernel
theorem dX1_landBetween_37 : decode cX1_landBetween 37 = .ok (.ishl, 1) := by decide +kernel
theorem dX1_landBetween_38 : decode cX1_landBetween 38 = .ok (.iconst (-1), 1) := by decide +kernel
theorem dX1_landBetween_39 : decode cX1_landBetween 39 = .ok (.ixor, 1) := by decide +kernel
theorem dX1_landBetween_40 : decode cX1_landBetween 40 = .ok (.iand, 1) := by decide +kernel
theorem dX1_landBetween_41 : decode cX1_landBetween 41 = .ok (.iconst 1, 1) := by decide +kernel
theorem dX1_landBetween_42 : decode cX1_landBetween 42 = .ok (.iload 4, 2) := by decide +kernel
theorem dX1_landBetween_44 : decode cX1_landBetween 44 = .ok (.ishl, 1) := by decide +kernel
theorem dX1_landBetween_45 : decode cX1_landBetween 45 = .ok (.iconst (-1), 1) := by decide +kernel
theorem dX1_landBetween_46 : decode cX1_landBetween 46 = .ok (.ixor, 1) := by decide +kernel
theorem dX1_landBetween_47 : decode cX1_landBetween 47 = .ok (.iand, 1) := by decide +kernel
theorem dX1_landBetween_48 : decode cX1_landBetween 48 = .ok (.istore 6, 2) := by decide +kernel
theorem dX1_landBetween_50 : decode cX1_landBetween 50 = .ok (.aload_n 0, 1) := by decide +kernel
theorem dX1_landBetween_51 : decode cX1_landBetween 51 = .ok (.getfield 9, 3) := by decide +kernel
theorem dX1_landBetween_54 : decode cX1_landBetween 54 = .ok (.iload_n 2, 1) := by decide +kernel
theorem dX1_landBetween_55 : decode cX1_landBetween 55 = .ok (.iaload, 1) := by decide +kernel
theorem dX1_landBetween_56 : decode cX1_landBetween 56 = .ok (.iload 5, 2) := by decide +kernel
theorem dX1_landBetween_58 : decode cX1_landBetween 58 = .ok (.iand, 1) := by decide +kernel
theorem dX1_landBetween_59 : decode cX1_landBetween 59 = .ok (.invokestatic 64, 3) := by decide +kernel
theorem dX1_landBetween_62 : decode cX1_landBetween 62 = .ok (.aload_n 0, 1) := by decide +kernel
theorem dX1_landBetween_63 : decode cX1_landBetween 63 = .ok (.getfield 15, 3) := by decide +kernel
theorem dX1_landBetween_66 : decode cX1_landBetween 66 = .ok (.iload_n 3, 1) := by decide +kernel
theorem dX1_landBetween_67 : decode cX1_landBetween 67 = .ok (.iaload, 1) := by decide +kernel
theorem dX1_landBetween_68 : decode cX1_landBetween 68 = .ok (.iload 6, 2) := by decide +kernel
theorem dX1_landBetween_70 : decode cX1_landBetween 70 = .ok (.iand, 1) := by decide +kernel
theorem dX1_landBetween_71 : decode cX1_landBetween 71 = .ok (.invokestatic 64, 3) := by decide +kernel
theorem dX1_landBetween_74 : decode cX1_landBetween 74 = .ok (.iadd, 1) := by decide +kernel
theorem dX1_landBetween_75 : decode cX1_landBetween 75 = .ok (.ireturn, 1) := by decide +kernel
theorem dX1_sweep_0 : decode cX1_sweep 0 = .ok (.aload_n 0, 1) := by decide +kernel
theorem dX1_sweep_1 : decode cX1_sweep 1 = .ok (.getfield 21, 3) := by decide +kernel
theorem dX1_sweep_4 : decode cX1_sweep 4 = .ok (.iload_n 1, 1) := by decide +kernel
theorem dX1_sweep_5 : decode cX1_sweep 5 = .ok (.baload, 1) := by decide +kernel
theorem dX1_sweep_6 : decode cX1_sweep 6 = .ok (.ifCond .eq 4, 3) := by decide +kernel
theorem dX1_sweep_9 : decode cX1_sweep 9 = .ok (.return_, 1) := by decide +kernel
theorem dX1_sweep_10 : decode cX1_sweep 10 = .ok (.aload_n 0, 1) := by decide +kernel
theorem dX1_sweep_11 : decode cX1_sweep 11 = .ok (.getfield 21, 3) := by decide +kernel
theorem dX1_sweep_14 : decode cX1_sweep 14 = .ok (.iload_n 1, 1) := by decide +kernel
theorem dX1_sweep_15 : decode cX1_sweep 15 = .ok (.iconst 1, 1) := by decide +kernel
theorem dX1_sweep_16 : decode cX1_sweep 16 = .ok (.bastore, 1) := by decide +kernel
theorem dX1_sweep_17 : decode cX1_sweep 17 = .ok (.iconst 0, 1) := by decide +kernel
theorem dX1_sweep_18 : decode cX1_sweep 18 = .ok (.istore_n 2, 1) := by decide +kernel
theorem dX1_sweep_19 : decode cX1_sweep 19 = .ok (.iload_n 2, 1) := by decide +kernel
theorem dX1_sweep_20 : decode cX1_sweep 20 = .ok (.bipush 32, 2) := by decide +kernel
theorem dX1_sweep_22 : decode cX1_sweep 22 = .ok (.if_icmp .ge 15, 3) := by decide +kernel
theorem dX1_sweep_25 : decode cX1_sweep 25 = .ok (.aload_n 0, 1) := by decide +kernel
theorem dX1_sweep_26 : decode cX1_sweep 26 = .ok (.iload_n 1, 1) := by decide +kernel
theorem dX1_sweep_27 : decode cX1_sweep 27 = .ok (.iload_n 2, 1) := by decide +kernel
theorem dX1_sweep_28 : decode cX1_sweep 28 = .ok (.invokevirtual 70, 3) := by decide +kernel
theorem dX1_sweep_31 : decode cX1_sweep 31 = .ok (.iinc 2 1, 3) := by decide +kernel
theorem dX1_sweep_34 : decode cX1_sweep 34 = .ok (.goto (-15), 3) := by decide +kernel
theorem dX1_sweep_37 : decode cX1_sweep 37 = .ok (.return_, 1) := by decide +kernel
theorem dX1_sweepLane_0 : decode cX1_sweepLane 0 = .ok (.iload_n 1, 1) := by decide +kernel
theorem dX1_sweepLane_1 : decode cX1_sweepLane 1 = .ok (.iconst 1, 1) := by decide +kernel
theorem dX1_sweepLane_2 : decode cX1_sweepLane 2 = .ok (.iand, 1) := by decide +kernel
theorem dX1_sweepLane_3 : decode cX1_sweepLane 3 = .ok (.ifCond .ne 7, 3) := by decide +kernel
theorem dX1_sweepLane_6 : decode cX1_sweepLane 6 = .ok (.iconst 1, 1) := by decide +kernel
theorem dX1_sweepLane_7 : decode cX1_sweepLane 7 = .ok (.goto 4, 3) := by decide +kernel
theorem dX1_sweepLane_10 : decode cX1_sweepLane 10 = .ok (.iconst 0, 1) := by decide +kernel
theorem dX1_sweepLane_11 : decode cX1_sweepLane 11 = .ok (.istore_n 3, 1) := by decide +kernel
theorem dX1_sweepLane_12 : decode cX1_sweepLane 12 = .ok (.iconst 0, 1) := by decide +kernel
theorem dX1_sweepLane_13 : decode cX1_sweepLane 13 = .ok (.istore 4, 2) := by decide +kernel
theorem dX1_sweepLane_15 : decode cX1_sweepLane 15 = .ok (.iconst 0, 1) := by decide +kernel
theorem dX1_sweepLane_16 : decode cX1_sweepLane 16 = .ok (.istore 5, 2) := by decide +kernel
theorem dX1_sweepLane_18 : decode cX1_sweepLane 18 = .ok (.iload 5, 2) := by decide +kernel
theorem dX1_sweepLane_20 : decode cX1_sweepLane 20 = .ok (.bipush 32, 2) := by decide +kernel
theorem dX1_sweepLane_22 : decode cX1_sweepLane 22 = .ok (.if_icmp .ge 118, 3) := by decide +kernel
theorem dX1_sweepLane_25 : decode cX1_sweepLane 25 = .ok (.iload_n 1, 1) := by decide +kernel
theorem dX1_sweepLane_26 : decode cX1_sweepLane 26 = .ok (.iconst 2, 1) := by decide +kernel
theorem dX1_sweepLane_27 : decode cX1_sweepLane 27 = .ok (.if_icmp .ge 11, 3) := by decide +kernel
theorem dX1_sweepLane_30 : decode cX1_sweepLane 30 = .ok (.bipush 31, 2) := by decide +kernel
theorem dX1_sweepLane_32 : decode cX1_sweepLane 32 = .ok (.iload 5, 2) := by decide +kernel
theorem dX1_sweepLane_34 : decode cX1_sweepLane 34 = .ok (.isub, 1) := by decide +kernel
theorem dX1_sweepLane_35 : decode cX1_sweepLane 35 = .ok (.goto 5, 3) := by decide +kernel
theorem dX1_sweepLane_38 : decode cX1_sweepLane 38 = .ok (.iload 5, 2) := by decide +kernel
theorem dX1_sweepLane_40 : decode cX1_sweepLane 40 = .ok (.istore 6, 2) := by decide +kernel
theorem dX1_sweepLane_42 : decode cX1_sweepLane 42 = .ok (.iload_n 3, 1) := by decide +kernel
theorem dX1_sweepLane_43 : decode cX1_sweepLane 43 = .ok (.ifCond .eq 7, 3) := by decide +kernel
theorem dX1_sweepLane_46 : decode cX1_sweepLane 46 = .ok (.iload_n 2, 1) := by decide +kernel
theorem dX1_sweepLane_47 : decode cX1_sweepLane 47 = .ok (.goto 5, 3) := by decide +kernel
theorem dX1_sweepLane_50 : decode cX1_sweepLane 50 = .ok (.iload 6, 2) := by decide +kernel
theorem dX1_sweepLane_52 : decode cX1_sweepLane 52 = .ok (.istore 7, 2) := by decide +kernel
theorem dX1_sweepLane_54 : decode cX1_sweepLane 54 = .ok (.iload_n 3, 1) := by decide +kernel
theorem dX1_sweepLane_55 : decode cX1_sweepLane 55 = .ok (.ifCond .eq 8, 3) := by decide +kernel
theorem dX1_sweepLane_58 : decode cX1_sweepLane 58 = .ok (.iload 6, 2) := by decide +kernel
theorem dX1_sweepLane_60 : decode cX1_sweepLane 60 = .ok (.goto 4, 3) := by decide +kernel
theorem dX1_sweepLane_63 : decode cX1_sweepLane 63 = .ok (.iload_n 2, 1) := by decide +kernel
theorem dX1_sweepLane_64 : decode cX1_sweepLane 64 = .ok (.istore 8, 2) := by decide +kernel
theorem dX1_sweepLane_66 : decode cX1_sweepLane 66 = .ok (.aload_n 0, 1) := by decide +kernel
theorem dX1_sweepLane_67 : decode cX1_sweepLane 67 = .ok (.iload 7, 2) := by decide +kernel
theorem dX1_sweepLane_69 : decode cX1_sweepLane 69 = .ok (.iload 8, 2) := by decide +kernel
theorem dX1_sweepLane_71 : decode cX1_sweepLane 71 = .ok (.invokevirtual 74, 3) := by decide +kernel
theorem dX1_sweepLane_74 : decode cX1_sweepLane 74 = .ok (.ifCond .eq 9, 3) := by decide +kernel
theorem dX1_sweepLane_77 : decode cX1_sweepLane 77 = .ok (.iconst (-1), 1) := by decide +kernel
theorem dX1_sweepLane_78 : decode cX1_sweepLane 78 = .ok (.istore 4, 2) := by decide +kernel
theorem dX1_sweepLane_80 : decode cX1_sweepLane 80 = .ok (.goto 33, 3) := by decide +kernel
theorem dX1_sweepLane_83 : decode cX1_sweepLane 83 = .ok (.iload 4, 2) := by decide +kernel
theorem dX1_sweepLane_85 : decode cX1_sweepLane 85 = .ok (.iconst (-1), 1) := by decide +kernel
theorem dX1_sweepLane_86 : decode cX1_sweepLane 86 = .ok (.if_icmp .ne 19, 3) := by decide +kernel
theorem dX1_sweepLane_89 : decode cX1_sweepLane 89 = .ok (.iconst 4, 1) := by decide +kernel
theorem dX1_sweepLane_90 : decode cX1_sweepLane 90 = .ok (.aload_n 0, 1) := by decide +kernel
theorem dX1_sweepLane_91 : decode cX1_sweepLane 91 = .ok (.iload_n 1, 1) := by decide +kernel
theorem dX1_sweepLane_92 : decode cX1_sweepLane 92 = .ok (.iload 7, 2) := by decide +kernel
theorem dX1_sweepLane_94 : decode cX1_sweepLane 94 = .ok (.iload 8, 2) := by decide +kernel
theorem dX1_sweepLane_96 : decode cX1_sweepLane 96 = .ok (.invokevirtual 78, 3) := by decide +kernel
theorem dX1_sweepLane_99 : decode cX1_sweepLane 99 = .ok (.iadd, 1) := by decide +kernel
theorem dX1_sweepLane_100 : decode cX1_sweepLane 100 = .ok (.istore 4, 2) := by decide +kernel
theorem dX1_sweepLane_102 : decode cX1_sweepLane 102 = .ok (.goto 11, 3) := by decide +kernel
theorem dX1_sweepLane_105 : decode cX1_sweepLane 105 = .ok (.iload 4, 2) := by decide +kernel
theorem dX1_sweepLane_107 : decode cX1_sweepLane 107 = .ok (.ifCond .le 6, 3) := by decide +kernel
theorem dX1_sweepLane_110 : decode cX1_sweepLane 110 = .ok (.iinc 4 4, 3) := by decide +kernel
theorem dX1_sweepLane_113 : decode cX1_sweepLane 113 = .ok (.aload_n 0, 1) := by decide +kernel
theorem dX1_sweepLane_114 : decode cX1_sweepLane 114 = .ok (.getfield 18, 3) := by decide +kernel
theorem dX1_sweepLane_117 : decode cX1_sweepLane 117 = .ok (.iload_n 1, 1) := by decide +kernel
theorem dX1_sweepLane_118 : decode cX1_sweepLane 118 = .ok (.sipush 1024, 3) := by decide +kernel
theorem dX1_sweepLane_121 : decode cX1_sweepLane 121 = .ok (.imul, 1) := by decide +kernel
theorem dX1_sweepLane_122 : decode cX1_sweepLane 122 = .ok (.iload 8, 2) := by decide +kernel
theorem dX1_sweepLane_124 : decode cX1_sweepLane 124 = .ok (.bipush 32, 2) := by decide +kernel
theorem dX1_sweepLane_126 : decode cX1_sweepLane 126 = .ok (.imul, 1) := by decide +kernel
theorem dX1_sweepLane_127 : decode cX1_sweepLane 127 = .ok (.iadd, 1) := by decide +kernel
theorem dX1_sweepLane_128 : decode cX1_sweepLane 128 = .ok (.iload 7, 2) := by decide +kernel
theorem dX1_sweepLane_130 : decode cX1_sweepLane 130 = .ok (.iadd, 1) := by decide +kernel
theorem dX1_sweepLane_131 : decode cX1_sweepLane 131 = .ok (.iload 4, 2) := by decide +kernel
theorem dX1_sweepLane_133 : decode cX1_sweepLane 133 = .ok (.iastore, 1) := by decide +kernel
theorem dX1_sweepLane_134 : decode cX1_sweepLane 134 = .ok (.iinc 5 1, 3) := by decide +kernel
theorem dX1_sweepLane_137 : decode cX1_sweepLane 137 = .ok (.goto (-119), 3) := by decide +kernel
theorem dX1_sweepLane_140 : decode cX1_sweepLane 140 = .ok (.return_, 1) := by decide +kernel
theorem dX1_sortBeside_0 : decode cX1_sortBeside 0 = .ok (.iload_n 1, 1) := by decide +kernel
theorem dX1_sortBeside_1 : decode cX1_sortBeside 1 = .ok (.iconst 1, 1) := by decide +kernel
theorem dX1_sortBeside_2 : decode cX1_sortBeside 2 = .ok (.iand, 1) := by decide +kernel
theorem dX1_sortBeside_3 : decode cX1_sortBeside 3 = .ok (.ifCond .ne 7, 3) := by decide +kernel
theorem dX1_sortBeside_6 : decode cX1_sortBeside 6 = .ok (.iconst 1, 1) := by decide +kernel
theorem dX1_sortBeside_7 : decode cX1_sortBeside 7 = .ok (.goto 4, 3) := by decide +kernel
theorem dX1_sortBeside_10 : decode cX1_sortBeside 10 = .ok (.iconst 0, 1) := by decide +kernel
theorem dX1_sortBeside_11 : decode cX1_sortBeside 11 = .ok (.istore 4, 2) := by decide +kernel
theorem dX1_sortBeside_13 : decode cX1_sortBeside 13 = .ok (.iload 4, 2) := by decide +kernel
theorem dX1_sortBeside_15 : decode cX1_sortBeside 15 = .ok (.ifCond .eq 10, 3) := by decide +kernel
theorem dX1_sortBeside_18 : decode cX1_sortBeside 18 = .ok (.aload_n 0, 1) := by decide +kernel
theorem dX1_sortBeside_19 : decode cX1_sortBeside 19 = .ok (.getfield 38, 3) := by decide +kernel
theorem dX1_sortBeside_22 : decode cX1_sortBeside 22 = .ok (.goto 7, 3) := by decide +kernel
theorem dX1_sortBeside_25 : decode cX1_sortBeside 25 = .ok (.aload_n 0, 1) := by decide +kernel
theorem dX1_sortBeside_26 : decode cX1_sortBeside 26 = .ok (.getfield 35, 3) := by decide +kernel
theorem dX1_sortBeside_29 : decode cX1_sortBeside 29 = .ok (.astore 5, 2) := by decide +kernel
theorem dX1_sortBeside_31 : decode cX1_sortBeside 31 = .ok (.iload 4, 2) := by decide +kernel
theorem dX1_sortBeside_33 : decode cX1_sortBeside 33 = .ok (.ifCond .eq 10, 3) := by decide +kernel
theorem dX1_sortBeside_36 : decode cX1_sortBeside 36 = .ok (.aload_n 0, 1) := by decide +kernel
theorem dX1_sortBeside_37 : decode cX1_sortBeside 37 = .ok (.getfield 35, 3) := by decide +kernel
theorem dX1_sortBeside_40 : decode cX1_sortBeside 40 = .ok (.goto 7, 3) := by decide +kernel
theorem dX1_sortBeside_43 : decode cX1_sortBeside 43 = .ok (.aload_n 0, 1) := by decide +kernel
theorem dX1_sortBeside_44 : decode cX1_sortBeside 44 = .ok (.getfield 38, 3) := by decide +kernel
theorem dX1_sortBeside_47 : decode cX1_sortBeside 47 = .ok (.astore 6, 2) := by decide +kernel
theorem dX1_sortBeside_49 : decode cX1_sortBeside 49 = .ok (.iload 4, 2) := by decide +kernel
theorem dX1_sortBeside_51 : decode cX1_sortBeside 51 = .ok (.ifCond .eq 7, 3) := by decide +kernel
theorem dX1_sortBeside_54 : decode cX1_sortBeside 54 = .ok (.iload_n 3, 1) := by decide +kernel
theorem dX1_sortBeside_55 : decode cX1_sortBeside 55 = .ok (.goto 4, 3) := by decide +kernel
theorem dX1_sortBeside_58 : decode cX1_sortBeside 58 = .ok (.iload_n 2, 1) := by decide +kernel
theorem dX1_sortBeside_59 : decode cX1_sortBeside 59 = .ok (.iload_n 1, 1) := by decide +kernel
theorem dX1_sortBeside_60 : decode cX1_sortBeside 60 = .ok (.iconst 2, 1) := by decide +kernel
theorem dX1_sortBeside_61 : decode cX1_sortBeside 61 = .ok (.if_icmp .ge 7, 3) := by decide +kernel
theorem dX1_sortBeside_64 : decode cX1_sortBeside 64 = .ok (.iconst 1, 1) := by decide +kernel
theorem dX1_sortBeside_65 : decode cX1_sortBeside 65 = .ok (.goto 4, 3) := by decide +kernel
theorem dX1_sortBeside_68 : decode cX1_sortBeside 68 = .ok (.iconst 0, 1) := by decide +kernel
theorem dX1_sortBeside_69 : decode cX1_sortBeside 69 = .ok (.iadd, 1) := by decide +kernel
theorem dX1_sortBeside_70 : decode cX1_sortBeside 70 = .ok (.istore 7, 2) := by decide +kernel
theorem dX1_sortBeside_72 : decode cX1_sortBeside 72 = .ok (.iload 4, 2) := by decide +kernel
theorem dX1_sortBeside_74 : decode cX1_sortBeside 74 = .ok (.ifCond .eq 7, 3) := by decide +kernel
theorem dX1_sortBeside_77 : decode cX1_sortBeside 77 = .ok (.iload_n 2, 1) := by decide +kernel
theorem dX1_sortBeside_78 : decode cX1_sortBeside 78 = .ok (.goto 4, 3) := by decide +kernel
theorem dX1_sortBeside_81 : decode cX1_sortBeside 81 = .ok (.iload_n 3, 1) := by decide +kernel
theorem dX1_sortBeside_82 : decode cX1_sortBeside 82 = .ok (.istore 8, 2) := by decide +kernel
theorem dX1_sortBeside_84 : decode cX1_sortBeside 84 = .ok (.iload 4, 2) := by decide +kernel
theorem dX1_sortBeside_86 : decode cX1_sortBeside 86 = .ok (.ifCond .eq 7, 3) := by decide +kernel
theorem dX1_sortBeside_89 : decode cX1_sortBeside 89 = .ok (.iconst 0, 1) := by decide +kernel
theorem dX1_sortBeside_90 : decode cX1_sortBeside 90 = .ok (.goto 4, 3) := by decide +kernel
theorem dX1_sortBeside_93 : decode cX1_sortBeside 93 = .ok (.iconst 1, 1) := by decide +kernel
theorem dX1_sortBeside_94 : decode cX1_sortBeside 94 = .ok (.istore 9, 2) := by decide +kernel
theorem dX1_sortBeside_96 : decode cX1_sortBeside 96 = .ok (.iload 9, 2) := by decide +kernel
theorem dX1_sortBeside_98 : decode cX1_sortBeside 98 = .ok (.aload_n 0, 1) := by decide +kernel
theorem dX1_sortBeside_99 : decode cX1_sortBeside 99 = .ok (.getfield 32, 3) := by decide +kernel
theorem dX1_sortBeside_102 : decode cX1_sortBeside 102 = .ok (.if_icmp .ge 93, 3) := by decide +kernel
theorem dX1_sortBeside_105 : decode cX1_sortBeside 105 = .ok (.aload 6, 2) := by decide +kernel
theorem dX1_sortBeside_107 : decode cX1_sortBeside 107 = .ok (.iload 9, 2) := by decide +kernel
theorem dX1_sortBeside_109 : decode cX1_sortBeside 109 = .ok (.iconst 1, 1) := by decide +kernel
theorem dX1_sortBeside_110 : decode cX1_sortBeside 110 = .ok (.iadd, 1) := by decide +kernel
theorem dX1_sortBeside_111 : decode cX1_sortBeside 111 = .ok (.aload_n 0, 1) := by decide +kernel
theorem dX1_sortBeside_112 : decode cX1_sortBeside 112 = .ok (.getfield 32, 3) := by decide +kernel
theorem dX1_sortBeside_115 : decode cX1_sortBeside 115 = .ok (.if_icmp .ge 10, 3) := by decide +kernel
theorem dX1_sortBeside_118 : decode cX1_sortBeside 118 = .ok (.iload 9, 2) := by decide +kernel
theorem dX1_sortBeside_120 : decode cX1_sortBeside 120 = .ok (.iconst 1, 1) := by decide +kernel
theorem dX1_sortBeside_121 : decode cX1_sortBeside 121 = .ok (.iadd, 1) := by decide +kernel
theorem dX1_sortBeside_122 : decode cX1_sortBeside 122 = .ok (.goto 4, 3) := by decide +kernel
theorem dX1_sortBeside_125 : decode cX1_sortBeside 125 = .ok (.iconst 0, 1) := by decide +kernel
theorem dX1_sortBeside_126 : decode cX1_sortBeside 126 = .ok (.iaload, 1) := by decide +kernel
theorem dX1_sortBeside_127 : decode cX1_sortBeside 127 = .ok (.istore 10, 2) := by decide +kernel
theorem dX1_sortBeside_129 : decode cX1_sortBeside 129 = .ok (.aload 6, 2) := by decide +kernel
theorem dX1_sortBeside_131 : decode cX1_sortBeside 131 = .ok (.iload 9, 2) := by decide +kernel
theorem dX1_sortBeside_133 : decode cX1_sortBeside 133 = .ok (.iaload, 1) := by decide +kernel
theorem dX1_sortBeside_134 : decode cX1_sortBeside 134 = .ok (.iload 8, 2) := by decide +kernel
theorem dX1_sortBeside_136 : decode cX1_sortBeside 136 = .ok (.if_icmp .gt 7, 3) := by decide +kernel
theorem dX1_sortBeside_139 : decode cX1_sortBeside 139 = .ok (.iconst 1, 1) := by decide +kernel
theorem dX1_sortBeside_140 : decode cX1_sortBeside 140 = .ok (.goto 4, 3) := by decide +kernel
theorem dX1_sortBeside_143 : decode cX1_sortBeside 143 = .ok (.iconst 0, 1) := by decide +kernel
theorem dX1_sortBeside_144 : decode cX1_sortBeside 144 = .ok (.iload 10, 2) := by decide +kernel
theorem dX1_sortBeside_146 : decode cX1_sortBeside 146 = .ok (.iload 8, 2) := by decide +kernel
theorem dX1_sortBeside_148 : decode cX1_sortBeside 148 = .ok (.if_icmp .gt 7, 3) := by decide +kernel
theorem dX1_sortBeside_151 : decode cX1_sortBeside 151 = .ok (.iconst 1, 1) := by decide +kernel
theorem dX1_sortBeside_152 : decode cX1_sortBeside 152 = .ok (.goto 4, 3) := by decide +kernel
theorem dX1_sortBeside_155 : decode cX1_sortBeside 155 = .ok (.iconst 0, 1) := by decide +kernel
theorem dX1_sortBeside_156 : decode cX1_sortBeside 156 = .ok (.if_icmp .eq 7, 3) := by decide +kernel
theorem dX1_sortBeside_159 : decode cX1_sortBeside 159 = .ok (.iconst 1, 1) := by decide +kernel
theorem dX1_sortBeside_160 : decode cX1_sortBeside 160 = .ok (.goto 4, 3) := by decide +kernel
theorem dX1_sortBeside_163 : decode cX1_sortBeside 163 = .ok (.iconst 0, 1) := by decide +kernel
theorem dX1_sortBeside_164 : decode cX1_sortBeside 164 = .ok (.istore 11, 2) := by decide +kernel
theorem dX1_sortBeside_166 : decode cX1_sortBeside 166 = .ok (.aload 5, 2) := by decide +kernel
theorem dX1_sortBeside_168 : decode cX1_sortBeside 168 = .ok (.iload 9, 2) := by decide +kernel
theorem dX1_sortBeside_170 : decode cX1_sortBeside 170 = .ok (.iaload, 1) := by decide +kernel
theorem dX1_sortBeside_171 : decode cX1_sortBeside 171 = .ok (.iload 7, 2) := by decide +kernel
theorem dX1_sortBeside_173 : decode cX1_sortBeside 173 = .ok (.if_icmp .ne 16, 3) := by decide +kernel
theorem dX1_sortBeside_176 : decode cX1_sortBeside 176 = .ok (.iload 11, 2) := by decide +kernel
theorem dX1_sortBeside_178 : decode cX1_sortBeside 178 = .ok (.ifCond .eq 11, 3) := by decide +kernel
theorem dX1_sortBeside_181 : decode cX1_sortBeside 181 = .ok (.aload_n 0, 1) := by decide +kernel
theorem dX1_sortBeside_182 : decode cX1_sortBeside 182 = .ok (.getfield 41, 3) := by decide +kernel
theorem dX1_sortBeside_185 : decode cX1_sortBeside 185 = .ok (.iload 9, 2) := by decide +kernel
theorem dX1_sortBeside_187 : decode cX1_sortBeside 187 = .ok (.iaload, 1) := by decide +kernel
theorem dX1_sortBeside_188 : decode cX1_sortBeside 188 = .ok (.ireturn, 1) := by decide +kernel
theorem dX1_sortBeside_189 : decode cX1_sortBeside 189 = .ok (.iinc 9 2, 3) := by decide +kernel
theorem dX1_sortBeside_192 : decode cX1_sortBeside 192 = .ok (.goto (-96), 3) := by decide +kernel
theorem dX1_sortBeside_195 : decode cX1_sortBeside 195 = .ok (.iconst 0, 1) := by decide +kernel
theorem dX1_sortBeside_196 : decode cX1_sortBeside 196 = .ok (.ireturn, 1) := by decide +kernel
theorem dX1_rowsAt_0 : decode cX1_rowsAt 0 = .ok (.iload_n 1, 1) := by decide +kernel
theorem dX1_rowsAt_1 : decode cX1_rowsAt 1 = .ok (.iconst 4, 1) := by decide +kernel
theorem dX1_rowsAt_2 : decode cX1_rowsAt 2 = .ok (.imul, 1) := by decide +kernel
theorem dX1_rowsAt_3 : decode cX1_rowsAt 3 = .ok (.iload_n 2, 1) := by decide +kernel
theorem dX1_rowsAt_4 : decode cX1_rowsAt 4 = .ok (.iadd, 1) := by decide +kernel
theorem dX1_rowsAt_5 : decode cX1_rowsAt 5 = .ok (.bipush 32, 2) := by decide +kernel
theorem dX1_rowsAt_7 : decode cX1_rowsAt 7 = .ok (.imul, 1) := by decide +kernel
theorem dX1_rowsAt_8 : decode cX1_rowsAt 8 = .ok (.ireturn, 1) := by decide +kernel
theorem dX2_init_0 : decode cX2_init 0 = .ok (.aload_n 0, 1) := by decide +kernel
theorem dX2_init_1 : decode cX2_init 1 = .ok (.invokespecial 3, 3) := by decide +kernel
theorem dX2_init_4 : decode cX2_init 4 = .ok (.aload_n 0, 1) := by decide +kernel
theorem dX2_init_5 : decode cX2_init 5 = .ok (.bipush 6, 2) := by decide +kernel
theorem dX2_init_7 : decode cX2_init 7 = .ok (.newarray .int, 2) := by decide +kernel
theorem dX2_init_9 : decode cX2_init 9 = .ok (.putfield 9, 3) := by decide +kernel
theorem dX2_init_12 : decode cX2_init 12 = .ok (.aload_n 0, 1) := by decide +kernel
theorem dX2_init_13 : decode cX2_init 13 = .ok (.bipush 6, 2) := by decide +kernel
theorem dX2_init_15 : decode cX2_init 15 = .ok (.newarray .int, 2) := by decide +kernel
theorem dX2_init_17 : decode cX2_init 17 = .ok (.putfield 15, 3) := by decide +kernel
theorem dX2_init_20 : decode cX2_init 20 = .ok (.aload_n 0, 1) := by decide +kernel
theorem dX2_init_21 : decode cX2_init 21 = .ok (.bipush 6, 2) := by decide +kernel
theorem dX2_init_23 : decode cX2_init 23 = .ok (.newarray .int, 2) := by decide +kernel
theorem dX2_init_25 : decode cX2_init 25 = .ok (.putfield 18, 3) := by decide +kernel
theorem dX2_init_28 : decode cX2_init 28 = .ok (.aload_n 0, 1) := by decide +kernel
theorem dX2_init_29 : decode cX2_init 29 = .ok (.bipush 6, 2) := by decide +kernel
theorem dX2_init_31 : decode cX2_init 31 = .ok (.newarray .int, 2) := by decide +kernel
theorem dX2_init_33 : decode cX2_init 33 = .ok (.putfield 21, 3) := by decide +kernel
theorem dX2_init_36 : decode cX2_init 36 = .ok (.aload_n 0, 1) := by decide +kernel
theorem dX2_init_37 : decode cX2_init 37 = .ok (.new 24, 3) := by decide +kernel
theorem dX2_init_40 : decode cX2_init 40 = .ok (.dup, 1) := by decide +kernel
theorem dX2_init_41 : decode cX2_init 41 = .ok (.invokespecial 26, 3) := by decide +kernel
theorem dX2_init_44 : decode cX2_init 44 = .ok (.putfield 27, 3) := by decide +kernel
theorem dX2_init_47 : decode cX2_init 47 = .ok (.aload_n 0, 1) := by decide +kernel
theorem dX2_init_48 : decode cX2_init 48 = .ok (.new 24, 3) := by decide +kernel
theorem dX2_init_51 : decode cX2_init 51 = .ok (.dup, 1) := by decide +kernel
theorem dX2_init_52 : decode cX2_init 52 = .ok (.invokespecial 26, 3) := by decide +kernel
theorem dX2_init_55 : decode cX2_init 55 = .ok (.putfield 31, 3) := by decide +kernel
theorem dX2_init_58 : decode cX2_init 58 = .ok (.aload_n 0, 1) := by decide +kernel
theorem dX2_init_59 : decode cX2_init 59 = .ok (.bipush 9, 2) := by decide +kernel
theorem dX2_init_61 : decode cX2_init 61 = .ok (.newarray .int, 2) := by decide +kernel
theorem dX2_init_63 : decode cX2_init 63 = .ok (.putfield 34, 3) := by decide +kernel
theorem dX2_init_66 : decode cX2_init 66 = .ok (.return_, 1) := by decide +kernel
theorem dX2_addSounder_0 : decode cX2_addSounder 0 = .ok (.aload_n 0, 1) := by decide +kernel
theorem dX2_addSounder_1 : decode cX2_addSounder 1 = .ok (.getfield 37, 3) := by decide +kernel
theorem dX2_addSounder_4 : decode cX2_addSounder 4 = .ok (.bipush 6, 2) := by decide +kernel
theorem dX2_addSounder_6 : decode cX2_addSounder 6 = .ok (.if_icmp .ge 54, 3) := by decide +kernel
theorem dX2_addSounder_9 : decode cX2_addSounder 9 = .ok (.aload_n 0, 1) := by decide +kernel
theorem dX2_addSounder_10 : decode cX2_addSounder 10 = .ok (.getfield 9, 3) := by decide +kernel
theorem dX2_addSounder_13 : decode cX2_addSounder 13 = .ok (.aload_n 0, 1) := by decide +kernel
theorem dX2_addSounder_14 : decode cX2_addSounder 14 = .ok (.getfield 37, 3) := by decide +kernel
theorem dX2_addSounder_17 : decode cX2_addSounder 17 = .ok (.iload_n 1, 1) := by decide +kernel
theorem dX2_addSounder_18 : decode cX2_addSounder 18 = .ok (.iastore, 1) := by decide +kernel
theorem dX2_addSounder_19 : decode cX2_addSounder 19 = .ok (.aload_n 0, 1) := by decide +kernel
theorem dX2_addSounder_20 : decode cX2_addSounder 20 = .ok (.getfield 15, 3) := by decide +kernel
theorem dX2_addSounder_23 : decode cX2_addSounder 23 = .ok (.aload_n 0, 1) := by decide +kernel
theorem dX2_addSounder_24 : decode cX2_addSounder 24 = .ok (.getfield 37, 3) := by decide +kernel
theorem dX2_addSounder_27 : decode cX2_addSounder 27 = .ok (.iload_n 2, 1) := by decide +kernel
theorem dX2_addSounder_28 : decode cX2_addSounder 28 = .ok (.iastore, 1) := by decide +kernel
theorem dX2_addSounder_29 : decode cX2_addSounder 29 = .ok (.aload_n 0, 1) := by decide +kernel
theorem dX2_addSounder_30 : decode cX2_addSounder 30 = .ok (.getfield 18, 3) := by decide +kernel
theorem dX2_addSounder_33 : decode cX2_addSounder 33 = .ok (.aload_n 0, 1) := by decide +kernel
theorem dX2_addSounder_34 : decode cX2_addSounder 34 = .ok (.getfield 37, 3) := by decide +kernel
theorem dX2_addSounder_37 : decode cX2_addSounder 37 = .ok (.iload_n 3, 1) := by decide +kernel
theorem dX2_addSounder_38 : decode cX2_addSounder 38 = .ok (.iastore, 1) := by decide +kernel
theorem dX2_addSounder_39 : decode cX2_addSounder 39 = .ok (.aload_n 0, 1) := by decide +kernel
theorem dX2_addSounder_40 : decode cX2_addSounder 40 = .ok (.getfield 21, 3) := by decide +kernel
theorem dX2_addSounder_43 : decode cX2_addSounder 43 = .ok (.aload_n 0, 1) := by decide +kernel
theorem dX2_addSounder_44 : decode cX2_addSounder 44 = .ok (.getfield 37, 3) := by decide +kernel
theorem dX2_addSounder_47 : decode cX2_addSounder 47 = .ok (.iload 4, 2) := by decide +kernel
theorem dX2_addSounder_49 : decode cX2_addSounder 49 = .ok (.iastore, 1) := by decide +kernel
theorem dX2_addSounder_50 : decode cX2_addSounder 50 = .ok (.aload_n 0, 1) := by decide +kernel
theorem dX2_addSounder_51 : decode cX2_addSounder 51 = .ok (.dup, 1) := by decide +kernel
theorem dX2_addSounder_52 : decode cX2_addSounder 52 = .ok (.getfield 37, 3) := by decide +kernel
theorem dX2_addSounder_55 : decode cX2_addSounder 55 = .ok (.iconst 1, 1) := by decide +kernel
theorem dX2_addSounder_56 : decode cX2_addSounder 56 = .ok (.iadd, 1) := by decide +kernel
theorem dX2_addSounder_57 : decode cX2_addSounder 57 = .ok (.putfield 37, 3) := by decide +kernel
theorem dX2_addSounder_60 : decode cX2_addSounder 60 = .ok (.return_, 1) := by decide +kernel
theorem dX2_takeSpare_0 : decode cX2_takeSpare 0 = .ok (.aload_n 0, 1) := by decide +kernel
theorem dX2_takeSpare_1 : decode cX2_takeSpare 1 = .ok (.getfield 27, 3) := by decide +kernel
theorem dX2_takeSpare_4 : decode cX2_takeSpare 4 = .ok (.astore_n 1, 1) := by decide +kernel
theorem dX2_takeSpare_5 : decode cX2_takeSpare 5 = .ok (.aload_n 0, 1) := by decide +kernel
theorem dX2_takeSpare_6 : decode cX2_takeSpare 6 = .ok (.aload_n 0, 1) := by decide +kernel
theorem dX2_takeSpare_7 : decode cX2_takeSpare 7 = .ok (.getfield 31, 3) := by decide +kernel
theorem dX2_takeSpare_10 : decode cX2_takeSpare 10 = .ok (.putfield 27, 3) := by decide +kernel
theorem dX2_takeSpare_13 : decode cX2_takeSpare 13 = .ok (.aload_n 0, 1) := by decide +kernel
theorem dX2_takeSpare_14 : decode cX2_takeSpare 14 = .ok (.aload_n 1, 1) := by decide +kernel
theorem dX2_takeSpare_15 : decode cX2_takeSpare 15 = .ok (.putfield 31, 3) := by decide +kernel
theorem dX2_takeSpare_18 : decode cX2_takeSpare 18 = .ok (.return_, 1) := by decide +kernel
theorem dX2_hasSounder_0 : decode cX2_hasSounder 0 = .ok (.iload_n 1, 1) := by decide +kernel
theorem dX2_hasSounder_1 : decode cX2_hasSounder 1 = .ok (.ifCond .lt 15, 3) := by decide +kernel
theorem dX2_hasSounder_4 : decode cX2_hasSounder 4 = .ok (.iload_n 1, 1) := by decide +kernel
theorem dX2_hasSounder_5 : decode cX2_hasSounder 5 = .ok (.aload_n 0, 1) := by decide +kernel
theorem dX2_hasSounder_6 : decode cX2_hasSounder 6 = .ok (.getfield 37, 3) := by decide +kernel
theorem dX2_hasSounder_9 : decode cX2_hasSounder 9 = .ok (.if_icmp .ge 7, 3) := by decide +kernel
theorem dX2_hasSounder_12 : decode cX2_hasSounder 12 = .ok (.iconst 1, 1) := by decide +kernel
theorem dX2_hasSounder_13 : decode cX2_hasSounder 13 = .ok (.goto 4, 3) := by decide +kernel
theorem dX2_hasSounder_16 : decode cX2_hasSounder 16 = .ok (.iconst 0, 1) := by decide +kernel
theorem dX2_hasSounder_17 : decode cX2_hasSounder 17 = .ok (.ireturn, 1) := by decide +kernel
theorem dX2_listen_0 : decode cX2_listen 0 = .ok (.aload_n 0, 1) := by decide +kernel
theorem dX2_listen_1 : decode cX2_listen 1 = .ok (.iload_n 1, 1) := by decide +kernel
theorem dX2_listen_2 : decode cX2_listen 2 = .ok (.invokevirtual 41, 3) := by decide +kernel
theorem dX2_listen_5 : decode cX2_listen 5 = .ok (.ifCond .eq 48, 3) := by decide +kernel
theorem dX2_listen_8 : decode cX2_listen 8 = .ok (.aload_n 0, 1) := by decide +kernel
theorem dX2_listen_9 : decode cX2_listen 9 = .ok (.getfield 34, 3) := by decide +kernel
theorem dX2_listen_12 : decode cX2_listen 12 = .ok (.iconst 0, 1) := by decide +kernel
theorem dX2_listen_13 : decode cX2_listen 13 = .ok (.aload_n 0, 1) := by decide +kernel
theorem dX2_listen_14 : decode cX2_listen 14 = .ok (.getfield 21, 3) := by decide +kernel
theorem dX2_listen_17 : decode cX2_listen 17 = .ok (.iload_n 1, 1) := by decide +kernel
theorem dX2_listen_18 : decode cX2_listen 18 = .ok (.iaload, 1) := by decide +kernel
theorem dX2_listen_19 : decode cX2_listen 19 = .ok (.iastore, 1) := by decide +kernel
theorem dX2_listen_20 : decode cX2_listen 20 = .ok (.aload_n 0, 1) := by decide +kernel
theorem dX2_listen_21 : decode cX2_listen 21 = .ok (.getfield 34, 3) := by decide +kernel
theorem dX2_listen_24 : decode cX2_listen 24 = .ok (.iconst 1, 1) := by decide +kernel
theorem dX2_listen_25 : decode cX2_listen 25 = .ok (.aload_n 0, 1) := by decide +kernel
theorem dX2_listen_26 : decode cX2_listen 26 = .ok (.getfield 18, 3) := by decide +kernel
theorem dX2_listen_29 : decode cX2_listen 29 = .ok (.iload_n 1, 1) := by decide +kernel
theorem dX2_listen_30 : decode cX2_listen 30 = .ok (.iaload, 1) := by decide +kernel
theorem dX2_listen_31 : decode cX2_listen 31 = .ok (.iastore, 1) := by decide +kernel
theorem dX2_listen_32 : decode cX2_listen 32 = .ok (.aload_n 0, 1) := by decide +kernel
theorem dX2_listen_33 : decode cX2_listen 33 = .ok (.getfield 34, 3) := by decide +kernel
theorem dX2_listen_36 : decode cX2_listen 36 = .ok (.iconst 2, 1) := by decide +kernel
theorem dX2_listen_37 : decode cX2_listen 37 = .ok (.iload_n 1, 1) := by decide +kernel
theorem dX2_listen_38 : decode cX2_listen 38 = .ok (.iastore, 1) := by decide +kernel
theorem dX2_listen_39 : decode cX2_listen 39 = .ok (.aload_n 0, 1) := by decide +kernel
theorem dX2_listen_40 : decode cX2_listen 40 = .ok (.getfield 34, 3) := by decide +kernel
theorem dX2_listen_43 : decode cX2_listen 43 = .ok (.iconst 3, 1) := by decide +kernel
theorem dX2_listen_44 : decode cX2_listen 44 = .ok (.iload_n 2, 1) := by decide +kernel
theorem dX2_listen_45 : decode cX2_listen 45 = .ok (.iastore, 1) := by decide +kernel
theorem dX2_listen_46 : decode cX2_listen 46 = .ok (.aload_n 0, 1) := by decide +kernel
theorem dX2_listen_47 : decode cX2_listen 47 = .ok (.getfield 34, 3) := by decide +kernel
theorem dX2_listen_50 : decode cX2_listen 50 = .ok (.iconst 4, 1) := by decide +kernel
theorem dX2_listen_51 : decode cX2_listen 51 = .ok (.iload_n 3, 1) := by decide +kernel
theorem dX2_listen_52 : decode cX2_listen 52 = .ok (.iastore, 1) := by decide +kernel
theorem dX2_listen_53 : decode cX2_listen 53 = .ok (.return_, 1) := by decide +kernel
theorem dX2_loudnessAt_0 : decode cX2_loudnessAt 0 = .ok (.aload_n 0, 1) := by decide +kernel
theorem dX2_loudnessAt_1 : decode cX2_loudnessAt 1 = .ok (.getfield 9, 3) := by decide +kernel
theorem dX2_loudnessAt_4 : decode cX2_loudnessAt 4 = .ok (.aload_n 0, 1) := by decide +kernel
theorem dX2_loudnessAt_5 : decode cX2_loudnessAt 5 = .ok (.getfield 34, 3) := by decide +kernel
theorem dX2_loudnessAt_8 : decode cX2_loudnessAt 8 = .ok (.iconst 2, 1) := by decide +kernel
theorem dX2_loudnessAt_9 : decode cX2_loudnessAt 9 = .ok (.iaload, 1) := by decide +kernel
theorem dX2_loudnessAt_10 : decode cX2_loudnessAt 10 = .ok (.iaload, 1) := by decide +kernel
theorem dX2_loudnessAt_11 : decode cX2_loudnessAt 11 = .ok (.istore 4, 2) := by decide +kernel
theorem dX2_loudnessAt_13 : decode cX2_loudnessAt 13 = .ok (.aload_n 0, 1) := by decide +kernel
theorem dX2_loudnessAt_14 : decode cX2_loudnessAt 14 = .ok (.getfield 15, 3) := by decide +kernel
theorem dX2_loudnessAt_17 : decode cX2_loudnessAt 17 = .ok (.aload_n 0, 1) := by decide +kernel
theorem dX2_loudnessAt_18 : decode cX2_loudnessAt 18 = .ok (.getfield 34, 3) := by decide +kernel
theorem dX2_loudnessAt_21 : decode cX2_loudnessAt 21 = .ok (.iconst 2, 1) := by decide +kernel
theorem dX2_loudnessAt_22 : decode cX2_loudnessAt 22 = .ok (.iaload, 1) := by decide +kernel
theorem dX2_loudnessAt_23 : decode cX2_loudnessAt 23 = .ok (.iaload, 1) := by decide +kernel
theorem dX2_loudnessAt_24 : decode cX2_loudnessAt 24 = .ok (.istore 5, 2) := by decide +kernel
theorem dX2_loudnessAt_26 : decode cX2_loudnessAt 26 = .ok (.aload_n 0, 1) := by decide +kernel
theorem dX2_loudnessAt_27 : decode cX2_loudnessAt 27 = .ok (.getfield 34, 3) := by decide +kernel
theorem dX2_loudnessAt_30 : decode cX2_loudnessAt 30 = .ok (.iconst 5, 1) := by decide +kernel
theorem dX2_loudnessAt_31 : decode cX2_loudnessAt 31 = .ok (.iload 4, 2) := by decide +kernel
theorem dX2_loudnessAt_33 : decode cX2_loudnessAt 33 = .ok (.iload_n 2, 1) := by decide +kernel
theorem dX2_loudnessAt_34 : decode cX2_loudnessAt 34 = .ok (.isub, 1) := by decide +kernel
theorem dX2_loudnessAt_35 : decode cX2_loudnessAt 35 = .ok (.invokestatic 45, 3) := by decide +kernel
theorem dX2_loudnessAt_38 : decode cX2_loudnessAt 38 = .ok (.iload 5, 2) := by decide +kernel
theorem dX2_loudnessAt_40 : decode cX2_loudnessAt 40 = .ok (.iload_n 3, 1) := by decide +kernel
theorem dX2_loudnessAt_41 : decode cX2_loudnessAt 41 = .ok (.isub, 1) := by decide +kernel
theorem dX2_loudnessAt_42 : decode cX2_loudnessAt 42 = .ok (.invokestatic 45, 3) := by decide +kernel
theorem dX2_loudnessAt_45 : decode cX2_loudnessAt 45 = .ok (.iadd, 1) := by decide +kernel
theorem dX2_loudnessAt_46 : decode cX2_loudnessAt 46 = .ok (.iastore, 1) := by decide +kernel
theorem dX2_loudnessAt_47 : decode cX2_loudnessAt 47 = .ok (.aload_n 0, 1) := by decide +kernel
theorem dX2_loudnessAt_48 : decode cX2_loudnessAt 48 = .ok (.getfield 34, 3) := by decide +kernel
theorem dX2_loudnessAt_51 : decode cX2_loudnessAt 51 = .ok (.bipush 6, 2) := by decide +kernel
theorem dX2_loudnessAt_53 : decode cX2_loudnessAt 53 = .ok (.iload 5, 2) := by decide +kernel
theorem dX2_loudnessAt_55 : decode cX2_loudnessAt 55 = .ok (.iload_n 3, 1) := by decide +kernel
theorem dX2_loudnessAt_56 : decode cX2_loudnessAt 56 = .ok (.isub, 1) := by decide +kernel
theorem dX2_loudnessAt_57 : decode cX2_loudnessAt 57 = .ok (.iastore, 1) := by decide +kernel
theorem dX2_loudnessAt_58 : decode cX2_loudnessAt 58 = .ok (.aload_n 0, 1) := by decide +kernel
theorem dX2_loudnessAt_59 : decode cX2_loudnessAt 59 = .ok (.getfield 34, 3) := by decide +kernel
theorem dX2_loudnessAt_62 : decode cX2_loudnessAt 62 = .ok (.bipush 7, 2) := by decide +kernel
theorem dX2_loudnessAt_64 : decode cX2_loudnessAt 64 = .ok (.iload 4, 2) := by decide +kernel
theorem dX2_loudnessAt_66 : decode cX2_loudnessAt 66 = .ok (.iload_n 2, 1) := by decide +kernel
theorem dX2_loudnessAt_67 : decode cX2_loudnessAt 67 = .ok (.isub, 1) := by decide +kernel
theorem dX2_loudnessAt_68 : decode cX2_loudnessAt 68 = .ok (.iastore, 1) := by decide +kernel
theorem dX2_loudnessAt_69 : decode cX2_loudnessAt 69 = .ok (.aload_n 0, 1) := by decide +kernel
theorem dX2_loudnessAt_70 : decode cX2_loudnessAt 70 = .ok (.getfield 34, 3) := by decide +kernel
theorem dX2_loudnessAt_73 : decode cX2_loudnessAt 73 = .ok (.bipush 8, 2) := by decide +kernel
theorem dX2_loudnessAt_75 : decode cX2_loudnessAt 75 = .ok (.aload_n 1, 1) := by decide +kernel
theorem dX2_loudnessAt_76 : decode cX2_loudnessAt 76 = .ok (.iload_n 2, 1) := by decide +kernel
theorem dX2_loudnessAt_77 : decode cX2_loudnessAt 77 = .ok (.iload_n 3, 1) := by decide +kernel
theorem dX2_loudnessAt_78 : decode cX2_loudnessAt 78 = .ok (.iload 4, 2) := by decide +kernel
theorem dX2_loudnessAt_80 : decode cX2_loudnessAt 80 = .ok (.iload 5, 2) := by decide +kernel
theorem dX2_loudnessAt_82 : decode cX2_loudnessAt 82 = .ok (.invokevirtual 51, 3) := by decide +kernel
theorem dX2_loudnessAt_85 : decode cX2_loudnessAt 85 = .ok (.iastore, 1) := by decide +kernel
theorem dX2_loudnessAt_86 : decode cX2_loudnessAt 86 = .ok (.iconst 0, 1) := by decide +kernel
theorem dX2_loudnessAt_87 : decode cX2_loudnessAt 87 = .ok (.istore 6, 2) := by decide +kernel
theorem dX2_loudnessAt_89 : decode cX2_loudnessAt 89 = .ok (.iload 6, 2) := by decide +kernel
theorem dX2_loudnessAt_91 : decode cX2_loudnessAt 91 = .ok (.aload_n 0, 1) := by decide +kernel
theorem dX2_loudnessAt_92 : decode cX2_loudnessAt 92 = .ok (.getfield 27, 3) := by decide +kernel
theorem dX2_loudnessAt_95 : decode cX2_loudnessAt 95 = .ok (.getfield 57, 3) := by decide +kernel
theorem dX2_loudnessAt_98 : decode cX2_loudnessAt 98 = .ok (.if_icmp .ge 108, 3) := by decide +kernel
theorem dX2_loudnessAt_101 : decode cX2_loudnessAt 101 = .ok (.aload_n 0, 1) := by decide +kernel
theorem dX2_loudnessAt_102 : decode cX2_loudnessAt 102 = .ok (.getfield 27, 3) := by decide +kernel
theorem dX2_loudnessAt_105 : decode cX2_loudnessAt 105 = .ok (.aload_n 0, 1) := by decide +kernel
theorem dX2_loudnessAt_106 : decode cX2_loudnessAt 106 = .ok (.getfield 27, 3) := by decide +kernel
theorem dX2_loudnessAt_109 : decode cX2_loudnessAt 109 = .ok (.getfield 60, 3) := by decide +kernel
theorem dX2_loudnessAt_112 : decode cX2_loudnessAt 112 = .ok (.iload 6, 2) := by decide +kernel
theorem dX2_loudnessAt_114 : decode cX2_loudnessAt 114 = .ok (.iaload, 1) := by decide +kernel
theorem dX2_loudnessAt_115 : decode cX2_loudnessAt 115 = .ok (.aload_n 0, 1) := by decide +kernel
theorem dX2_loudnessAt_116 : decode cX2_loudnessAt 116 = .ok (.getfield 27, 3) := by decide +kernel
theorem dX2_loudnessAt_119 : decode cX2_loudnessAt 119 = .ok (.getfield 63, 3) := by decide +kernel
theorem dX2_loudnessAt_122 : decode cX2_loudnessAt 122 = .ok (.iload 6, 2) := by decide +kernel
theorem dX2_loudnessAt_124 : decode cX2_loudnessAt 124 = .ok (.iconst 1, 1) := by decide +kernel
theorem dX2_loudnessAt_125 : decode cX2_loudnessAt 125 = .ok (.iadd, 1) := by decide +kernel
theorem dX2_loudnessAt_126 : decode cX2_loudnessAt 126 = .ok (.iaload, 1) := by decide +kernel
theorem dX2_loudnessAt_127 : decode cX2_loudnessAt 127 = .ok (.aload_n 0, 1) := by decide +kernel
theorem dX2_loudnessAt_128 : decode cX2_loudnessAt 128 = .ok (.getfield 34, 3) := by decide +kernel
theorem dX2_loudnessAt_131 : decode cX2_loudnessAt 131 = .ok (.invokevirtual 66, 3) := by decide +kernel
theorem dX2_loudnessAt_134 : decode cX2_loudnessAt 134 = .ok (.pop, 1) := by decide +kernel
theorem dX2_loudnessAt_135 : decode cX2_loudnessAt 135 = .ok (.aload_n 0, 1) := by decide +kernel
theorem dX2_loudnessAt_136 : decode cX2_loudnessAt 136 = .ok (.getfield 27, 3) := by decide +kernel
theorem dX2_loudnessAt_139 : decode cX2_loudnessAt 139 = .ok (.getfield 70, 3) := by decide +kernel
theorem dX2_loudnessAt_142 : decode cX2_loudnessAt 142 = .ok (.ifCond .eq 58, 3) := by decide +kernel
theorem dX2_loudnessAt_145 : decode cX2_loudnessAt 145 = .ok (.aload_n 0, 1) := by decide +kernel
theorem dX2_loudnessAt_146 : decode cX2_loudnessAt 146 = .ok (.getfield 27, 3) := by decide +kernel
theorem dX2_loudnessAt_149 : decode cX2_loudnessAt 149 = .ok (.getfield 74, 3) := by decide +kernel
theorem dX2_loudnessAt_152 : decode cX2_loudnessAt 152 = .ok (.ifCond .ne 48, 3) := by decide +kernel
theorem dX2_loudnessAt_155 : decode cX2_loudnessAt 155 = .ok (.aload_n 0, 1) := by decide +kernel
theorem dX2_loudnessAt_156 : decode cX2_loudnessAt 156 = .ok (.getfield 27, 3) := by decide +kernel
theorem dX2_loudnessAt_159 : decode cX2_loudnessAt 159 = .ok (.aload_n 0, 1) := by decide +kernel
theorem dX2_loudnessAt_160 : decode cX2_loudnessAt 160 = .ok (.getfield 27, 3) := by decide +kernel
theorem dX2_loudnessAt_163 : decode cX2_loudnessAt 163 = .ok (.getfield 63, 3) := by decide +kernel
theorem dX2_loudnessAt_166 : decode cX2_loudnessAt 166 = .ok (.iload 6, 2) := by decide +kernel
theorem dX2_loudnessAt_168 : decode cX2_loudnessAt 168 = .ok (.iaload, 1) := by decide +kernel
theorem dX2_loudnessAt_169 : decode cX2_loudnessAt 169 = .ok (.aload_n 0, 1) := by decide +kernel
theorem dX2_loudnessAt_170 : decode cX2_loudnessAt 170 = .ok (.getfield 27, 3) := by decide +kernel
theorem dX2_loudnessAt_173 : decode cX2_loudnessAt 173 = .ok (.getfield 60, 3) := by decide +kernel
theorem dX2_loudnessAt_176 : decode cX2_loudnessAt 176 = .ok (.iload 6, 2) := by decide +kernel
theorem dX2_loudnessAt_178 : decode cX2_loudnessAt 178 = .ok (.iaload, 1) := by decide +kernel
theorem dX2_loudnessAt_179 : decode cX2_loudnessAt 179 = .ok (.aload_n 0, 1) := by decide +kernel
theorem dX2_loudnessAt_180 : decode cX2_loudnessAt 180 = .ok (.getfield 34, 3) := by decide +kernel
theorem dX2_loudnessAt_183 : decode cX2_loudnessAt 183 = .ok (.invokevirtual 66, 3) := by decide +kernel
theorem dX2_loudnessAt_186 : decode cX2_loudnessAt 186 = .ok (.istore 7, 2) := by decide +kernel
theorem dX2_loudnessAt_188 : decode cX2_loudnessAt 188 = .ok (.iconst 0, 1) := by decide +kernel
theorem dX2_loudnessAt_189 : decode cX2_loudnessAt 189 = .ok (.bipush 99, 2) := by decide +kernel
theorem dX2_loudnessAt_191 : decode cX2_loudnessAt 191 = .ok (.iload 7, 2) := by decide +kernel
theorem dX2_loudnessAt_193 : decode cX2_loudnessAt 193 = .ok (.invokestatic 77, 3) := by decide +kernel
theorem dX2_loudnessAt_196 : decode cX2_loudnessAt 196 = .ok (.invokestatic 81, 3) := by decide +kernel
theorem dX2_loudnessAt_199 : decode cX2_loudnessAt 199 = .ok (.ireturn, 1) := by decide +kernel
theorem dX2_loudnessAt_200 : decode cX2_loudnessAt 200 = .ok (.iinc 6 1, 3) := by decide +kernel
theorem dX2_loudnessAt_203 : decode cX2_loudnessAt 203 = .ok (.goto (-114), 3) := by decide +kernel
theorem dX2_loudnessAt_206 : decode cX2_loudnessAt 206 = .ok (.iconst 0, 1) := by decide +kernel
theorem dX2_loudnessAt_207 : decode cX2_loudnessAt 207 = .ok (.ireturn, 1) := by decide +kernel
theorem dX2_holdsIn_0 : decode cX2_holdsIn 0 = .ok (.aload_n 3, 1) := by decide +kernel
theorem dX2_holdsIn_1 : decode cX2_holdsIn 1 = .ok (.getfield 84, 3) := by decide +kernel
theorem dX2_holdsIn_4 : decode cX2_holdsIn 4 = .ok (.bipush 32, 2) := by decide +kernel
theorem dX2_holdsIn_6 : decode cX2_holdsIn 6 = .ok (.imul, 1) := by decide +kernel
theorem dX2_holdsIn_7 : decode cX2_holdsIn 7 = .ok (.iload 4, 2) := by decide +kernel
theorem dX2_holdsIn_9 : decode cX2_holdsIn 9 = .ok (.iadd, 1) := by decide +kernel
theorem dX2_holdsIn_10 : decode cX2_holdsIn 10 = .ok (.istore 6, 2) := by decide +kernel
theorem dX2_holdsIn_12 : decode cX2_holdsIn 12 = .ok (.iload 5, 2) := by decide +kernel
theorem dX2_holdsIn_14 : decode cX2_holdsIn 14 = .ok (.aload_n 1, 1) := by decide +kernel
theorem dX2_holdsIn_15 : decode cX2_holdsIn 15 = .ok (.getfield 87, 3) := by decide +kernel
theorem dX2_holdsIn_18 : decode cX2_holdsIn 18 = .ok (.iload 6, 2) := by decide +kernel
theorem dX2_holdsIn_20 : decode cX2_holdsIn 20 = .ok (.iaload, 1) := by decide +kernel
theorem dX2_holdsIn_21 : decode cX2_holdsIn 21 = .ok (.iconst (-1), 1) := by decide +kernel
theorem dX2_holdsIn_22 : decode cX2_holdsIn 22 = .ok (.ixor, 1) := by decide +kernel
theorem dX2_holdsIn_23 : decode cX2_holdsIn 23 = .ok (.iand, 1) := by decide +kernel
theorem dX2_holdsIn_24 : decode cX2_holdsIn 24 = .ok (.istore 7, 2) := by decide +kernel
theorem dX2_holdsIn_26 : decode cX2_holdsIn 26 = .ok (.iload 7, 2) := by decide +kernel
theorem dX2_holdsIn_28 : decode cX2_holdsIn 28 = .ok (.ifCond .eq 21, 3) := by decide +kernel
theorem dX2_holdsIn_31 : decode cX2_holdsIn 31 = .ok (.aload_n 1, 1) := by decide +kernel
theorem dX2_holdsIn_32 : decode cX2_holdsIn 32 = .ok (.getfield 92, 3) := by decide +kernel
theorem dX2_holdsIn_35 : decode cX2_holdsIn 35 = .ok (.ifCond .eq 14, 3) := by decide +kernel
theorem dX2_holdsIn_38 : decode cX2_holdsIn 38 = .ok (.aload_n 3, 1) := by decide +kernel
theorem dX2_holdsIn_39 : decode cX2_holdsIn 39 = .ok (.aload_n 1, 1) := by decide +kernel
theorem dX2_holdsIn_40 : decode cX2_holdsIn 40 = .ok (.getfield 95, 3) := by decide +kernel
theorem dX2_holdsIn_43 : decode cX2_holdsIn 43 = .ok (.invokevirtual 98, 3) := by decide +kernel
theorem dX2_holdsIn_46 : decode cX2_holdsIn 46 = .ok (.goto 24, 3) := by decide +kernel
theorem dX2_holdsIn_49 : decode cX2_holdsIn 49 = .ok (.iload 7, 2) := by decide +kernel
theorem dX2_holdsIn_51 : decode cX2_holdsIn 51 = .ok (.ifCond .eq 19, 3) := by decide +kernel
theorem dX2_holdsIn_54 : decode cX2_holdsIn 54 = .ok (.aload_n 0, 1) := by decide +kernel
theorem dX2_holdsIn_55 : decode cX2_holdsIn 55 = .ok (.aload_n 1, 1) := by decide +kernel
theorem dX2_holdsIn_56 : decode cX2_holdsIn 56 = .ok (.getfield 95, 3) := by decide +kernel
theorem dX2_holdsIn_59 : decode cX2_holdsIn 59 = .ok (.aload_n 2, 1) := by decide +kernel
theorem dX2_holdsIn_60 : decode cX2_holdsIn 60 = .ok (.getfield 102, 3) := by decide +kernel
theorem dX2_holdsIn_63 : decode cX2_holdsIn 63 = .ok (.aload_n 2, 1) := by decide +kernel
theorem dX2_holdsIn_64 : decode cX2_holdsIn 64 = .ok (.getfield 107, 3) := by decide +kernel
theorem dX2_holdsIn_67 : decode cX2_holdsIn 67 = .ok (.invokevirtual 110, 3) := by decide +kernel
theorem dX2_holdsIn_70 : decode cX2_holdsIn 70 = .ok (.iconst 0, 1) := by decide +kernel
theorem dX2_holdsIn_71 : decode cX2_holdsIn 71 = .ok (.istore 8, 2) := by decide +kernel
theorem dX2_holdsIn_73 : decode cX2_holdsIn 73 = .ok (.iload 7, 2) := by decide +kernel
theorem dX2_holdsIn_75 : decode cX2_holdsIn 75 = .ok (.istore 9, 2) := by decide +kernel
theorem dX2_holdsIn_77 : decode cX2_holdsIn 77 = .ok (.iconst 0, 1) := by decide +kernel
theorem dX2_holdsIn_78 : decode cX2_holdsIn 78 = .ok (.istore 10, 2) := by decide +kernel
theorem dX2_holdsIn_80 : decode cX2_holdsIn 80 = .ok (.iload 9, 2) := by decide +kernel
theorem dX2_holdsIn_82 : decode cX2_holdsIn 82 = .ok (.ifCond .eq 119, 3) := by decide +kernel
theorem dX2_holdsIn_85 : decode cX2_holdsIn 85 = .ok (.iload 10, 2) := by decide +kernel
theorem dX2_holdsIn_87 : decode cX2_holdsIn 87 = .ok (.bipush 32, 2) := by decide +kernel
theorem dX2_holdsIn_89 : decode cX2_holdsIn 89 = .ok (.if_icmp .ge 112, 3) := by decide +kernel
theorem dX2_holdsIn_92 : decode cX2_holdsIn 92 = .ok (.iload 9, 2) := by decide +kernel
theorem dX2_holdsIn_94 : decode cX2_holdsIn 94 = .ok (.invokestatic 114, 3) := by decide +kernel
theorem dX2_holdsIn_97 : decode cX2_holdsIn 97 = .ok (.istore 11, 2) := by decide +kernel
theorem dX2_holdsIn_99 : decode cX2_holdsIn 99 = .ok (.iload 9, 2) := by decide +kernel
theorem dX2_holdsIn_101 : decode cX2_holdsIn 101 = .ok (.iload 9, 2) := by decide +kernel
theorem dX2_holdsIn_103 : decode cX2_holdsIn 103 = .ok (.iconst 1, 1) := by decide +kernel
theorem dX2_holdsIn_104 : decode cX2_holdsIn 104 = .ok (.isub, 1) := by decide +kernel
theorem dX2_holdsIn_105 : decode cX2_holdsIn 105 = .ok (.iand, 1) := by decide +kernel
theorem dX2_holdsIn_106 : decode cX2_holdsIn 106 = .ok (.istore 9, 2) := by decide +kernel
theorem dX2_holdsIn_108 : decode cX2_holdsIn 108 = .ok (.aload_n 1, 1) := by decide +kernel
theorem dX2_holdsIn_109 : decode cX2_holdsIn 109 = .ok (.getfield 92, 3) := by decide +kernel
theorem dX2_holdsIn_112 : decode cX2_holdsIn 112 = .ok (.ifCond .eq 34, 3) := by decide +kernel
theorem dX2_holdsIn_115 : decode cX2_holdsIn 115 = .ok (.aload_n 1, 1) := by decide +kernel
theorem dX2_holdsIn_116 : decode cX2_holdsIn 116 = .ok (.aload_n 3, 1) := by decide +kernel
theorem dX2_holdsIn_117 : decode cX2_holdsIn 117 = .ok (.getfield 117, 3) := by decide +kernel
theorem dX2_holdsIn_120 : decode cX2_holdsIn 120 = .ok (.aload_n 1, 1) := by decide +kernel
theorem dX2_holdsIn_121 : decode cX2_holdsIn 121 = .ok (.getfield 95, 3) := by decide +kernel
theorem dX2_holdsIn_124 : decode cX2_holdsIn 124 = .ok (.sipush 1024, 3) := by decide +kernel
theorem dX2_holdsIn_127 : decode cX2_holdsIn 127 = .ok (.imul, 1) := by decide +kernel
theorem dX2_holdsIn_128 : decode cX2_holdsIn 128 = .ok (.iload 4, 2) := by decide +kernel
theorem dX2_holdsIn_130 : decode cX2_holdsIn 130 = .ok (.bipush 32, 2) := by decide +kernel
theorem dX2_holdsIn_132 : decode cX2_holdsIn 132 = .ok (.imul, 1) := by decide +kernel
theorem dX2_holdsIn_133 : decode cX2_holdsIn 133 = .ok (.iadd, 1) := by decide +kernel
theorem dX2_holdsIn_134 : decode cX2_holdsIn 134 = .ok (.iload 11, 2) := by decide +kernel
theorem dX2_holdsIn_136 : decode cX2_holdsIn 136 = .ok (.iadd, 1) := by decide +kernel
theorem dX2_holdsIn_137 : decode cX2_holdsIn 137 = .ok (.iaload, 1) := by decide +kernel
theorem dX2_holdsIn_138 : decode cX2_holdsIn 138 = .ok (.invokevirtual 120, 3) := by decide +kernel
theorem dX2_holdsIn_141 : decode cX2_holdsIn 141 = .ok (.istore 12, 2) := by decide +kernel
theorem dX2_holdsIn_143 : decode cX2_holdsIn 143 = .ok (.goto 34, 3) := by decide +kernel
theorem dX2_holdsIn_146 : decode cX2_holdsIn 146 = .ok (.aload_n 0, 1) := by decide +kernel
theorem dX2_holdsIn_147 : decode cX2_holdsIn 147 = .ok (.aload_n 3, 1) := by decide +kernel
theorem dX2_holdsIn_148 : decode cX2_holdsIn 148 = .ok (.iload 11, 2) := by decide +kernel
theorem dX2_holdsIn_150 : decode cX2_holdsIn 150 = .ok (.iload 4, 2) := by decide +kernel
theorem dX2_holdsIn_152 : decode cX2_holdsIn 152 = .ok (.invokevirtual 123, 3) := by decide +kernel
theorem dX2_holdsIn_155 : decode cX2_holdsIn 155 = .ok (.aload_n 1, 1) := by decide +kernel
theorem dX2_holdsIn_156 : decode cX2_holdsIn 156 = .ok (.getfield 127, 3) := by decide +kernel
theorem dX2_holdsIn_159 : decode cX2_holdsIn 159 = .ok (.isub, 1) := by decide +kernel
theorem dX2_holdsIn_160 : decode cX2_holdsIn 160 = .ok (.invokestatic 45, 3) := by decide +kernel
theorem dX2_holdsIn_163 : decode cX2_holdsIn 163 = .ok (.aload_n 1, 1) := by decide +kernel
theorem dX2_holdsIn_164 : decode cX2_holdsIn 164 = .ok (.getfield 130, 3) := by decide +kernel
theorem dX2_holdsIn_167 : decode cX2_holdsIn 167 = .ok (.if_icmp .gt 7, 3) := by decide +kernel
theorem dX2_holdsIn_170 : decode cX2_holdsIn 170 = .ok (.iconst 1, 1) := by decide +kernel
theorem dX2_holdsIn_171 : decode cX2_holdsIn 171 = .ok (.goto 4, 3) := by decide +kernel
theorem dX2_holdsIn_174 : decode cX2_holdsIn 174 = .ok (.iconst 0, 1) := by decide +kernel
theorem dX2_holdsIn_175 : decode cX2_holdsIn 175 = .ok (.istore 12, 2) := by decide +kernel
theorem dX2_holdsIn_177 : decode cX2_holdsIn 177 = .ok (.iload 8, 2) := by decide +kernel
theorem dX2_holdsIn_179 : decode cX2_holdsIn 179 = .ok (.iload 12, 2) := by decide +kernel
theorem dX2_holdsIn_181 : decode cX2_holdsIn 181 = .ok (.ifCond .eq 10, 3) := by decide +kernel
theorem dX2_holdsIn_184 : decode cX2_holdsIn 184 = .ok (.iconst 1, 1) := by decide +kernel
theorem dX2_holdsIn_185 : decode cX2_holdsIn 185 = .ok (.iload 11, 2) := by decide +kernel
theorem dX2_holdsIn_187 : decode cX2_holdsIn 187 = .ok (.ishl, 1) := by decide +kernel
theorem dX2_holdsIn_188 : decode cX2_holdsIn 188 = .ok (.goto 4, 3) := by decide +kernel
theorem dX2_holdsIn_191 : decode cX2_holdsIn 191 = .ok (.iconst 0, 1) := by decide +kernel
theorem dX2_holdsIn_192 : decode cX2_holdsIn 192 = .ok (.ior, 1) := by decide +kernel
theorem dX2_holdsIn_193 : decode cX2_holdsIn 193 = .ok (.istore 8, 2) := by decide +kernel
theorem dX2_holdsIn_195 : decode cX2_holdsIn 195 = .ok (.iinc 10 1, 3) := by decide +kernel
theorem dX2_holdsIn_198 : decode cX2_holdsIn 198 = .ok (.goto (-118), 3) := by decide +kernel
theorem dX2_holdsIn_201 : decode cX2_holdsIn 201 = .ok (.aload_n 1, 1) := by decide +kernel
theorem dX2_holdsIn_202 : decode cX2_holdsIn 202 = .ok (.getfield 87, 3) := by decide +kernel
theorem dX2_holdsIn_205 : decode cX2_holdsIn 205 = .ok (.iload 6, 2) := by decide +kernel
theorem dX2_holdsIn_207 : decode cX2_holdsIn 207 = .ok (.dup2, 1) := by decide +kernel
theorem dX2_holdsIn_208 : decode cX2_holdsIn 208 = .ok (.iaload, 1) := by decide +kernel
theorem dX2_holdsIn_209 : decode cX2_holdsIn 209 = .ok (.iload 7, 2) := by decide +kernel
theorem dX2_holdsIn_211 : decode cX2_holdsIn 211 = .ok (.ior, 1) := by decide +kernel
theorem dX2_holdsIn_212 : decode cX2_holdsIn 212 = .ok (.iastore, 1) := by decide +kernel
theorem dX2_holdsIn_213 : decode cX2_holdsIn 213 = .ok (.aload_n 1, 1) := by decide +kernel
theorem dX2_holdsIn_214 : decode cX2_holdsIn 214 = .ok (.getfield 133, 3) := by decide +kernel
theorem dX2_holdsIn_217 : decode cX2_holdsIn 217 = .ok (.iload 6, 2) := by decide +kernel
theorem dX2_holdsIn_219 : decode cX2_holdsIn 219 = .ok (.dup2, 1) := by decide +kernel
theorem dX2_holdsIn_220 : decode cX2_holdsIn 220 = .ok (.iaload, 1) := by decide +kernel
theorem dX2_holdsIn_221 : decode cX2_holdsIn 221 = .ok (.iload 8, 2) := by decide +kernel
theorem dX2_holdsIn_223 : decode cX2_holdsIn 223 = .ok (.ior, 1) := by decide +kernel
theorem dX2_holdsIn_224 : decode cX2_holdsIn 224 = .ok (.iastore, 1) := by decide +kernel
theorem dX2_holdsIn_225 : decode cX2_holdsIn 225 = .ok (.aload_n 1, 1) := by decide +kernel
theorem dX2_holdsIn_226 : decode cX2_holdsIn 226 = .ok (.getfield 133, 3) := by decide +kernel
theorem dX2_holdsIn_229 : decode cX2_holdsIn 229 = .ok (.iload 6, 2) := by decide +kernel
theorem dX2_holdsIn_231 : decode cX2_holdsIn 231 = .ok (.iaload, 1) := by decide +kernel
theorem dX2_holdsIn_232 : decode cX2_holdsIn 232 = .ok (.ireturn, 1) := by decide +kernel
theorem dX3_init_0 : decode cX3_init 0 = .ok (.aload_n 0, 1) := by decide +kernel
theorem dX3_init_1 : decode cX3_init 1 = .ok (.invokespecial 3, 3) := by decide +kernel
theorem dX3_init_4 : decode cX3_init 4 = .ok (.aload_n 0, 1) := by decide +kernel
theorem dX3_init_5 : decode cX3_init 5 = .ok (.sipush 160, 3) := by decide +kernel
theorem dX3_init_8 : decode cX3_init 8 = .ok (.newarray .int, 2) := by decide +kernel
theorem dX3_init_10 : decode cX3_init 10 = .ok (.putfield 9, 3) := by decide +kernel
theorem dX3_init_13 : decode cX3_init 13 = .ok (.aload_n 0, 1) := by decide +kernel
theorem dX3_init_14 : decode cX3_init 14 = .ok (.bipush 13, 2) := by decide +kernel
theorem dX3_init_16 : decode cX3_init 16 = .ok (.newarray .int, 2) := by decide +kernel
theorem dX3_init_18 : decode cX3_init 18 = .ok (.putfield 15, 3) := by decide +kernel
theorem dX3_init_21 : decode cX3_init 21 = .ok (.aload_n 0, 1) := by decide +kernel
theorem dX3_init_22 : decode cX3_init 22 = .ok (.bipush 12, 2) := by decide +kernel
theorem dX3_init_24 : decode cX3_init 24 = .ok (.newarray .int, 2) := by decide +kernel
theorem dX3_init_26 : decode cX3_init 26 = .ok (.putfield 18, 3) := by decide +kernel
theorem dX3_init_29 : decode cX3_init 29 = .ok (.aload_n 0, 1) := by decide +kernel
theorem dX3_init_30 : decode cX3_init 30 = .ok (.bipush 20, 2) := by decide +kernel
theorem dX3_init_32 : decode cX3_init 32 = .ok (.newarray .int, 2) := by decide +kernel
theorem dX3_init_34 : decode cX3_init 34 = .ok (.putfield 21, 3) := by decide +kernel
theorem dX3_init_37 : decode cX3_init 37 = .ok (.return_, 1) := by decide +kernel
theorem dX3_clear_0 : decode cX3_clear 0 = .ok (.aload_n 0, 1) := by decide +kernel
theorem dX3_clear_1 : decode cX3_clear 1 = .ok (.iconst 0, 1) := by decide +kernel
theorem dX3_clear_2 : decode cX3_clear 2 = .ok (.putfield 24, 3) := by decide +kernel
theorem dX3_clear_5 : decode cX3_clear 5 = .ok (.aload_n 0, 1) := by decide +kernel
theorem dX3_clear_6 : decode cX3_clear 6 = .ok (.iconst 0, 1) := by decide +kernel
theorem dX3_clear_7 : decode cX3_clear 7 = .ok (.putfield 28, 3) := by decide +kernel
theorem dX3_clear_10 : decode cX3_clear 10 = .ok (.return_, 1) := by decide +kernel
theorem dX3_add_0 : decode cX3_add 0 = .ok (.aload_n 0, 1) := by decide +kernel
theorem dX3_add_1 : decode cX3_add 1 = .ok (.getfield 24, 3) := by decide +kernel
theorem dX3_add_4 : decode cX3_add 4 = .ok (.aload_n 0, 1) := by decide +kernel
theorem dX3_add_5 : decode cX3_add 5 = .ok (.getfield 9, 3) := by decide +kernel
theorem dX3_add_8 : decode cX3_add 8 = .ok (.arraylength, 1) := by decide +kernel
theorem dX3_add_9 : decode cX3_add 9 = .ok (.if_icmp .lt 5, 3) := by decide +kernel
theorem dX3_add_12 : decode cX3_add 12 = .ok (.iconst (-1), 1) := by decide +kernel
theorem dX3_add_13 : decode cX3_add 13 = .ok (.ireturn, 1) := by decide +kernel
theorem dX3_add_14 : decode cX3_add 14 = .ok (.aload_n 0, 1) := by decide +kernel
theorem dX3_add_15 : decode cX3_add 15 = .ok (.getfield 9, 3) := by decide +kernel
theorem dX3_add_18 : decode cX3_add 18 = .ok (.aload_n 0, 1) := by decide +kernel
theorem dX3_add_19 : decode cX3_add 19 = .ok (.getfield 24, 3) := by decide +kernel
theorem dX3_add_22 : decode cX3_add 22 = .ok (.iload_n 2, 1) := by decide +kernel
theorem dX3_add_23 : decode cX3_add 23 = .ok (.bipush 16, 2) := by decide +kernel
theorem dX3_add_25 : decode cX3_add 25 = .ok (.imul, 1) := by decide +kernel
theorem dX3_add_26 : decode cX3_add 26 = .ok (.iload_n 1, 1) := by decide +kernel
theorem dX3_add_27 : decode cX3_add 27 = .ok (.iadd, 1) := by decide +kernel
theorem dX3_add_28 : decode cX3_add 28 = .ok (.iastore, 1) := by decide +kernel
theorem dX3_add_29 : decode cX3_add 29 = .ok (.aload_n 0, 1) := by decide +kernel
theorem dX3_add_30 : decode cX3_add 30 = .ok (.dup, 1) := by decide +kernel
theorem dX3_add_31 : decode cX3_add 31 = .ok (.getfield 24, 3) := by decide +kernel
theorem dX3_add_34 : decode cX3_add 34 = .ok (.iconst 1, 1) := by decide +kernel
theorem dX3_add_35 : decode cX3_add 35 = .ok (.iadd, 1) := by decide +kernel
theorem dX3_add_36 : decode cX3_add 36 = .ok (.putfield 24, 3) := by decide +kernel
theorem dX3_add_39 : decode cX3_add 39 = .ok (.aload_n 0, 1) := by decide +kernel
theorem dX3_add_40 : decode cX3_add 40 = .ok (.getfield 24, 3) := by decide +kernel
theorem dX3_add_43 : decode cX3_add 43 = .ok (.iconst 1, 1) := by decide +kernel
theorem dX3_add_44 : decode cX3_add 44 = .ok (.isub, 1) := by decide +kernel
theorem dX3_add_45 : decode cX3_add 45 = .ok (.ireturn, 1) := by decide +kernel
theorem dX3_aimHere_0 : decode cX3_aimHere 0 = .ok (.iload_n 1, 1) := by decide +kernel
theorem dX3_aimHere_1 : decode cX3_aimHere 1 = .ok (.ifCond .lt 27, 3) := by decide +kernel
theorem dX3_aimHere_4 : decode cX3_aimHere 4 = .ok (.iload_n 1, 1) := by decide +kernel
theorem dX3_aimHere_5 : decode cX3_aimHere 5 = .ok (.aload_n 0, 1) := by decide +kernel
theorem dX3_aimHere_6 : decode cX3_aimHere 6 = .ok (.getfield 24, 3) := by decide +kernel
theorem dX3_aimHere_9 : decode cX3_aimHere 9 = .ok (.if_icmp .ge 19, 3) := by decide +kernel
theorem dX3_aimHere_12 : decode cX3_aimHere 12 = .ok (.aload_n 0, 1) := by decide +kernel
theorem dX3_aimHere_13 : decode cX3_aimHere 13 = .ok (.getfield 9, 3) := by decide +kernel
theorem dX3_aimHere_16 : decode cX3_aimHere 16 = .ok (.iload_n 1, 1) := by decide +kernel
theorem dX3_aimHere_17 : decode cX3_aimHere 17 = .ok (.dup2, 1) := by decide +kernel
theorem dX3_aimHere_18 : decode cX3_aimHere 18 = .ok (.iaload, 1) := by decide +kernel
theorem dX3_aimHere_19 : decode cX3_aimHere 19 = .ok (.aload_n 0, 1) := by decide +kernel
theorem dX3_aimHere_20 : decode cX3_aimHere 20 = .ok (.getfield 24, 3) := by decide +kernel
theorem dX3_aimHere_23 : decode cX3_aimHere 23 = .ok (.bipush 16, 2) := by decide +kernel
theorem dX3_aimHere_25 : decode cX3_aimHere 25 = .ok (.imul, 1) := by decide +kernel
theorem dX3_aimHere_26 : decode cX3_aimHere 26 = .ok (.iadd, 1) := by decide +kernel
theorem dX3_aimHere_27 : decode cX3_aimHere 27 = .ok (.iastore, 1) := by decide +kernel
theorem dX3_aimHere_28 : decode cX3_aimHere 28 = .ok (.return_, 1) := by decide +kernel
theorem dX3_endSum_0 : decode cX3_endSum 0 = .ok (.aload_n 0, 1) := by decide +kernel
theorem dX3_endSum_1 : decode cX3_endSum 1 = .ok (.getfield 28, 3) := by decide +kernel
theorem dX3_endSum_4 : decode cX3_endSum 4 = .ok (.bipush 12, 2) := by decide +kernel
theorem dX3_endSum_6 : decode cX3_endSum 6 = .ok (.if_icmp .ge 16, 3) := by decide +kernel
theorem dX3_endSum_9 : decode cX3_endSum 9 = .ok (.aload_n 0, 1) := by decide +kernel
theorem dX3_endSum_10 : decode cX3_endSum 10 = .ok (.getfield 18, 3) := by decide +kernel
theorem dX3_endSum_13 : decode cX3_endSum 13 = .ok (.aload_n 0, 1) := by decide +kernel
theorem dX3_endSum_14 : decode cX3_endSum 14 = .ok (.getfield 28, 3) := by decide +kernel
theorem dX3_endSum_17 : decode cX3_endSum 17 = .ok (.aload_n 0, 1) := by decide +kernel
theorem dX3_endSum_18 : decode cX3_endSum 18 = .ok (.getfield 24, 3) := by decide +kernel
theorem dX3_endSum_21 : decode cX3_endSum 21 = .ok (.iastore, 1) := by decide +kernel
theorem dX3_endSum_22 : decode cX3_endSum 22 = .ok (.return_, 1) := by decide +kernel
theorem dX3_endClause_0 : decode cX3_endClause 0 = .ok (.aload_n 0, 1) := by decide +kernel
theorem dX3_endClause_1 : decode cX3_endClause 1 = .ok (.getfield 28, 3) := by decide +kernel
theorem dX3_endClause_4 : decode cX3_endClause 4 = .ok (.bipush 12, 2) := by decide +kernel
theorem dX3_endClause_6 : decode cX3_endClause 6 = .ok (.if_icmp .ge 26, 3) := by decide +kernel
theorem dX3_endClause_9 : decode cX3_endClause 9 = .ok (.aload_n 0, 1) := by decide +kernel
theorem dX3_endClause_10 : decode cX3_endClause 10 = .ok (.dup, 1) := by decide +kernel
theorem dX3_endClause_11 : decode cX3_endClause 11 = .ok (.getfield 28, 3) := by decide +kernel
theorem dX3_endClause_14 : decode cX3_endClause 14 = .ok (.iconst 1, 1) := by decide +kernel
theorem dX3_endClause_15 : decode cX3_endClause 15 = .ok (.iadd, 1) := by decide +kernel
theorem dX3_endClause_16 : decode cX3_endClause 16 = .ok (.putfield 28, 3) := by decide +kernel
theorem dX3_endClause_19 : decode cX3_endClause 19 = .ok (.aload_n 0, 1) := by decide +kernel
theorem dX3_endClause_20 : decode cX3_endClause 20 = .ok (.getfield 15, 3) := by decide +kernel
theorem dX3_endClause_23 : decode cX3_endClause 23 = .ok (.aload_n 0, 1) := by decide +kernel
theorem dX3_endClause_24 : decode cX3_endClause 24 = .ok (.getfield 28, 3) := by decide +kernel
theorem dX3_endClause_27 : decode cX3_endClause 27 = .ok (.aload_n 0, 1) := by decide +kernel
theorem dX3_endClause_28 : decode cX3_endClause 28 = .ok (.getfield 24, 3) := by decide +kernel
theorem dX3_endClause_31 : decode cX3_endClause 31 = .ok (.iastore, 1) := by decide +kernel
theorem dX3_endClause_32 : decode cX3_endClause 32 = .ok (.return_, 1) := by decide +kernel
theorem dX3_run_0 : decode cX3_run 0 = .ok (.iconst 0, 1) := by decide +kernel
theorem dX3_run_1 : decode cX3_run 1 = .ok (.istore 4, 2) := by decide +kernel
theorem dX3_run_3 : decode cX3_run 3 = .ok (.aload_n 0, 1) := by decide +kernel
theorem dX3_run_4 : decode cX3_run 4 = .ok (.iconst 0, 1) := by decide +kernel
theorem dX3_run_5 : decode cX3_run 5 = .ok (.putfield 31, 3) := by decide +kernel
theorem dX3_run_8 : decode cX3_run 8 = .ok (.aload_n 0, 1) := by decide +kernel
theorem dX3_run_9 : decode cX3_run 9 = .ok (.iconst 0, 1) := by decide +kernel
theorem dX3_run_10 : decode cX3_run 10 = .ok (.putfield 35, 3) := by decide +kernel
theorem dX3_run_13 : decode cX3_run 13 = .ok (.iload_n 1, 1) := by decide +kernel
theorem dX3_run_14 : decode cX3_run 14 = .ok (.istore 5, 2) := by decide +kernel
theorem dX3_run_16 : decode cX3_run 16 = .ok (.iload 5, 2) := by decide +kernel
theorem dX3_run_18 : decode cX3_run 18 = .ok (.iload_n 2, 1) := by decide +kernel
theorem dX3_run_19 : decode cX3_run 19 = .ok (.if_icmp .ge 285, 3) := by decide +kernel
theorem dX3_run_22 : decode cX3_run 22 = .ok (.aload_n 0, 1) := by decide +kernel
theorem dX3_run_23 : decode cX3_run 23 = .ok (.getfield 9, 3) := by decide +kernel
theorem dX3_run_26 : decode cX3_run 26 = .ok (.iload 5, 2) := by decide +kernel
theorem dX3_run_28 : decode cX3_run 28 = .ok (.iaload, 1) := by decide +kernel
theorem dX3_run_29 : decode cX3_run 29 = .ok (.bipush 15, 2) := by decide +kernel
theorem dX3_run_31 : decode cX3_run 31 = .ok (.iand, 1) := by decide +kernel
theorem dX3_run_32 : decode cX3_run 32 = .ok (.istore 6, 2) := by decide +kernel
theorem dX3_run_34 : decode cX3_run 34 = .ok (.aload_n 0, 1) := by decide +kernel
theorem dX3_run_35 : decode cX3_run 35 = .ok (.getfield 9, 3) := by decide +kernel
theorem dX3_run_38 : decode cX3_run 38 = .ok (.iload 5, 2) := by decide +kernel
theorem dX3_run_40 : decode cX3_run 40 = .ok (.iaload, 1) := by decide +kernel
theorem dX3_run_41 : decode cX3_run 41 = .ok (.iconst 4, 1) := by decide +kernel
theorem dX3_run_42 : decode cX3_run 42 = .ok (.ishr, 1) := by decide +kernel
theorem dX3_run_43 : decode cX3_run 43 = .ok (.istore 7, 2) := by decide +kernel
theorem dX3_run_45 : decode cX3_run 45 = .ok (.iload 6, 2) := by decide +kernel
theorem dX3_run_47 : decode cX3_run 47 = .ok (.iconst 1, 1) := by decide +kernel
theorem dX3_run_48 : decode cX3_run 48 = .ok (.if_icmp .gt 37, 3) := by decide +kernel
theorem dX3_run_51 : decode cX3_run 51 = .ok (.iload 4, 2) := by decide +kernel
theorem dX3_run_53 : decode cX3_run 53 = .ok (.bipush 20, 2) := by decide +kernel
theorem dX3_run_55 : decode cX3_run 55 = .ok (.if_icmp .ge 243, 3) := by decide +kernel
theorem dX3_run_58 : decode cX3_run 58 = .ok (.aload_n 0, 1) := by decide +kernel
theorem dX3_run_59 : decode cX3_run 59 = .ok (.getfield 21, 3) := by decide +kernel
theorem dX3_run_62 : decode cX3_run 62 = .ok (.iload 4, 2) := by decide +kernel
theorem dX3_run_64 : decode cX3_run 64 = .ok (.iload 6, 2) := by decide +kernel
theorem dX3_run_66 : decode cX3_run 66 = .ok (.ifCond .ne 8, 3) := by decide +kernel
theorem dX3_run_69 : decode cX3_run 69 = .ok (.iload 7, 2) := by decide +kernel
theorem dX3_run_71 : decode cX3_run 71 = .ok (.goto 7, 3) := by decide +kernel
theorem dX3_run_74 : decode cX3_run 74 = .ok (.aload_n 3, 1) := by decide +kernel
theorem dX3_run_75 : decode cX3_run 75 = .ok (.iload 7, 2) := by decide +kernel
theorem dX3_run_77 : decode cX3_run 77 = .ok (.iaload, 1) := by decide +kernel
theorem dX3_run_78 : decode cX3_run 78 = .ok (.iastore, 1) := by decide +kernel
theorem dX3_run_79 : decode cX3_run 79 = .ok (.iinc 4 1, 3) := by decide +kernel
theorem dX3_run_82 : decode cX3_run 82 = .ok (.goto 216, 3) := by decide +kernel
theorem dX3_run_85 : decode cX3_run 85 = .ok (.iload 6, 2) := by decide +kernel
theorem dX3_run_87 : decode cX3_run 87 = .ok (.bipush 10, 2) := by decide +kernel
theorem dX3_run_89 : decode cX3_run 89 = .ok (.if_icmp .lt 62, 3) := by decide +kernel
theorem dX3_run_92 : decode cX3_run 92 = .ok (.iload 6, 2) := by decide +kernel
theorem dX3_run_94 : decode cX3_run 94 = .ok (.bipush 10, 2) := by decide +kernel
theorem dX3_run_96 : decode cX3_run 96 = .ok (.if_icmp .ne 22, 3) := by decide +kernel
theorem dX3_run_99 : decode cX3_run 99 = .ok (.aload_n 0, 1) := by decide +kernel
theorem dX3_run_100 : decode cX3_run 100 = .ok (.aload_n 0, 1) := by decide +kernel
theorem dX3_run_101 : decode cX3_run 101 = .ok (.getfield 35, 3) := by decide +kernel
theorem dX3_run_104 : decode cX3_run 104 = .ok (.ifCond .ne 7, 3) := by decide +kernel
theorem dX3_run_107 : decode cX3_run 107 = .ok (.iconst 1, 1) := by decide +kernel
theorem dX3_run_108 : decode cX3_run 108 = .ok (.goto 4, 3) := by decide +kernel
theorem dX3_run_111 : decode cX3_run 111 = .ok (.iconst 0, 1) := by decide +kernel
theorem dX3_run_112 : decode cX3_run 112 = .ok (.putfield 35, 3) := by decide +kernel
theorem dX3_run_115 : decode cX3_run 115 = .ok (.goto 183, 3) := by decide +kernel
theorem dX3_run_118 : decode cX3_run 118 = .ok (.aload_n 0, 1) := by decide +kernel
theorem dX3_run_119 : decode cX3_run 119 = .ok (.getfield 35, 3) := by decide +kernel
theorem dX3_run_122 : decode cX3_run 122 = .ok (.iload 6, 2) := by decide +kernel
theorem dX3_run_124 : decode cX3_run 124 = .ok (.bipush 11, 2) := by decide +kernel
theorem dX3_run_126 : decode cX3_run 126 = .ok (.if_icmp .ne 7, 3) := by decide +kernel
theorem dX3_run_129 : decode cX3_run 129 = .ok (.iconst 1, 1) := by decide +kernel
theorem dX3_run_130 : decode cX3_run 130 = .ok (.goto 4, 3) := by decide +kernel
theorem dX3_run_133 : decode cX3_run 133 = .ok (.iconst 0, 1) := by decide +kernel
theorem dX3_run_134 : decode cX3_run 134 = .ok (.if_icmp .ne 164, 3) := by decide +kernel
theorem dX3_run_137 : decode cX3_run 137 = .ok (.iload 5, 2) := by decide +kernel
theorem dX3_run_139 : decode cX3_run 139 = .ok (.iload 7, 2) := by decide +kernel
theorem dX3_run_141 : decode cX3_run 141 = .ok (.iconst 1, 1) := by decide +kernel
theorem dX3_run_142 : decode cX3_run 142 = .ok (.isub, 1) := by decide +kernel
theorem dX3_run_143 : decode cX3_run 143 = .ok (.invokestatic 38, 3) := by decide +kernel
theorem dX3_run_146 : decode cX3_run 146 = .ok (.istore 5, 2) := by decide +kernel
theorem dX3_run_148 : decode cX3_run 148 = .ok (.goto 150, 3) := by decide +kernel
theorem dX3_run_151 : decode cX3_run 151 = .ok (.iload 4, 2) := by decide +kernel
theorem dX3_run_153 : decode cX3_run 153 = .ok (.iconst 2, 1) := by decide +kernel
theorem dX3_run_154 : decode cX3_run 154 = .ok (.if_icmp .lt 144, 3) := by decide +kernel
theorem dX3_run_157 : decode cX3_run 157 = .ok (.aload_n 0, 1) := by decide +kernel
theorem dX3_run_158 : decode cX3_run 158 = .ok (.getfield 21, 3) := by decide +kernel
theorem dX3_run_161 : decode cX3_run 161 = .ok (.iload 4, 2) := by decide +kernel
theorem dX3_run_163 : decode cX3_run 163 = .ok (.iconst 1, 1) := by decide +kernel
theorem dX3_run_164 : decode cX3_run 164 = .ok (.isub, 1) := by decide +kernel
theorem dX3_run_165 : decode cX3_run 165 = .ok (.iaload, 1) := by decide +kernel
theorem dX3_run_166 : decode cX3_run 166 = .ok (.istore 8, 2) := by decide +kernel
theorem dX3_run_168 : decode cX3_run 168 = .ok (.aload_n 0, 1) := by decide +kernel
theorem dX3_run_169 : decode cX3_run 169 = .ok (.getfield 21, 3) := by decide +kernel
theorem dX3_run_172 : decode cX3_run 172 = .ok (.iload 4, 2) := by decide +kernel
theorem dX3_run_174 : decode cX3_run 174 = .ok (.iconst 2, 1) := by decide +kernel
theorem dX3_run_175 : decode cX3_run 175 = .ok (.isub, 1) := by decide +kernel
theorem dX3_run_176 : decode cX3_run 176 = .ok (.iaload, 1) := by decide +kernel
theorem dX3_run_177 : decode cX3_run 177 = .ok (.istore 9, 2) := by decide +kernel
theorem dX3_run_179 : decode cX3_run 179 = .ok (.iload 8, 2) := by decide +kernel
theorem dX3_run_181 : decode cX3_run 181 = .ok (.ifCond .ne 23, 3) := by decide +kernel
theorem dX3_run_184 : decode cX3_run 184 = .ok (.iload 6, 2) := by decide +kernel
theorem dX3_run_186 : decode cX3_run 186 = .ok (.iconst 5, 1) := by decide +kernel
theorem dX3_run_187 : decode cX3_run 187 = .ok (.if_icmp .eq 10, 3) := by decide +kernel
theorem dX3_run_190 : decode cX3_run 190 = .ok (.iload 6, 2) := by decide +kernel
theorem dX3_run_192 : decode cX3_run 192 = .ok (.bipush 6, 2) := by decide +kernel
theorem dX3_run_194 : decode cX3_run 194 = .ok (.if_icmp .ne 10, 3) := by decide +kernel
theorem dX3_run_197 : decode cX3_run 197 = .ok (.aload_n 0, 1) := by decide +kernel
theorem dX3_run_198 : decode cX3_run 198 = .ok (.iconst 1, 1) := by decide +kernel
theorem dX3_run_199 : decode cX3_run 199 = .ok (.putfield 31, 3) := by decide +kernel
theorem dX3_run_202 : decode cX3_run 202 = .ok (.iconst 0, 1) := by decide +kernel
theorem dX3_run_203 : decode cX3_run 203 = .ok (.ireturn, 1) := by decide +kernel
theorem dX3_run_204 : decode cX3_run 204 = .ok (.iload 6, 2) := by decide +kernel
theorem dX3_run_206 : decode cX3_run 206 = .ok (.bipush 7, 2) := by decide +kernel
theorem dX3_run_208 : decode cX3_run 208 = .ok (.if_icmp .lt 69, 3) := by decide +kernel
theorem dX3_run_211 : decode cX3_run 211 = .ok (.aload_n 0, 1) := by decide +kernel
theorem dX3_run_212 : decode cX3_run 212 = .ok (.iload 6, 2) := by decide +kernel
theorem dX3_run_214 : decode cX3_run 214 = .ok (.bipush 7, 2) := by decide +kernel
theorem dX3_run_216 : decode cX3_run 216 = .ok (.if_icmp .ne 18, 3) := by decide +kernel
theorem dX3_run_219 : decode cX3_run 219 = .ok (.iload 9, 2) := by decide +kernel
theorem dX3_run_221 : decode cX3_run 221 = .ok (.iload 8, 2) := by decide +kernel
theorem dX3_run_223 : decode cX3_run 223 = .ok (.if_icmp .ge 7, 3) := by decide +kernel
theorem dX3_run_226 : decode cX3_run 226 = .ok (.iconst 1, 1) := by decide +kernel
theorem dX3_run_227 : decode cX3_run 227 = .ok (.goto 41, 3) := by decide +kernel
theorem dX3_run_230 : decode cX3_run 230 = .ok (.iconst 0, 1) := by decide +kernel
theorem dX3_run_231 : decode cX3_run 231 = .ok (.goto 37, 3) := by decide +kernel
theorem dX3_run_234 : decode cX3_run 234 = .ok (.iload 6, 2) := by decide +kernel
theorem dX3_run_236 : decode cX3_run 236 = .ok (.bipush 8, 2) := by decide +kernel
theorem dX3_run_238 : decode cX3_run 238 = .ok (.if_icmp .ne 18, 3) := by decide +kernel
theorem dX3_run_241 : decode cX3_run 241 = .ok (.iload 9, 2) := by decide +kernel
theorem dX3_run_243 : decode cX3_run 243 = .ok (.iload 8, 2) := by decide +kernel
theorem dX3_run_245 : decode cX3_run 245 = .ok (.if_icmp .le 7, 3) := by decide +kernel
theorem dX3_run_248 : decode cX3_run 248 = .ok (.iconst 1, 1) := by decide +kernel
theorem dX3_run_249 : decode cX3_run 249 = .ok (.goto 19, 3) := by decide +kernel
theorem dX3_run_252 : decode cX3_run 252 = .ok (.iconst 0, 1) := by decide +kernel
theorem dX3_run_253 : decode cX3_run 253 = .ok (.goto 15, 3) := by decide +kernel
theorem dX3_run_256 : decode cX3_run 256 = .ok (.iload 9, 2) := by decide +kernel
theorem dX3_run_258 : decode cX3_run 258 = .ok (.iload 8, 2) := by decide +kernel
theorem dX3_run_260 : decode cX3_run 260 = .ok (.if_icmp .ne 7, 3) := by decide +kernel
theorem dX3_run_263 : decode cX3_run 263 = .ok (.iconst 1, 1) := by decide +kernel
theorem dX3_run_264 : decode cX3_run 264 = .ok (.goto 4, 3) := by decide +kernel
theorem dX3_run_267 : decode cX3_run 267 = .ok (.iconst 0, 1) := by decide +kernel
theorem dX3_run_268 : decode cX3_run 268 = .ok (.putfield 35, 3) := by decide +kernel
theorem dX3_run_271 : decode cX3_run 271 = .ok (.iinc 4 (-2), 3) := by decide +kernel
theorem dX3_run_274 : decode cX3_run 274 = .ok (.goto 24, 3) := by decide +kernel
theorem dX3_run_277 : decode cX3_run 277 = .ok (.aload_n 0, 1) := by decide +kernel
theorem dX3_run_278 : decode cX3_run 278 = .ok (.getfield 21, 3) := by decide +kernel
theorem dX3_run_281 : decode cX3_run 281 = .ok (.iload 4, 2) := by decide +kernel
theorem dX3_run_283 : decode cX3_run 283 = .ok (.iconst 2, 1) := by decide +kernel
theorem dX3_run_284 : decode cX3_run 284 = .ok (.isub, 1) := by decide +kernel
theorem dX3_run_285 : decode cX3_run 285 = .ok (.iload 6, 2) := by decide +kernel
theorem dX3_run_287 : decode cX3_run 287 = .ok (.iload 9, 2) := by decide +kernel
theorem dX3_run_289 : decode cX3_run 289 = .ok (.iload 8, 2) := by decide +kernel
theorem dX3_run_291 : decode cX3_run 291 = .ok (.invokestatic 44, 3) := by decide +kernel
theorem dX3_run_294 : decode cX3_run 294 = .ok (.iastore, 1) := by decide +kernel
theorem dX3_run_295 : decode cX3_run 295 = .ok (.iinc 4 (-1), 3) := by decide +kernel
theorem dX3_run_298 : decode cX3_run 298 = .ok (.iinc 5 1, 3) := by decide +kernel
theorem dX3_run_301 : decode cX3_run 301 = .ok (.goto (-285), 3) := by decide +kernel
theorem dX3_run_304 : decode cX3_run 304 = .ok (.iload 4, 2) := by decide +kernel
theorem dX3_run_306 : decode cX3_run 306 = .ok (.ifCond .le 15, 3) := by decide +kernel
theorem dX3_run_309 : decode cX3_run 309 = .ok (.aload_n 0, 1) := by decide +kernel
theorem dX3_run_310 : decode cX3_run 310 = .ok (.getfield 21, 3) := by decide +kernel
theorem dX3_run_313 : decode cX3_run 313 = .ok (.iload 4, 2) := by decide +kernel
theorem dX3_run_315 : decode cX3_run 315 = .ok (.iconst 1, 1) := by decide +kernel
theorem dX3_run_316 : decode cX3_run 316 = .ok (.isub, 1) := by decide +kernel
theorem dX3_run_317 : decode cX3_run 317 = .ok (.iaload, 1) := by decide +kernel
theorem dX3_run_318 : decode cX3_run 318 = .ok (.goto 4, 3) := by decide +kernel
theorem dX3_run_321 : decode cX3_run 321 = .ok (.iconst 0, 1) := by decide +kernel
theorem dX3_run_322 : decode cX3_run 322 = .ok (.ireturn, 1) := by decide +kernel
theorem dX3_reckon_0 : decode cX3_reckon 0 = .ok (.iload_n 0, 1) := by decide +kernel
theorem dX3_reckon_1 : decode cX3_reckon 1 = .ok (.tableswitch 55 2 5 #[31, 35, 39, 43], 31) := by decide +kernel
theorem dX3_reckon_32 : decode cX3_reckon 32 = .ok (.iload_n 1, 1) := by decide +kernel
theorem dX3_reckon_33 : decode cX3_reckon 33 = .ok (.iload_n 2, 1) := by decide +kernel
theorem dX3_reckon_34 : decode cX3_reckon 34 = .ok (.iadd, 1) := by decide +kernel
theorem dX3_reckon_35 : decode cX3_reckon 35 = .ok (.ireturn, 1) := by decide +kernel
theorem dX3_reckon_36 : decode cX3_reckon 36 = .ok (.iload_n 1, 1) := by decide +kernel
theorem dX3_reckon_37 : decode cX3_reckon 37 = .ok (.iload_n 2, 1) := by decide +kernel
theorem dX3_reckon_38 : decode cX3_reckon 38 = .ok (.isub, 1) := by decide +kernel
theorem dX3_reckon_39 : decode cX3_reckon 39 = .ok (.ireturn, 1) := by decide +kernel
theorem dX3_reckon_40 : decode cX3_reckon 40 = .ok (.iload_n 1, 1) := by decide +kernel
theorem dX3_reckon_41 : decode cX3_reckon 41 = .ok (.iload_n 2, 1) := by decide +kernel
theorem dX3_reckon_42 : decode cX3_reckon 42 = .ok (.imul, 1) := by decide +kernel
theorem dX3_reckon_43 : decode cX3_reckon 43 = .ok (.ireturn, 1) := by decide +kernel
theorem dX3_reckon_44 : decode cX3_reckon 44 = .ok (.iload_n 2, 1) := by decide +kernel
theorem dX3_reckon_45 : decode cX3_reckon 45 = .ok (.ifCond .ne 7, 3) := by decide +kernel
theorem dX3_reckon_48 : decode cX3_reckon 48 = .ok (.iconst 0, 1) := by decide +kernel
theorem dX3_reckon_49 : decode cX3_reckon 49 = .ok (.goto 6, 3) := by decide +kernel
theorem dX3_reckon_52 : decode cX3_reckon 52 = .ok (.iload_n 1, 1) := by decide +kernel
theorem dX3_reckon_53 : decode cX3_reckon 53 = .ok (.iload_n 2, 1) := by decide +kernel
theorem dX3_reckon_54 : decode cX3_reckon 54 = .ok (.idiv, 1) := by decide +kernel
theorem dX3_reckon_55 : decode cX3_reckon 55 = .ok (.ireturn, 1) := by decide +kernel
theorem dX3_reckon_56 : decode cX3_reckon 56 = .ok (.iload_n 2, 1) := by decide +kernel
theorem dX3_reckon_57 : decode cX3_reckon 57 = .ok (.ifCond .ne 7, 3) := by decide +kernel
theorem dX3_reckon_60 : decode cX3_reckon 60 = .ok (.iconst 0, 1) := by decide +kernel
theorem dX3_reckon_61 : decode cX3_reckon 61 = .ok (.goto 6, 3) := by decide +kernel
theorem dX3_reckon_64 : decode cX3_reckon 64 = .ok (.iload_n 1, 1) := by decide +kernel
theorem dX3_reckon_65 : decode cX3_reckon 65 = .ok (.iload_n 2, 1) := by decide +kernel
theorem dX3_reckon_66 : decode cX3_reckon 66 = .ok (.irem, 1) := by decide +kernel
theorem dX3_reckon_67 : decode cX3_reckon 67 = .ok (.ireturn, 1) := by decide +kernel
theorem dX4_init_0 : decode cX4_init 0 = .ok (.aload_n 0, 1) := by decide +kernel
theorem dX4_init_1 : decode cX4_init 1 = .ok (.invokespecial 3, 3) := by decide +kernel
theorem dX4_init_4 : decode cX4_init 4 = .ok (.aload_n 0, 1) := by decide +kernel
theorem dX4_init_5 : decode cX4_init 5 = .ok (.sipush 160, 3) := by decide +kernel
theorem dX4_init_8 : decode cX4_init 8 = .ok (.newarray .int, 2) := by decide +kernel
theorem dX4_init_10 : decode cX4_init 10 = .ok (.putfield 9, 3) := by decide +kernel
theorem dX4_init_13 : decode cX4_init 13 = .ok (.return_, 1) := by decide +kernel
theorem dX4_read_0 : decode cX4_read 0 = .ok (.aload_n 0, 1) := by decide +kernel
theorem dX4_read_1 : decode cX4_read 1 = .ok (.aload_n 3, 1) := by decide +kernel
theorem dX4_read_2 : decode cX4_read 2 = .ok (.putfield 15, 3) := by decide +kernel
theorem dX4_read_5 : decode cX4_read 5 = .ok (.aload_n 0, 1) := by decide +kernel
theorem dX4_read_6 : decode cX4_read 6 = .ok (.getfield 15, 3) := by decide +kernel
theorem dX4_read_9 : decode cX4_read 9 = .ok (.invokevirtual 19, 3) := by decide +kernel
theorem dX4_read_12 : decode cX4_read 12 = .ok (.aload_n 0, 1) := by decide +kernel
theorem dX4_read_13 : decode cX4_read 13 = .ok (.iload_n 2, 1) := by decide +kernel
theorem dX4_read_14 : decode cX4_read 14 = .ok (.aload_n 0, 1) := by decide +kernel
theorem dX4_read_15 : decode cX4_read 15 = .ok (.getfield 9, 3) := by decide +kernel
theorem dX4_read_18 : decode cX4_read 18 = .ok (.arraylength, 1) := by decide +kernel
theorem dX4_read_19 : decode cX4_read 19 = .ok (.invokestatic 24, 3) := by decide +kernel
theorem dX4_read_22 : decode cX4_read 22 = .ok (.putfield 30, 3) := by decide +kernel
theorem dX4_read_25 : decode cX4_read 25 = .ok (.iconst 0, 1) := by decide +kernel
theorem dX4_read_26 : decode cX4_read 26 = .ok (.istore 4, 2) := by decide +kernel
theorem dX4_read_28 : decode cX4_read 28 = .ok (.iload 4, 2) := by decide +kernel
theorem dX4_read_30 : decode cX4_read 30 = .ok (.aload_n 0, 1) := by decide +kernel
theorem dX4_read_31 : decode cX4_read 31 = .ok (.getfield 30, 3) := by decide +kernel
theorem dX4_read_34 : decode cX4_read 34 = .ok (.if_icmp .ge 22, 3) := by decide +kernel
theorem dX4_read_37 : decode cX4_read 37 = .ok (.aload_n 0, 1) := by decide +kernel
theorem dX4_read_38 : decode cX4_read 38 = .ok (.getfield 9, 3) := by decide +kernel
theorem dX4_read_41 : decode cX4_read 41 = .ok (.iload 4, 2) := by decide +kernel
theorem dX4_read_43 : decode cX4_read 43 = .ok (.aload_n 1, 1) := by decide +kernel
theorem dX4_read_44 : decode cX4_read 44 = .ok (.iload 4, 2) := by decide +kernel
theorem dX4_read_46 : decode cX4_read 46 = .ok (.invokevirtual 34, 3) := by decide +kernel
theorem dX4_read_49 : decode cX4_read 49 = .ok (.iastore, 1) := by decide +kernel
theorem dX4_read_50 : decode cX4_read 50 = .ok (.iinc 4 1, 3) := by decide +kernel
theorem dX4_read_53 : decode cX4_read 53 = .ok (.goto (-25), 3) := by decide +kernel
theorem dX4_read_56 : decode cX4_read 56 = .ok (.aload_n 0, 1) := by decide +kernel
theorem dX4_read_57 : decode cX4_read 57 = .ok (.iconst 0, 1) := by decide +kernel
theorem dX4_read_58 : decode cX4_read 58 = .ok (.putfield 40, 3) := by decide +kernel
theorem dX4_read_61 : decode cX4_read 61 = .ok (.aload_n 0, 1) := by decide +kernel
theorem dX4_read_62 : decode cX4_read 62 = .ok (.iconst 0, 1) := by decide +kernel
theorem dX4_read_63 : decode cX4_read 63 = .ok (.putfield 42, 3) := by decide +kernel
theorem dX4_read_66 : decode cX4_read 66 = .ok (.iconst 1, 1) := by decide +kernel
theorem dX4_read_67 : decode cX4_read 67 = .ok (.istore 4, 2) := by decide +kernel
theorem dX4_read_69 : decode cX4_read 69 = .ok (.iconst 0, 1) := by decide +kernel
theorem dX4_read_70 : decode cX4_read 70 = .ok (.istore 5, 2) := by decide +kernel
theorem dX4_read_72 : decode cX4_read 72 = .ok (.iload 4, 2) := by decide +kernel
theorem dX4_read_74 : decode cX4_read 74 = .ok (.ifCond .eq 94, 3) := by decide +kernel
theorem dX4_read_77 : decode cX4_read 77 = .ok (.iload 5, 2) := by decide +kernel
theorem dX4_read_79 : decode cX4_read 79 = .ok (.bipush 12, 2) := by decide +kernel
theorem dX4_read_81 : decode cX4_read 81 = .ok (.if_icmp .ge 87, 3) := by decide +kernel
theorem dX4_read_84 : decode cX4_read 84 = .ok (.aload_n 0, 1) := by decide +kernel
theorem dX4_read_85 : decode cX4_read 85 = .ok (.bipush 118, 2) := by decide +kernel
theorem dX4_read_87 : decode cX4_read 87 = .ok (.invokevirtual 45, 3) := by decide +kernel
theorem dX4_read_90 : decode cX4_read 90 = .ok (.aload_n 0, 1) := by decide +kernel
theorem dX4_read_91 : decode cX4_read 91 = .ok (.iconst 0, 1) := by decide +kernel
theorem dX4_read_92 : decode cX4_read 92 = .ok (.invokevirtual 49, 3) := by decide +kernel
theorem dX4_read_95 : decode cX4_read 95 = .ok (.aload_n 0, 1) := by decide +kernel
theorem dX4_read_96 : decode cX4_read 96 = .ok (.getfield 15, 3) := by decide +kernel
theorem dX4_read_99 : decode cX4_read 99 = .ok (.invokevirtual 53, 3) := by decide +kernel
theorem dX4_read_102 : decode cX4_read 102 = .ok (.aload_n 0, 1) := by decide +kernel
theorem dX4_read_103 : decode cX4_read 103 = .ok (.bipush 40, 2) := by decide +kernel
theorem dX4_read_105 : decode cX4_read 105 = .ok (.invokevirtual 45, 3) := by decide +kernel
theorem dX4_read_108 : decode cX4_read 108 = .ok (.aload_n 0, 1) := by decide +kernel
theorem dX4_read_109 : decode cX4_read 109 = .ok (.iconst 1, 1) := by decide +kernel
theorem dX4_read_110 : decode cX4_read 110 = .ok (.invokevirtual 56, 3) := by decide +kernel
theorem dX4_read_113 : decode cX4_read 113 = .ok (.aload_n 0, 1) := by decide +kernel
theorem dX4_read_114 : decode cX4_read 114 = .ok (.bipush 41, 2) := by decide +kernel
theorem dX4_read_116 : decode cX4_read 116 = .ok (.invokevirtual 45, 3) := by decide +kernel
theorem dX4_read_119 : decode cX4_read 119 = .ok (.aload_n 0, 1) := by decide +kernel
theorem dX4_read_120 : decode cX4_read 120 = .ok (.getfield 15, 3) := by decide +kernel
theorem dX4_read_123 : decode cX4_read 123 = .ok (.invokevirtual 59, 3) := by decide +kernel
theorem dX4_read_126 : decode cX4_read 126 = .ok (.aload_n 0, 1) := by decide +kernel
theorem dX4_read_127 : decode cX4_read 127 = .ok (.getfield 42, 3) := by decide +kernel
theorem dX4_read_130 : decode cX4_read 130 = .ok (.ifCond .ne 18, 3) := by decide +kernel
theorem dX4_read_133 : decode cX4_read 133 = .ok (.aload_n 0, 1) := by decide +kernel
theorem dX4_read_134 : decode cX4_read 134 = .ok (.getfield 40, 3) := by decide +kernel
theorem dX4_read_137 : decode cX4_read 137 = .ok (.aload_n 0, 1) := by decide +kernel
theorem dX4_read_138 : decode cX4_read 138 = .ok (.getfield 30, 3) := by decide +kernel
theorem dX4_read_141 : decode cX4_read 141 = .ok (.if_icmp .ge 7, 3) := by decide +kernel
theorem dX4_read_144 : decode cX4_read 144 = .ok (.iconst 1, 1) := by decide +kernel
theorem dX4_read_145 : decode cX4_read 145 = .ok (.goto 4, 3) := by decide +kernel
theorem dX4_read_148 : decode cX4_read 148 = .ok (.iconst 0, 1) := by decide +kernel
theorem dX4_read_149 : decode cX4_read 149 = .ok (.istore 4, 2) := by decide +kernel
theorem dX4_read_151 : decode cX4_read 151 = .ok (.iload 4, 2) := by decide +kernel
theorem dX4_read_153 : decode cX4_read 153 = .ok (.ifCond .eq 9, 3) := by decide +kernel
theorem dX4_read_156 : decode cX4_read 156 = .ok (.aload_n 0, 1) := by decide +kernel
theorem dX4_read_157 : decode cX4_read 157 = .ok (.bipush 59, 2) := by decide +kernel
theorem dX4_read_159 : decode cX4_read 159 = .ok (.invokevirtual 45, 3) := by decide +kernel
theorem dX4_read_162 : decode cX4_read 162 = .ok (.iinc 5 1, 3) := by decide +kernel
theorem dX4_read_165 : decode cX4_read 165 = .ok (.goto (-93), 3) := by decide +kernel
theorem dX4_read_168 : decode cX4_read 168 = .ok (.iload 4, 2) := by decide +kernel
theorem dX4_read_170 : decode cX4_read 170 = .ok (.ifCond .eq 21, 3) := by decide +kernel
theorem dX4_read_173 : decode cX4_read 173 = .ok (.aload_n 0, 1) := by decide +kernel
theorem dX4_read_174 : decode cX4_read 174 = .ok (.aload_n 0, 1) := by decide +kernel
theorem dX4_read_175 : decode cX4_read 175 = .ok (.invokevirtual 62, 3) := by decide +kernel
theorem dX4_read_178 : decode cX4_read 178 = .ok (.bipush 118, 2) := by decide +kernel
theorem dX4_read_180 : decode cX4_read 180 = .ok (.if_icmp .ne 7, 3) := by decide +kernel
theorem dX4_read_183 : decode cX4_read 183 = .ok (.iconst 4, 1) := by decide +kernel
theorem dX4_read_184 : decode cX4_read 184 = .ok (.goto 4, 3) := by decide +kernel
theorem dX4_read_187 : decode cX4_read 187 = .ok (.iconst 1, 1) := by decide +kernel
theorem dX4_read_188 : decode cX4_read 188 = .ok (.invokevirtual 66, 3) := by decide +kernel
theorem dX4_read_191 : decode cX4_read 191 = .ok (.aload_n 0, 1) := by decide +kernel
theorem dX4_read_192 : decode cX4_read 192 = .ok (.getfield 42, 3) := by decide +kernel
theorem dX4_read_195 : decode cX4_read 195 = .ok (.ifCond .ne 13, 3) := by decide +kernel
theorem dX4_read_198 : decode cX4_read 198 = .ok (.aload_n 0, 1) := by decide +kernel
theorem dX4_read_199 : decode cX4_read 199 = .ok (.getfield 15, 3) := by decide +kernel
theorem dX4_read_202 : decode cX4_read 202 = .ok (.getfield 69, 3) := by decide +kernel
theorem dX4_read_205 : decode cX4_read 205 = .ok (.goto 16, 3) := by decide +kernel
theorem dX4_read_208 : decode cX4_read 208 = .ok (.sipush (-1000), 3) := by decide +kernel
theorem dX4_read_211 : decode cX4_read 211 = .ok (.aload_n 0, 1) := by decide +kernel
theorem dX4_read_212 : decode cX4_read 212 = .ok (.getfield 42, 3) := by decide +kernel
theorem dX4_read_215 : decode cX4_read 215 = .ok (.imul, 1) := by decide +kernel
theorem dX4_read_216 : decode cX4_read 216 = .ok (.aload_n 0, 1) := by decide +kernel
theorem dX4_read_217 : decode cX4_read 217 = .ok (.getfield 40, 3) := by decide +kernel
theorem dX4_read_220 : decode cX4_read 220 = .ok (.isub, 1) := by decide +kernel
theorem dX4_read_221 : decode cX4_read 221 = .ok (.ireturn, 1) := by decide +kernel
theorem dX4_readCondition_0 : decode cX4_readCondition 0 = .ok (.iconst (-1), 1) := by decide +kernel
theorem dX4_readCondition_1 : decode cX4_readCondition 1 = .ok (.istore_n 2, 1) := by decide +kernel
theorem dX4_readCondition_2 : decode cX4_readCondition 2 = .ok (.iconst (-1), 1) := by decide +kernel
theorem dX4_readCondition_3 : decode cX4_readCondition 3 = .ok (.istore_n 3, 1) := by decide +kernel
theorem dX4_readCondition_4 : decode cX4_readCondition 4 = .ok (.iconst 1, 1) := by decide +kernel
theorem dX4_readCondition_5 : decode cX4_readCondition 5 = .ok (.istore 4, 2) := by decide +kernel
theorem dX4_readCondition_7 : decode cX4_readCondition 7 = .ok (.iconst 0, 1) := by decide +kernel
theorem dX4_readCondition_8 : decode cX4_readCondition 8 = .ok (.istore 5, 2) := by decide +kernel
theorem dX4_readCondition_10 : decode cX4_readCondition 10 = .ok (.iload 4, 2) := by decide +kernel
theorem dX4_readCondition_12 : decode cX4_readCondition 12 = .ok (.ifCond .eq 93, 3) := by decide +kernel
theorem dX4_readCondition_15 : decode cX4_readCondition 15 = .ok (.iload 5, 2) := by decide +kernel
theorem dX4_readCondition_17 : decode cX4_readCondition 17 = .ok (.sipush 160, 3) := by decide +kernel
theorem dX4_readCondition_20 : decode cX4_readCondition 20 = .ok (.if_icmp .ge 85, 3) := by decide +kernel
theorem dX4_readCondition_23 : decode cX4_readCondition 23 = .ok (.aload_n 0, 1) := by decide +kernel
theorem dX4_readCondition_24 : decode cX4_readCondition 24 = .ok (.iload_n 1, 1) := by decide +kernel
theorem dX4_readCondition_25 : decode cX4_readCondition 25 = .ok (.invokevirtual 72, 3) := by decide +kernel
theorem dX4_readCondition_28 : decode cX4_readCondition 28 = .ok (.aload_n 0, 1) := by decide +kernel
theorem dX4_readCondition_29 : decode cX4_readCondition 29 = .ok (.getfield 15, 3) := by decide +kernel
theorem dX4_readCondition_32 : decode cX4_readCondition 32 = .ok (.iload_n 3, 1) := by decide +kernel
theorem dX4_readCondition_33 : decode cX4_readCondition 33 = .ok (.invokevirtual 75, 3) := by decide +kernel
theorem dX4_readCondition_36 : decode cX4_readCondition 36 = .ok (.iconst (-1), 1) := by decide +kernel
theorem dX4_readCondition_37 : decode cX4_readCondition 37 = .ok (.istore_n 3, 1) := by decide +kernel
theorem dX4_readCondition_38 : decode cX4_readCondition 38 = .ok (.aload_n 0, 1) := by decide +kernel
theorem dX4_readCondition_39 : decode cX4_readCondition 39 = .ok (.bipush 38, 2) := by decide +kernel
theorem dX4_readCondition_41 : decode cX4_readCondition 41 = .ok (.invokevirtual 78, 3) := by decide +kernel
theorem dX4_readCondition_44 : decode cX4_readCondition 44 = .ok (.istore 4, 2) := by decide +kernel
theorem dX4_readCondition_46 : decode cX4_readCondition 46 = .ok (.iload 4, 2) := by decide +kernel
theorem dX4_readCondition_48 : decode cX4_readCondition 48 = .ok (.ifCond .eq 17, 3) := by decide +kernel
theorem dX4_readCondition_51 : decode cX4_readCondition 51 = .ok (.aload_n 0, 1) := by decide +kernel
theorem dX4_readCondition_52 : decode cX4_readCondition 52 = .ok (.getfield 15, 3) := by decide +kernel
theorem dX4_readCondition_55 : decode cX4_readCondition 55 = .ok (.bipush 12, 2) := by decide +kernel
theorem dX4_readCondition_57 : decode cX4_readCondition 57 = .ok (.iconst 0, 1) := by decide +kernel
theorem dX4_readCondition_58 : decode cX4_readCondition 58 = .ok (.invokevirtual 82, 3) := by decide +kernel
theorem dX4_readCondition_61 : decode cX4_readCondition 61 = .ok (.istore_n 3, 1) := by decide +kernel
theorem dX4_readCondition_62 : decode cX4_readCondition 62 = .ok (.goto 37, 3) := by decide +kernel
theorem dX4_readCondition_65 : decode cX4_readCondition 65 = .ok (.aload_n 0, 1) := by decide +kernel
theorem dX4_readCondition_66 : decode cX4_readCondition 66 = .ok (.getfield 15, 3) := by decide +kernel
theorem dX4_readCondition_69 : decode cX4_readCondition 69 = .ok (.iload_n 2, 1) := by decide +kernel
theorem dX4_readCondition_70 : decode cX4_readCondition 70 = .ok (.invokevirtual 75, 3) := by decide +kernel
theorem dX4_readCondition_73 : decode cX4_readCondition 73 = .ok (.iconst (-1), 1) := by decide +kernel
theorem dX4_readCondition_74 : decode cX4_readCondition 74 = .ok (.istore_n 2, 1) := by decide +kernel
theorem dX4_readCondition_75 : decode cX4_readCondition 75 = .ok (.aload_n 0, 1) := by decide +kernel
theorem dX4_readCondition_76 : decode cX4_readCondition 76 = .ok (.bipush 124, 2) := by decide +kernel
theorem dX4_readCondition_78 : decode cX4_readCondition 78 = .ok (.invokevirtual 78, 3) := by decide +kernel
theorem dX4_readCondition_81 : decode cX4_readCondition 81 = .ok (.istore 4, 2) := by decide +kernel
theorem dX4_readCondition_83 : decode cX4_readCondition 83 = .ok (.iload 4, 2) := by decide +kernel
theorem dX4_readCondition_85 : decode cX4_readCondition 85 = .ok (.ifCond .eq 14, 3) := by decide +kernel
theorem dX4_readCondition_88 : decode cX4_readCondition 88 = .ok (.aload_n 0, 1) := by decide +kernel
theorem dX4_readCondition_89 : decode cX4_readCondition 89 = .ok (.getfield 15, 3) := by decide +kernel
theorem dX4_readCondition_92 : decode cX4_readCondition 92 = .ok (.bipush 11, 2) := by decide +kernel
theorem dX4_readCondition_94 : decode cX4_readCondition 94 = .ok (.iconst 0, 1) := by decide +kernel
theorem dX4_readCondition_95 : decode cX4_readCondition 95 = .ok (.invokevirtual 82, 3) := by decide +kernel
theorem dX4_readCondition_98 : decode cX4_readCondition 98 = .ok (.istore_n 2, 1) := by decide +kernel
theorem dX4_readCondition_99 : decode cX4_readCondition 99 = .ok (.iinc 5 1, 3) := by decide +kernel
theorem dX4_readCondition_102 : decode cX4_readCondition 102 = .ok (.goto (-92), 3) := by decide +kernel
theorem dX4_readCondition_105 : decode cX4_readCondition 105 = .ok (.return_, 1) := by decide +kernel
theorem dX4_readPiece_0 : decode cX4_readPiece 0 = .ok (.aload_n 0, 1) := by decide +kernel
theorem dX4_readPiece_1 : decode cX4_readPiece 1 = .ok (.invokevirtual 62, 3) := by decide +kernel
theorem dX4_readPiece_4 : decode cX4_readPiece 4 = .ok (.bipush 33, 2) := by decide +kernel
theorem dX4_readPiece_6 : decode cX4_readPiece 6 = .ok (.if_icmp .ne 32, 3) := by decide +kernel
theorem dX4_readPiece_9 : decode cX4_readPiece 9 = .ok (.aload_n 0, 1) := by decide +kernel
theorem dX4_readPiece_10 : decode cX4_readPiece 10 = .ok (.iload_n 1, 1) := by decide +kernel
theorem dX4_readPiece_11 : decode cX4_readPiece 11 = .ok (.invokevirtual 85, 3) := by decide +kernel
theorem dX4_readPiece_14 : decode cX4_readPiece 14 = .ok (.ifCond .eq 100, 3) := by decide +kernel
theorem dX4_readPiece_17 : decode cX4_readPiece 17 = .ok (.aload_n 0, 1) := by decide +kernel
theorem dX4_readPiece_18 : decode cX4_readPiece 18 = .ok (.iload_n 1, 1) := by decide +kernel
theorem dX4_readPiece_19 : decode cX4_readPiece 19 = .ok (.iconst 1, 1) := by decide +kernel
theorem dX4_readPiece_20 : decode cX4_readPiece 20 = .ok (.iadd, 1) := by decide +kernel
theorem dX4_readPiece_21 : decode cX4_readPiece 21 = .ok (.invokevirtual 72, 3) := by decide +kernel
theorem dX4_readPiece_24 : decode cX4_readPiece 24 = .ok (.aload_n 0, 1) := by decide +kernel
theorem dX4_readPiece_25 : decode cX4_readPiece 25 = .ok (.getfield 15, 3) := by decide +kernel
theorem dX4_readPiece_28 : decode cX4_readPiece 28 = .ok (.bipush 10, 2) := by decide +kernel
theorem dX4_readPiece_30 : decode cX4_readPiece 30 = .ok (.iconst 0, 1) := by decide +kernel
theorem dX4_readPiece_31 : decode cX4_readPiece 31 = .ok (.invokevirtual 82, 3) := by decide +kernel
theorem dX4_readPiece_34 : decode cX4_readPiece 34 = .ok (.pop, 1) := by decide +kernel
theorem dX4_readPiece_35 : decode cX4_readPiece 35 = .ok (.goto 79, 3) := by decide +kernel
theorem dX4_readPiece_38 : decode cX4_readPiece 38 = .ok (.aload_n 0, 1) := by decide +kernel
theorem dX4_readPiece_39 : decode cX4_readPiece 39 = .ok (.invokevirtual 62, 3) := by decide +kernel
theorem dX4_readPiece_42 : decode cX4_readPiece 42 = .ok (.bipush 40, 2) := by decide +kernel
theorem dX4_readPiece_44 : decode cX4_readPiece 44 = .ok (.if_icmp .ne 27, 3) := by decide +kernel
theorem dX4_readPiece_47 : decode cX4_readPiece 47 = .ok (.aload_n 0, 1) := by decide +kernel
theorem dX4_readPiece_48 : decode cX4_readPiece 48 = .ok (.iload_n 1, 1) := by decide +kernel
theorem dX4_readPiece_49 : decode cX4_readPiece 49 = .ok (.invokevirtual 85, 3) := by decide +kernel
theorem dX4_readPiece_52 : decode cX4_readPiece 52 = .ok (.ifCond .eq 62, 3) := by decide +kernel
theorem dX4_readPiece_55 : decode cX4_readPiece 55 = .ok (.aload_n 0, 1) := by decide +kernel
theorem dX4_readPiece_56 : decode cX4_readPiece 56 = .ok (.iload_n 1, 1) := by decide +kernel
theorem dX4_readPiece_57 : decode cX4_readPiece 57 = .ok (.iconst 1, 1) := by decide +kernel
theorem dX4_readPiece_58 : decode cX4_readPiece 58 = .ok (.iadd, 1) := by decide +kernel
theorem dX4_readPiece_59 : decode cX4_readPiece 59 = .ok (.invokevirtual 56, 3) := by decide +kernel
theorem dX4_readPiece_62 : decode cX4_readPiece 62 = .ok (.aload_n 0, 1) := by decide +kernel
theorem dX4_readPiece_63 : decode cX4_readPiece 63 = .ok (.bipush 41, 2) := by decide +kernel
theorem dX4_readPiece_65 : decode cX4_readPiece 65 = .ok (.invokevirtual 45, 3) := by decide +kernel
theorem dX4_readPiece_68 : decode cX4_readPiece 68 = .ok (.goto 46, 3) := by decide +kernel
theorem dX4_readPiece_71 : decode cX4_readPiece 71 = .ok (.aload_n 0, 1) := by decide +kernel
theorem dX4_readPiece_72 : decode cX4_readPiece 72 = .ok (.iload_n 1, 1) := by decide +kernel
theorem dX4_readPiece_73 : decode cX4_readPiece 73 = .ok (.invokevirtual 49, 3) := by decide +kernel
theorem dX4_readPiece_76 : decode cX4_readPiece 76 = .ok (.aload_n 0, 1) := by decide +kernel
theorem dX4_readPiece_77 : decode cX4_readPiece 77 = .ok (.bipush 60, 2) := by decide +kernel
theorem dX4_readPiece_79 : decode cX4_readPiece 79 = .ok (.bipush 62, 2) := by decide +kernel
theorem dX4_readPiece_81 : decode cX4_readPiece 81 = .ok (.bipush 61, 2) := by decide +kernel
theorem dX4_readPiece_83 : decode cX4_readPiece 83 = .ok (.bipush 7, 2) := by decide +kernel
theorem dX4_readPiece_85 : decode cX4_readPiece 85 = .ok (.invokevirtual 89, 3) := by decide +kernel
theorem dX4_readPiece_88 : decode cX4_readPiece 88 = .ok (.istore_n 2, 1) := by decide +kernel
theorem dX4_readPiece_89 : decode cX4_readPiece 89 = .ok (.iload_n 2, 1) := by decide +kernel
theorem dX4_readPiece_90 : decode cX4_readPiece 90 = .ok (.iconst (-1), 1) := by decide +kernel
theorem dX4_readPiece_91 : decode cX4_readPiece 91 = .ok (.if_icmp .ne 8, 3) := by decide +kernel
theorem dX4_readPiece_94 : decode cX4_readPiece 94 = .ok (.aload_n 0, 1) := by decide +kernel
theorem dX4_readPiece_95 : decode cX4_readPiece 95 = .ok (.iconst 1, 1) := by decide +kernel
theorem dX4_readPiece_96 : decode cX4_readPiece 96 = .ok (.invokevirtual 66, 3) := by decide +kernel
theorem dX4_readPiece_99 : decode cX4_readPiece 99 = .ok (.aload_n 0, 1) := by decide +kernel
theorem dX4_readPiece_100 : decode cX4_readPiece 100 = .ok (.iload_n 1, 1) := by decide +kernel
theorem dX4_readPiece_101 : decode cX4_readPiece 101 = .ok (.invokevirtual 49, 3) := by decide +kernel
theorem dX4_readPiece_104 : decode cX4_readPiece 104 = .ok (.aload_n 0, 1) := by decide +kernel
theorem dX4_readPiece_105 : decode cX4_readPiece 105 = .ok (.getfield 15, 3) := by decide +kernel
theorem dX4_readPiece_108 : decode cX4_readPiece 108 = .ok (.iload_n 2, 1) := by decide +kernel
theorem dX4_readPiece_109 : decode cX4_readPiece 109 = .ok (.iconst 0, 1) := by decide +kernel
theorem dX4_readPiece_110 : decode cX4_readPiece 110 = .ok (.invokevirtual 82, 3) := by decide +kernel
theorem dX4_readPiece_113 : decode cX4_readPiece 113 = .ok (.pop, 1) := by decide +kernel
theorem dX4_readPiece_114 : decode cX4_readPiece 114 = .ok (.return_, 1) := by decide +kernel
theorem dX4_readSum_0 : decode cX4_readSum 0 = .ok (.iconst (-1), 1) := by decide +kernel
theorem dX4_readSum_1 : decode cX4_readSum 1 = .ok (.istore_n 2, 1) := by decide +kernel
theorem dX4_readSum_2 : decode cX4_readSum 2 = .ok (.iconst 1, 1) := by decide +kernel
theorem dX4_readSum_3 : decode cX4_readSum 3 = .ok (.istore_n 3, 1) := by decide +kernel
theorem dX4_readSum_4 : decode cX4_readSum 4 = .ok (.iconst 0, 1) := by decide +kernel
theorem dX4_readSum_5 : decode cX4_readSum 5 = .ok (.istore 4, 2) := by decide +kernel
theorem dX4_readSum_7 : decode cX4_readSum 7 = .ok (.iload_n 3, 1) := by decide +kernel
theorem dX4_readSum_8 : decode cX4_readSum 8 = .ok (.ifCond .eq 125, 3) := by decide +kernel
theorem dX4_readSum_11 : decode cX4_readSum 11 = .ok (.iload 4, 2) := by decide +kernel
theorem dX4_readSum_13 : decode cX4_readSum 13 = .ok (.sipush 160, 3) := by decide +kernel
theorem dX4_readSum_16 : decode cX4_readSum 16 = .ok (.if_icmp .ge 117, 3) := by decide +kernel
theorem dX4_readSum_19 : decode cX4_readSum 19 = .ok (.aload_n 0, 1) := by decide +kernel
theorem dX4_readSum_20 : decode cX4_readSum 20 = .ok (.iload_n 1, 1) := by decide +kernel
theorem dX4_readSum_21 : decode cX4_readSum 21 = .ok (.invokevirtual 93, 3) := by decide +kernel
theorem dX4_readSum_24 : decode cX4_readSum 24 = .ok (.aload_n 0, 1) := by decide +kernel
theorem dX4_readSum_25 : decode cX4_readSum 25 = .ok (.bipush 42, 2) := by decide +kernel
theorem dX4_readSum_27 : decode cX4_readSum 27 = .ok (.bipush 47, 2) := by decide +kernel
theorem dX4_readSum_29 : decode cX4_readSum 29 = .ok (.bipush 37, 2) := by decide +kernel
theorem dX4_readSum_31 : decode cX4_readSum 31 = .ok (.iconst 4, 1) := by decide +kernel
theorem dX4_readSum_32 : decode cX4_readSum 32 = .ok (.invokevirtual 89, 3) := by decide +kernel
theorem dX4_readSum_35 : decode cX4_readSum 35 = .ok (.istore 5, 2) := by decide +kernel
theorem dX4_readSum_37 : decode cX4_readSum 37 = .ok (.iconst 0, 1) := by decide +kernel
theorem dX4_readSum_38 : decode cX4_readSum 38 = .ok (.istore 6, 2) := by decide +kernel
theorem dX4_readSum_40 : decode cX4_readSum 40 = .ok (.iload 5, 2) := by decide +kernel
theorem dX4_readSum_42 : decode cX4_readSum 42 = .ok (.iconst (-1), 1) := by decide +kernel
theorem dX4_readSum_43 : decode cX4_readSum 43 = .ok (.if_icmp .eq 46, 3) := by decide +kernel
theorem dX4_readSum_46 : decode cX4_readSum 46 = .ok (.iload 6, 2) := by decide +kernel
theorem dX4_readSum_48 : decode cX4_readSum 48 = .ok (.sipush 160, 3) := by decide +kernel
theorem dX4_readSum_51 : decode cX4_readSum 51 = .ok (.if_icmp .ge 38, 3) := by decide +kernel
theorem dX4_readSum_54 : decode cX4_readSum 54 = .ok (.aload_n 0, 1) := by decide +kernel
theorem dX4_readSum_55 : decode cX4_readSum 55 = .ok (.iload_n 1, 1) := by decide +kernel
theorem dX4_readSum_56 : decode cX4_readSum 56 = .ok (.invokevirtual 93, 3) := by decide +kernel
theorem dX4_readSum_59 : decode cX4_readSum 59 = .ok (.aload_n 0, 1) := by decide +kernel
theorem dX4_readSum_60 : decode cX4_readSum 60 = .ok (.getfield 15, 3) := by decide +kernel
theorem dX4_readSum_63 : decode cX4_readSum 63 = .ok (.iload 5, 2) := by decide +kernel
theorem dX4_readSum_65 : decode cX4_readSum 65 = .ok (.iconst 0, 1) := by decide +kernel
theorem dX4_readSum_66 : decode cX4_readSum 66 = .ok (.invokevirtual 82, 3) := by decide +kernel
theorem dX4_readSum_69 : decode cX4_readSum 69 = .ok (.pop, 1) := by decide +kernel
theorem dX4_readSum_70 : decode cX4_readSum 70 = .ok (.aload_n 0, 1) := by decide +kernel
theorem dX4_readSum_71 : decode cX4_readSum 71 = .ok (.bipush 42, 2) := by decide +kernel
theorem dX4_readSum_73 : decode cX4_readSum 73 = .ok (.bipush 47, 2) := by decide +kernel
theorem dX4_readSum_75 : decode cX4_readSum 75 = .ok (.bipush 37, 2) := by decide +kernel
theorem dX4_readSum_77 : decode cX4_readSum 77 = .ok (.iconst 4, 1) := by decide +kernel
theorem dX4_readSum_78 : decode cX4_readSum 78 = .ok (.invokevirtual 89, 3) := by decide +kernel
theorem dX4_readSum_81 : decode cX4_readSum 81 = .ok (.istore 5, 2) := by decide +kernel
theorem dX4_readSum_83 : decode cX4_readSum 83 = .ok (.iinc 6 1, 3) := by decide +kernel
theorem dX4_readSum_86 : decode cX4_readSum 86 = .ok (.goto (-46), 3) := by decide +kernel
theorem dX4_readSum_89 : decode cX4_readSum 89 = .ok (.iload_n 2, 1) := by decide +kernel
theorem dX4_readSum_90 : decode cX4_readSum 90 = .ok (.iconst (-1), 1) := by decide +kernel
theorem dX4_readSum_91 : decode cX4_readSum 91 = .ok (.if_icmp .eq 13, 3) := by decide +kernel
theorem dX4_readSum_94 : decode cX4_readSum 94 = .ok (.aload_n 0, 1) := by decide +kernel
theorem dX4_readSum_95 : decode cX4_readSum 95 = .ok (.getfield 15, 3) := by decide +kernel
theorem dX4_readSum_98 : decode cX4_readSum 98 = .ok (.iload_n 2, 1) := by decide +kernel
theorem dX4_readSum_99 : decode cX4_readSum 99 = .ok (.iconst 0, 1) := by decide +kernel
theorem dX4_readSum_100 : decode cX4_readSum 100 = .ok (.invokevirtual 82, 3) := by decide +kernel
theorem dX4_readSum_103 : decode cX4_readSum 103 = .ok (.pop, 1) := by decide +kernel
theorem dX4_readSum_104 : decode cX4_readSum 104 = .ok (.aload_n 0, 1) := by decide +kernel
theorem dX4_readSum_105 : decode cX4_readSum 105 = .ok (.bipush 43, 2) := by decide +kernel
theorem dX4_readSum_107 : decode cX4_readSum 107 = .ok (.bipush 45, 2) := by decide +kernel
theorem dX4_readSum_109 : decode cX4_readSum 109 = .ok (.bipush 45, 2) := by decide +kernel
theorem dX4_readSum_111 : decode cX4_readSum 111 = .ok (.iconst 2, 1) := by decide +kernel
theorem dX4_readSum_112 : decode cX4_readSum 112 = .ok (.invokevirtual 89, 3) := by decide +kernel
theorem dX4_readSum_115 : decode cX4_readSum 115 = .ok (.istore_n 2, 1) := by decide +kernel
theorem dX4_readSum_116 : decode cX4_readSum 116 = .ok (.iload_n 2, 1) := by decide +kernel
theorem dX4_readSum_117 : decode cX4_readSum 117 = .ok (.iconst (-1), 1) := by decide +kernel
theorem dX4_readSum_118 : decode cX4_readSum 118 = .ok (.if_icmp .eq 7, 3) := by decide +kernel
theorem dX4_readSum_121 : decode cX4_readSum 121 = .ok (.iconst 1, 1) := by decide +kernel
theorem dX4_readSum_122 : decode cX4_readSum 122 = .ok (.goto 4, 3) := by decide +kernel
theorem dX4_readSum_125 : decode cX4_readSum 125 = .ok (.iconst 0, 1) := by decide +kernel
theorem dX4_readSum_126 : decode cX4_readSum 126 = .ok (.istore_n 3, 1) := by decide +kernel
theorem dX4_readSum_127 : decode cX4_readSum 127 = .ok (.iinc 4 1, 3) := by decide +kernel
theorem dX4_readSum_130 : decode cX4_readSum 130 = .ok (.goto (-123), 3) := by decide +kernel
theorem dX4_readSum_133 : decode cX4_readSum 133 = .ok (.return_, 1) := by decide +kernel
theorem dX4_readFactor_0 : decode cX4_readFactor 0 = .ok (.aload_n 0, 1) := by decide +kernel
theorem dX4_readFactor_1 : decode cX4_readFactor 1 = .ok (.invokevirtual 62, 3) := by decide +kernel
theorem dX4_readFactor_4 : decode cX4_readFactor 4 = .ok (.istore_n 2, 1) := by decide +kernel
theorem dX4_readFactor_5 : decode cX4_readFactor 5 = .ok (.iload_n 2, 1) := by decide +kernel
theorem dX4_readFactor_6 : decode cX4_readFactor 6 = .ok (.iconst (-1), 1) := by decide +kernel
theorem dX4_readFactor_7 : decode cX4_readFactor 7 = .ok (.if_icmp .ne 7, 3) := by decide +kernel
theorem dX4_readFactor_10 : decode cX4_readFactor 10 = .ok (.iconst (-1), 1) := by decide +kernel
theorem dX4_readFactor_11 : decode cX4_readFactor 11 = .ok (.goto 10, 3) := by decide +kernel
theorem dX4_readFactor_14 : decode cX4_readFactor 14 = .ok (.ldc 96, 2) := by decide +kernel
theorem dX4_readFactor_16 : decode cX4_readFactor 16 = .ok (.iload_n 2, 1) := by decide +kernel
theorem dX4_readFactor_17 : decode cX4_readFactor 17 = .ok (.i2c, 1) := by decide +kernel
theorem dX4_readFactor_18 : decode cX4_readFactor 18 = .ok (.invokevirtual 98, 3) := by decide +kernel
theorem dX4_readFactor_21 : decode cX4_readFactor 21 = .ok (.istore_n 3, 1) := by decide +kernel
theorem dX4_readFactor_22 : decode cX4_readFactor 22 = .ok (.iload_n 2, 1) := by decide +kernel
theorem dX4_readFactor_23 : decode cX4_readFactor 23 = .ok (.bipush 91, 2) := by decide +kernel
theorem dX4_readFactor_25 : decode cX4_readFactor 25 = .ok (.if_icmp .ne 27, 3) := by decide +kernel
theorem dX4_readFactor_28 : decode cX4_readFactor 28 = .ok (.aload_n 0, 1) := by decide +kernel
theorem dX4_readFactor_29 : decode cX4_readFactor 29 = .ok (.iload_n 1, 1) := by decide +kernel
theorem dX4_readFactor_30 : decode cX4_readFactor 30 = .ok (.invokevirtual 85, 3) := by decide +kernel
theorem dX4_readFactor_33 : decode cX4_readFactor 33 = .ok (.ifCond .eq 69, 3) := by decide +kernel
theorem dX4_readFactor_36 : decode cX4_readFactor 36 = .ok (.aload_n 0, 1) := by decide +kernel
theorem dX4_readFactor_37 : decode cX4_readFactor 37 = .ok (.iload_n 1, 1) := by decide +kernel
theorem dX4_readFactor_38 : decode cX4_readFactor 38 = .ok (.iconst 1, 1) := by decide +kernel
theorem dX4_readFactor_39 : decode cX4_readFactor 39 = .ok (.iadd, 1) := by decide +kernel
theorem dX4_readFactor_40 : decode cX4_readFactor 40 = .ok (.invokevirtual 49, 3) := by decide +kernel
theorem dX4_readFactor_43 : decode cX4_readFactor 43 = .ok (.aload_n 0, 1) := by decide +kernel
theorem dX4_readFactor_44 : decode cX4_readFactor 44 = .ok (.bipush 93, 2) := by decide +kernel
theorem dX4_readFactor_46 : decode cX4_readFactor 46 = .ok (.invokevirtual 45, 3) := by decide +kernel
theorem dX4_readFactor_49 : decode cX4_readFactor 49 = .ok (.goto 53, 3) := by decide +kernel
theorem dX4_readFactor_52 : decode cX4_readFactor 52 = .ok (.iload_n 3, 1) := by decide +kernel
theorem dX4_readFactor_53 : decode cX4_readFactor 53 = .ok (.ifCond .lt 26, 3) := by decide +kernel
theorem dX4_readFactor_56 : decode cX4_readFactor 56 = .ok (.aload_n 0, 1) := by decide +kernel
theorem dX4_readFactor_57 : decode cX4_readFactor 57 = .ok (.dup, 1) := by decide +kernel
theorem dX4_readFactor_58 : decode cX4_readFactor 58 = .ok (.getfield 40, 3) := by decide +kernel
theorem dX4_readFactor_61 : decode cX4_readFactor 61 = .ok (.iconst 1, 1) := by decide +kernel
theorem dX4_readFactor_62 : decode cX4_readFactor 62 = .ok (.iadd, 1) := by decide +kernel
theorem dX4_readFactor_63 : decode cX4_readFactor 63 = .ok (.putfield 40, 3) := by decide +kernel
theorem dX4_readFactor_66 : decode cX4_readFactor 66 = .ok (.aload_n 0, 1) := by decide +kernel
theorem dX4_readFactor_67 : decode cX4_readFactor 67 = .ok (.getfield 15, 3) := by decide +kernel
theorem dX4_readFactor_70 : decode cX4_readFactor 70 = .ok (.iconst 1, 1) := by decide +kernel
theorem dX4_readFactor_71 : decode cX4_readFactor 71 = .ok (.iload_n 3, 1) := by decide +kernel
theorem dX4_readFactor_72 : decode cX4_readFactor 72 = .ok (.invokevirtual 82, 3) := by decide +kernel
theorem dX4_readFactor_75 : decode cX4_readFactor 75 = .ok (.pop, 1) := by decide +kernel
theorem dX4_readFactor_76 : decode cX4_readFactor 76 = .ok (.goto 26, 3) := by decide +kernel
theorem dX4_readFactor_79 : decode cX4_readFactor 79 = .ok (.iload_n 2, 1) := by decide +kernel
theorem dX4_readFactor_80 : decode cX4_readFactor 80 = .ok (.bipush 48, 2) := by decide +kernel
theorem dX4_readFactor_82 : decode cX4_readFactor 82 = .ok (.bipush 57, 2) := by decide +kernel
theorem dX4_readFactor_84 : decode cX4_readFactor 84 = .ok (.invokestatic 103, 3) := by decide +kernel
theorem dX4_readFactor_87 : decode cX4_readFactor 87 = .ok (.ifCond .eq 10, 3) := by decide +kernel
theorem dX4_readFactor_90 : decode cX4_readFactor 90 = .ok (.aload_n 0, 1) := by decide +kernel
theorem dX4_readFactor_91 : decode cX4_readFactor 91 = .ok (.invokevirtual 107, 3) := by decide +kernel
theorem dX4_readFactor_94 : decode cX4_readFactor 94 = .ok (.goto 8, 3) := by decide +kernel
theorem dX4_readFactor_97 : decode cX4_readFactor 97 = .ok (.aload_n 0, 1) := by decide +kernel
theorem dX4_readFactor_98 : decode cX4_readFactor 98 = .ok (.iconst 1, 1) := by decide +kernel
theorem dX4_readFactor_99 : decode cX4_readFactor 99 = .ok (.invokevirtual 66, 3) := by decide +kernel
theorem dX4_readFactor_102 : decode cX4_readFactor 102 = .ok (.return_, 1) := by decide +kernel
theorem dX4_readNumber_0 : decode cX4_readNumber 0 = .ok (.iconst 0, 1) := by decide +kernel
theorem dX4_readNumber_1 : decode cX4_readNumber 1 = .ok (.istore_n 1, 1) := by decide +kernel
theorem dX4_readNumber_2 : decode cX4_readNumber 2 = .ok (.iconst 0, 1) := by decide +kernel
theorem dX4_readNumber_3 : decode cX4_readNumber 3 = .ok (.istore_n 2, 1) := by decide +kernel
theorem dX4_readNumber_4 : decode cX4_readNumber 4 = .ok (.iload_n 2, 1) := by decide +kernel
theorem dX4_readNumber_5 : decode cX4_readNumber 5 = .ok (.iconst 5, 1) := by decide +kernel
theorem dX4_readNumber_6 : decode cX4_readNumber 6 = .ok (.if_icmp .ge 46, 3) := by decide +kernel
theorem dX4_readNumber_9 : decode cX4_readNumber 9 = .ok (.aload_n 0, 1) := by decide +kernel
theorem dX4_readNumber_10 : decode cX4_readNumber 10 = .ok (.invokevirtual 62, 3) := by decide +kernel
theorem dX4_readNumber_13 : decode cX4_readNumber 13 = .ok (.bipush 48, 2) := by decide +kernel
theorem dX4_readNumber_15 : decode cX4_readNumber 15 = .ok (.bipush 57, 2) := by decide +kernel
theorem dX4_readNumber_17 : decode cX4_readNumber 17 = .ok (.invokestatic 103, 3) := by decide +kernel
theorem dX4_readNumber_20 : decode cX4_readNumber 20 = .ok (.ifCond .eq 32, 3) := by decide +kernel
theorem dX4_readNumber_23 : decode cX4_readNumber 23 = .ok (.bipush 10, 2) := by decide +kernel
theorem dX4_readNumber_25 : decode cX4_readNumber 25 = .ok (.iload_n 1, 1) := by decide +kernel
theorem dX4_readNumber_26 : decode cX4_readNumber 26 = .ok (.imul, 1) := by decide +kernel
theorem dX4_readNumber_27 : decode cX4_readNumber 27 = .ok (.aload_n 0, 1) := by decide +kernel
theorem dX4_readNumber_28 : decode cX4_readNumber 28 = .ok (.invokevirtual 62, 3) := by decide +kernel
theorem dX4_readNumber_31 : decode cX4_readNumber 31 = .ok (.iadd, 1) := by decide +kernel
theorem dX4_readNumber_32 : decode cX4_readNumber 32 = .ok (.bipush 48, 2) := by decide +kernel
theorem dX4_readNumber_34 : decode cX4_readNumber 34 = .ok (.isub, 1) := by decide +kernel
theorem dX4_readNumber_35 : decode cX4_readNumber 35 = .ok (.istore_n 1, 1) := by decide +kernel
theorem dX4_readNumber_36 : decode cX4_readNumber 36 = .ok (.iinc 2 1, 3) := by decide +kernel
theorem dX4_readNumber_39 : decode cX4_readNumber 39 = .ok (.aload_n 0, 1) := by decide +kernel
theorem dX4_readNumber_40 : decode cX4_readNumber 40 = .ok (.dup, 1) := by decide +kernel
theorem dX4_readNumber_41 : decode cX4_readNumber 41 = .ok (.getfield 40, 3) := by decide +kernel
theorem dX4_readNumber_44 : decode cX4_readNumber 44 = .ok (.iconst 1, 1) := by decide +kernel
theorem dX4_readNumber_45 : decode cX4_readNumber 45 = .ok (.iadd, 1) := by decide +kernel
theorem dX4_readNumber_46 : decode cX4_readNumber 46 = .ok (.putfield 40, 3) := by decide +kernel
theorem dX4_readNumber_49 : decode cX4_readNumber 49 = .ok (.goto (-45), 3) := by decide +kernel
theorem dX4_readNumber_52 : decode cX4_readNumber 52 = .ok (.aload_n 0, 1) := by decide +kernel
theorem dX4_readNumber_53 : decode cX4_readNumber 53 = .ok (.getfield 15, 3) := by decide +kernel
theorem dX4_readNumber_56 : decode cX4_readNumber 56 = .ok (.iconst 0, 1) := by decide +kernel
theorem dX4_readNumber_57 : decode cX4_readNumber 57 = .ok (.iload_n 1, 1) := by decide +kernel
theorem dX4_readNumber_58 : decode cX4_readNumber 58 = .ok (.invokevirtual 82, 3) := by decide +kernel
theorem dX4_readNumber_61 : decode cX4_readNumber 61 = .ok (.pop, 1) := by decide +kernel
theorem dX4_readNumber_62 : decode cX4_readNumber 62 = .ok (.aload_n 0, 1) := by decide +kernel
theorem dX4_readNumber_63 : decode cX4_readNumber 63 = .ok (.invokevirtual 62, 3) := by decide +kernel
theorem dX4_readNumber_66 : decode cX4_readNumber 66 = .ok (.bipush 48, 2) := by decide +kernel
theorem dX4_readNumber_68 : decode cX4_readNumber 68 = .ok (.bipush 57, 2) := by decide +kernel
theorem dX4_readNumber_70 : decode cX4_readNumber 70 = .ok (.invokestatic 103, 3) := by decide +kernel
theorem dX4_readNumber_73 : decode cX4_readNumber 73 = .ok (.ifCond .eq 8, 3) := by decide +kernel
theorem dX4_readNumber_76 : decode cX4_readNumber 76 = .ok (.aload_n 0, 1) := by decide +kernel
theorem dX4_readNumber_77 : decode cX4_readNumber 77 = .ok (.iconst 2, 1) := by decide +kernel
theorem dX4_readNumber_78 : decode cX4_readNumber 78 = .ok (.invokevirtual 66, 3) := by decide +kernel
theorem dX4_readNumber_81 : decode cX4_readNumber 81 = .ok (.return_, 1) := by decide +kernel
theorem dX4_sign_0 : decode cX4_sign 0 = .ok (.aload_n 0, 1) := by decide +kernel
theorem dX4_sign_1 : decode cX4_sign 1 = .ok (.getfield 42, 3) := by decide +kernel
theorem dX4_sign_4 : decode cX4_sign 4 = .ok (.ifCond .ne 33, 3) := by decide +kernel
theorem dX4_sign_7 : decode cX4_sign 7 = .ok (.aload_n 0, 1) := by decide +kernel
theorem dX4_sign_8 : decode cX4_sign 8 = .ok (.getfield 40, 3) := by decide +kernel
theorem dX4_sign_11 : decode cX4_sign 11 = .ok (.ifCond .lt 26, 3) := by decide +kernel
theorem dX4_sign_14 : decode cX4_sign 14 = .ok (.aload_n 0, 1) := by decide +kernel
theorem dX4_sign_15 : decode cX4_sign 15 = .ok (.getfield 40, 3) := by decide +kernel
theorem dX4_sign_18 : decode cX4_sign 18 = .ok (.aload_n 0, 1) := by decide +kernel
theorem dX4_sign_19 : decode cX4_sign 19 = .ok (.getfield 30, 3) := by decide +kernel
theorem dX4_sign_22 : decode cX4_sign 22 = .ok (.if_icmp .ge 15, 3) := by decide +kernel
theorem dX4_sign_25 : decode cX4_sign 25 = .ok (.aload_n 0, 1) := by decide +kernel
theorem dX4_sign_26 : decode cX4_sign 26 = .ok (.getfield 9, 3) := by decide +kernel
theorem dX4_sign_29 : decode cX4_sign 29 = .ok (.aload_n 0, 1) := by decide +kernel
theorem dX4_sign_30 : decode cX4_sign 30 = .ok (.getfield 40, 3) := by decide +kernel
theorem dX4_sign_33 : decode cX4_sign 33 = .ok (.iaload, 1) := by decide +kernel
theorem dX4_sign_34 : decode cX4_sign 34 = .ok (.goto 4, 3) := by decide +kernel
theorem dX4_sign_37 : decode cX4_sign 37 = .ok (.iconst (-1), 1) := by decide +kernel
theorem dX4_sign_38 : decode cX4_sign 38 = .ok (.ireturn, 1) := by decide +kernel
theorem dX4_takes_0 : decode cX4_takes 0 = .ok (.aload_n 0, 1) := by decide +kernel
theorem dX4_takes_1 : decode cX4_takes 1 = .ok (.invokevirtual 62, 3) := by decide +kernel
theorem dX4_takes_4 : decode cX4_takes 4 = .ok (.iload_n 1, 1) := by decide +kernel
theorem dX4_takes_5 : decode cX4_takes 5 = .ok (.if_icmp .ne 7, 3) := by decide +kernel
theorem dX4_takes_8 : decode cX4_takes 8 = .ok (.iconst 1, 1) := by decide +kernel
theorem dX4_takes_9 : decode cX4_takes 9 = .ok (.goto 4, 3) := by decide +kernel
theorem dX4_takes_12 : decode cX4_takes 12 = .ok (.iconst 0, 1) := by decide +kernel
theorem dX4_takes_13 : decode cX4_takes 13 = .ok (.istore_n 2, 1) := by decide +kernel
theorem dX4_takes_14 : decode cX4_takes 14 = .ok (.iload_n 2, 1) := by decide +kernel
theorem dX4_takes_15 : decode cX4_takes 15 = .ok (.ifCond .eq 13, 3) := by decide +kernel
