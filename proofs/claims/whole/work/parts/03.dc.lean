theorem dX11_init_0 : decode cX11_init 0 = .ok (.aload_n 0, 1) := by decide +kernel
theorem dX11_init_1 : decode cX11_init 1 = .ok (.invokespecial 3, 3) := by decide +kernel
theorem dX11_init_4 : decode cX11_init 4 = .ok (.aload_n 0, 1) := by decide +kernel
theorem dX11_init_5 : decode cX11_init 5 = .ok (.new 9, 3) := by decide +kernel
theorem dX11_init_8 : decode cX11_init 8 = .ok (.dup, 1) := by decide +kernel
theorem dX11_init_9 : decode cX11_init 9 = .ok (.invokespecial 11, 3) := by decide +kernel
theorem dX11_init_12 : decode cX11_init 12 = .ok (.putfield 12, 3) := by decide +kernel
theorem dX11_init_15 : decode cX11_init 15 = .ok (.aload_n 0, 1) := by decide +kernel
theorem dX11_init_16 : decode cX11_init 16 = .ok (.new 16, 3) := by decide +kernel
theorem dX11_init_19 : decode cX11_init 19 = .ok (.dup, 1) := by decide +kernel
theorem dX11_init_20 : decode cX11_init 20 = .ok (.invokespecial 18, 3) := by decide +kernel
theorem dX11_init_23 : decode cX11_init 23 = .ok (.putfield 19, 3) := by decide +kernel
theorem dX11_init_26 : decode cX11_init 26 = .ok (.aload_n 0, 1) := by decide +kernel
theorem dX11_init_27 : decode cX11_init 27 = .ok (.new 23, 3) := by decide +kernel
theorem dX11_init_30 : decode cX11_init 30 = .ok (.dup, 1) := by decide +kernel
theorem dX11_init_31 : decode cX11_init 31 = .ok (.invokespecial 25, 3) := by decide +kernel
theorem dX11_init_34 : decode cX11_init 34 = .ok (.putfield 26, 3) := by decide +kernel
theorem dX11_init_37 : decode cX11_init 37 = .ok (.aload_n 0, 1) := by decide +kernel
theorem dX11_init_38 : decode cX11_init 38 = .ok (.aload_n 0, 1) := by decide +kernel
theorem dX11_init_39 : decode cX11_init 39 = .ok (.getfield 26, 3) := by decide +kernel
theorem dX11_init_42 : decode cX11_init 42 = .ok (.getfield 30, 3) := by decide +kernel
theorem dX11_init_45 : decode cX11_init 45 = .ok (.putfield 34, 3) := by decide +kernel
theorem dX11_init_48 : decode cX11_init 48 = .ok (.aload_n 0, 1) := by decide +kernel
theorem dX11_init_49 : decode cX11_init 49 = .ok (.new 35, 3) := by decide +kernel
theorem dX11_init_52 : decode cX11_init 52 = .ok (.dup, 1) := by decide +kernel
theorem dX11_init_53 : decode cX11_init 53 = .ok (.invokespecial 37, 3) := by decide +kernel
theorem dX11_init_56 : decode cX11_init 56 = .ok (.putfield 38, 3) := by decide +kernel
theorem dX11_init_59 : decode cX11_init 59 = .ok (.aload_n 0, 1) := by decide +kernel
theorem dX11_init_60 : decode cX11_init 60 = .ok (.new 42, 3) := by decide +kernel
theorem dX11_init_63 : decode cX11_init 63 = .ok (.dup, 1) := by decide +kernel
theorem dX11_init_64 : decode cX11_init 64 = .ok (.invokespecial 44, 3) := by decide +kernel
theorem dX11_init_67 : decode cX11_init 67 = .ok (.putfield 45, 3) := by decide +kernel
theorem dX11_init_70 : decode cX11_init 70 = .ok (.aload_n 0, 1) := by decide +kernel
theorem dX11_init_71 : decode cX11_init 71 = .ok (.new 49, 3) := by decide +kernel
theorem dX11_init_74 : decode cX11_init 74 = .ok (.dup, 1) := by decide +kernel
theorem dX11_init_75 : decode cX11_init 75 = .ok (.invokespecial 51, 3) := by decide +kernel
theorem dX11_init_78 : decode cX11_init 78 = .ok (.putfield 52, 3) := by decide +kernel
theorem dX11_init_81 : decode cX11_init 81 = .ok (.aload_n 0, 1) := by decide +kernel
theorem dX11_init_82 : decode cX11_init 82 = .ok (.iconst 1, 1) := by decide +kernel
theorem dX11_init_83 : decode cX11_init 83 = .ok (.putfield 56, 3) := by decide +kernel
theorem dX11_init_86 : decode cX11_init 86 = .ok (.return_, 1) := by decide +kernel
theorem dX11_feed_0 : decode cX11_feed 0 = .ok (.aload_n 0, 1) := by decide +kernel
theorem dX11_feed_1 : decode cX11_feed 1 = .ok (.getfield 12, 3) := by decide +kernel
theorem dX11_feed_4 : decode cX11_feed 4 = .ok (.getfield 60, 3) := by decide +kernel
theorem dX11_feed_7 : decode cX11_feed 7 = .ok (.bipush 20, 2) := by decide +kernel
theorem dX11_feed_9 : decode cX11_feed 9 = .ok (.iadd, 1) := by decide +kernel
theorem dX11_feed_10 : decode cX11_feed 10 = .ok (.sipush 220, 3) := by decide +kernel
theorem dX11_feed_13 : decode cX11_feed 13 = .ok (.if_icmp .le 5, 3) := by decide +kernel
theorem dX11_feed_16 : decode cX11_feed 16 = .ok (.iconst (-1), 1) := by decide +kernel
theorem dX11_feed_17 : decode cX11_feed 17 = .ok (.ireturn, 1) := by decide +kernel
theorem dX11_feed_18 : decode cX11_feed 18 = .ok (.aload_n 0, 1) := by decide +kernel
theorem dX11_feed_19 : decode cX11_feed 19 = .ok (.getfield 12, 3) := by decide +kernel
theorem dX11_feed_22 : decode cX11_feed 22 = .ok (.iload_n 1, 1) := by decide +kernel
theorem dX11_feed_23 : decode cX11_feed 23 = .ok (.invokevirtual 63, 3) := by decide +kernel
theorem dX11_feed_26 : decode cX11_feed 26 = .ok (.aload_n 0, 1) := by decide +kernel
theorem dX11_feed_27 : decode cX11_feed 27 = .ok (.getfield 12, 3) := by decide +kernel
theorem dX11_feed_30 : decode cX11_feed 30 = .ok (.iload_n 2, 1) := by decide +kernel
theorem dX11_feed_31 : decode cX11_feed 31 = .ok (.invokevirtual 63, 3) := by decide +kernel
theorem dX11_feed_34 : decode cX11_feed 34 = .ok (.aload_n 0, 1) := by decide +kernel
theorem dX11_feed_35 : decode cX11_feed 35 = .ok (.getfield 12, 3) := by decide +kernel
theorem dX11_feed_38 : decode cX11_feed 38 = .ok (.iload_n 3, 1) := by decide +kernel
theorem dX11_feed_39 : decode cX11_feed 39 = .ok (.invokevirtual 63, 3) := by decide +kernel
theorem dX11_feed_42 : decode cX11_feed 42 = .ok (.aload_n 0, 1) := by decide +kernel
theorem dX11_feed_43 : decode cX11_feed 43 = .ok (.getfield 12, 3) := by decide +kernel
theorem dX11_feed_46 : decode cX11_feed 46 = .ok (.iload 4, 2) := by decide +kernel
theorem dX11_feed_48 : decode cX11_feed 48 = .ok (.invokevirtual 63, 3) := by decide +kernel
theorem dX11_feed_51 : decode cX11_feed 51 = .ok (.aload_n 0, 1) := by decide +kernel
theorem dX11_feed_52 : decode cX11_feed 52 = .ok (.getfield 12, 3) := by decide +kernel
theorem dX11_feed_55 : decode cX11_feed 55 = .ok (.iload 5, 2) := by decide +kernel
theorem dX11_feed_57 : decode cX11_feed 57 = .ok (.invokevirtual 63, 3) := by decide +kernel
theorem dX11_feed_60 : decode cX11_feed 60 = .ok (.aload_n 0, 1) := by decide +kernel
theorem dX11_feed_61 : decode cX11_feed 61 = .ok (.getfield 12, 3) := by decide +kernel
theorem dX11_feed_64 : decode cX11_feed 64 = .ok (.getfield 60, 3) := by decide +kernel
theorem dX11_feed_67 : decode cX11_feed 67 = .ok (.ireturn, 1) := by decide +kernel
theorem dX11_coast_0 : decode cX11_coast 0 = .ok (.iload_n 1, 1) := by decide +kernel
theorem dX11_coast_1 : decode cX11_coast 1 = .ok (.iconst 4, 1) := by decide +kernel
theorem dX11_coast_2 : decode cX11_coast 2 = .ok (.bipush 16, 2) := by decide +kernel
theorem dX11_coast_4 : decode cX11_coast 4 = .ok (.invokestatic 67, 3) := by decide +kernel
theorem dX11_coast_7 : decode cX11_coast 7 = .ok (.ifCond .eq 13, 3) := by decide +kernel
theorem dX11_coast_10 : decode cX11_coast 10 = .ok (.iload_n 1, 1) := by decide +kernel
theorem dX11_coast_11 : decode cX11_coast 11 = .ok (.iconst 1, 1) := by decide +kernel
theorem dX11_coast_12 : decode cX11_coast 12 = .ok (.iand, 1) := by decide +kernel
theorem dX11_coast_13 : decode cX11_coast 13 = .ok (.ifCond .ne 7, 3) := by decide +kernel
theorem dX11_coast_16 : decode cX11_coast 16 = .ok (.iconst 1, 1) := by decide +kernel
theorem dX11_coast_17 : decode cX11_coast 17 = .ok (.goto 4, 3) := by decide +kernel
theorem dX11_coast_20 : decode cX11_coast 20 = .ok (.iconst 0, 1) := by decide +kernel
theorem dX11_coast_21 : decode cX11_coast 21 = .ok (.istore_n 2, 1) := by decide +kernel
theorem dX11_coast_22 : decode cX11_coast 22 = .ok (.iload_n 2, 1) := by decide +kernel
theorem dX11_coast_23 : decode cX11_coast 23 = .ok (.ifCond .eq 28, 3) := by decide +kernel
theorem dX11_coast_26 : decode cX11_coast 26 = .ok (.aload_n 0, 1) := by decide +kernel
theorem dX11_coast_27 : decode cX11_coast 27 = .ok (.getfield 38, 3) := by decide +kernel
theorem dX11_coast_30 : decode cX11_coast 30 = .ok (.getfield 71, 3) := by decide +kernel
theorem dX11_coast_33 : decode cX11_coast 33 = .ok (.bipush 8, 2) := by decide +kernel
theorem dX11_coast_35 : decode cX11_coast 35 = .ok (.if_icmp .ge 16, 3) := by decide +kernel
theorem dX11_coast_38 : decode cX11_coast 38 = .ok (.aload_n 0, 1) := by decide +kernel
theorem dX11_coast_39 : decode cX11_coast 39 = .ok (.getfield 12, 3) := by decide +kernel
theorem dX11_coast_42 : decode cX11_coast 42 = .ok (.getfield 60, 3) := by decide +kernel
theorem dX11_coast_45 : decode cX11_coast 45 = .ok (.iconst 3, 1) := by decide +kernel
theorem dX11_coast_46 : decode cX11_coast 46 = .ok (.iload_n 1, 1) := by decide +kernel
theorem dX11_coast_47 : decode cX11_coast 47 = .ok (.imul, 1) := by decide +kernel
theorem dX11_coast_48 : decode cX11_coast 48 = .ok (.if_icmp .ge 5, 3) := by decide +kernel
theorem dX11_coast_51 : decode cX11_coast 51 = .ok (.iconst (-1), 1) := by decide +kernel
theorem dX11_coast_52 : decode cX11_coast 52 = .ok (.ireturn, 1) := by decide +kernel
theorem dX11_coast_53 : decode cX11_coast 53 = .ok (.aload_n 0, 1) := by decide +kernel
theorem dX11_coast_54 : decode cX11_coast 54 = .ok (.getfield 12, 3) := by decide +kernel
theorem dX11_coast_57 : decode cX11_coast 57 = .ok (.iload_n 1, 1) := by decide +kernel
theorem dX11_coast_58 : decode cX11_coast 58 = .ok (.invokevirtual 72, 3) := by decide +kernel
theorem dX11_coast_61 : decode cX11_coast 61 = .ok (.istore_n 3, 1) := by decide +kernel
theorem dX11_coast_62 : decode cX11_coast 62 = .ok (.iload_n 3, 1) := by decide +kernel
theorem dX11_coast_63 : decode cX11_coast 63 = .ok (.iconst (-1), 1) := by decide +kernel
theorem dX11_coast_64 : decode cX11_coast 64 = .ok (.if_icmp .ne 102, 3) := by decide +kernel
theorem dX11_coast_67 : decode cX11_coast 67 = .ok (.new 76, 3) := by decide +kernel
theorem dX11_coast_70 : decode cX11_coast 70 = .ok (.dup, 1) := by decide +kernel
theorem dX11_coast_71 : decode cX11_coast 71 = .ok (.aload_n 0, 1) := by decide +kernel
theorem dX11_coast_72 : decode cX11_coast 72 = .ok (.getfield 38, 3) := by decide +kernel
theorem dX11_coast_75 : decode cX11_coast 75 = .ok (.getfield 71, 3) := by decide +kernel
theorem dX11_coast_78 : decode cX11_coast 78 = .ok (.iload_n 1, 1) := by decide +kernel
theorem dX11_coast_79 : decode cX11_coast 79 = .ok (.invokespecial 78, 3) := by decide +kernel
theorem dX11_coast_82 : decode cX11_coast 82 = .ok (.astore 4, 2) := by decide +kernel
theorem dX11_coast_84 : decode cX11_coast 84 = .ok (.iconst 0, 1) := by decide +kernel
theorem dX11_coast_85 : decode cX11_coast 85 = .ok (.istore 5, 2) := by decide +kernel
theorem dX11_coast_87 : decode cX11_coast 87 = .ok (.iload 5, 2) := by decide +kernel
theorem dX11_coast_89 : decode cX11_coast 89 = .ok (.iload_n 1, 1) := by decide +kernel
theorem dX11_coast_90 : decode cX11_coast 90 = .ok (.if_icmp .ge 70, 3) := by decide +kernel
theorem dX11_coast_93 : decode cX11_coast 93 = .ok (.aload 4, 2) := by decide +kernel
theorem dX11_coast_95 : decode cX11_coast 95 = .ok (.getfield 81, 3) := by decide +kernel
theorem dX11_coast_98 : decode cX11_coast 98 = .ok (.iload 5, 2) := by decide +kernel
theorem dX11_coast_100 : decode cX11_coast 100 = .ok (.aload_n 0, 1) := by decide +kernel
theorem dX11_coast_101 : decode cX11_coast 101 = .ok (.getfield 12, 3) := by decide +kernel
theorem dX11_coast_104 : decode cX11_coast 104 = .ok (.iconst 2, 1) := by decide +kernel
theorem dX11_coast_105 : decode cX11_coast 105 = .ok (.iload 5, 2) := by decide +kernel
theorem dX11_coast_107 : decode cX11_coast 107 = .ok (.imul, 1) := by decide +kernel
theorem dX11_coast_108 : decode cX11_coast 108 = .ok (.invokevirtual 85, 3) := by decide +kernel
theorem dX11_coast_111 : decode cX11_coast 111 = .ok (.iastore, 1) := by decide +kernel
theorem dX11_coast_112 : decode cX11_coast 112 = .ok (.aload 4, 2) := by decide +kernel
theorem dX11_coast_114 : decode cX11_coast 114 = .ok (.getfield 88, 3) := by decide +kernel
theorem dX11_coast_117 : decode cX11_coast 117 = .ok (.iload 5, 2) := by decide +kernel
theorem dX11_coast_119 : decode cX11_coast 119 = .ok (.aload_n 0, 1) := by decide +kernel
theorem dX11_coast_120 : decode cX11_coast 120 = .ok (.getfield 12, 3) := by decide +kernel
theorem dX11_coast_123 : decode cX11_coast 123 = .ok (.iconst 2, 1) := by decide +kernel
theorem dX11_coast_124 : decode cX11_coast 124 = .ok (.iload 5, 2) := by decide +kernel
theorem dX11_coast_126 : decode cX11_coast 126 = .ok (.imul, 1) := by decide +kernel
theorem dX11_coast_127 : decode cX11_coast 127 = .ok (.iconst 1, 1) := by decide +kernel
theorem dX11_coast_128 : decode cX11_coast 128 = .ok (.iadd, 1) := by decide +kernel
theorem dX11_coast_129 : decode cX11_coast 129 = .ok (.invokevirtual 85, 3) := by decide +kernel
theorem dX11_coast_132 : decode cX11_coast 132 = .ok (.iastore, 1) := by decide +kernel
theorem dX11_coast_133 : decode cX11_coast 133 = .ok (.aload 4, 2) := by decide +kernel
theorem dX11_coast_135 : decode cX11_coast 135 = .ok (.getfield 91, 3) := by decide +kernel
theorem dX11_coast_138 : decode cX11_coast 138 = .ok (.iload 5, 2) := by decide +kernel
theorem dX11_coast_140 : decode cX11_coast 140 = .ok (.aload_n 0, 1) := by decide +kernel
theorem dX11_coast_141 : decode cX11_coast 141 = .ok (.getfield 12, 3) := by decide +kernel
theorem dX11_coast_144 : decode cX11_coast 144 = .ok (.iconst 2, 1) := by decide +kernel
theorem dX11_coast_145 : decode cX11_coast 145 = .ok (.iload_n 1, 1) := by decide +kernel
theorem dX11_coast_146 : decode cX11_coast 146 = .ok (.imul, 1) := by decide +kernel
theorem dX11_coast_147 : decode cX11_coast 147 = .ok (.iload 5, 2) := by decide +kernel
theorem dX11_coast_149 : decode cX11_coast 149 = .ok (.iadd, 1) := by decide +kernel
theorem dX11_coast_150 : decode cX11_coast 150 = .ok (.invokevirtual 85, 3) := by decide +kernel
theorem dX11_coast_153 : decode cX11_coast 153 = .ok (.iastore, 1) := by decide +kernel
theorem dX11_coast_154 : decode cX11_coast 154 = .ok (.iinc 5 1, 3) := by decide +kernel
theorem dX11_coast_157 : decode cX11_coast 157 = .ok (.goto (-70), 3) := by decide +kernel
theorem dX11_coast_160 : decode cX11_coast 160 = .ok (.aload_n 0, 1) := by decide +kernel
theorem dX11_coast_161 : decode cX11_coast 161 = .ok (.aload 4, 2) := by decide +kernel
theorem dX11_coast_163 : decode cX11_coast 163 = .ok (.invokevirtual 94, 3) := by decide +kernel
theorem dX11_coast_166 : decode cX11_coast 166 = .ok (.aload_n 0, 1) := by decide +kernel
theorem dX11_coast_167 : decode cX11_coast 167 = .ok (.getfield 12, 3) := by decide +kernel
theorem dX11_coast_170 : decode cX11_coast 170 = .ok (.iconst 0, 1) := by decide +kernel
theorem dX11_coast_171 : decode cX11_coast 171 = .ok (.putfield 60, 3) := by decide +kernel
theorem dX11_coast_174 : decode cX11_coast 174 = .ok (.iload_n 3, 1) := by decide +kernel
theorem dX11_coast_175 : decode cX11_coast 175 = .ok (.iconst (-1), 1) := by decide +kernel
theorem dX11_coast_176 : decode cX11_coast 176 = .ok (.if_icmp .ne 15, 3) := by decide +kernel
theorem dX11_coast_179 : decode cX11_coast 179 = .ok (.aload_n 0, 1) := by decide +kernel
theorem dX11_coast_180 : decode cX11_coast 180 = .ok (.getfield 38, 3) := by decide +kernel
theorem dX11_coast_183 : decode cX11_coast 183 = .ok (.getfield 71, 3) := by decide +kernel
theorem dX11_coast_186 : decode cX11_coast 186 = .ok (.iconst 1, 1) := by decide +kernel
theorem dX11_coast_187 : decode cX11_coast 187 = .ok (.isub, 1) := by decide +kernel
theorem dX11_coast_188 : decode cX11_coast 188 = .ok (.goto 8, 3) := by decide +kernel
theorem dX11_coast_191 : decode cX11_coast 191 = .ok (.sipush (-1000), 3) := by decide +kernel
theorem dX11_coast_194 : decode cX11_coast 194 = .ok (.iload_n 3, 1) := by decide +kernel
theorem dX11_coast_195 : decode cX11_coast 195 = .ok (.isub, 1) := by decide +kernel
theorem dX11_coast_196 : decode cX11_coast 196 = .ok (.ireturn, 1) := by decide +kernel
theorem dX11_law_0 : decode cX11_law 0 = .ok (.iload_n 1, 1) := by decide +kernel
theorem dX11_law_1 : decode cX11_law 1 = .ok (.iconst 1, 1) := by decide +kernel
theorem dX11_law_2 : decode cX11_law 2 = .ok (.sipush 160, 3) := by decide +kernel
theorem dX11_law_5 : decode cX11_law 5 = .ok (.invokestatic 67, 3) := by decide +kernel
theorem dX11_law_8 : decode cX11_law 8 = .ok (.ifCond .eq 14, 3) := by decide +kernel
theorem dX11_law_11 : decode cX11_law 11 = .ok (.aload_n 0, 1) := by decide +kernel
theorem dX11_law_12 : decode cX11_law 12 = .ok (.getfield 12, 3) := by decide +kernel
theorem dX11_law_15 : decode cX11_law 15 = .ok (.getfield 60, 3) := by decide +kernel
theorem dX11_law_18 : decode cX11_law 18 = .ok (.iload_n 1, 1) := by decide +kernel
theorem dX11_law_19 : decode cX11_law 19 = .ok (.if_icmp .ge 5, 3) := by decide +kernel
theorem dX11_law_22 : decode cX11_law 22 = .ok (.iconst (-1), 1) := by decide +kernel
theorem dX11_law_23 : decode cX11_law 23 = .ok (.ireturn, 1) := by decide +kernel
theorem dX11_law_24 : decode cX11_law 24 = .ok (.aload_n 0, 1) := by decide +kernel
theorem dX11_law_25 : decode cX11_law 25 = .ok (.getfield 19, 3) := by decide +kernel
theorem dX11_law_28 : decode cX11_law 28 = .ok (.aload_n 0, 1) := by decide +kernel
theorem dX11_law_29 : decode cX11_law 29 = .ok (.getfield 12, 3) := by decide +kernel
theorem dX11_law_32 : decode cX11_law 32 = .ok (.iload_n 1, 1) := by decide +kernel
theorem dX11_law_33 : decode cX11_law 33 = .ok (.aload_n 0, 1) := by decide +kernel
theorem dX11_law_34 : decode cX11_law 34 = .ok (.getfield 34, 3) := by decide +kernel
theorem dX11_law_37 : decode cX11_law 37 = .ok (.getfield 98, 3) := by decide +kernel
theorem dX11_law_40 : decode cX11_law 40 = .ok (.invokevirtual 104, 3) := by decide +kernel
theorem dX11_law_43 : decode cX11_law 43 = .ok (.istore_n 2, 1) := by decide +kernel
theorem dX11_law_44 : decode cX11_law 44 = .ok (.aload_n 0, 1) := by decide +kernel
theorem dX11_law_45 : decode cX11_law 45 = .ok (.getfield 12, 3) := by decide +kernel
theorem dX11_law_48 : decode cX11_law 48 = .ok (.iconst 0, 1) := by decide +kernel
theorem dX11_law_49 : decode cX11_law 49 = .ok (.putfield 60, 3) := by decide +kernel
theorem dX11_law_52 : decode cX11_law 52 = .ok (.iload_n 2, 1) := by decide +kernel
theorem dX11_law_53 : decode cX11_law 53 = .ok (.ifCond .lt 34, 3) := by decide +kernel
theorem dX11_law_56 : decode cX11_law 56 = .ok (.aload_n 0, 1) := by decide +kernel
theorem dX11_law_57 : decode cX11_law 57 = .ok (.getfield 34, 3) := by decide +kernel
theorem dX11_law_60 : decode cX11_law 60 = .ok (.invokevirtual 108, 3) := by decide +kernel
theorem dX11_law_63 : decode cX11_law 63 = .ok (.aload_n 0, 1) := by decide +kernel
theorem dX11_law_64 : decode cX11_law 64 = .ok (.getfield 26, 3) := by decide +kernel
theorem dX11_law_67 : decode cX11_law 67 = .ok (.invokevirtual 111, 3) := by decide +kernel
theorem dX11_law_70 : decode cX11_law 70 = .ok (.aload_n 0, 1) := by decide +kernel
theorem dX11_law_71 : decode cX11_law 71 = .ok (.getfield 38, 3) := by decide +kernel
theorem dX11_law_74 : decode cX11_law 74 = .ok (.invokevirtual 114, 3) := by decide +kernel
theorem dX11_law_77 : decode cX11_law 77 = .ok (.aload_n 0, 1) := by decide +kernel
theorem dX11_law_78 : decode cX11_law 78 = .ok (.dup, 1) := by decide +kernel
theorem dX11_law_79 : decode cX11_law 79 = .ok (.getfield 56, 3) := by decide +kernel
theorem dX11_law_82 : decode cX11_law 82 = .ok (.iconst 1, 1) := by decide +kernel
theorem dX11_law_83 : decode cX11_law 83 = .ok (.iadd, 1) := by decide +kernel
theorem dX11_law_84 : decode cX11_law 84 = .ok (.putfield 56, 3) := by decide +kernel
theorem dX11_law_87 : decode cX11_law 87 = .ok (.iload_n 2, 1) := by decide +kernel
theorem dX11_law_88 : decode cX11_law 88 = .ok (.ireturn, 1) := by decide +kernel
theorem dX11_push_0 : decode cX11_push 0 = .ok (.aload_n 0, 1) := by decide +kernel
theorem dX11_push_1 : decode cX11_push 1 = .ok (.getfield 38, 3) := by decide +kernel
theorem dX11_push_4 : decode cX11_push 4 = .ok (.iload_n 1, 1) := by decide +kernel
theorem dX11_push_5 : decode cX11_push 5 = .ok (.invokevirtual 117, 3) := by decide +kernel
theorem dX11_push_8 : decode cX11_push 8 = .ok (.astore 4, 2) := by decide +kernel
theorem dX11_push_10 : decode cX11_push 10 = .ok (.aload 4, 2) := by decide +kernel
theorem dX11_push_12 : decode cX11_push 12 = .ok (.ifnull 18, 3) := by decide +kernel
theorem dX11_push_15 : decode cX11_push 15 = .ok (.iload_n 2, 1) := by decide +kernel
theorem dX11_push_16 : decode cX11_push 16 = .ok (.iconst 0, 1) := by decide +kernel
theorem dX11_push_17 : decode cX11_push 17 = .ok (.aload 4, 2) := by decide +kernel
theorem dX11_push_19 : decode cX11_push 19 = .ok (.getfield 121, 3) := by decide +kernel
theorem dX11_push_22 : decode cX11_push 22 = .ok (.iconst 1, 1) := by decide +kernel
theorem dX11_push_23 : decode cX11_push 23 = .ok (.isub, 1) := by decide +kernel
theorem dX11_push_24 : decode cX11_push 24 = .ok (.invokestatic 67, 3) := by decide +kernel
theorem dX11_push_27 : decode cX11_push 27 = .ok (.ifCond .ne 5, 3) := by decide +kernel
theorem dX11_push_30 : decode cX11_push 30 = .ok (.iconst (-1), 1) := by decide +kernel
theorem dX11_push_31 : decode cX11_push 31 = .ok (.ireturn, 1) := by decide +kernel
theorem dX11_push_32 : decode cX11_push 32 = .ok (.iload_n 3, 1) := by decide +kernel
theorem dX11_push_33 : decode cX11_push 33 = .ok (.ifCond .eq 26, 3) := by decide +kernel
theorem dX11_push_36 : decode cX11_push 36 = .ok (.iload_n 3, 1) := by decide +kernel
theorem dX11_push_37 : decode cX11_push 37 = .ok (.bipush (-9), 2) := by decide +kernel
theorem dX11_push_39 : decode cX11_push 39 = .ok (.bipush 9, 2) := by decide +kernel
theorem dX11_push_41 : decode cX11_push 41 = .ok (.invokestatic 67, 3) := by decide +kernel
theorem dX11_push_44 : decode cX11_push 44 = .ok (.ifCond .eq 15, 3) := by decide +kernel
theorem dX11_push_47 : decode cX11_push 47 = .ok (.aload_n 0, 1) := by decide +kernel
theorem dX11_push_48 : decode cX11_push 48 = .ok (.getfield 38, 3) := by decide +kernel
theorem dX11_push_51 : decode cX11_push 51 = .ok (.getfield 71, 3) := by decide +kernel
theorem dX11_push_54 : decode cX11_push 54 = .ok (.bipush 8, 2) := by decide +kernel
theorem dX11_push_56 : decode cX11_push 56 = .ok (.if_icmp .lt 5, 3) := by decide +kernel
theorem dX11_push_59 : decode cX11_push 59 = .ok (.iconst (-1), 1) := by decide +kernel
theorem dX11_push_60 : decode cX11_push 60 = .ok (.ireturn, 1) := by decide +kernel
theorem dX11_push_61 : decode cX11_push 61 = .ok (.aload 4, 2) := by decide +kernel
theorem dX11_push_63 : decode cX11_push 63 = .ok (.iload_n 2, 1) := by decide +kernel
theorem dX11_push_64 : decode cX11_push 64 = .ok (.iload_n 3, 1) := by decide +kernel
theorem dX11_push_65 : decode cX11_push 65 = .ok (.invokevirtual 124, 3) := by decide +kernel
theorem dX11_push_68 : decode cX11_push 68 = .ok (.ifCond .ne 6, 3) := by decide +kernel
theorem dX11_push_71 : decode cX11_push 71 = .ok (.bipush (-2), 2) := by decide +kernel
theorem dX11_push_73 : decode cX11_push 73 = .ok (.ireturn, 1) := by decide +kernel
theorem dX11_push_74 : decode cX11_push 74 = .ok (.new 76, 3) := by decide +kernel
theorem dX11_push_77 : decode cX11_push 77 = .ok (.dup, 1) := by decide +kernel
theorem dX11_push_78 : decode cX11_push 78 = .ok (.aload_n 0, 1) := by decide +kernel
theorem dX11_push_79 : decode cX11_push 79 = .ok (.getfield 38, 3) := by decide +kernel
theorem dX11_push_82 : decode cX11_push 82 = .ok (.getfield 71, 3) := by decide +kernel
theorem dX11_push_85 : decode cX11_push 85 = .ok (.aload 4, 2) := by decide +kernel
theorem dX11_push_87 : decode cX11_push 87 = .ok (.getfield 121, 3) := by decide +kernel
theorem dX11_push_90 : decode cX11_push 90 = .ok (.invokespecial 78, 3) := by decide +kernel
theorem dX11_push_93 : decode cX11_push 93 = .ok (.astore 5, 2) := by decide +kernel
theorem dX11_push_95 : decode cX11_push 95 = .ok (.aload 5, 2) := by decide +kernel
theorem dX11_push_97 : decode cX11_push 97 = .ok (.aload 4, 2) := by decide +kernel
theorem dX11_push_99 : decode cX11_push 99 = .ok (.iload_n 2, 1) := by decide +kernel
theorem dX11_push_100 : decode cX11_push 100 = .ok (.iload_n 3, 1) := by decide +kernel
theorem dX11_push_101 : decode cX11_push 101 = .ok (.invokevirtual 128, 3) := by decide +kernel
theorem dX11_push_104 : decode cX11_push 104 = .ok (.aload_n 0, 1) := by decide +kernel
theorem dX11_push_105 : decode cX11_push 105 = .ok (.aload 5, 2) := by decide +kernel
theorem dX11_push_107 : decode cX11_push 107 = .ok (.invokevirtual 94, 3) := by decide +kernel
theorem dX11_push_110 : decode cX11_push 110 = .ok (.aload_n 0, 1) := by decide +kernel
theorem dX11_push_111 : decode cX11_push 111 = .ok (.getfield 38, 3) := by decide +kernel
theorem dX11_push_114 : decode cX11_push 114 = .ok (.getfield 71, 3) := by decide +kernel
theorem dX11_push_117 : decode cX11_push 117 = .ok (.iconst 1, 1) := by decide +kernel
theorem dX11_push_118 : decode cX11_push 118 = .ok (.isub, 1) := by decide +kernel
theorem dX11_push_119 : decode cX11_push 119 = .ok (.ireturn, 1) := by decide +kernel
theorem dX11_land_0 : decode cX11_land 0 = .ok (.aload_n 0, 1) := by decide +kernel
theorem dX11_land_1 : decode cX11_land 1 = .ok (.getfield 38, 3) := by decide +kernel
theorem dX11_land_4 : decode cX11_land 4 = .ok (.iload_n 1, 1) := by decide +kernel
theorem dX11_land_5 : decode cX11_land 5 = .ok (.invokevirtual 117, 3) := by decide +kernel
theorem dX11_land_8 : decode cX11_land 8 = .ok (.astore 4, 2) := by decide +kernel
theorem dX11_land_10 : decode cX11_land 10 = .ok (.aload 4, 2) := by decide +kernel
theorem dX11_land_12 : decode cX11_land 12 = .ok (.ifnull 11, 3) := by decide +kernel
theorem dX11_land_15 : decode cX11_land 15 = .ok (.iload_n 2, 1) := by decide +kernel
theorem dX11_land_16 : decode cX11_land 16 = .ok (.iload_n 3, 1) := by decide +kernel
theorem dX11_land_17 : decode cX11_land 17 = .ok (.invokestatic 132, 3) := by decide +kernel
theorem dX11_land_20 : decode cX11_land 20 = .ok (.ifCond .ne 5, 3) := by decide +kernel
theorem dX11_land_23 : decode cX11_land 23 = .ok (.iconst (-1), 1) := by decide +kernel
theorem dX11_land_24 : decode cX11_land 24 = .ok (.ireturn, 1) := by decide +kernel
theorem dX11_land_25 : decode cX11_land 25 = .ok (.aload 4, 2) := by decide +kernel
theorem dX11_land_27 : decode cX11_land 27 = .ok (.iload_n 2, 1) := by decide +kernel
theorem dX11_land_28 : decode cX11_land 28 = .ok (.iload_n 3, 1) := by decide +kernel
theorem dX11_land_29 : decode cX11_land 29 = .ok (.invokevirtual 135, 3) := by decide +kernel
theorem dX11_land_32 : decode cX11_land 32 = .ok (.ifCond .eq 7, 3) := by decide +kernel
theorem dX11_land_35 : decode cX11_land 35 = .ok (.iconst 1, 1) := by decide +kernel
theorem dX11_land_36 : decode cX11_land 36 = .ok (.goto 4, 3) := by decide +kernel
theorem dX11_land_39 : decode cX11_land 39 = .ok (.iconst 0, 1) := by decide +kernel
theorem dX11_land_40 : decode cX11_land 40 = .ok (.ireturn, 1) := by decide +kernel
theorem dX11_facing_0 : decode cX11_facing 0 = .ok (.aload_n 0, 1) := by decide +kernel
theorem dX11_facing_1 : decode cX11_facing 1 = .ok (.getfield 38, 3) := by decide +kernel
theorem dX11_facing_4 : decode cX11_facing 4 = .ok (.iload_n 1, 1) := by decide +kernel
theorem dX11_facing_5 : decode cX11_facing 5 = .ok (.invokevirtual 117, 3) := by decide +kernel
theorem dX11_facing_8 : decode cX11_facing 8 = .ok (.astore 6, 2) := by decide +kernel
theorem dX11_facing_10 : decode cX11_facing 10 = .ok (.iload_n 2, 1) := by decide +kernel
theorem dX11_facing_11 : decode cX11_facing 11 = .ok (.iload_n 3, 1) := by decide +kernel
theorem dX11_facing_12 : decode cX11_facing 12 = .ok (.invokestatic 132, 3) := by decide +kernel
theorem dX11_facing_15 : decode cX11_facing 15 = .ok (.ifCond .eq 27, 3) := by decide +kernel
theorem dX11_facing_18 : decode cX11_facing 18 = .ok (.iload 4, 2) := by decide +kernel
theorem dX11_facing_20 : decode cX11_facing 20 = .ok (.iconst 0, 1) := by decide +kernel
theorem dX11_facing_21 : decode cX11_facing 21 = .ok (.iconst 3, 1) := by decide +kernel
theorem dX11_facing_22 : decode cX11_facing 22 = .ok (.invokestatic 67, 3) := by decide +kernel
theorem dX11_facing_25 : decode cX11_facing 25 = .ok (.ifCond .eq 17, 3) := by decide +kernel
theorem dX11_facing_28 : decode cX11_facing 28 = .ok (.iload 5, 2) := by decide +kernel
theorem dX11_facing_30 : decode cX11_facing 30 = .ok (.iconst 0, 1) := by decide +kernel
theorem dX11_facing_31 : decode cX11_facing 31 = .ok (.iconst 2, 1) := by decide +kernel
theorem dX11_facing_32 : decode cX11_facing 32 = .ok (.invokestatic 67, 3) := by decide +kernel
theorem dX11_facing_35 : decode cX11_facing 35 = .ok (.ifCond .eq 7, 3) := by decide +kernel
theorem dX11_facing_38 : decode cX11_facing 38 = .ok (.iconst 1, 1) := by decide +kernel
theorem dX11_facing_39 : decode cX11_facing 39 = .ok (.goto 4, 3) := by decide +kernel
theorem dX11_facing_42 : decode cX11_facing 42 = .ok (.iconst 0, 1) := by decide +kernel
theorem dX11_facing_43 : decode cX11_facing 43 = .ok (.istore 7, 2) := by decide +kernel
theorem dX11_facing_45 : decode cX11_facing 45 = .ok (.aload 6, 2) := by decide +kernel
theorem dX11_facing_47 : decode cX11_facing 47 = .ok (.ifnull 8, 3) := by decide +kernel
theorem dX11_facing_50 : decode cX11_facing 50 = .ok (.iload 7, 2) := by decide +kernel
theorem dX11_facing_52 : decode cX11_facing 52 = .ok (.ifCond .ne 5, 3) := by decide +kernel
theorem dX11_facing_55 : decode cX11_facing 55 = .ok (.iconst (-1), 1) := by decide +kernel
theorem dX11_facing_56 : decode cX11_facing 56 = .ok (.ireturn, 1) := by decide +kernel
theorem dX11_facing_57 : decode cX11_facing 57 = .ok (.aload 6, 2) := by decide +kernel
theorem dX11_facing_59 : decode cX11_facing 59 = .ok (.iload_n 2, 1) := by decide +kernel
theorem dX11_facing_60 : decode cX11_facing 60 = .ok (.iload_n 3, 1) := by decide +kernel
theorem dX11_facing_61 : decode cX11_facing 61 = .ok (.invokevirtual 135, 3) := by decide +kernel
theorem dX11_facing_64 : decode cX11_facing 64 = .ok (.ifCond .eq 6, 3) := by decide +kernel
theorem dX11_facing_67 : decode cX11_facing 67 = .ok (.bipush (-3), 2) := by decide +kernel
theorem dX11_facing_69 : decode cX11_facing 69 = .ok (.ireturn, 1) := by decide +kernel
theorem dX11_facing_70 : decode cX11_facing 70 = .ok (.aload 6, 2) := by decide +kernel
theorem dX11_facing_72 : decode cX11_facing 72 = .ok (.iload 4, 2) := by decide +kernel
theorem dX11_facing_74 : decode cX11_facing 74 = .ok (.invokevirtual 138, 3) := by decide +kernel
theorem dX11_facing_77 : decode cX11_facing 77 = .ok (.aload 6, 2) := by decide +kernel
theorem dX11_facing_79 : decode cX11_facing 79 = .ok (.getfield 141, 3) := by decide +kernel
theorem dX11_facing_82 : decode cX11_facing 82 = .ok (.iload 4, 2) := by decide +kernel
theorem dX11_facing_84 : decode cX11_facing 84 = .ok (.sipush 1024, 3) := by decide +kernel
theorem dX11_facing_87 : decode cX11_facing 87 = .ok (.imul, 1) := by decide +kernel
theorem dX11_facing_88 : decode cX11_facing 88 = .ok (.iload_n 3, 1) := by decide +kernel
theorem dX11_facing_89 : decode cX11_facing 89 = .ok (.bipush 32, 2) := by decide +kernel
theorem dX11_facing_91 : decode cX11_facing 91 = .ok (.imul, 1) := by decide +kernel
theorem dX11_facing_92 : decode cX11_facing 92 = .ok (.iadd, 1) := by decide +kernel
theorem dX11_facing_93 : decode cX11_facing 93 = .ok (.iload_n 2, 1) := by decide +kernel
theorem dX11_facing_94 : decode cX11_facing 94 = .ok (.iadd, 1) := by decide +kernel
theorem dX11_facing_95 : decode cX11_facing 95 = .ok (.iaload, 1) := by decide +kernel
theorem dX11_facing_96 : decode cX11_facing 96 = .ok (.istore 8, 2) := by decide +kernel
theorem dX11_facing_98 : decode cX11_facing 98 = .ok (.iload 5, 2) := by decide +kernel
theorem dX11_facing_100 : decode cX11_facing 100 = .ok (.ifCond .ne 8, 3) := by decide +kernel
theorem dX11_facing_103 : decode cX11_facing 103 = .ok (.iload 8, 2) := by decide +kernel
theorem dX11_facing_105 : decode cX11_facing 105 = .ok (.iconst 2, 1) := by decide +kernel
theorem dX11_facing_106 : decode cX11_facing 106 = .ok (.ishr, 1) := by decide +kernel
theorem dX11_facing_107 : decode cX11_facing 107 = .ok (.ireturn, 1) := by decide +kernel
theorem dX11_facing_108 : decode cX11_facing 108 = .ok (.iload 5, 2) := by decide +kernel
theorem dX11_facing_110 : decode cX11_facing 110 = .ok (.iconst 1, 1) := by decide +kernel
theorem dX11_facing_111 : decode cX11_facing 111 = .ok (.if_icmp .ne 18, 3) := by decide +kernel
theorem dX11_facing_114 : decode cX11_facing 114 = .ok (.iload 8, 2) := by decide +kernel
theorem dX11_facing_116 : decode cX11_facing 116 = .ok (.ifCond .ne 8, 3) := by decide +kernel
theorem dX11_facing_119 : decode cX11_facing 119 = .ok (.bipush (-2), 2) := by decide +kernel
theorem dX11_facing_121 : decode cX11_facing 121 = .ok (.goto 7, 3) := by decide +kernel
theorem dX11_facing_124 : decode cX11_facing 124 = .ok (.iload 8, 2) := by decide +kernel
theorem dX11_facing_126 : decode cX11_facing 126 = .ok (.iconst 3, 1) := by decide +kernel
theorem dX11_facing_127 : decode cX11_facing 127 = .ok (.iand, 1) := by decide +kernel
theorem dX11_facing_128 : decode cX11_facing 128 = .ok (.ireturn, 1) := by decide +kernel
theorem dX11_facing_129 : decode cX11_facing 129 = .ok (.iconst 2, 1) := by decide +kernel
theorem dX11_facing_130 : decode cX11_facing 130 = .ok (.iload 8, 2) := by decide +kernel
theorem dX11_facing_132 : decode cX11_facing 132 = .ok (.invokestatic 144, 3) := by decide +kernel
theorem dX11_facing_135 : decode cX11_facing 135 = .ok (.imul, 1) := by decide +kernel
theorem dX11_facing_136 : decode cX11_facing 136 = .ok (.ireturn, 1) := by decide +kernel
theorem dX11_sounder_0 : decode cX11_sounder 0 = .ok (.iload_n 1, 1) := by decide +kernel
theorem dX11_sounder_1 : decode cX11_sounder 1 = .ok (.iload_n 2, 1) := by decide +kernel
theorem dX11_sounder_2 : decode cX11_sounder 2 = .ok (.invokestatic 132, 3) := by decide +kernel
theorem dX11_sounder_5 : decode cX11_sounder 5 = .ok (.ifCond .eq 27, 3) := by decide +kernel
theorem dX11_sounder_8 : decode cX11_sounder 8 = .ok (.iload_n 3, 1) := by decide +kernel
theorem dX11_sounder_9 : decode cX11_sounder 9 = .ok (.iconst 0, 1) := by decide +kernel
theorem dX11_sounder_10 : decode cX11_sounder 10 = .ok (.iconst 3, 1) := by decide +kernel
theorem dX11_sounder_11 : decode cX11_sounder 11 = .ok (.invokestatic 67, 3) := by decide +kernel
theorem dX11_sounder_14 : decode cX11_sounder 14 = .ok (.ifCond .eq 18, 3) := by decide +kernel
theorem dX11_sounder_17 : decode cX11_sounder 17 = .ok (.iload 4, 2) := by decide +kernel
theorem dX11_sounder_19 : decode cX11_sounder 19 = .ok (.iconst 0, 1) := by decide +kernel
theorem dX11_sounder_20 : decode cX11_sounder 20 = .ok (.bipush 99, 2) := by decide +kernel
theorem dX11_sounder_22 : decode cX11_sounder 22 = .ok (.invokestatic 67, 3) := by decide +kernel
theorem dX11_sounder_25 : decode cX11_sounder 25 = .ok (.ifCond .eq 7, 3) := by decide +kernel
theorem dX11_sounder_28 : decode cX11_sounder 28 = .ok (.iconst 1, 1) := by decide +kernel
theorem dX11_sounder_29 : decode cX11_sounder 29 = .ok (.goto 4, 3) := by decide +kernel
theorem dX11_sounder_32 : decode cX11_sounder 32 = .ok (.iconst 0, 1) := by decide +kernel
theorem dX11_sounder_33 : decode cX11_sounder 33 = .ok (.istore 5, 2) := by decide +kernel
theorem dX11_sounder_35 : decode cX11_sounder 35 = .ok (.iload 5, 2) := by decide +kernel
theorem dX11_sounder_37 : decode cX11_sounder 37 = .ok (.ifCond .eq 15, 3) := by decide +kernel
theorem dX11_sounder_40 : decode cX11_sounder 40 = .ok (.aload_n 0, 1) := by decide +kernel
theorem dX11_sounder_41 : decode cX11_sounder 41 = .ok (.getfield 34, 3) := by decide +kernel
theorem dX11_sounder_44 : decode cX11_sounder 44 = .ok (.getfield 147, 3) := by decide +kernel
theorem dX11_sounder_47 : decode cX11_sounder 47 = .ok (.bipush 6, 2) := by decide +kernel
theorem dX11_sounder_49 : decode cX11_sounder 49 = .ok (.if_icmp .lt 5, 3) := by decide +kernel
theorem dX11_sounder_52 : decode cX11_sounder 52 = .ok (.iconst (-1), 1) := by decide +kernel
theorem dX11_sounder_53 : decode cX11_sounder 53 = .ok (.ireturn, 1) := by decide +kernel
theorem dX11_sounder_54 : decode cX11_sounder 54 = .ok (.aload_n 0, 1) := by decide +kernel
theorem dX11_sounder_55 : decode cX11_sounder 55 = .ok (.getfield 34, 3) := by decide +kernel
theorem dX11_sounder_58 : decode cX11_sounder 58 = .ok (.iload_n 1, 1) := by decide +kernel
theorem dX11_sounder_59 : decode cX11_sounder 59 = .ok (.iload_n 2, 1) := by decide +kernel
theorem dX11_sounder_60 : decode cX11_sounder 60 = .ok (.iload_n 3, 1) := by decide +kernel
theorem dX11_sounder_61 : decode cX11_sounder 61 = .ok (.iload 4, 2) := by decide +kernel
theorem dX11_sounder_63 : decode cX11_sounder 63 = .ok (.invokevirtual 148, 3) := by decide +kernel
theorem dX11_sounder_66 : decode cX11_sounder 66 = .ok (.aload_n 0, 1) := by decide +kernel
theorem dX11_sounder_67 : decode cX11_sounder 67 = .ok (.getfield 34, 3) := by decide +kernel
theorem dX11_sounder_70 : decode cX11_sounder 70 = .ok (.getfield 147, 3) := by decide +kernel
theorem dX11_sounder_73 : decode cX11_sounder 73 = .ok (.iconst 1, 1) := by decide +kernel
theorem dX11_sounder_74 : decode cX11_sounder 74 = .ok (.isub, 1) := by decide +kernel
theorem dX11_sounder_75 : decode cX11_sounder 75 = .ok (.ireturn, 1) := by decide +kernel
theorem dX11_level_0 : decode cX11_level 0 = .ok (.aload_n 0, 1) := by decide +kernel
theorem dX11_level_1 : decode cX11_level 1 = .ok (.getfield 38, 3) := by decide +kernel
theorem dX11_level_4 : decode cX11_level 4 = .ok (.iload_n 1, 1) := by decide +kernel
theorem dX11_level_5 : decode cX11_level 5 = .ok (.invokevirtual 117, 3) := by decide +kernel
theorem dX11_level_8 : decode cX11_level 8 = .ok (.astore 7, 2) := by decide +kernel
theorem dX11_level_10 : decode cX11_level 10 = .ok (.iload_n 3, 1) := by decide +kernel
theorem dX11_level_11 : decode cX11_level 11 = .ok (.iload 4, 2) := by decide +kernel
theorem dX11_level_13 : decode cX11_level 13 = .ok (.invokestatic 132, 3) := by decide +kernel
theorem dX11_level_16 : decode cX11_level 16 = .ok (.ifCond .eq 28, 3) := by decide +kernel
theorem dX11_level_19 : decode cX11_level 19 = .ok (.iload 5, 2) := by decide +kernel
theorem dX11_level_21 : decode cX11_level 21 = .ok (.iconst 0, 1) := by decide +kernel
theorem dX11_level_22 : decode cX11_level 22 = .ok (.bipush 23, 2) := by decide +kernel
theorem dX11_level_24 : decode cX11_level 24 = .ok (.invokestatic 67, 3) := by decide +kernel
theorem dX11_level_27 : decode cX11_level 27 = .ok (.ifCond .eq 17, 3) := by decide +kernel
theorem dX11_level_30 : decode cX11_level 30 = .ok (.iload 6, 2) := by decide +kernel
theorem dX11_level_32 : decode cX11_level 32 = .ok (.iconst 0, 1) := by decide +kernel
theorem dX11_level_33 : decode cX11_level 33 = .ok (.iconst 3, 1) := by decide +kernel
theorem dX11_level_34 : decode cX11_level 34 = .ok (.invokestatic 67, 3) := by decide +kernel
theorem dX11_level_37 : decode cX11_level 37 = .ok (.ifCond .eq 7, 3) := by decide +kernel
theorem dX11_level_40 : decode cX11_level 40 = .ok (.iconst 1, 1) := by decide +kernel
theorem dX11_level_41 : decode cX11_level 41 = .ok (.goto 4, 3) := by decide +kernel
theorem dX11_level_44 : decode cX11_level 44 = .ok (.iconst 0, 1) := by decide +kernel
theorem dX11_level_45 : decode cX11_level 45 = .ok (.istore 8, 2) := by decide +kernel
theorem dX11_level_47 : decode cX11_level 47 = .ok (.aload 7, 2) := by decide +kernel
theorem dX11_level_49 : decode cX11_level 49 = .ok (.ifnull 19, 3) := by decide +kernel
theorem dX11_level_52 : decode cX11_level 52 = .ok (.aload_n 0, 1) := by decide +kernel
theorem dX11_level_53 : decode cX11_level 53 = .ok (.getfield 34, 3) := by decide +kernel
theorem dX11_level_56 : decode cX11_level 56 = .ok (.iload_n 2, 1) := by decide +kernel
theorem dX11_level_57 : decode cX11_level 57 = .ok (.invokevirtual 152, 3) := by decide +kernel
theorem dX11_level_60 : decode cX11_level 60 = .ok (.ifCond .eq 8, 3) := by decide +kernel
theorem dX11_level_63 : decode cX11_level 63 = .ok (.iload 8, 2) := by decide +kernel
theorem dX11_level_65 : decode cX11_level 65 = .ok (.ifCond .ne 5, 3) := by decide +kernel
theorem dX11_level_68 : decode cX11_level 68 = .ok (.iconst (-1), 1) := by decide +kernel
theorem dX11_level_69 : decode cX11_level 69 = .ok (.ireturn, 1) := by decide +kernel
theorem dX11_level_70 : decode cX11_level 70 = .ok (.aload_n 0, 1) := by decide +kernel
theorem dX11_level_71 : decode cX11_level 71 = .ok (.getfield 34, 3) := by decide +kernel
theorem dX11_level_74 : decode cX11_level 74 = .ok (.iload_n 2, 1) := by decide +kernel
theorem dX11_level_75 : decode cX11_level 75 = .ok (.iload 5, 2) := by decide +kernel
theorem dX11_level_77 : decode cX11_level 77 = .ok (.iload 6, 2) := by decide +kernel
theorem dX11_level_79 : decode cX11_level 79 = .ok (.invokevirtual 156, 3) := by decide +kernel
theorem dX11_level_82 : decode cX11_level 82 = .ok (.aload_n 0, 1) := by decide +kernel
theorem dX11_level_83 : decode cX11_level 83 = .ok (.getfield 34, 3) := by decide +kernel
theorem dX11_level_86 : decode cX11_level 86 = .ok (.aload 7, 2) := by decide +kernel
theorem dX11_level_88 : decode cX11_level 88 = .ok (.iload_n 3, 1) := by decide +kernel
theorem dX11_level_89 : decode cX11_level 89 = .ok (.iload 4, 2) := by decide +kernel
theorem dX11_level_91 : decode cX11_level 91 = .ok (.invokevirtual 160, 3) := by decide +kernel
theorem dX11_level_94 : decode cX11_level 94 = .ok (.ireturn, 1) := by decide +kernel
theorem dX11_line_0 : decode cX11_line 0 = .ok (.iload_n 1, 1) := by decide +kernel
theorem dX11_line_1 : decode cX11_line 1 = .ok (.bipush (-9), 2) := by decide +kernel
theorem dX11_line_3 : decode cX11_line 3 = .ok (.bipush 9, 2) := by decide +kernel
theorem dX11_line_5 : decode cX11_line 5 = .ok (.invokestatic 67, 3) := by decide +kernel
theorem dX11_line_8 : decode cX11_line 8 = .ok (.ifCond .eq 18, 3) := by decide +kernel
theorem dX11_line_11 : decode cX11_line 11 = .ok (.iload_n 2, 1) := by decide +kernel
theorem dX11_line_12 : decode cX11_line 12 = .ok (.bipush (-9), 2) := by decide +kernel
theorem dX11_line_14 : decode cX11_line 14 = .ok (.bipush 9, 2) := by decide +kernel
theorem dX11_line_16 : decode cX11_line 16 = .ok (.invokestatic 67, 3) := by decide +kernel
theorem dX11_line_19 : decode cX11_line 19 = .ok (.ifCond .eq 7, 3) := by decide +kernel
theorem dX11_line_22 : decode cX11_line 22 = .ok (.iconst 1, 1) := by decide +kernel
theorem dX11_line_23 : decode cX11_line 23 = .ok (.goto 4, 3) := by decide +kernel
theorem dX11_line_26 : decode cX11_line 26 = .ok (.iconst 0, 1) := by decide +kernel
theorem dX11_line_27 : decode cX11_line 27 = .ok (.istore 6, 2) := by decide +kernel
theorem dX11_line_29 : decode cX11_line 29 = .ok (.iload 6, 2) := by decide +kernel
theorem dX11_line_31 : decode cX11_line 31 = .ok (.ifCond .eq 37, 3) := by decide +kernel
theorem dX11_line_34 : decode cX11_line 34 = .ok (.iload_n 3, 1) := by decide +kernel
theorem dX11_line_35 : decode cX11_line 35 = .ok (.iconst 0, 1) := by decide +kernel
theorem dX11_line_36 : decode cX11_line 36 = .ok (.iconst 3, 1) := by decide +kernel
theorem dX11_line_37 : decode cX11_line 37 = .ok (.invokestatic 67, 3) := by decide +kernel
theorem dX11_line_40 : decode cX11_line 40 = .ok (.ifCond .eq 28, 3) := by decide +kernel
theorem dX11_line_43 : decode cX11_line 43 = .ok (.iload 4, 2) := by decide +kernel
theorem dX11_line_45 : decode cX11_line 45 = .ok (.iconst 0, 1) := by decide +kernel
theorem dX11_line_46 : decode cX11_line 46 = .ok (.bipush 23, 2) := by decide +kernel
theorem dX11_line_48 : decode cX11_line 48 = .ok (.invokestatic 67, 3) := by decide +kernel
theorem dX11_line_51 : decode cX11_line 51 = .ok (.ifCond .eq 17, 3) := by decide +kernel
theorem dX11_line_54 : decode cX11_line 54 = .ok (.iload 5, 2) := by decide +kernel
theorem dX11_line_56 : decode cX11_line 56 = .ok (.iconst 0, 1) := by decide +kernel
theorem dX11_line_57 : decode cX11_line 57 = .ok (.iconst 3, 1) := by decide +kernel
theorem dX11_line_58 : decode cX11_line 58 = .ok (.invokestatic 67, 3) := by decide +kernel
theorem dX11_line_61 : decode cX11_line 61 = .ok (.ifCond .eq 7, 3) := by decide +kernel
theorem dX11_line_64 : decode cX11_line 64 = .ok (.iconst 1, 1) := by decide +kernel
theorem dX11_line_65 : decode cX11_line 65 = .ok (.goto 4, 3) := by decide +kernel
theorem dX11_line_68 : decode cX11_line 68 = .ok (.iconst 0, 1) := by decide +kernel
theorem dX11_line_69 : decode cX11_line 69 = .ok (.istore 6, 2) := by decide +kernel
theorem dX11_line_71 : decode cX11_line 71 = .ok (.iload 6, 2) := by decide +kernel
theorem dX11_line_73 : decode cX11_line 73 = .ok (.ifCond .eq 15, 3) := by decide +kernel
theorem dX11_line_76 : decode cX11_line 76 = .ok (.aload_n 0, 1) := by decide +kernel
theorem dX11_line_77 : decode cX11_line 77 = .ok (.getfield 26, 3) := by decide +kernel
theorem dX11_line_80 : decode cX11_line 80 = .ok (.getfield 164, 3) := by decide +kernel
theorem dX11_line_83 : decode cX11_line 83 = .ok (.bipush 12, 2) := by decide +kernel
theorem dX11_line_85 : decode cX11_line 85 = .ok (.if_icmp .lt 5, 3) := by decide +kernel
theorem dX11_line_88 : decode cX11_line 88 = .ok (.iconst (-1), 1) := by decide +kernel
theorem dX11_line_89 : decode cX11_line 89 = .ok (.ireturn, 1) := by decide +kernel
theorem dX11_line_90 : decode cX11_line 90 = .ok (.aload_n 0, 1) := by decide +kernel
theorem dX11_line_91 : decode cX11_line 91 = .ok (.getfield 26, 3) := by decide +kernel
theorem dX11_line_94 : decode cX11_line 94 = .ok (.iload_n 1, 1) := by decide +kernel
theorem dX11_line_95 : decode cX11_line 95 = .ok (.iload_n 2, 1) := by decide +kernel
theorem dX11_line_96 : decode cX11_line 96 = .ok (.iload_n 3, 1) := by decide +kernel
theorem dX11_line_97 : decode cX11_line 97 = .ok (.iload 4, 2) := by decide +kernel
theorem dX11_line_99 : decode cX11_line 99 = .ok (.iload 5, 2) := by decide +kernel
theorem dX11_line_101 : decode cX11_line 101 = .ok (.invokevirtual 165, 3) := by decide +kernel
theorem dX11_line_104 : decode cX11_line 104 = .ok (.aload_n 0, 1) := by decide +kernel
theorem dX11_line_105 : decode cX11_line 105 = .ok (.dup, 1) := by decide +kernel
theorem dX11_line_106 : decode cX11_line 106 = .ok (.getfield 56, 3) := by decide +kernel
theorem dX11_line_109 : decode cX11_line 109 = .ok (.iconst 1, 1) := by decide +kernel
theorem dX11_line_110 : decode cX11_line 110 = .ok (.iadd, 1) := by decide +kernel
theorem dX11_line_111 : decode cX11_line 111 = .ok (.putfield 56, 3) := by decide +kernel
theorem dX11_line_114 : decode cX11_line 114 = .ok (.aload_n 0, 1) := by decide +kernel
theorem dX11_line_115 : decode cX11_line 115 = .ok (.getfield 26, 3) := by decide +kernel
theorem dX11_line_118 : decode cX11_line 118 = .ok (.getfield 164, 3) := by decide +kernel
theorem dX11_line_121 : decode cX11_line 121 = .ok (.iconst 1, 1) := by decide +kernel
theorem dX11_line_122 : decode cX11_line 122 = .ok (.isub, 1) := by decide +kernel
theorem dX11_line_123 : decode cX11_line 123 = .ok (.ireturn, 1) := by decide +kernel
theorem dX11_hears_0 : decode cX11_hears 0 = .ok (.iload_n 2, 1) := by decide +kernel
theorem dX11_hears_1 : decode cX11_hears 1 = .ok (.iconst 0, 1) := by decide +kernel
theorem dX11_hears_2 : decode cX11_hears 2 = .ok (.bipush 99, 2) := by decide +kernel
theorem dX11_hears_4 : decode cX11_hears 4 = .ok (.invokestatic 67, 3) := by decide +kernel
theorem dX11_hears_7 : decode cX11_hears 7 = .ok (.ifCond .eq 17, 3) := by decide +kernel
theorem dX11_hears_10 : decode cX11_hears 10 = .ok (.iload_n 3, 1) := by decide +kernel
theorem dX11_hears_11 : decode cX11_hears 11 = .ok (.iconst 0, 1) := by decide +kernel
theorem dX11_hears_12 : decode cX11_hears 12 = .ok (.bipush 99, 2) := by decide +kernel
theorem dX11_hears_14 : decode cX11_hears 14 = .ok (.invokestatic 67, 3) := by decide +kernel
theorem dX11_hears_17 : decode cX11_hears 17 = .ok (.ifCond .eq 7, 3) := by decide +kernel
theorem dX11_hears_20 : decode cX11_hears 20 = .ok (.iconst 1, 1) := by decide +kernel
theorem dX11_hears_21 : decode cX11_hears 21 = .ok (.goto 4, 3) := by decide +kernel
theorem dX11_hears_24 : decode cX11_hears 24 = .ok (.iconst 0, 1) := by decide +kernel
theorem dX11_hears_25 : decode cX11_hears 25 = .ok (.istore 4, 2) := by decide +kernel
theorem dX11_hears_27 : decode cX11_hears 27 = .ok (.aload_n 0, 1) := by decide +kernel
theorem dX11_hears_28 : decode cX11_hears 28 = .ok (.getfield 34, 3) := by decide +kernel
theorem dX11_hears_31 : decode cX11_hears 31 = .ok (.iload_n 1, 1) := by decide +kernel
theorem dX11_hears_32 : decode cX11_hears 32 = .ok (.invokevirtual 152, 3) := by decide +kernel
theorem dX11_hears_35 : decode cX11_hears 35 = .ok (.ifCond .eq 8, 3) := by decide +kernel
theorem dX11_hears_38 : decode cX11_hears 38 = .ok (.iload 4, 2) := by decide +kernel
theorem dX11_hears_40 : decode cX11_hears 40 = .ok (.ifCond .ne 5, 3) := by decide +kernel
theorem dX11_hears_43 : decode cX11_hears 43 = .ok (.iconst (-1), 1) := by decide +kernel
theorem dX11_hears_44 : decode cX11_hears 44 = .ok (.ireturn, 1) := by decide +kernel
theorem dX11_hears_45 : decode cX11_hears 45 = .ok (.aload_n 0, 1) := by decide +kernel
theorem dX11_hears_46 : decode cX11_hears 46 = .ok (.iconst 0, 1) := by decide +kernel
theorem dX11_hears_47 : decode cX11_hears 47 = .ok (.iload_n 1, 1) := by decide +kernel
theorem dX11_hears_48 : decode cX11_hears 48 = .ok (.iload_n 2, 1) := by decide +kernel
theorem dX11_hears_49 : decode cX11_hears 49 = .ok (.iload_n 3, 1) := by decide +kernel
theorem dX11_hears_50 : decode cX11_hears 50 = .ok (.invokevirtual 169, 3) := by decide +kernel
theorem dX11_hears_53 : decode cX11_hears 53 = .ok (.ireturn, 1) := by decide +kernel
theorem dX11_echo_0 : decode cX11_echo 0 = .ok (.iload_n 1, 1) := by decide +kernel
theorem dX11_echo_1 : decode cX11_echo 1 = .ok (.iconst 0, 1) := by decide +kernel
theorem dX11_echo_2 : decode cX11_echo 2 = .ok (.iconst 3, 1) := by decide +kernel
theorem dX11_echo_3 : decode cX11_echo 3 = .ok (.invokestatic 67, 3) := by decide +kernel
theorem dX11_echo_6 : decode cX11_echo 6 = .ok (.ifCond .eq 13, 3) := by decide +kernel
theorem dX11_echo_9 : decode cX11_echo 9 = .ok (.iload_n 2, 1) := by decide +kernel
theorem dX11_echo_10 : decode cX11_echo 10 = .ok (.iconst 0, 1) := by decide +kernel
theorem dX11_echo_11 : decode cX11_echo 11 = .ok (.bipush 64, 2) := by decide +kernel
theorem dX11_echo_13 : decode cX11_echo 13 = .ok (.invokestatic 67, 3) := by decide +kernel
theorem dX11_echo_16 : decode cX11_echo 16 = .ok (.ifCond .ne 5, 3) := by decide +kernel
theorem dX11_echo_19 : decode cX11_echo 19 = .ok (.iconst (-1), 1) := by decide +kernel
theorem dX11_echo_20 : decode cX11_echo 20 = .ok (.ireturn, 1) := by decide +kernel
theorem dX11_echo_21 : decode cX11_echo 21 = .ok (.aload_n 0, 1) := by decide +kernel
theorem dX11_echo_22 : decode cX11_echo 22 = .ok (.iconst 1, 1) := by decide +kernel
theorem dX11_echo_23 : decode cX11_echo 23 = .ok (.iload_n 1, 1) := by decide +kernel
theorem dX11_echo_24 : decode cX11_echo 24 = .ok (.iload_n 2, 1) := by decide +kernel
theorem dX11_echo_25 : decode cX11_echo 25 = .ok (.iconst 0, 1) := by decide +kernel
theorem dX11_echo_26 : decode cX11_echo 26 = .ok (.invokevirtual 169, 3) := by decide +kernel
theorem dX11_echo_29 : decode cX11_echo 29 = .ok (.ireturn, 1) := by decide +kernel
theorem dX11_back_0 : decode cX11_back 0 = .ok (.aload_n 0, 1) := by decide +kernel
theorem dX11_back_1 : decode cX11_back 1 = .ok (.getfield 26, 3) := by decide +kernel
theorem dX11_back_4 : decode cX11_back 4 = .ok (.getfield 164, 3) := by decide +kernel
theorem dX11_back_7 : decode cX11_back 7 = .ok (.ifCond .ne 5, 3) := by decide +kernel
theorem dX11_back_10 : decode cX11_back 10 = .ok (.iconst (-1), 1) := by decide +kernel
theorem dX11_back_11 : decode cX11_back 11 = .ok (.ireturn, 1) := by decide +kernel
theorem dX11_back_12 : decode cX11_back 12 = .ok (.aload_n 0, 1) := by decide +kernel
theorem dX11_back_13 : decode cX11_back 13 = .ok (.getfield 26, 3) := by decide +kernel
theorem dX11_back_16 : decode cX11_back 16 = .ok (.dup, 1) := by decide +kernel
theorem dX11_back_17 : decode cX11_back 17 = .ok (.getfield 164, 3) := by decide +kernel
theorem dX11_back_20 : decode cX11_back 20 = .ok (.iconst 1, 1) := by decide +kernel
theorem dX11_back_21 : decode cX11_back 21 = .ok (.isub, 1) := by decide +kernel
theorem dX11_back_22 : decode cX11_back 22 = .ok (.putfield 164, 3) := by decide +kernel
theorem dX11_back_25 : decode cX11_back 25 = .ok (.aload_n 0, 1) := by decide +kernel
theorem dX11_back_26 : decode cX11_back 26 = .ok (.getfield 38, 3) := by decide +kernel
theorem dX11_back_29 : decode cX11_back 29 = .ok (.aload_n 0, 1) := by decide +kernel
theorem dX11_back_30 : decode cX11_back 30 = .ok (.getfield 26, 3) := by decide +kernel
theorem dX11_back_33 : decode cX11_back 33 = .ok (.invokevirtual 173, 3) := by decide +kernel
theorem dX11_back_36 : decode cX11_back 36 = .ok (.aload_n 0, 1) := by decide +kernel
theorem dX11_back_37 : decode cX11_back 37 = .ok (.dup, 1) := by decide +kernel
theorem dX11_back_38 : decode cX11_back 38 = .ok (.getfield 56, 3) := by decide +kernel
theorem dX11_back_41 : decode cX11_back 41 = .ok (.iconst 1, 1) := by decide +kernel
theorem dX11_back_42 : decode cX11_back 42 = .ok (.iadd, 1) := by decide +kernel
theorem dX11_back_43 : decode cX11_back 43 = .ok (.putfield 56, 3) := by decide +kernel
theorem dX11_back_46 : decode cX11_back 46 = .ok (.aload_n 0, 1) := by decide +kernel
theorem dX11_back_47 : decode cX11_back 47 = .ok (.getfield 26, 3) := by decide +kernel
theorem dX11_back_50 : decode cX11_back 50 = .ok (.getfield 164, 3) := by decide +kernel
theorem dX11_back_53 : decode cX11_back 53 = .ok (.ireturn, 1) := by decide +kernel
theorem dX11_wrong_0 : decode cX11_wrong 0 = .ok (.iload_n 1, 1) := by decide +kernel
theorem dX11_wrong_1 : decode cX11_wrong 1 = .ok (.iconst 0, 1) := by decide +kernel
theorem dX11_wrong_2 : decode cX11_wrong 2 = .ok (.iconst 3, 1) := by decide +kernel
theorem dX11_wrong_3 : decode cX11_wrong 3 = .ok (.invokestatic 67, 3) := by decide +kernel
theorem dX11_wrong_6 : decode cX11_wrong 6 = .ok (.ifCond .ne 5, 3) := by decide +kernel
theorem dX11_wrong_9 : decode cX11_wrong 9 = .ok (.iconst 0, 1) := by decide +kernel
theorem dX11_wrong_10 : decode cX11_wrong 10 = .ok (.ireturn, 1) := by decide +kernel
theorem dX11_wrong_11 : decode cX11_wrong 11 = .ok (.iload_n 1, 1) := by decide +kernel
theorem dX11_wrong_12 : decode cX11_wrong 12 = .ok (.aload_n 0, 1) := by decide +kernel
theorem dX11_wrong_13 : decode cX11_wrong 13 = .ok (.getfield 26, 3) := by decide +kernel
theorem dX11_wrong_16 : decode cX11_wrong 16 = .ok (.getfield 177, 3) := by decide +kernel
theorem dX11_wrong_19 : decode cX11_wrong 19 = .ok (.if_icmp .eq 28, 3) := by decide +kernel
theorem dX11_wrong_22 : decode cX11_wrong 22 = .ok (.aload_n 0, 1) := by decide +kernel
theorem dX11_wrong_23 : decode cX11_wrong 23 = .ok (.getfield 26, 3) := by decide +kernel
theorem dX11_wrong_26 : decode cX11_wrong 26 = .ok (.iload_n 1, 1) := by decide +kernel
theorem dX11_wrong_27 : decode cX11_wrong 27 = .ok (.putfield 177, 3) := by decide +kernel
theorem dX11_wrong_30 : decode cX11_wrong 30 = .ok (.aload_n 0, 1) := by decide +kernel
theorem dX11_wrong_31 : decode cX11_wrong 31 = .ok (.getfield 38, 3) := by decide +kernel
theorem dX11_wrong_34 : decode cX11_wrong 34 = .ok (.invokevirtual 114, 3) := by decide +kernel
theorem dX11_wrong_37 : decode cX11_wrong 37 = .ok (.aload_n 0, 1) := by decide +kernel
theorem dX11_wrong_38 : decode cX11_wrong 38 = .ok (.dup, 1) := by decide +kernel
theorem dX11_wrong_39 : decode cX11_wrong 39 = .ok (.getfield 56, 3) := by decide +kernel
theorem dX11_wrong_42 : decode cX11_wrong 42 = .ok (.iconst 1, 1) := by decide +kernel
theorem dX11_wrong_43 : decode cX11_wrong 43 = .ok (.iadd, 1) := by decide +kernel
theorem dX11_wrong_44 : decode cX11_wrong 44 = .ok (.putfield 56, 3) := by decide +kernel
theorem dX11_wrong_47 : decode cX11_wrong 47 = .ok (.iconst 1, 1) := by decide +kernel
theorem dX11_wrong_48 : decode cX11_wrong 48 = .ok (.ireturn, 1) := by decide +kernel
theorem dX11_box_0 : decode cX11_box 0 = .ok (.iload_n 1, 1) := by decide +kernel
theorem dX11_box_1 : decode cX11_box 1 = .ok (.iload_n 2, 1) := by decide +kernel
theorem dX11_box_2 : decode cX11_box 2 = .ok (.invokestatic 132, 3) := by decide +kernel
theorem dX11_box_5 : decode cX11_box 5 = .ok (.ifCond .eq 23, 3) := by decide +kernel
theorem dX11_box_8 : decode cX11_box 8 = .ok (.iload_n 3, 1) := by decide +kernel
theorem dX11_box_9 : decode cX11_box 9 = .ok (.iload 4, 2) := by decide +kernel
theorem dX11_box_11 : decode cX11_box 11 = .ok (.invokestatic 132, 3) := by decide +kernel
theorem dX11_box_14 : decode cX11_box 14 = .ok (.ifCond .eq 14, 3) := by decide +kernel
theorem dX11_box_17 : decode cX11_box 17 = .ok (.iload_n 1, 1) := by decide +kernel
theorem dX11_box_18 : decode cX11_box 18 = .ok (.iload_n 3, 1) := by decide +kernel
theorem dX11_box_19 : decode cX11_box 19 = .ok (.if_icmp .gt 9, 3) := by decide +kernel
theorem dX11_box_22 : decode cX11_box 22 = .ok (.iload_n 2, 1) := by decide +kernel
theorem dX11_box_23 : decode cX11_box 23 = .ok (.iload 4, 2) := by decide +kernel
theorem dX11_box_25 : decode cX11_box 25 = .ok (.if_icmp .le 5, 3) := by decide +kernel
theorem dX11_box_28 : decode cX11_box 28 = .ok (.iconst 0, 1) := by decide +kernel
theorem dX11_box_29 : decode cX11_box 29 = .ok (.ireturn, 1) := by decide +kernel
theorem dX11_box_30 : decode cX11_box 30 = .ok (.aload_n 0, 1) := by decide +kernel
theorem dX11_box_31 : decode cX11_box 31 = .ok (.getfield 26, 3) := by decide +kernel
theorem dX11_box_34 : decode cX11_box 34 = .ok (.iload_n 2, 1) := by decide +kernel
theorem dX11_box_35 : decode cX11_box 35 = .ok (.putfield 180, 3) := by decide +kernel
theorem dX11_box_38 : decode cX11_box 38 = .ok (.aload_n 0, 1) := by decide +kernel
theorem dX11_box_39 : decode cX11_box 39 = .ok (.getfield 26, 3) := by decide +kernel
theorem dX11_box_42 : decode cX11_box 42 = .ok (.iload 4, 2) := by decide +kernel
theorem dX11_box_44 : decode cX11_box 44 = .ok (.putfield 183, 3) := by decide +kernel
theorem dX11_box_47 : decode cX11_box 47 = .ok (.aload_n 0, 1) := by decide +kernel
theorem dX11_box_48 : decode cX11_box 48 = .ok (.getfield 26, 3) := by decide +kernel
theorem dX11_box_51 : decode cX11_box 51 = .ok (.iload_n 1, 1) := by decide +kernel
theorem dX11_box_52 : decode cX11_box 52 = .ok (.iload_n 3, 1) := by decide +kernel
theorem dX11_box_53 : decode cX11_box 53 = .ok (.invokestatic 186, 3) := by decide +kernel
theorem dX11_box_56 : decode cX11_box 56 = .ok (.putfield 190, 3) := by decide +kernel
theorem dX11_box_59 : decode cX11_box 59 = .ok (.aload_n 0, 1) := by decide +kernel
theorem dX11_box_60 : decode cX11_box 60 = .ok (.getfield 38, 3) := by decide +kernel
theorem dX11_box_63 : decode cX11_box 63 = .ok (.invokevirtual 114, 3) := by decide +kernel
theorem dX11_box_66 : decode cX11_box 66 = .ok (.aload_n 0, 1) := by decide +kernel
theorem dX11_box_67 : decode cX11_box 67 = .ok (.dup, 1) := by decide +kernel
theorem dX11_box_68 : decode cX11_box 68 = .ok (.getfield 56, 3) := by decide +kernel
theorem dX11_box_71 : decode cX11_box 71 = .ok (.iconst 1, 1) := by decide +kernel
theorem dX11_box_72 : decode cX11_box 72 = .ok (.iadd, 1) := by decide +kernel
theorem dX11_box_73 : decode cX11_box 73 = .ok (.putfield 56, 3) := by decide +kernel
theorem dX11_box_76 : decode cX11_box 76 = .ok (.iconst 1, 1) := by decide +kernel
theorem dX11_box_77 : decode cX11_box 77 = .ok (.ireturn, 1) := by decide +kernel
theorem dX11_fits_0 : decode cX11_fits 0 = .ok (.aload_n 0, 1) := by decide +kernel
theorem dX11_fits_1 : decode cX11_fits 1 = .ok (.getfield 38, 3) := by decide +kernel
theorem dX11_fits_4 : decode cX11_fits 4 = .ok (.iload_n 1, 1) := by decide +kernel
theorem dX11_fits_5 : decode cX11_fits 5 = .ok (.invokevirtual 117, 3) := by decide +kernel
theorem dX11_fits_8 : decode cX11_fits 8 = .ok (.astore_n 2, 1) := by decide +kernel
theorem dX11_fits_9 : decode cX11_fits 9 = .ok (.aload_n 2, 1) := by decide +kernel
theorem dX11_fits_10 : decode cX11_fits 10 = .ok (.ifnonnull 5, 3) := by decide +kernel
theorem dX11_fits_13 : decode cX11_fits 13 = .ok (.iconst (-1), 1) := by decide +kernel
theorem dX11_fits_14 : decode cX11_fits 14 = .ok (.ireturn, 1) := by decide +kernel
theorem dX11_fits_15 : decode cX11_fits 15 = .ok (.aload_n 0, 1) := by decide +kernel
theorem dX11_fits_16 : decode cX11_fits 16 = .ok (.getfield 26, 3) := by decide +kernel
theorem dX11_fits_19 : decode cX11_fits 19 = .ok (.aload_n 2, 1) := by decide +kernel
theorem dX11_fits_20 : decode cX11_fits 20 = .ok (.invokevirtual 193, 3) := by decide +kernel
theorem dX11_fits_23 : decode cX11_fits 23 = .ok (.aload_n 0, 1) := by decide +kernel
theorem dX11_fits_24 : decode cX11_fits 24 = .ok (.getfield 26, 3) := by decide +kernel
theorem dX11_fits_27 : decode cX11_fits 27 = .ok (.aload_n 2, 1) := by decide +kernel
theorem dX11_fits_28 : decode cX11_fits 28 = .ok (.invokevirtual 196, 3) := by decide +kernel
theorem dX11_fits_31 : decode cX11_fits 31 = .ok (.iconst (-1), 1) := by decide +kernel
theorem dX11_fits_32 : decode cX11_fits 32 = .ok (.if_icmp .ne 7, 3) := by decide +kernel
theorem dX11_fits_35 : decode cX11_fits 35 = .ok (.iconst 1, 1) := by decide +kernel
theorem dX11_fits_36 : decode cX11_fits 36 = .ok (.goto 4, 3) := by decide +kernel
theorem dX11_fits_39 : decode cX11_fits 39 = .ok (.iconst 0, 1) := by decide +kernel
theorem dX11_fits_40 : decode cX11_fits 40 = .ok (.ireturn, 1) := by decide +kernel
theorem dX11_firstBad_0 : decode cX11_firstBad 0 = .ok (.aload_n 0, 1) := by decide +kernel
theorem dX11_firstBad_1 : decode cX11_firstBad 1 = .ok (.getfield 38, 3) := by decide +kernel
theorem dX11_firstBad_4 : decode cX11_firstBad 4 = .ok (.iload_n 1, 1) := by decide +kernel
theorem dX11_firstBad_5 : decode cX11_firstBad 5 = .ok (.invokevirtual 117, 3) := by decide +kernel
theorem dX11_firstBad_8 : decode cX11_firstBad 8 = .ok (.astore_n 2, 1) := by decide +kernel
theorem dX11_firstBad_9 : decode cX11_firstBad 9 = .ok (.aload_n 2, 1) := by decide +kernel
theorem dX11_firstBad_10 : decode cX11_firstBad 10 = .ok (.ifnonnull 5, 3) := by decide +kernel
theorem dX11_firstBad_13 : decode cX11_firstBad 13 = .ok (.iconst (-1), 1) := by decide +kernel
theorem dX11_firstBad_14 : decode cX11_firstBad 14 = .ok (.ireturn, 1) := by decide +kernel
theorem dX11_firstBad_15 : decode cX11_firstBad 15 = .ok (.aload_n 0, 1) := by decide +kernel
theorem dX11_firstBad_16 : decode cX11_firstBad 16 = .ok (.getfield 26, 3) := by decide +kernel
theorem dX11_firstBad_19 : decode cX11_firstBad 19 = .ok (.aload_n 2, 1) := by decide +kernel
theorem dX11_firstBad_20 : decode cX11_firstBad 20 = .ok (.invokevirtual 193, 3) := by decide +kernel
theorem dX11_firstBad_23 : decode cX11_firstBad 23 = .ok (.aload_n 0, 1) := by decide +kernel
theorem dX11_firstBad_24 : decode cX11_firstBad 24 = .ok (.getfield 26, 3) := by decide +kernel
theorem dX11_firstBad_27 : decode cX11_firstBad 27 = .ok (.aload_n 2, 1) := by decide +kernel
theorem dX11_firstBad_28 : decode cX11_firstBad 28 = .ok (.invokevirtual 196, 3) := by decide +kernel
theorem dX11_firstBad_31 : decode cX11_firstBad 31 = .ok (.istore_n 3, 1) := by decide +kernel
theorem dX11_firstBad_32 : decode cX11_firstBad 32 = .ok (.iload_n 3, 1) := by decide +kernel
theorem dX11_firstBad_33 : decode cX11_firstBad 33 = .ok (.iconst (-1), 1) := by decide +kernel
theorem dX11_firstBad_34 : decode cX11_firstBad 34 = .ok (.if_icmp .ne 8, 3) := by decide +kernel
theorem dX11_firstBad_37 : decode cX11_firstBad 37 = .ok (.bipush (-2), 2) := by decide +kernel
theorem dX11_firstBad_39 : decode cX11_firstBad 39 = .ok (.goto 4, 3) := by decide +kernel
theorem dX11_firstBad_42 : decode cX11_firstBad 42 = .ok (.iload_n 3, 1) := by decide +kernel
theorem dX11_firstBad_43 : decode cX11_firstBad 43 = .ok (.ireturn, 1) := by decide +kernel
theorem dX11_possible_0 : decode cX11_possible 0 = .ok (.aload_n 0, 1) := by decide +kernel
theorem dX11_possible_1 : decode cX11_possible 1 = .ok (.getfield 38, 3) := by decide +kernel
theorem dX11_possible_4 : decode cX11_possible 4 = .ok (.iload_n 1, 1) := by decide +kernel
theorem dX11_possible_5 : decode cX11_possible 5 = .ok (.invokevirtual 117, 3) := by decide +kernel
theorem dX11_possible_8 : decode cX11_possible 8 = .ok (.astore_n 3, 1) := by decide +kernel
theorem dX11_possible_9 : decode cX11_possible 9 = .ok (.iload_n 2, 1) := by decide +kernel
theorem dX11_possible_10 : decode cX11_possible 10 = .ok (.iconst 0, 1) := by decide +kernel
theorem dX11_possible_11 : decode cX11_possible 11 = .ok (.aload_n 0, 1) := by decide +kernel
theorem dX11_possible_12 : decode cX11_possible 12 = .ok (.getfield 26, 3) := by decide +kernel
theorem dX11_possible_15 : decode cX11_possible 15 = .ok (.getfield 164, 3) := by decide +kernel
theorem dX11_possible_18 : decode cX11_possible 18 = .ok (.iconst 1, 1) := by decide +kernel
theorem dX11_possible_19 : decode cX11_possible 19 = .ok (.isub, 1) := by decide +kernel
theorem dX11_possible_20 : decode cX11_possible 20 = .ok (.invokestatic 67, 3) := by decide +kernel
theorem dX11_possible_23 : decode cX11_possible 23 = .ok (.ifCond .eq 12, 3) := by decide +kernel
theorem dX11_possible_26 : decode cX11_possible 26 = .ok (.iload_n 1, 1) := by decide +kernel
theorem dX11_possible_27 : decode cX11_possible 27 = .ok (.iconst (-1), 1) := by decide +kernel
theorem dX11_possible_28 : decode cX11_possible 28 = .ok (.if_icmp .eq 10, 3) := by decide +kernel
theorem dX11_possible_31 : decode cX11_possible 31 = .ok (.aload_n 3, 1) := by decide +kernel
theorem dX11_possible_32 : decode cX11_possible 32 = .ok (.ifnonnull 6, 3) := by decide +kernel
theorem dX11_possible_35 : decode cX11_possible 35 = .ok (.bipush (-2), 2) := by decide +kernel
theorem dX11_possible_37 : decode cX11_possible 37 = .ok (.ireturn, 1) := by decide +kernel
theorem dX11_possible_38 : decode cX11_possible 38 = .ok (.iconst 0, 1) := by decide +kernel
theorem dX11_possible_39 : decode cX11_possible 39 = .ok (.istore 4, 2) := by decide +kernel
theorem dX11_possible_41 : decode cX11_possible 41 = .ok (.iload_n 1, 1) := by decide +kernel
theorem dX11_possible_42 : decode cX11_possible 42 = .ok (.iconst (-1), 1) := by decide +kernel
theorem dX11_possible_43 : decode cX11_possible 43 = .ok (.if_icmp .ne 13, 3) := by decide +kernel
theorem dX11_possible_46 : decode cX11_possible 46 = .ok (.aload_n 0, 1) := by decide +kernel
theorem dX11_possible_47 : decode cX11_possible 47 = .ok (.getfield 38, 3) := by decide +kernel
theorem dX11_possible_50 : decode cX11_possible 50 = .ok (.getfield 71, 3) := by decide +kernel
theorem dX11_possible_53 : decode cX11_possible 53 = .ok (.goto 6, 3) := by decide +kernel
theorem dX11_possible_56 : decode cX11_possible 56 = .ok (.iload_n 1, 1) := by decide +kernel
theorem dX11_possible_57 : decode cX11_possible 57 = .ok (.iconst 1, 1) := by decide +kernel
theorem dX11_possible_58 : decode cX11_possible 58 = .ok (.iadd, 1) := by decide +kernel
theorem dX11_possible_59 : decode cX11_possible 59 = .ok (.istore 5, 2) := by decide +kernel
theorem dX11_possible_61 : decode cX11_possible 61 = .ok (.iload_n 1, 1) := by decide +kernel
theorem dX11_possible_62 : decode cX11_possible 62 = .ok (.iconst (-1), 1) := by decide +kernel
theorem dX11_possible_63 : decode cX11_possible 63 = .ok (.if_icmp .ne 7, 3) := by decide +kernel
theorem dX11_possible_66 : decode cX11_possible 66 = .ok (.iconst 0, 1) := by decide +kernel
theorem dX11_possible_67 : decode cX11_possible 67 = .ok (.goto 4, 3) := by decide +kernel
theorem dX11_possible_70 : decode cX11_possible 70 = .ok (.iload_n 1, 1) := by decide +kernel
theorem dX11_possible_71 : decode cX11_possible 71 = .ok (.istore 6, 2) := by decide +kernel
theorem dX11_possible_73 : decode cX11_possible 73 = .ok (.iload 6, 2) := by decide +kernel
theorem dX11_possible_75 : decode cX11_possible 75 = .ok (.iload 5, 2) := by decide +kernel
theorem dX11_possible_77 : decode cX11_possible 77 = .ok (.if_icmp .ge 48, 3) := by decide +kernel
theorem dX11_possible_80 : decode cX11_possible 80 = .ok (.aload_n 0, 1) := by decide +kernel
theorem dX11_possible_81 : decode cX11_possible 81 = .ok (.getfield 38, 3) := by decide +kernel
theorem dX11_possible_84 : decode cX11_possible 84 = .ok (.iload 6, 2) := by decide +kernel
theorem dX11_possible_86 : decode cX11_possible 86 = .ok (.invokevirtual 117, 3) := by decide +kernel
theorem dX11_possible_89 : decode cX11_possible 89 = .ok (.astore 7, 2) := by decide +kernel
theorem dX11_possible_91 : decode cX11_possible 91 = .ok (.aload 7, 2) := by decide +kernel
theorem dX11_possible_93 : decode cX11_possible 93 = .ok (.ifnull 26, 3) := by decide +kernel
theorem dX11_possible_96 : decode cX11_possible 96 = .ok (.iload 4, 2) := by decide +kernel
theorem dX11_possible_98 : decode cX11_possible 98 = .ok (.aload_n 0, 1) := by decide +kernel
theorem dX11_possible_99 : decode cX11_possible 99 = .ok (.getfield 26, 3) := by decide +kernel
theorem dX11_possible_102 : decode cX11_possible 102 = .ok (.aload 7, 2) := by decide +kernel
theorem dX11_possible_104 : decode cX11_possible 104 = .ok (.iload_n 2, 1) := by decide +kernel
theorem dX11_possible_105 : decode cX11_possible 105 = .ok (.aload_n 0, 1) := by decide +kernel
theorem dX11_possible_106 : decode cX11_possible 106 = .ok (.getfield 56, 3) := by decide +kernel
theorem dX11_possible_109 : decode cX11_possible 109 = .ok (.invokevirtual 200, 3) := by decide +kernel
theorem dX11_possible_112 : decode cX11_possible 112 = .ok (.iconst 0, 1) := by decide +kernel
theorem dX11_possible_113 : decode cX11_possible 113 = .ok (.invokestatic 204, 3) := by decide +kernel
theorem dX11_possible_116 : decode cX11_possible 116 = .ok (.iadd, 1) := by decide +kernel
theorem dX11_possible_117 : decode cX11_possible 117 = .ok (.istore 4, 2) := by decide +kernel
theorem dX11_possible_119 : decode cX11_possible 119 = .ok (.iinc 6 1, 3) := by decide +kernel
theorem dX11_possible_122 : decode cX11_possible 122 = .ok (.goto (-49), 3) := by decide +kernel
theorem dX11_possible_125 : decode cX11_possible 125 = .ok (.iload 4, 2) := by decide +kernel
theorem dX11_possible_127 : decode cX11_possible 127 = .ok (.ireturn, 1) := by decide +kernel
theorem dX11_isPossible_0 : decode cX11_isPossible 0 = .ok (.aload_n 0, 1) := by decide +kernel
theorem dX11_isPossible_1 : decode cX11_isPossible 1 = .ok (.getfield 38, 3) := by decide +kernel
theorem dX11_isPossible_4 : decode cX11_isPossible 4 = .ok (.iload_n 1, 1) := by decide +kernel
theorem dX11_isPossible_5 : decode cX11_isPossible 5 = .ok (.invokevirtual 117, 3) := by decide +kernel
theorem dX11_isPossible_8 : decode cX11_isPossible 8 = .ok (.astore 5, 2) := by decide +kernel
theorem dX11_isPossible_10 : decode cX11_isPossible 10 = .ok (.aload 5, 2) := by decide +kernel
theorem dX11_isPossible_12 : decode cX11_isPossible 12 = .ok (.ifnull 29, 3) := by decide +kernel
theorem dX11_isPossible_15 : decode cX11_isPossible 15 = .ok (.iload_n 2, 1) := by decide +kernel
theorem dX11_isPossible_16 : decode cX11_isPossible 16 = .ok (.iconst 0, 1) := by decide +kernel
theorem dX11_isPossible_17 : decode cX11_isPossible 17 = .ok (.aload_n 0, 1) := by decide +kernel
theorem dX11_isPossible_18 : decode cX11_isPossible 18 = .ok (.getfield 26, 3) := by decide +kernel
theorem dX11_isPossible_21 : decode cX11_isPossible 21 = .ok (.getfield 164, 3) := by decide +kernel
theorem dX11_isPossible_24 : decode cX11_isPossible 24 = .ok (.iconst 1, 1) := by decide +kernel
theorem dX11_isPossible_25 : decode cX11_isPossible 25 = .ok (.isub, 1) := by decide +kernel
theorem dX11_isPossible_26 : decode cX11_isPossible 26 = .ok (.invokestatic 67, 3) := by decide +kernel
theorem dX11_isPossible_29 : decode cX11_isPossible 29 = .ok (.ifCond .eq 12, 3) := by decide +kernel
theorem dX11_isPossible_32 : decode cX11_isPossible 32 = .ok (.iload_n 3, 1) := by decide +kernel
theorem dX11_isPossible_33 : decode cX11_isPossible 33 = .ok (.iload 4, 2) := by decide +kernel
theorem dX11_isPossible_35 : decode cX11_isPossible 35 = .ok (.invokestatic 132, 3) := by decide +kernel
theorem dX11_isPossible_38 : decode cX11_isPossible 38 = .ok (.ifCond .ne 5, 3) := by decide +kernel
theorem dX11_isPossible_41 : decode cX11_isPossible 41 = .ok (.iconst (-1), 1) := by decide +kernel
theorem dX11_isPossible_42 : decode cX11_isPossible 42 = .ok (.ireturn, 1) := by decide +kernel
theorem dX11_isPossible_43 : decode cX11_isPossible 43 = .ok (.aload_n 0, 1) := by decide +kernel
theorem dX11_isPossible_44 : decode cX11_isPossible 44 = .ok (.getfield 26, 3) := by decide +kernel
theorem dX11_isPossible_47 : decode cX11_isPossible 47 = .ok (.aload 5, 2) := by decide +kernel
theorem dX11_isPossible_49 : decode cX11_isPossible 49 = .ok (.iload_n 2, 1) := by decide +kernel
theorem dX11_isPossible_50 : decode cX11_isPossible 50 = .ok (.aload_n 0, 1) := by decide +kernel
theorem dX11_isPossible_51 : decode cX11_isPossible 51 = .ok (.getfield 56, 3) := by decide +kernel
theorem dX11_isPossible_54 : decode cX11_isPossible 54 = .ok (.invokevirtual 200, 3) := by decide +kernel
theorem dX11_isPossible_57 : decode cX11_isPossible 57 = .ok (.iload 4, 2) := by decide +kernel
theorem dX11_isPossible_59 : decode cX11_isPossible 59 = .ok (.iaload, 1) := by decide +kernel
theorem dX11_isPossible_60 : decode cX11_isPossible 60 = .ok (.iload_n 3, 1) := by decide +kernel
theorem dX11_isPossible_61 : decode cX11_isPossible 61 = .ok (.iushr, 1) := by decide +kernel
theorem dX11_isPossible_62 : decode cX11_isPossible 62 = .ok (.iconst 1, 1) := by decide +kernel
theorem dX11_isPossible_63 : decode cX11_isPossible 63 = .ok (.iand, 1) := by decide +kernel
theorem dX11_isPossible_64 : decode cX11_isPossible 64 = .ok (.ireturn, 1) := by decide +kernel
theorem dX11_sure_0 : decode cX11_sure 0 = .ok (.iload_n 1, 1) := by decide +kernel
theorem dX11_sure_1 : decode cX11_sure 1 = .ok (.iload_n 2, 1) := by decide +kernel
theorem dX11_sure_2 : decode cX11_sure 2 = .ok (.invokestatic 132, 3) := by decide +kernel
theorem dX11_sure_5 : decode cX11_sure 5 = .ok (.ifCond .eq 12, 3) := by decide +kernel
theorem dX11_sure_8 : decode cX11_sure 8 = .ok (.iload_n 3, 1) := by decide +kernel
theorem dX11_sure_9 : decode cX11_sure 9 = .ok (.iconst 0, 1) := by decide +kernel
theorem dX11_sure_10 : decode cX11_sure 10 = .ok (.iconst 2, 1) := by decide +kernel
theorem dX11_sure_11 : decode cX11_sure 11 = .ok (.invokestatic 67, 3) := by decide +kernel
theorem dX11_sure_14 : decode cX11_sure 14 = .ok (.ifCond .ne 6, 3) := by decide +kernel
theorem dX11_sure_17 : decode cX11_sure 17 = .ok (.bipush (-3), 2) := by decide +kernel
theorem dX11_sure_19 : decode cX11_sure 19 = .ok (.ireturn, 1) := by decide +kernel
theorem dX11_sure_20 : decode cX11_sure 20 = .ok (.aload_n 0, 1) := by decide +kernel
theorem dX11_sure_21 : decode cX11_sure 21 = .ok (.getfield 38, 3) := by decide +kernel
theorem dX11_sure_24 : decode cX11_sure 24 = .ok (.aload_n 0, 1) := by decide +kernel
theorem dX11_sure_25 : decode cX11_sure 25 = .ok (.getfield 26, 3) := by decide +kernel
theorem dX11_sure_28 : decode cX11_sure 28 = .ok (.aload_n 0, 1) := by decide +kernel
theorem dX11_sure_29 : decode cX11_sure 29 = .ok (.getfield 56, 3) := by decide +kernel
theorem dX11_sure_32 : decode cX11_sure 32 = .ok (.invokevirtual 208, 3) := by decide +kernel
theorem dX11_sure_35 : decode cX11_sure 35 = .ok (.aload_n 0, 1) := by decide +kernel
theorem dX11_sure_36 : decode cX11_sure 36 = .ok (.getfield 38, 3) := by decide +kernel
theorem dX11_sure_39 : decode cX11_sure 39 = .ok (.getfield 212, 3) := by decide +kernel
theorem dX11_sure_42 : decode cX11_sure 42 = .ok (.ifCond .ne 6, 3) := by decide +kernel
theorem dX11_sure_45 : decode cX11_sure 45 = .ok (.bipush (-2), 2) := by decide +kernel
theorem dX11_sure_47 : decode cX11_sure 47 = .ok (.ireturn, 1) := by decide +kernel
theorem dX11_sure_48 : decode cX11_sure 48 = .ok (.iload_n 3, 1) := by decide +kernel
theorem dX11_sure_49 : decode cX11_sure 49 = .ok (.ifCond .eq 23, 3) := by decide +kernel
theorem dX11_sure_52 : decode cX11_sure 52 = .ok (.aload_n 0, 1) := by decide +kernel
theorem dX11_sure_53 : decode cX11_sure 53 = .ok (.getfield 38, 3) := by decide +kernel
theorem dX11_sure_56 : decode cX11_sure 56 = .ok (.iload_n 1, 1) := by decide +kernel
theorem dX11_sure_57 : decode cX11_sure 57 = .ok (.iload_n 2, 1) := by decide +kernel
theorem dX11_sure_58 : decode cX11_sure 58 = .ok (.iload_n 3, 1) := by decide +kernel
theorem dX11_sure_59 : decode cX11_sure 59 = .ok (.iconst 1, 1) := by decide +kernel
theorem dX11_sure_60 : decode cX11_sure 60 = .ok (.if_icmp .ne 7, 3) := by decide +kernel
theorem dX11_sure_63 : decode cX11_sure 63 = .ok (.iconst 1, 1) := by decide +kernel
theorem dX11_sure_64 : decode cX11_sure 64 = .ok (.goto 4, 3) := by decide +kernel
theorem dX11_sure_67 : decode cX11_sure 67 = .ok (.iconst 0, 1) := by decide +kernel
theorem dX11_sure_68 : decode cX11_sure 68 = .ok (.invokevirtual 215, 3) := by decide +kernel
theorem dX11_sure_71 : decode cX11_sure 71 = .ok (.ireturn, 1) := by decide +kernel
theorem dX11_sure_72 : decode cX11_sure 72 = .ok (.aload_n 0, 1) := by decide +kernel
theorem dX11_sure_73 : decode cX11_sure 73 = .ok (.getfield 38, 3) := by decide +kernel
theorem dX11_sure_76 : decode cX11_sure 76 = .ok (.getfield 219, 3) := by decide +kernel
theorem dX11_sure_79 : decode cX11_sure 79 = .ok (.iload_n 2, 1) := by decide +kernel
theorem dX11_sure_80 : decode cX11_sure 80 = .ok (.iaload, 1) := by decide +kernel
theorem dX11_sure_81 : decode cX11_sure 81 = .ok (.iload_n 1, 1) := by decide +kernel
theorem dX11_sure_82 : decode cX11_sure 82 = .ok (.iushr, 1) := by decide +kernel
theorem dX11_sure_83 : decode cX11_sure 83 = .ok (.iconst 1, 1) := by decide +kernel
theorem dX11_sure_84 : decode cX11_sure 84 = .ok (.iand, 1) := by decide +kernel
theorem dX11_sure_85 : decode cX11_sure 85 = .ok (.iconst 1, 1) := by decide +kernel
theorem dX11_sure_86 : decode cX11_sure 86 = .ok (.if_icmp .ne 5, 3) := by decide +kernel
theorem dX11_sure_89 : decode cX11_sure 89 = .ok (.iconst 0, 1) := by decide +kernel
theorem dX11_sure_90 : decode cX11_sure 90 = .ok (.ireturn, 1) := by decide +kernel
theorem dX11_sure_91 : decode cX11_sure 91 = .ok (.aload_n 0, 1) := by decide +kernel
theorem dX11_sure_92 : decode cX11_sure 92 = .ok (.getfield 38, 3) := by decide +kernel
theorem dX11_sure_95 : decode cX11_sure 95 = .ok (.iload_n 1, 1) := by decide +kernel
theorem dX11_sure_96 : decode cX11_sure 96 = .ok (.iload_n 2, 1) := by decide +kernel
theorem dX11_sure_97 : decode cX11_sure 97 = .ok (.invokevirtual 222, 3) := by decide +kernel
theorem dX11_sure_100 : decode cX11_sure 100 = .ok (.ifCond .eq 7, 3) := by decide +kernel
theorem dX11_sure_103 : decode cX11_sure 103 = .ok (.iconst 1, 1) := by decide +kernel
theorem dX11_sure_104 : decode cX11_sure 104 = .ok (.goto 4, 3) := by decide +kernel
theorem dX11_sure_107 : decode cX11_sure 107 = .ok (.iconst 2, 1) := by decide +kernel
theorem dX11_sure_108 : decode cX11_sure 108 = .ok (.ireturn, 1) := by decide +kernel
theorem dX11_choice_0 : decode cX11_choice 0 = .ok (.iload_n 2, 1) := by decide +kernel
theorem dX11_choice_1 : decode cX11_choice 1 = .ok (.bipush (-9), 2) := by decide +kernel
theorem dX11_choice_3 : decode cX11_choice 3 = .ok (.bipush 9, 2) := by decide +kernel
theorem dX11_choice_5 : decode cX11_choice 5 = .ok (.invokestatic 67, 3) := by decide +kernel
theorem dX11_choice_8 : decode cX11_choice 8 = .ok (.ifCond .eq 18, 3) := by decide +kernel
theorem dX11_choice_11 : decode cX11_choice 11 = .ok (.iload_n 3, 1) := by decide +kernel
theorem dX11_choice_12 : decode cX11_choice 12 = .ok (.bipush (-9), 2) := by decide +kernel
theorem dX11_choice_14 : decode cX11_choice 14 = .ok (.bipush 9, 2) := by decide +kernel
theorem dX11_choice_16 : decode cX11_choice 16 = .ok (.invokestatic 67, 3) := by decide +kernel
theorem dX11_choice_19 : decode cX11_choice 19 = .ok (.ifCond .eq 7, 3) := by decide +kernel
theorem dX11_choice_22 : decode cX11_choice 22 = .ok (.iconst 1, 1) := by decide +kernel
theorem dX11_choice_23 : decode cX11_choice 23 = .ok (.goto 4, 3) := by decide +kernel
theorem dX11_choice_26 : decode cX11_choice 26 = .ok (.iconst 0, 1) := by decide +kernel
theorem dX11_choice_27 : decode cX11_choice 27 = .ok (.istore 5, 2) := by decide +kernel
theorem dX11_choice_29 : decode cX11_choice 29 = .ok (.iload_n 1, 1) := by decide +kernel
theorem dX11_choice_30 : decode cX11_choice 30 = .ok (.iconst 0, 1) := by decide +kernel
theorem dX11_choice_31 : decode cX11_choice 31 = .ok (.iconst 5, 1) := by decide +kernel
theorem dX11_choice_32 : decode cX11_choice 32 = .ok (.invokestatic 67, 3) := by decide +kernel
theorem dX11_choice_35 : decode cX11_choice 35 = .ok (.ifCond .eq 18, 3) := by decide +kernel
theorem dX11_choice_38 : decode cX11_choice 38 = .ok (.iload 5, 2) := by decide +kernel
theorem dX11_choice_40 : decode cX11_choice 40 = .ok (.ifCond .eq 13, 3) := by decide +kernel
theorem dX11_choice_43 : decode cX11_choice 43 = .ok (.iload 4, 2) := by decide +kernel
theorem dX11_choice_45 : decode cX11_choice 45 = .ok (.iconst 0, 1) := by decide +kernel
theorem dX11_choice_46 : decode cX11_choice 46 = .ok (.iconst 3, 1) := by decide +kernel
theorem dX11_choice_47 : decode cX11_choice 47 = .ok (.invokestatic 67, 3) := by decide +kernel
theorem dX11_choice_50 : decode cX11_choice 50 = .ok (.ifCond .ne 5, 3) := by decide +kernel
theorem dX11_choice_53 : decode cX11_choice 53 = .ok (.iconst 0, 1) := by decide +kernel
theorem dX11_choice_54 : decode cX11_choice 54 = .ok (.ireturn, 1) := by decide +kernel
theorem dX11_choice_55 : decode cX11_choice 55 = .ok (.aload_n 0, 1) := by decide +kernel
theorem dX11_choice_56 : decode cX11_choice 56 = .ok (.getfield 52, 3) := by decide +kernel
theorem dX11_choice_59 : decode cX11_choice 59 = .ok (.iload_n 1, 1) := by decide +kernel
theorem dX11_choice_60 : decode cX11_choice 60 = .ok (.iload_n 2, 1) := by decide +kernel
theorem dX11_choice_61 : decode cX11_choice 61 = .ok (.iload_n 3, 1) := by decide +kernel
theorem dX11_choice_62 : decode cX11_choice 62 = .ok (.iload 4, 2) := by decide +kernel
theorem dX11_choice_64 : decode cX11_choice 64 = .ok (.invokevirtual 225, 3) := by decide +kernel
theorem dX11_choice_67 : decode cX11_choice 67 = .ok (.aload_n 0, 1) := by decide +kernel
theorem dX11_choice_68 : decode cX11_choice 68 = .ok (.dup, 1) := by decide +kernel
theorem dX11_choice_69 : decode cX11_choice 69 = .ok (.getfield 56, 3) := by decide +kernel
theorem dX11_choice_72 : decode cX11_choice 72 = .ok (.iconst 1, 1) := by decide +kernel
theorem dX11_choice_73 : decode cX11_choice 73 = .ok (.iadd, 1) := by decide +kernel
theorem dX11_choice_74 : decode cX11_choice 74 = .ok (.putfield 56, 3) := by decide +kernel
theorem dX11_choice_77 : decode cX11_choice 77 = .ok (.iconst 1, 1) := by decide +kernel
theorem dX11_choice_78 : decode cX11_choice 78 = .ok (.ireturn, 1) := by decide +kernel
theorem dX11_next_0 : decode cX11_next 0 = .ok (.iload_n 1, 1) := by decide +kernel
theorem dX11_next_1 : decode cX11_next 1 = .ok (.iconst 0, 1) := by decide +kernel
theorem dX11_next_2 : decode cX11_next 2 = .ok (.iconst 3, 1) := by decide +kernel
theorem dX11_next_3 : decode cX11_next 3 = .ok (.invokestatic 67, 3) := by decide +kernel
theorem dX11_next_6 : decode cX11_next 6 = .ok (.ifCond .ne 5, 3) := by decide +kernel
theorem dX11_next_9 : decode cX11_next 9 = .ok (.iconst (-1), 1) := by decide +kernel
theorem dX11_next_10 : decode cX11_next 10 = .ok (.ireturn, 1) := by decide +kernel
theorem dX11_next_11 : decode cX11_next 11 = .ok (.aload_n 0, 1) := by decide +kernel
theorem dX11_next_12 : decode cX11_next 12 = .ok (.getfield 52, 3) := by decide +kernel
theorem dX11_next_15 : decode cX11_next 15 = .ok (.getfield 228, 3) := by decide +kernel
theorem dX11_next_18 : decode cX11_next 18 = .ok (.ifCond .eq 13, 3) := by decide +kernel
theorem dX11_next_21 : decode cX11_next 21 = .ok (.aload_n 0, 1) := by decide +kernel
theorem dX11_next_22 : decode cX11_next 22 = .ok (.getfield 26, 3) := by decide +kernel
theorem dX11_next_25 : decode cX11_next 25 = .ok (.getfield 164, 3) := by decide +kernel
theorem dX11_next_28 : decode cX11_next 28 = .ok (.ifCond .ne 6, 3) := by decide +kernel
theorem dX11_next_31 : decode cX11_next 31 = .ok (.bipush (-2), 2) := by decide +kernel
theorem dX11_next_33 : decode cX11_next 33 = .ok (.ireturn, 1) := by decide +kernel
theorem dX11_next_34 : decode cX11_next 34 = .ok (.aload_n 0, 1) := by decide +kernel
theorem dX11_next_35 : decode cX11_next 35 = .ok (.getfield 38, 3) := by decide +kernel
theorem dX11_next_38 : decode cX11_next 38 = .ok (.aload_n 0, 1) := by decide +kernel
theorem dX11_next_39 : decode cX11_next 39 = .ok (.getfield 26, 3) := by decide +kernel
theorem dX11_next_42 : decode cX11_next 42 = .ok (.aload_n 0, 1) := by decide +kernel
theorem dX11_next_43 : decode cX11_next 43 = .ok (.getfield 56, 3) := by decide +kernel
theorem dX11_next_46 : decode cX11_next 46 = .ok (.invokevirtual 208, 3) := by decide +kernel
theorem dX11_next_49 : decode cX11_next 49 = .ok (.aload_n 0, 1) := by decide +kernel
theorem dX11_next_50 : decode cX11_next 50 = .ok (.getfield 52, 3) := by decide +kernel
theorem dX11_next_53 : decode cX11_next 53 = .ok (.aload_n 0, 1) := by decide +kernel
theorem dX11_next_54 : decode cX11_next 54 = .ok (.getfield 38, 3) := by decide +kernel
theorem dX11_next_57 : decode cX11_next 57 = .ok (.aload_n 0, 1) := by decide +kernel
theorem dX11_next_58 : decode cX11_next 58 = .ok (.getfield 26, 3) := by decide +kernel
theorem dX11_next_61 : decode cX11_next 61 = .ok (.aload_n 0, 1) := by decide +kernel
theorem dX11_next_62 : decode cX11_next 62 = .ok (.getfield 56, 3) := by decide +kernel
theorem dX11_next_65 : decode cX11_next 65 = .ok (.invokevirtual 231, 3) := by decide +kernel
theorem dX11_next_68 : decode cX11_next 68 = .ok (.aload_n 0, 1) := by decide +kernel
theorem dX11_next_69 : decode cX11_next 69 = .ok (.getfield 52, 3) := by decide +kernel
theorem dX11_next_72 : decode cX11_next 72 = .ok (.getfield 235, 3) := by decide +kernel
theorem dX11_next_75 : decode cX11_next 75 = .ok (.ifCond .ne 6, 3) := by decide +kernel
theorem dX11_next_78 : decode cX11_next 78 = .ok (.bipush (-2), 2) := by decide +kernel
theorem dX11_next_80 : decode cX11_next 80 = .ok (.ireturn, 1) := by decide +kernel
theorem dX11_next_81 : decode cX11_next 81 = .ok (.iload_n 1, 1) := by decide +kernel
theorem dX11_next_82 : decode cX11_next 82 = .ok (.tableswitch 65 0 2 #[26, 34, 42], 26) := by decide +kernel
theorem dX11_next_108 : decode cX11_next 108 = .ok (.aload_n 0, 1) := by decide +kernel
theorem dX11_next_109 : decode cX11_next 109 = .ok (.getfield 52, 3) := by decide +kernel
theorem dX11_next_112 : decode cX11_next 112 = .ok (.getfield 238, 3) := by decide +kernel
theorem dX11_next_115 : decode cX11_next 115 = .ok (.ireturn, 1) := by decide +kernel
theorem dX11_next_116 : decode cX11_next 116 = .ok (.aload_n 0, 1) := by decide +kernel
theorem dX11_next_117 : decode cX11_next 117 = .ok (.getfield 52, 3) := by decide +kernel
theorem dX11_next_120 : decode cX11_next 120 = .ok (.getfield 241, 3) := by decide +kernel
theorem dX11_next_123 : decode cX11_next 123 = .ok (.ireturn, 1) := by decide +kernel
theorem dX11_next_124 : decode cX11_next 124 = .ok (.aload_n 0, 1) := by decide +kernel
theorem dX11_next_125 : decode cX11_next 125 = .ok (.getfield 52, 3) := by decide +kernel
theorem dX11_next_128 : decode cX11_next 128 = .ok (.getfield 241, 3) := by decide +kernel
theorem dX11_next_131 : decode cX11_next 131 = .ok (.ifCond .ne 8, 3) := by decide +kernel
theorem dX11_next_134 : decode cX11_next 134 = .ok (.bipush (-2), 2) := by decide +kernel
theorem dX11_next_136 : decode cX11_next 136 = .ok (.goto 10, 3) := by decide +kernel
theorem dX11_next_139 : decode cX11_next 139 = .ok (.aload_n 0, 1) := by decide +kernel
theorem dX11_next_140 : decode cX11_next 140 = .ok (.getfield 52, 3) := by decide +kernel
theorem dX11_next_143 : decode cX11_next 143 = .ok (.getfield 244, 3) := by decide +kernel
theorem dX11_next_146 : decode cX11_next 146 = .ok (.ireturn, 1) := by decide +kernel
theorem dX11_next_147 : decode cX11_next 147 = .ok (.aload_n 0, 1) := by decide +kernel
theorem dX11_next_148 : decode cX11_next 148 = .ok (.getfield 52, 3) := by decide +kernel
theorem dX11_next_151 : decode cX11_next 151 = .ok (.getfield 235, 3) := by decide +kernel
theorem dX11_next_154 : decode cX11_next 154 = .ok (.ireturn, 1) := by decide +kernel
theorem dX11_ahead_0 : decode cX11_ahead 0 = .ok (.iload_n 1, 1) := by decide +kernel
theorem dX11_ahead_1 : decode cX11_ahead 1 = .ok (.iconst 0, 1) := by decide +kernel
theorem dX11_ahead_2 : decode cX11_ahead 2 = .ok (.iconst 1, 1) := by decide +kernel
theorem dX11_ahead_3 : decode cX11_ahead 3 = .ok (.invokestatic 67, 3) := by decide +kernel
theorem dX11_ahead_6 : decode cX11_ahead 6 = .ok (.ifCond .ne 5, 3) := by decide +kernel
theorem dX11_ahead_9 : decode cX11_ahead 9 = .ok (.iconst (-1), 1) := by decide +kernel
theorem dX11_ahead_10 : decode cX11_ahead 10 = .ok (.ireturn, 1) := by decide +kernel
theorem dX11_ahead_11 : decode cX11_ahead 11 = .ok (.aload_n 0, 1) := by decide +kernel
theorem dX11_ahead_12 : decode cX11_ahead 12 = .ok (.getfield 52, 3) := by decide +kernel
theorem dX11_ahead_15 : decode cX11_ahead 15 = .ok (.getfield 228, 3) := by decide +kernel
theorem dX11_ahead_18 : decode cX11_ahead 18 = .ok (.ifCond .eq 13, 3) := by decide +kernel
theorem dX11_ahead_21 : decode cX11_ahead 21 = .ok (.aload_n 0, 1) := by decide +kernel
theorem dX11_ahead_22 : decode cX11_ahead 22 = .ok (.getfield 26, 3) := by decide +kernel
theorem dX11_ahead_25 : decode cX11_ahead 25 = .ok (.getfield 164, 3) := by decide +kernel
theorem dX11_ahead_28 : decode cX11_ahead 28 = .ok (.ifCond .ne 6, 3) := by decide +kernel
theorem dX11_ahead_31 : decode cX11_ahead 31 = .ok (.bipush (-2), 2) := by decide +kernel
theorem dX11_ahead_33 : decode cX11_ahead 33 = .ok (.ireturn, 1) := by decide +kernel
theorem dX11_ahead_34 : decode cX11_ahead 34 = .ok (.aload_n 0, 1) := by decide +kernel
theorem dX11_ahead_35 : decode cX11_ahead 35 = .ok (.getfield 38, 3) := by decide +kernel
theorem dX11_ahead_38 : decode cX11_ahead 38 = .ok (.aload_n 0, 1) := by decide +kernel
theorem dX11_ahead_39 : decode cX11_ahead 39 = .ok (.getfield 26, 3) := by decide +kernel
theorem dX11_ahead_42 : decode cX11_ahead 42 = .ok (.aload_n 0, 1) := by decide +kernel
theorem dX11_ahead_43 : decode cX11_ahead 43 = .ok (.getfield 56, 3) := by decide +kernel
theorem dX11_ahead_46 : decode cX11_ahead 46 = .ok (.invokevirtual 208, 3) := by decide +kernel
theorem dX11_ahead_49 : decode cX11_ahead 49 = .ok (.aload_n 0, 1) := by decide +kernel
theorem dX11_ahead_50 : decode cX11_ahead 50 = .ok (.getfield 52, 3) := by decide +kernel
theorem dX11_ahead_53 : decode cX11_ahead 53 = .ok (.aload_n 0, 1) := by decide +kernel
theorem dX11_ahead_54 : decode cX11_ahead 54 = .ok (.getfield 38, 3) := by decide +kernel
theorem dX11_ahead_57 : decode cX11_ahead 57 = .ok (.aload_n 0, 1) := by decide +kernel
theorem dX11_ahead_58 : decode cX11_ahead 58 = .ok (.getfield 26, 3) := by decide +kernel
theorem dX11_ahead_61 : decode cX11_ahead 61 = .ok (.aload_n 0, 1) := by decide +kernel
theorem dX11_ahead_62 : decode cX11_ahead 62 = .ok (.getfield 56, 3) := by decide +kernel
theorem dX11_ahead_65 : decode cX11_ahead 65 = .ok (.invokevirtual 247, 3) := by decide +kernel
theorem dX11_ahead_68 : decode cX11_ahead 68 = .ok (.aload_n 0, 1) := by decide +kernel
theorem dX11_ahead_69 : decode cX11_ahead 69 = .ok (.getfield 52, 3) := by decide +kernel
theorem dX11_ahead_72 : decode cX11_ahead 72 = .ok (.getfield 235, 3) := by decide +kernel
theorem dX11_ahead_75 : decode cX11_ahead 75 = .ok (.ifCond .ne 6, 3) := by decide +kernel
theorem dX11_ahead_78 : decode cX11_ahead 78 = .ok (.bipush (-2), 2) := by decide +kernel
theorem dX11_ahead_80 : decode cX11_ahead 80 = .ok (.ireturn, 1) := by decide +kernel
theorem dX11_ahead_81 : decode cX11_ahead 81 = .ok (.iload_n 1, 1) := by decide +kernel
theorem dX11_ahead_82 : decode cX11_ahead 82 = .ok (.ifCond .ne 13, 3) := by decide +kernel
theorem dX11_ahead_85 : decode cX11_ahead 85 = .ok (.aload_n 0, 1) := by decide +kernel
theorem dX11_ahead_86 : decode cX11_ahead 86 = .ok (.getfield 52, 3) := by decide +kernel
theorem dX11_ahead_89 : decode cX11_ahead 89 = .ok (.getfield 250, 3) := by decide +kernel
theorem dX11_ahead_92 : decode cX11_ahead 92 = .ok (.goto 10, 3) := by decide +kernel
theorem dX11_ahead_95 : decode cX11_ahead 95 = .ok (.aload_n 0, 1) := by decide +kernel
theorem dX11_ahead_96 : decode cX11_ahead 96 = .ok (.getfield 52, 3) := by decide +kernel
theorem dX11_ahead_99 : decode cX11_ahead 99 = .ok (.getfield 253, 3) := by decide +kernel
theorem dX11_ahead_102 : decode cX11_ahead 102 = .ok (.ireturn, 1) := by decide +kernel
theorem dX11_wayIn_0 : decode cX11_wayIn 0 = .ok (.iload_n 1, 1) := by decide +kernel
theorem dX11_wayIn_1 : decode cX11_wayIn 1 = .ok (.iload_n 2, 1) := by decide +kernel
theorem dX11_wayIn_2 : decode cX11_wayIn 2 = .ok (.invokestatic 132, 3) := by decide +kernel
theorem dX11_wayIn_5 : decode cX11_wayIn 5 = .ok (.ifCond .eq 23, 3) := by decide +kernel
theorem dX11_wayIn_8 : decode cX11_wayIn 8 = .ok (.iload_n 3, 1) := by decide +kernel
theorem dX11_wayIn_9 : decode cX11_wayIn 9 = .ok (.iload 4, 2) := by decide +kernel
theorem dX11_wayIn_11 : decode cX11_wayIn 11 = .ok (.invokestatic 132, 3) := by decide +kernel
theorem dX11_wayIn_14 : decode cX11_wayIn 14 = .ok (.ifCond .eq 14, 3) := by decide +kernel
theorem dX11_wayIn_17 : decode cX11_wayIn 17 = .ok (.iload 5, 2) := by decide +kernel
theorem dX11_wayIn_19 : decode cX11_wayIn 19 = .ok (.iconst (-1), 1) := by decide +kernel
theorem dX11_wayIn_20 : decode cX11_wayIn 20 = .ok (.bipush 100, 2) := by decide +kernel
theorem dX11_wayIn_22 : decode cX11_wayIn 22 = .ok (.invokestatic 67, 3) := by decide +kernel
theorem dX11_wayIn_25 : decode cX11_wayIn 25 = .ok (.ifCond .ne 5, 3) := by decide +kernel
theorem dX11_wayIn_28 : decode cX11_wayIn 28 = .ok (.iconst (-1), 1) := by decide +kernel
theorem dX11_wayIn_29 : decode cX11_wayIn 29 = .ok (.ireturn, 1) := by decide +kernel
theorem dX11_wayIn_30 : decode cX11_wayIn 30 = .ok (.aload_n 0, 1) := by decide +kernel
theorem dX11_wayIn_31 : decode cX11_wayIn 31 = .ok (.getfield 38, 3) := by decide +kernel
theorem dX11_wayIn_34 : decode cX11_wayIn 34 = .ok (.aload_n 0, 1) := by decide +kernel
theorem dX11_wayIn_35 : decode cX11_wayIn 35 = .ok (.getfield 26, 3) := by decide +kernel
theorem dX11_wayIn_38 : decode cX11_wayIn 38 = .ok (.aload_n 0, 1) := by decide +kernel
theorem dX11_wayIn_39 : decode cX11_wayIn 39 = .ok (.getfield 56, 3) := by decide +kernel
theorem dX11_wayIn_42 : decode cX11_wayIn 42 = .ok (.invokevirtual 208, 3) := by decide +kernel
theorem dX11_wayIn_45 : decode cX11_wayIn 45 = .ok (.aload_n 0, 1) := by decide +kernel
theorem dX11_wayIn_46 : decode cX11_wayIn 46 = .ok (.getfield 38, 3) := by decide +kernel
theorem dX11_wayIn_49 : decode cX11_wayIn 49 = .ok (.iload_n 1, 1) := by decide +kernel
theorem dX11_wayIn_50 : decode cX11_wayIn 50 = .ok (.iload_n 2, 1) := by decide +kernel
theorem dX11_wayIn_51 : decode cX11_wayIn 51 = .ok (.invokevirtual 222, 3) := by decide +kernel
theorem dX11_wayIn_54 : decode cX11_wayIn 54 = .ok (.ifCond .eq 16, 3) := by decide +kernel
theorem dX11_wayIn_57 : decode cX11_wayIn 57 = .ok (.aload_n 0, 1) := by decide +kernel
theorem dX11_wayIn_58 : decode cX11_wayIn 58 = .ok (.getfield 38, 3) := by decide +kernel
theorem dX11_wayIn_61 : decode cX11_wayIn 61 = .ok (.iload_n 3, 1) := by decide +kernel
theorem dX11_wayIn_62 : decode cX11_wayIn 62 = .ok (.iload 4, 2) := by decide +kernel
theorem dX11_wayIn_64 : decode cX11_wayIn 64 = .ok (.invokevirtual 222, 3) := by decide +kernel
theorem dX11_wayIn_67 : decode cX11_wayIn 67 = .ok (.ifCond .ne 6, 3) := by decide +kernel
theorem dX11_wayIn_70 : decode cX11_wayIn 70 = .ok (.bipush (-2), 2) := by decide +kernel
theorem dX11_wayIn_72 : decode cX11_wayIn 72 = .ok (.ireturn, 1) := by decide +kernel
theorem dX11_wayIn_73 : decode cX11_wayIn 73 = .ok (.aload_n 0, 1) := by decide +kernel
theorem dX11_wayIn_74 : decode cX11_wayIn 74 = .ok (.getfield 45, 3) := by decide +kernel
theorem dX11_wayIn_77 : decode cX11_wayIn 77 = .ok (.aload_n 0, 1) := by decide +kernel
theorem dX11_wayIn_78 : decode cX11_wayIn 78 = .ok (.getfield 38, 3) := by decide +kernel
theorem dX11_wayIn_81 : decode cX11_wayIn 81 = .ok (.getfield 256, 3) := by decide +kernel
theorem dX11_wayIn_84 : decode cX11_wayIn 84 = .ok (.iload_n 2, 1) := by decide +kernel
theorem dX11_wayIn_85 : decode cX11_wayIn 85 = .ok (.bipush 32, 2) := by decide +kernel
theorem dX11_wayIn_87 : decode cX11_wayIn 87 = .ok (.imul, 1) := by decide +kernel
theorem dX11_wayIn_88 : decode cX11_wayIn 88 = .ok (.iload_n 1, 1) := by decide +kernel
theorem dX11_wayIn_89 : decode cX11_wayIn 89 = .ok (.iadd, 1) := by decide +kernel
theorem dX11_wayIn_90 : decode cX11_wayIn 90 = .ok (.iload 4, 2) := by decide +kernel
theorem dX11_wayIn_92 : decode cX11_wayIn 92 = .ok (.bipush 32, 2) := by decide +kernel
theorem dX11_wayIn_94 : decode cX11_wayIn 94 = .ok (.imul, 1) := by decide +kernel
theorem dX11_wayIn_95 : decode cX11_wayIn 95 = .ok (.iload_n 3, 1) := by decide +kernel
theorem dX11_wayIn_96 : decode cX11_wayIn 96 = .ok (.iadd, 1) := by decide +kernel
theorem dX11_wayIn_97 : decode cX11_wayIn 97 = .ok (.aload_n 0, 1) := by decide +kernel
theorem dX11_wayIn_98 : decode cX11_wayIn 98 = .ok (.getfield 56, 3) := by decide +kernel
theorem dX11_wayIn_101 : decode cX11_wayIn 101 = .ok (.invokevirtual 259, 3) := by decide +kernel
theorem dX11_wayIn_104 : decode cX11_wayIn 104 = .ok (.aload_n 0, 1) := by decide +kernel
theorem dX11_wayIn_105 : decode cX11_wayIn 105 = .ok (.getfield 45, 3) := by decide +kernel
theorem dX11_wayIn_108 : decode cX11_wayIn 108 = .ok (.getfield 263, 3) := by decide +kernel
theorem dX11_wayIn_111 : decode cX11_wayIn 111 = .ok (.ifCond .ne 6, 3) := by decide +kernel
theorem dX11_wayIn_114 : decode cX11_wayIn 114 = .ok (.bipush (-2), 2) := by decide +kernel
theorem dX11_wayIn_116 : decode cX11_wayIn 116 = .ok (.ireturn, 1) := by decide +kernel
theorem dX11_wayIn_117 : decode cX11_wayIn 117 = .ok (.iload 5, 2) := by decide +kernel
theorem dX11_wayIn_119 : decode cX11_wayIn 119 = .ok (.iconst (-1), 1) := by decide +kernel
theorem dX11_wayIn_120 : decode cX11_wayIn 120 = .ok (.if_icmp .ne 11, 3) := by decide +kernel
theorem dX11_wayIn_123 : decode cX11_wayIn 123 = .ok (.aload_n 0, 1) := by decide +kernel
theorem dX11_wayIn_124 : decode cX11_wayIn 124 = .ok (.getfield 45, 3) := by decide +kernel
theorem dX11_wayIn_127 : decode cX11_wayIn 127 = .ok (.getfield 267, 3) := by decide +kernel
theorem dX11_wayIn_130 : decode cX11_wayIn 130 = .ok (.ireturn, 1) := by decide +kernel
theorem dX11_wayIn_131 : decode cX11_wayIn 131 = .ok (.iload 5, 2) := by decide +kernel
theorem dX11_wayIn_133 : decode cX11_wayIn 133 = .ok (.bipush 100, 2) := by decide +kernel
theorem dX11_wayIn_135 : decode cX11_wayIn 135 = .ok (.if_icmp .ne 11, 3) := by decide +kernel
theorem dX11_wayIn_138 : decode cX11_wayIn 138 = .ok (.aload_n 0, 1) := by decide +kernel
theorem dX11_wayIn_139 : decode cX11_wayIn 139 = .ok (.getfield 45, 3) := by decide +kernel
theorem dX11_wayIn_142 : decode cX11_wayIn 142 = .ok (.getfield 270, 3) := by decide +kernel
theorem dX11_wayIn_145 : decode cX11_wayIn 145 = .ok (.ireturn, 1) := by decide +kernel
theorem dX11_wayIn_146 : decode cX11_wayIn 146 = .ok (.iload 5, 2) := by decide +kernel
theorem dX11_wayIn_148 : decode cX11_wayIn 148 = .ok (.aload_n 0, 1) := by decide +kernel
theorem dX11_wayIn_149 : decode cX11_wayIn 149 = .ok (.getfield 45, 3) := by decide +kernel
theorem dX11_wayIn_152 : decode cX11_wayIn 152 = .ok (.getfield 270, 3) := by decide +kernel
theorem dX11_wayIn_155 : decode cX11_wayIn 155 = .ok (.if_icmp .ge 16, 3) := by decide +kernel
theorem dX11_wayIn_158 : decode cX11_wayIn 158 = .ok (.aload_n 0, 1) := by decide +kernel
theorem dX11_wayIn_159 : decode cX11_wayIn 159 = .ok (.getfield 45, 3) := by decide +kernel
theorem dX11_wayIn_162 : decode cX11_wayIn 162 = .ok (.getfield 273, 3) := by decide +kernel
theorem dX11_wayIn_165 : decode cX11_wayIn 165 = .ok (.iload 5, 2) := by decide +kernel
theorem dX11_wayIn_167 : decode cX11_wayIn 167 = .ok (.iaload, 1) := by decide +kernel
theorem dX11_wayIn_168 : decode cX11_wayIn 168 = .ok (.goto 4, 3) := by decide +kernel
theorem dX11_wayIn_171 : decode cX11_wayIn 171 = .ok (.iconst (-1), 1) := by decide +kernel
theorem dX11_wayIn_172 : decode cX11_wayIn 172 = .ok (.ireturn, 1) := by decide +kernel
theorem dX11_pool_0 : decode cX11_pool 0 = .ok (.iload_n 1, 1) := by decide +kernel
theorem dX11_pool_1 : decode cX11_pool 1 = .ok (.iload_n 2, 1) := by decide +kernel
theorem dX11_pool_2 : decode cX11_pool 2 = .ok (.invokestatic 132, 3) := by decide +kernel
theorem dX11_pool_5 : decode cX11_pool 5 = .ok (.ifCond .eq 12, 3) := by decide +kernel
theorem dX11_pool_8 : decode cX11_pool 8 = .ok (.iload_n 3, 1) := by decide +kernel
theorem dX11_pool_9 : decode cX11_pool 9 = .ok (.iconst 0, 1) := by decide +kernel
theorem dX11_pool_10 : decode cX11_pool 10 = .ok (.iconst 2, 1) := by decide +kernel
theorem dX11_pool_11 : decode cX11_pool 11 = .ok (.invokestatic 67, 3) := by decide +kernel
theorem dX11_pool_14 : decode cX11_pool 14 = .ok (.ifCond .ne 5, 3) := by decide +kernel
theorem dX11_pool_17 : decode cX11_pool 17 = .ok (.iconst (-1), 1) := by decide +kernel
theorem dX11_pool_18 : decode cX11_pool 18 = .ok (.ireturn, 1) := by decide +kernel
theorem dX11_pool_19 : decode cX11_pool 19 = .ok (.aload_n 0, 1) := by decide +kernel
theorem dX11_pool_20 : decode cX11_pool 20 = .ok (.getfield 38, 3) := by decide +kernel
theorem dX11_pool_23 : decode cX11_pool 23 = .ok (.aload_n 0, 1) := by decide +kernel
theorem dX11_pool_24 : decode cX11_pool 24 = .ok (.getfield 26, 3) := by decide +kernel
theorem dX11_pool_27 : decode cX11_pool 27 = .ok (.aload_n 0, 1) := by decide +kernel
theorem dX11_pool_28 : decode cX11_pool 28 = .ok (.getfield 56, 3) := by decide +kernel
theorem dX11_pool_31 : decode cX11_pool 31 = .ok (.invokevirtual 208, 3) := by decide +kernel
theorem dX11_pool_34 : decode cX11_pool 34 = .ok (.aload_n 0, 1) := by decide +kernel
theorem dX11_pool_35 : decode cX11_pool 35 = .ok (.getfield 38, 3) := by decide +kernel
theorem dX11_pool_38 : decode cX11_pool 38 = .ok (.getfield 212, 3) := by decide +kernel
theorem dX11_pool_41 : decode cX11_pool 41 = .ok (.ifCond .ne 6, 3) := by decide +kernel
theorem dX11_pool_44 : decode cX11_pool 44 = .ok (.bipush (-2), 2) := by decide +kernel
theorem dX11_pool_46 : decode cX11_pool 46 = .ok (.ireturn, 1) := by decide +kernel
theorem dX11_pool_47 : decode cX11_pool 47 = .ok (.aload_n 0, 1) := by decide +kernel
theorem dX11_pool_48 : decode cX11_pool 48 = .ok (.getfield 38, 3) := by decide +kernel
theorem dX11_pool_51 : decode cX11_pool 51 = .ok (.iload_n 1, 1) := by decide +kernel
theorem dX11_pool_52 : decode cX11_pool 52 = .ok (.iload_n 2, 1) := by decide +kernel
theorem dX11_pool_53 : decode cX11_pool 53 = .ok (.invokevirtual 276, 3) := by decide +kernel
theorem dX11_pool_56 : decode cX11_pool 56 = .ok (.iload_n 3, 1) := by decide +kernel
theorem dX11_pool_57 : decode cX11_pool 57 = .ok (.ifCond .ne 15, 3) := by decide +kernel
theorem dX11_pool_60 : decode cX11_pool 60 = .ok (.aload_n 0, 1) := by decide +kernel
theorem dX11_pool_61 : decode cX11_pool 61 = .ok (.getfield 38, 3) := by decide +kernel
theorem dX11_pool_64 : decode cX11_pool 64 = .ok (.getfield 279, 3) := by decide +kernel
theorem dX11_pool_67 : decode cX11_pool 67 = .ok (.iconst 0, 1) := by decide +kernel
theorem dX11_pool_68 : decode cX11_pool 68 = .ok (.invokestatic 204, 3) := by decide +kernel
theorem dX11_pool_71 : decode cX11_pool 71 = .ok (.ireturn, 1) := by decide +kernel
theorem dX11_pool_72 : decode cX11_pool 72 = .ok (.aload_n 0, 1) := by decide +kernel
theorem dX11_pool_73 : decode cX11_pool 73 = .ok (.getfield 38, 3) := by decide +kernel
theorem dX11_pool_76 : decode cX11_pool 76 = .ok (.iload_n 3, 1) := by decide +kernel
theorem dX11_pool_77 : decode cX11_pool 77 = .ok (.iconst 2, 1) := by decide +kernel
theorem dX11_pool_78 : decode cX11_pool 78 = .ok (.if_icmp .ne 7, 3) := by decide +kernel
theorem dX11_pool_81 : decode cX11_pool 81 = .ok (.iconst 1, 1) := by decide +kernel
theorem dX11_pool_82 : decode cX11_pool 82 = .ok (.goto 4, 3) := by decide +kernel
theorem dX11_pool_85 : decode cX11_pool 85 = .ok (.iconst 0, 1) := by decide +kernel
theorem dX11_pool_86 : decode cX11_pool 86 = .ok (.invokevirtual 282, 3) := by decide +kernel
theorem dX11_pool_89 : decode cX11_pool 89 = .ok (.ireturn, 1) := by decide +kernel
theorem dX11_check_0 : decode cX11_check 0 = .ok (.aload_n 0, 1) := by decide +kernel
theorem dX11_check_1 : decode cX11_check 1 = .ok (.getfield 38, 3) := by decide +kernel
theorem dX11_check_4 : decode cX11_check 4 = .ok (.iload_n 1, 1) := by decide +kernel
theorem dX11_check_5 : decode cX11_check 5 = .ok (.invokevirtual 117, 3) := by decide +kernel
theorem dX11_check_8 : decode cX11_check 8 = .ok (.astore_n 3, 1) := by decide +kernel
theorem dX11_check_9 : decode cX11_check 9 = .ok (.aload_n 3, 1) := by decide +kernel
theorem dX11_check_10 : decode cX11_check 10 = .ok (.ifnull 26, 3) := by decide +kernel
theorem dX11_check_13 : decode cX11_check 13 = .ok (.iload_n 2, 1) := by decide +kernel
theorem dX11_check_14 : decode cX11_check 14 = .ok (.iconst 0, 1) := by decide +kernel
theorem dX11_check_15 : decode cX11_check 15 = .ok (.bipush 32, 2) := by decide +kernel
theorem dX11_check_17 : decode cX11_check 17 = .ok (.invokestatic 67, 3) := by decide +kernel
theorem dX11_check_20 : decode cX11_check 20 = .ok (.ifCond .eq 16, 3) := by decide +kernel
theorem dX11_check_23 : decode cX11_check 23 = .ok (.aload_n 0, 1) := by decide +kernel
theorem dX11_check_24 : decode cX11_check 24 = .ok (.getfield 12, 3) := by decide +kernel
theorem dX11_check_27 : decode cX11_check 27 = .ok (.getfield 60, 3) := by decide +kernel
theorem dX11_check_30 : decode cX11_check 30 = .ok (.iconst 4, 1) := by decide +kernel
theorem dX11_check_31 : decode cX11_check 31 = .ok (.iload_n 2, 1) := by decide +kernel
theorem dX11_check_32 : decode cX11_check 32 = .ok (.imul, 1) := by decide +kernel
theorem dX11_check_33 : decode cX11_check 33 = .ok (.if_icmp .ge 6, 3) := by decide +kernel
theorem dX11_check_36 : decode cX11_check 36 = .ok (.bipush (-2), 2) := by decide +kernel
theorem dX11_check_38 : decode cX11_check 38 = .ok (.ireturn, 1) := by decide +kernel
theorem dX11_check_39 : decode cX11_check 39 = .ok (.iconst 0, 1) := by decide +kernel
theorem dX11_check_40 : decode cX11_check 40 = .ok (.istore 4, 2) := by decide +kernel
theorem dX11_check_42 : decode cX11_check 42 = .ok (.iload 4, 2) := by decide +kernel
theorem dX11_check_44 : decode cX11_check 44 = .ok (.iload_n 2, 1) := by decide +kernel
theorem dX11_check_45 : decode cX11_check 45 = .ok (.if_icmp .ge 28, 3) := by decide +kernel
theorem dX11_check_48 : decode cX11_check 48 = .ok (.aload_n 0, 1) := by decide +kernel
theorem dX11_check_49 : decode cX11_check 49 = .ok (.getfield 12, 3) := by decide +kernel
theorem dX11_check_52 : decode cX11_check 52 = .ok (.iload 4, 2) := by decide +kernel
theorem dX11_check_54 : decode cX11_check 54 = .ok (.invokevirtual 286, 3) := by decide +kernel
theorem dX11_check_57 : decode cX11_check 57 = .ok (.aload_n 3, 1) := by decide +kernel
theorem dX11_check_58 : decode cX11_check 58 = .ok (.getfield 289, 3) := by decide +kernel
theorem dX11_check_61 : decode cX11_check 61 = .ok (.iload 4, 2) := by decide +kernel
theorem dX11_check_63 : decode cX11_check 63 = .ok (.iaload, 1) := by decide +kernel
theorem dX11_check_64 : decode cX11_check 64 = .ok (.if_icmp .ne 9, 3) := by decide +kernel
theorem dX11_check_67 : decode cX11_check 67 = .ok (.iinc 4 1, 3) := by decide +kernel
theorem dX11_check_70 : decode cX11_check 70 = .ok (.goto (-28), 3) := by decide +kernel
theorem dX11_check_73 : decode cX11_check 73 = .ok (.aload_n 0, 1) := by decide +kernel
theorem dX11_check_74 : decode cX11_check 74 = .ok (.getfield 12, 3) := by decide +kernel
theorem dX11_check_77 : decode cX11_check 77 = .ok (.iconst 0, 1) := by decide +kernel
theorem dX11_check_78 : decode cX11_check 78 = .ok (.putfield 60, 3) := by decide +kernel
theorem dX11_check_81 : decode cX11_check 81 = .ok (.iload 4, 2) := by decide +kernel
theorem dX11_check_83 : decode cX11_check 83 = .ok (.bipush 32, 2) := by decide +kernel
theorem dX11_check_85 : decode cX11_check 85 = .ok (.if_icmp .ne 7, 3) := by decide +kernel
theorem dX11_check_88 : decode cX11_check 88 = .ok (.iconst (-1), 1) := by decide +kernel
theorem dX11_check_89 : decode cX11_check 89 = .ok (.goto 5, 3) := by decide +kernel
theorem dX11_check_92 : decode cX11_check 92 = .ok (.iload 4, 2) := by decide +kernel
theorem dX11_check_94 : decode cX11_check 94 = .ok (.ireturn, 1) := by decide +kernel
theorem dX11_count_0 : decode cX11_count 0 = .ok (.iload_n 1, 1) := by decide +kernel
theorem dX11_count_1 : decode cX11_count 1 = .ok (.tableswitch 154 0 8 #[51, 59, 67, 78, 86, 94, 115, 123, 131], 51) := by decide +kernel
theorem dX11_count_52 : decode cX11_count 52 = .ok (.aload_n 0, 1) := by decide +kernel
theorem dX11_count_53 : decode cX11_count 53 = .ok (.getfield 38, 3) := by decide +kernel
theorem dX11_count_56 : decode cX11_count 56 = .ok (.getfield 71, 3) := by decide +kernel
theorem dX11_count_59 : decode cX11_count 59 = .ok (.ireturn, 1) := by decide +kernel
theorem dX11_count_60 : decode cX11_count 60 = .ok (.aload_n 0, 1) := by decide +kernel
theorem dX11_count_61 : decode cX11_count 61 = .ok (.getfield 34, 3) := by decide +kernel
theorem dX11_count_64 : decode cX11_count 64 = .ok (.getfield 147, 3) := by decide +kernel
theorem dX11_count_67 : decode cX11_count 67 = .ok (.ireturn, 1) := by decide +kernel
theorem dX11_count_68 : decode cX11_count 68 = .ok (.aload_n 0, 1) := by decide +kernel
theorem dX11_count_69 : decode cX11_count 69 = .ok (.getfield 34, 3) := by decide +kernel
theorem dX11_count_72 : decode cX11_count 72 = .ok (.getfield 292, 3) := by decide +kernel
theorem dX11_count_75 : decode cX11_count 75 = .ok (.getfield 295, 3) := by decide +kernel
theorem dX11_count_78 : decode cX11_count 78 = .ok (.ireturn, 1) := by decide +kernel
theorem dX11_count_79 : decode cX11_count 79 = .ok (.aload_n 0, 1) := by decide +kernel
theorem dX11_count_80 : decode cX11_count 80 = .ok (.getfield 12, 3) := by decide +kernel
theorem dX11_count_83 : decode cX11_count 83 = .ok (.getfield 60, 3) := by decide +kernel
theorem dX11_count_86 : decode cX11_count 86 = .ok (.ireturn, 1) := by decide +kernel
theorem dX11_count_87 : decode cX11_count 87 = .ok (.aload_n 0, 1) := by decide +kernel
theorem dX11_count_88 : decode cX11_count 88 = .ok (.getfield 26, 3) := by decide +kernel
theorem dX11_count_91 : decode cX11_count 91 = .ok (.getfield 164, 3) := by decide +kernel
theorem dX11_count_94 : decode cX11_count 94 = .ok (.ireturn, 1) := by decide +kernel
theorem dX11_count_95 : decode cX11_count 95 = .ok (.aload_n 0, 1) := by decide +kernel
theorem dX11_count_96 : decode cX11_count 96 = .ok (.getfield 26, 3) := by decide +kernel
theorem dX11_count_99 : decode cX11_count 99 = .ok (.invokevirtual 300, 3) := by decide +kernel
theorem dX11_count_102 : decode cX11_count 102 = .ok (.astore_n 2, 1) := by decide +kernel
theorem dX11_count_103 : decode cX11_count 103 = .ok (.aload_n 2, 1) := by decide +kernel
theorem dX11_count_104 : decode cX11_count 104 = .ok (.ifnonnull 7, 3) := by decide +kernel
theorem dX11_count_107 : decode cX11_count 107 = .ok (.iconst (-1), 1) := by decide +kernel
theorem dX11_count_108 : decode cX11_count 108 = .ok (.goto 7, 3) := by decide +kernel
theorem dX11_count_111 : decode cX11_count 111 = .ok (.aload_n 2, 1) := by decide +kernel
theorem dX11_count_112 : decode cX11_count 112 = .ok (.getfield 304, 3) := by decide +kernel
theorem dX11_count_115 : decode cX11_count 115 = .ok (.ireturn, 1) := by decide +kernel
theorem dX11_count_116 : decode cX11_count 116 = .ok (.aload_n 0, 1) := by decide +kernel
theorem dX11_count_117 : decode cX11_count 117 = .ok (.getfield 26, 3) := by decide +kernel
theorem dX11_count_120 : decode cX11_count 120 = .ok (.getfield 177, 3) := by decide +kernel
theorem dX11_count_123 : decode cX11_count 123 = .ok (.ireturn, 1) := by decide +kernel
theorem dX11_count_124 : decode cX11_count 124 = .ok (.aload_n 0, 1) := by decide +kernel
theorem dX11_count_125 : decode cX11_count 125 = .ok (.getfield 52, 3) := by decide +kernel
theorem dX11_count_128 : decode cX11_count 128 = .ok (.getfield 228, 3) := by decide +kernel
theorem dX11_count_131 : decode cX11_count 131 = .ok (.ireturn, 1) := by decide +kernel
theorem dX11_count_132 : decode cX11_count 132 = .ok (.aload_n 0, 1) := by decide +kernel
theorem dX11_count_133 : decode cX11_count 133 = .ok (.getfield 38, 3) := by decide +kernel
theorem dX11_count_136 : decode cX11_count 136 = .ok (.aload_n 0, 1) := by decide +kernel
theorem dX11_count_137 : decode cX11_count 137 = .ok (.getfield 26, 3) := by decide +kernel
theorem dX11_count_140 : decode cX11_count 140 = .ok (.aload_n 0, 1) := by decide +kernel
theorem dX11_count_141 : decode cX11_count 141 = .ok (.getfield 56, 3) := by decide +kernel
theorem dX11_count_144 : decode cX11_count 144 = .ok (.invokevirtual 208, 3) := by decide +kernel
theorem dX11_count_147 : decode cX11_count 147 = .ok (.aload_n 0, 1) := by decide +kernel
theorem dX11_count_148 : decode cX11_count 148 = .ok (.getfield 38, 3) := by decide +kernel
theorem dX11_count_151 : decode cX11_count 151 = .ok (.getfield 212, 3) := by decide +kernel
theorem dX11_count_154 : decode cX11_count 154 = .ok (.ireturn, 1) := by decide +kernel
theorem dX11_count_155 : decode cX11_count 155 = .ok (.iload_n 1, 1) := by decide +kernel
theorem dX11_count_156 : decode cX11_count 156 = .ok (.bipush 10, 2) := by decide +kernel
theorem dX11_count_158 : decode cX11_count 158 = .ok (.bipush 17, 2) := by decide +kernel
theorem dX11_count_160 : decode cX11_count 160 = .ok (.invokestatic 67, 3) := by decide +kernel
theorem dX11_count_163 : decode cX11_count 163 = .ok (.ifCond .eq 17, 3) := by decide +kernel
theorem dX11_count_166 : decode cX11_count 166 = .ok (.aload_n 0, 1) := by decide +kernel
theorem dX11_count_167 : decode cX11_count 167 = .ok (.getfield 38, 3) := by decide +kernel
theorem dX11_count_170 : decode cX11_count 170 = .ok (.iload_n 1, 1) := by decide +kernel
theorem dX11_count_171 : decode cX11_count 171 = .ok (.bipush 10, 2) := by decide +kernel
theorem dX11_count_173 : decode cX11_count 173 = .ok (.isub, 1) := by decide +kernel
theorem dX11_count_174 : decode cX11_count 174 = .ok (.invokevirtual 117, 3) := by decide +kernel
theorem dX11_count_177 : decode cX11_count 177 = .ok (.goto 4, 3) := by decide +kernel
theorem dX11_count_180 : decode cX11_count 180 = .ok (.aconst_null, 1) := by decide +kernel
theorem dX11_count_181 : decode cX11_count 181 = .ok (.astore_n 3, 1) := by decide +kernel
theorem dX11_count_182 : decode cX11_count 182 = .ok (.aload_n 3, 1) := by decide +kernel
theorem dX11_count_183 : decode cX11_count 183 = .ok (.ifnonnull 7, 3) := by decide +kernel
theorem dX11_count_186 : decode cX11_count 186 = .ok (.iconst (-1), 1) := by decide +kernel
theorem dX11_count_187 : decode cX11_count 187 = .ok (.goto 7, 3) := by decide +kernel
theorem dX11_count_190 : decode cX11_count 190 = .ok (.aload_n 3, 1) := by decide +kernel
theorem dX11_count_191 : decode cX11_count 191 = .ok (.getfield 121, 3) := by decide +kernel
theorem dX11_count_194 : decode cX11_count 194 = .ok (.ireturn, 1) := by decide +kernel
theorem dX11_addCoast_0 : decode cX11_addCoast 0 = .ok (.aload_n 1, 1) := by decide +kernel
theorem dX11_addCoast_1 : decode cX11_addCoast 1 = .ok (.invokevirtual 309, 3) := by decide +kernel
theorem dX11_addCoast_4 : decode cX11_addCoast 4 = .ok (.aload_n 0, 1) := by decide +kernel
theorem dX11_addCoast_5 : decode cX11_addCoast 5 = .ok (.getfield 38, 3) := by decide +kernel
theorem dX11_addCoast_8 : decode cX11_addCoast 8 = .ok (.getfield 312, 3) := by decide +kernel
theorem dX11_addCoast_11 : decode cX11_addCoast 11 = .ok (.aload_n 0, 1) := by decide +kernel
theorem dX11_addCoast_12 : decode cX11_addCoast 12 = .ok (.getfield 38, 3) := by decide +kernel
theorem dX11_addCoast_15 : decode cX11_addCoast 15 = .ok (.getfield 71, 3) := by decide +kernel
theorem dX11_addCoast_18 : decode cX11_addCoast 18 = .ok (.aload_n 1, 1) := by decide +kernel
theorem dX11_addCoast_19 : decode cX11_addCoast 19 = .ok (.aastore, 1) := by decide +kernel
theorem dX11_addCoast_20 : decode cX11_addCoast 20 = .ok (.aload_n 0, 1) := by decide +kernel
theorem dX11_addCoast_21 : decode cX11_addCoast 21 = .ok (.getfield 38, 3) := by decide +kernel
theorem dX11_addCoast_24 : decode cX11_addCoast 24 = .ok (.dup, 1) := by decide +kernel
theorem dX11_addCoast_25 : decode cX11_addCoast 25 = .ok (.getfield 71, 3) := by decide +kernel
theorem dX11_addCoast_28 : decode cX11_addCoast 28 = .ok (.iconst 1, 1) := by decide +kernel
theorem dX11_addCoast_29 : decode cX11_addCoast 29 = .ok (.iadd, 1) := by decide +kernel
theorem dX11_addCoast_30 : decode cX11_addCoast 30 = .ok (.putfield 71, 3) := by decide +kernel
theorem dX11_addCoast_33 : decode cX11_addCoast 33 = .ok (.aload_n 0, 1) := by decide +kernel
theorem dX11_addCoast_34 : decode cX11_addCoast 34 = .ok (.dup, 1) := by decide +kernel
theorem dX11_addCoast_35 : decode cX11_addCoast 35 = .ok (.getfield 56, 3) := by decide +kernel
theorem dX11_addCoast_38 : decode cX11_addCoast 38 = .ok (.iconst 1, 1) := by decide +kernel
theorem dX11_addCoast_39 : decode cX11_addCoast 39 = .ok (.iadd, 1) := by decide +kernel
theorem dX11_addCoast_40 : decode cX11_addCoast 40 = .ok (.putfield 56, 3) := by decide +kernel
theorem dX11_addCoast_43 : decode cX11_addCoast 43 = .ok (.return_, 1) := by decide +kernel
theorem dX11_addNote_0 : decode cX11_addNote 0 = .ok (.aload_n 0, 1) := by decide +kernel
theorem dX11_addNote_1 : decode cX11_addNote 1 = .ok (.getfield 26, 3) := by decide +kernel
theorem dX11_addNote_4 : decode cX11_addNote 4 = .ok (.invokevirtual 300, 3) := by decide +kernel
theorem dX11_addNote_7 : decode cX11_addNote 7 = .ok (.astore 5, 2) := by decide +kernel
theorem dX11_addNote_9 : decode cX11_addNote 9 = .ok (.aload 5, 2) := by decide +kernel
theorem dX11_addNote_11 : decode cX11_addNote 11 = .ok (.ifnull 13, 3) := by decide +kernel
theorem dX11_addNote_14 : decode cX11_addNote 14 = .ok (.aload 5, 2) := by decide +kernel
theorem dX11_addNote_16 : decode cX11_addNote 16 = .ok (.getfield 304, 3) := by decide +kernel
theorem dX11_addNote_19 : decode cX11_addNote 19 = .ok (.bipush 6, 2) := by decide +kernel
theorem dX11_addNote_21 : decode cX11_addNote 21 = .ok (.if_icmp .lt 5, 3) := by decide +kernel
theorem dX11_addNote_24 : decode cX11_addNote 24 = .ok (.iconst (-1), 1) := by decide +kernel
theorem dX11_addNote_25 : decode cX11_addNote 25 = .ok (.ireturn, 1) := by decide +kernel
theorem dX11_addNote_26 : decode cX11_addNote 26 = .ok (.aload 5, 2) := by decide +kernel
theorem dX11_addNote_28 : decode cX11_addNote 28 = .ok (.iload_n 1, 1) := by decide +kernel
theorem dX11_addNote_29 : decode cX11_addNote 29 = .ok (.iload_n 2, 1) := by decide +kernel
theorem dX11_addNote_30 : decode cX11_addNote 30 = .ok (.iload_n 3, 1) := by decide +kernel
theorem dX11_addNote_31 : decode cX11_addNote 31 = .ok (.iload 4, 2) := by decide +kernel
theorem dX11_addNote_33 : decode cX11_addNote 33 = .ok (.invokevirtual 316, 3) := by decide +kernel
theorem dX11_addNote_36 : decode cX11_addNote 36 = .ok (.aload_n 0, 1) := by decide +kernel
theorem dX11_addNote_37 : decode cX11_addNote 37 = .ok (.dup, 1) := by decide +kernel
theorem dX11_addNote_38 : decode cX11_addNote 38 = .ok (.getfield 56, 3) := by decide +kernel
theorem dX11_addNote_41 : decode cX11_addNote 41 = .ok (.iconst 1, 1) := by decide +kernel
theorem dX11_addNote_42 : decode cX11_addNote 42 = .ok (.iadd, 1) := by decide +kernel
theorem dX11_addNote_43 : decode cX11_addNote 43 = .ok (.putfield 56, 3) := by decide +kernel
theorem dX11_addNote_46 : decode cX11_addNote 46 = .ok (.aload 5, 2) := by decide +kernel
theorem dX11_addNote_48 : decode cX11_addNote 48 = .ok (.getfield 304, 3) := by decide +kernel
theorem dX11_addNote_51 : decode cX11_addNote 51 = .ok (.ireturn, 1) := by decide +kernel
theorem dX11_within_0 : decode cX11_within 0 = .ok (.iload_n 0, 1) := by decide +kernel
theorem dX11_within_1 : decode cX11_within 1 = .ok (.iload_n 1, 1) := by decide +kernel
theorem dX11_within_2 : decode cX11_within 2 = .ok (.if_icmp .lt 12, 3) := by decide +kernel
theorem dX11_within_5 : decode cX11_within 5 = .ok (.iload_n 0, 1) := by decide +kernel
theorem dX11_within_6 : decode cX11_within 6 = .ok (.iload_n 2, 1) := by decide +kernel
theorem dX11_within_7 : decode cX11_within 7 = .ok (.if_icmp .gt 7, 3) := by decide +kernel
theorem dX11_within_10 : decode cX11_within 10 = .ok (.iconst 1, 1) := by decide +kernel
theorem dX11_within_11 : decode cX11_within 11 = .ok (.goto 4, 3) := by decide +kernel
theorem dX11_within_14 : decode cX11_within 14 = .ok (.iconst 0, 1) := by decide +kernel
theorem dX11_within_15 : decode cX11_within 15 = .ok (.ireturn, 1) := by decide +kernel
theorem dX11_inGrid_0 : decode cX11_inGrid 0 = .ok (.iload_n 0, 1) := by decide +kernel
theorem dX11_inGrid_1 : decode cX11_inGrid 1 = .ok (.ifCond .lt 23, 3) := by decide +kernel
theorem dX11_inGrid_4 : decode cX11_inGrid 4 = .ok (.iload_n 0, 1) := by decide +kernel
theorem dX11_inGrid_5 : decode cX11_inGrid 5 = .ok (.bipush 32, 2) := by decide +kernel
theorem dX11_inGrid_7 : decode cX11_inGrid 7 = .ok (.if_icmp .ge 17, 3) := by decide +kernel
theorem dX11_inGrid_10 : decode cX11_inGrid 10 = .ok (.iload_n 1, 1) := by decide +kernel
theorem dX11_inGrid_11 : decode cX11_inGrid 11 = .ok (.ifCond .lt 13, 3) := by decide +kernel
theorem dX11_inGrid_14 : decode cX11_inGrid 14 = .ok (.iload_n 1, 1) := by decide +kernel
theorem dX11_inGrid_15 : decode cX11_inGrid 15 = .ok (.bipush 32, 2) := by decide +kernel
theorem dX11_inGrid_17 : decode cX11_inGrid 17 = .ok (.if_icmp .ge 7, 3) := by decide +kernel
theorem dX11_inGrid_20 : decode cX11_inGrid 20 = .ok (.iconst 1, 1) := by decide +kernel
theorem dX11_inGrid_21 : decode cX11_inGrid 21 = .ok (.goto 4, 3) := by decide +kernel
theorem dX11_inGrid_24 : decode cX11_inGrid 24 = .ok (.iconst 0, 1) := by decide +kernel
theorem dX11_inGrid_25 : decode cX11_inGrid 25 = .ok (.ireturn, 1) := by decide +kernel
theorem dX11_span_0 : decode cX11_span 0 = .ok (.iload_n 0, 1) := by decide +kernel
theorem dX11_span_1 : decode cX11_span 1 = .ok (.iload_n 1, 1) := by decide +kernel
theorem dX11_span_2 : decode cX11_span 2 = .ok (.if_icmp .ge 7, 3) := by decide +kernel
theorem dX11_span_5 : decode cX11_span 5 = .ok (.iload_n 0, 1) := by decide +kernel
theorem dX11_span_6 : decode cX11_span 6 = .ok (.goto 4, 3) := by decide +kernel
theorem dX11_span_9 : decode cX11_span 9 = .ok (.iload_n 1, 1) := by decide +kernel
theorem dX11_span_10 : decode cX11_span 10 = .ok (.istore_n 2, 1) := by decide +kernel
theorem dX11_span_11 : decode cX11_span 11 = .ok (.iload_n 0, 1) := by decide +kernel
theorem dX11_span_12 : decode cX11_span 12 = .ok (.iload_n 1, 1) := by decide +kernel
theorem dX11_span_13 : decode cX11_span 13 = .ok (.if_icmp .ge 7, 3) := by decide +kernel
theorem dX11_span_16 : decode cX11_span 16 = .ok (.iload_n 1, 1) := by decide +kernel
theorem dX11_span_17 : decode cX11_span 17 = .ok (.goto 4, 3) := by decide +kernel
theorem dX11_span_20 : decode cX11_span 20 = .ok (.iload_n 0, 1) := by decide +kernel
theorem dX11_span_21 : decode cX11_span 21 = .ok (.istore_n 3, 1) := by decide +kernel
theorem dX11_span_22 : decode cX11_span 22 = .ok (.iconst (-1), 1) := by decide +kernel
theorem dX11_span_23 : decode cX11_span 23 = .ok (.iload_n 2, 1) := by decide +kernel
theorem dX11_span_24 : decode cX11_span 24 = .ok (.ishl, 1) := by decide +kernel
theorem dX11_span_25 : decode cX11_span 25 = .ok (.iconst (-1), 1) := by decide +kernel
theorem dX11_span_26 : decode cX11_span 26 = .ok (.bipush 31, 2) := by decide +kernel
theorem dX11_span_28 : decode cX11_span 28 = .ok (.iload_n 3, 1) := by decide +kernel
theorem dX11_span_29 : decode cX11_span 29 = .ok (.isub, 1) := by decide +kernel
theorem dX11_span_30 : decode cX11_span 30 = .ok (.iushr, 1) := by decide +kernel
theorem dX11_span_31 : decode cX11_span 31 = .ok (.iand, 1) := by decide +kernel
theorem dX11_span_32 : decode cX11_span 32 = .ok (.ireturn, 1) := by decide +kernel
theorem dX11_moved_0 : decode cX11_moved 0 = .ok (.iload_n 1, 1) := by decide +kernel
theorem dX11_moved_1 : decode cX11_moved 1 = .ok (.ifCond .lt 9, 3) := by decide +kernel
theorem dX11_moved_4 : decode cX11_moved 4 = .ok (.iload_n 0, 1) := by decide +kernel
theorem dX11_moved_5 : decode cX11_moved 5 = .ok (.iload_n 1, 1) := by decide +kernel
theorem dX11_moved_6 : decode cX11_moved 6 = .ok (.ishl, 1) := by decide +kernel
theorem dX11_moved_7 : decode cX11_moved 7 = .ok (.goto 7, 3) := by decide +kernel
theorem dX11_moved_10 : decode cX11_moved 10 = .ok (.iload_n 0, 1) := by decide +kernel
theorem dX11_moved_11 : decode cX11_moved 11 = .ok (.iload_n 1, 1) := by decide +kernel
theorem dX11_moved_12 : decode cX11_moved 12 = .ok (.ineg, 1) := by decide +kernel
theorem dX11_moved_13 : decode cX11_moved 13 = .ok (.iushr, 1) := by decide +kernel
theorem dX11_moved_14 : decode cX11_moved 14 = .ok (.ireturn, 1) := by decide +kernel
theorem dX11_bitsIn_0 : decode cX11_bitsIn 0 = .ok (.iconst 0, 1) := by decide +kernel
theorem dX11_bitsIn_1 : decode cX11_bitsIn 1 = .ok (.istore_n 2, 1) := by decide +kernel
theorem dX11_bitsIn_2 : decode cX11_bitsIn 2 = .ok (.iconst 0, 1) := by decide +kernel
theorem dX11_bitsIn_3 : decode cX11_bitsIn 3 = .ok (.istore_n 3, 1) := by decide +kernel
theorem dX11_bitsIn_4 : decode cX11_bitsIn 4 = .ok (.iload_n 3, 1) := by decide +kernel
theorem dX11_bitsIn_5 : decode cX11_bitsIn 5 = .ok (.bipush 32, 2) := by decide +kernel
theorem dX11_bitsIn_7 : decode cX11_bitsIn 7 = .ok (.if_icmp .ge 20, 3) := by decide +kernel
theorem dX11_bitsIn_10 : decode cX11_bitsIn 10 = .ok (.iload_n 2, 1) := by decide +kernel
theorem dX11_bitsIn_11 : decode cX11_bitsIn 11 = .ok (.aload_n 0, 1) := by decide +kernel
theorem dX11_bitsIn_12 : decode cX11_bitsIn 12 = .ok (.iload_n 1, 1) := by decide +kernel
theorem dX11_bitsIn_13 : decode cX11_bitsIn 13 = .ok (.iload_n 3, 1) := by decide +kernel
theorem dX11_bitsIn_14 : decode cX11_bitsIn 14 = .ok (.iadd, 1) := by decide +kernel
theorem dX11_bitsIn_15 : decode cX11_bitsIn 15 = .ok (.iaload, 1) := by decide +kernel
theorem dX11_bitsIn_16 : decode cX11_bitsIn 16 = .ok (.invokestatic 319, 3) := by decide +kernel
theorem dX11_bitsIn_19 : decode cX11_bitsIn 19 = .ok (.iadd, 1) := by decide +kernel
theorem dX11_bitsIn_20 : decode cX11_bitsIn 20 = .ok (.istore_n 2, 1) := by decide +kernel
theorem dX11_bitsIn_21 : decode cX11_bitsIn 21 = .ok (.iinc 3 1, 3) := by decide +kernel
theorem dX11_bitsIn_24 : decode cX11_bitsIn 24 = .ok (.goto (-20), 3) := by decide +kernel
theorem dX11_bitsIn_27 : decode cX11_bitsIn 27 = .ok (.iload_n 2, 1) := by decide +kernel
theorem dX11_bitsIn_28 : decode cX11_bitsIn 28 = .ok (.ireturn, 1) := by decide +kernel
theorem dX11_lowestBit_0 : decode cX11_lowestBit 0 = .ok (.iload_n 0, 1) := by decide +kernel
theorem dX11_lowestBit_1 : decode cX11_lowestBit 1 = .ok (.iload_n 0, 1) := by decide +kernel
theorem dX11_lowestBit_2 : decode cX11_lowestBit 2 = .ok (.ineg, 1) := by decide +kernel
theorem dX11_lowestBit_3 : decode cX11_lowestBit 3 = .ok (.iand, 1) := by decide +kernel
theorem dX11_lowestBit_4 : decode cX11_lowestBit 4 = .ok (.iconst 1, 1) := by decide +kernel
theorem dX11_lowestBit_5 : decode cX11_lowestBit 5 = .ok (.isub, 1) := by decide +kernel
theorem dX11_lowestBit_6 : decode cX11_lowestBit 6 = .ok (.invokestatic 319, 3) := by decide +kernel
theorem dX11_lowestBit_9 : decode cX11_lowestBit 9 = .ok (.ireturn, 1) := by decide +kernel
theorem dX11_echoSteps_0 : decode cX11_echoSteps 0 = .ok (.iload_n 0, 1) := by decide +kernel
theorem dX11_echoSteps_1 : decode cX11_echoSteps 1 = .ok (.ifCond .le 16, 3) := by decide +kernel
theorem dX11_echoSteps_4 : decode cX11_echoSteps 4 = .ok (.iload_n 0, 1) := by decide +kernel
theorem dX11_echoSteps_5 : decode cX11_echoSteps 5 = .ok (.iconst 3, 1) := by decide +kernel
theorem dX11_echoSteps_6 : decode cX11_echoSteps 6 = .ok (.iand, 1) := by decide +kernel
theorem dX11_echoSteps_7 : decode cX11_echoSteps 7 = .ok (.iconst 1, 1) := by decide +kernel
theorem dX11_echoSteps_8 : decode cX11_echoSteps 8 = .ok (.if_icmp .eq 9, 3) := by decide +kernel
theorem dX11_echoSteps_11 : decode cX11_echoSteps 11 = .ok (.iload_n 0, 1) := by decide +kernel
theorem dX11_echoSteps_12 : decode cX11_echoSteps 12 = .ok (.iconst 2, 1) := by decide +kernel
theorem dX11_echoSteps_13 : decode cX11_echoSteps 13 = .ok (.ishr, 1) := by decide +kernel
theorem dX11_echoSteps_14 : decode cX11_echoSteps 14 = .ok (.goto 4, 3) := by decide +kernel
theorem dX11_echoSteps_17 : decode cX11_echoSteps 17 = .ok (.iconst 0, 1) := by decide +kernel
theorem dX11_echoSteps_18 : decode cX11_echoSteps 18 = .ok (.ireturn, 1) := by decide +kernel
theorem dX11_maybeSilent_0 : decode cX11_maybeSilent 0 = .ok (.iload_n 0, 1) := by decide +kernel
theorem dX11_maybeSilent_1 : decode cX11_maybeSilent 1 = .ok (.ifCond .le 9, 3) := by decide +kernel
theorem dX11_maybeSilent_4 : decode cX11_maybeSilent 4 = .ok (.iload_n 0, 1) := by decide +kernel
theorem dX11_maybeSilent_5 : decode cX11_maybeSilent 5 = .ok (.iconst 3, 1) := by decide +kernel
theorem dX11_maybeSilent_6 : decode cX11_maybeSilent 6 = .ok (.iand, 1) := by decide +kernel
theorem dX11_maybeSilent_7 : decode cX11_maybeSilent 7 = .ok (.ifCond .eq 7, 3) := by decide +kernel
theorem dX11_maybeSilent_10 : decode cX11_maybeSilent 10 = .ok (.iconst 1, 1) := by decide +kernel
theorem dX11_maybeSilent_11 : decode cX11_maybeSilent 11 = .ok (.goto 4, 3) := by decide +kernel
theorem dX11_maybeSilent_14 : decode cX11_maybeSilent 14 = .ok (.iconst 0, 1) := by decide +kernel
theorem dX11_maybeSilent_15 : decode cX11_maybeSilent 15 = .ok (.ireturn, 1) := by decide +kernel
