theorem dX12_levelOf_109 : decode cX12_levelOf 109 = .ok (.getfield 72, 3) := by decide +kernel
theorem dX12_levelOf_112 : decode cX12_levelOf 112 = .ok (.bipush 8, 2) := by decide +kernel
theorem dX12_levelOf_114 : decode cX12_levelOf 114 = .ok (.aload_n 0, 1) := by decide +kernel
theorem dX12_levelOf_115 : decode cX12_levelOf 115 = .ok (.iload_n 1, 1) := by decide +kernel
theorem dX12_levelOf_116 : decode cX12_levelOf 116 = .ok (.iload_n 3, 1) := by decide +kernel
theorem dX12_levelOf_117 : decode cX12_levelOf 117 = .ok (.iload 4, 2) := by decide +kernel
theorem dX12_levelOf_119 : decode cX12_levelOf 119 = .ok (.aload_n 0, 1) := by decide +kernel
theorem dX12_levelOf_120 : decode cX12_levelOf 120 = .ok (.getfield 26, 3) := by decide +kernel
theorem dX12_levelOf_123 : decode cX12_levelOf 123 = .ok (.iload_n 2, 1) := by decide +kernel
theorem dX12_levelOf_124 : decode cX12_levelOf 124 = .ok (.iaload, 1) := by decide +kernel
theorem dX12_levelOf_125 : decode cX12_levelOf 125 = .ok (.aload_n 0, 1) := by decide +kernel
theorem dX12_levelOf_126 : decode cX12_levelOf 126 = .ok (.getfield 29, 3) := by decide +kernel
theorem dX12_levelOf_129 : decode cX12_levelOf 129 = .ok (.iload_n 2, 1) := by decide +kernel
theorem dX12_levelOf_130 : decode cX12_levelOf 130 = .ok (.iaload, 1) := by decide +kernel
theorem dX12_levelOf_131 : decode cX12_levelOf 131 = .ok (.invokevirtual 323, 3) := by decide +kernel
theorem dX12_levelOf_134 : decode cX12_levelOf 134 = .ok (.iastore, 1) := by decide +kernel
theorem dX12_levelOf_135 : decode cX12_levelOf 135 = .ok (.iconst 0, 1) := by decide +kernel
theorem dX12_levelOf_136 : decode cX12_levelOf 136 = .ok (.istore 7, 2) := by decide +kernel
theorem dX12_levelOf_138 : decode cX12_levelOf 138 = .ok (.iload 7, 2) := by decide +kernel
theorem dX12_levelOf_140 : decode cX12_levelOf 140 = .ok (.aload_n 0, 1) := by decide +kernel
theorem dX12_levelOf_141 : decode cX12_levelOf 141 = .ok (.getfield 313, 3) := by decide +kernel
theorem dX12_levelOf_144 : decode cX12_levelOf 144 = .ok (.if_icmp .ge 78, 3) := by decide +kernel
theorem dX12_levelOf_147 : decode cX12_levelOf 147 = .ok (.aload_n 0, 1) := by decide +kernel
theorem dX12_levelOf_148 : decode cX12_levelOf 148 = .ok (.aload_n 0, 1) := by decide +kernel
theorem dX12_levelOf_149 : decode cX12_levelOf 149 = .ok (.getfield 63, 3) := by decide +kernel
theorem dX12_levelOf_152 : decode cX12_levelOf 152 = .ok (.iload 7, 2) := by decide +kernel
theorem dX12_levelOf_154 : decode cX12_levelOf 154 = .ok (.iaload, 1) := by decide +kernel
theorem dX12_levelOf_155 : decode cX12_levelOf 155 = .ok (.aload_n 0, 1) := by decide +kernel
theorem dX12_levelOf_156 : decode cX12_levelOf 156 = .ok (.getfield 66, 3) := by decide +kernel
theorem dX12_levelOf_159 : decode cX12_levelOf 159 = .ok (.iload 7, 2) := by decide +kernel
theorem dX12_levelOf_161 : decode cX12_levelOf 161 = .ok (.iaload, 1) := by decide +kernel
theorem dX12_levelOf_162 : decode cX12_levelOf 162 = .ok (.invokevirtual 327, 3) := by decide +kernel
theorem dX12_levelOf_165 : decode cX12_levelOf 165 = .ok (.iconst 1, 1) := by decide +kernel
theorem dX12_levelOf_166 : decode cX12_levelOf 166 = .ok (.if_icmp .eq 6, 3) := by decide +kernel
theorem dX12_levelOf_169 : decode cX12_levelOf 169 = .ok (.goto 47, 3) := by decide +kernel
theorem dX12_levelOf_172 : decode cX12_levelOf 172 = .ok (.aload_n 0, 1) := by decide +kernel
theorem dX12_levelOf_173 : decode cX12_levelOf 173 = .ok (.aload_n 0, 1) := by decide +kernel
theorem dX12_levelOf_174 : decode cX12_levelOf 174 = .ok (.getfield 60, 3) := by decide +kernel
theorem dX12_levelOf_177 : decode cX12_levelOf 177 = .ok (.iload 7, 2) := by decide +kernel
theorem dX12_levelOf_179 : decode cX12_levelOf 179 = .ok (.iaload, 1) := by decide +kernel
theorem dX12_levelOf_180 : decode cX12_levelOf 180 = .ok (.aload_n 0, 1) := by decide +kernel
theorem dX12_levelOf_181 : decode cX12_levelOf 181 = .ok (.getfield 63, 3) := by decide +kernel
theorem dX12_levelOf_184 : decode cX12_levelOf 184 = .ok (.iload 7, 2) := by decide +kernel
theorem dX12_levelOf_186 : decode cX12_levelOf 186 = .ok (.iaload, 1) := by decide +kernel
theorem dX12_levelOf_187 : decode cX12_levelOf 187 = .ok (.invokevirtual 327, 3) := by decide +kernel
theorem dX12_levelOf_190 : decode cX12_levelOf 190 = .ok (.istore 8, 2) := by decide +kernel
theorem dX12_levelOf_192 : decode cX12_levelOf 192 = .ok (.iload 8, 2) := by decide +kernel
theorem dX12_levelOf_194 : decode cX12_levelOf 194 = .ok (.ifCond .ge 7, 3) := by decide +kernel
theorem dX12_levelOf_197 : decode cX12_levelOf 197 = .ok (.iconst 0, 1) := by decide +kernel
theorem dX12_levelOf_198 : decode cX12_levelOf 198 = .ok (.goto 17, 3) := by decide +kernel
theorem dX12_levelOf_201 : decode cX12_levelOf 201 = .ok (.iload 8, 2) := by decide +kernel
theorem dX12_levelOf_203 : decode cX12_levelOf 203 = .ok (.bipush 99, 2) := by decide +kernel
theorem dX12_levelOf_205 : decode cX12_levelOf 205 = .ok (.if_icmp .le 8, 3) := by decide +kernel
theorem dX12_levelOf_208 : decode cX12_levelOf 208 = .ok (.bipush 99, 2) := by decide +kernel
theorem dX12_levelOf_210 : decode cX12_levelOf 210 = .ok (.goto 5, 3) := by decide +kernel
theorem dX12_levelOf_213 : decode cX12_levelOf 213 = .ok (.iload 8, 2) := by decide +kernel
theorem dX12_levelOf_215 : decode cX12_levelOf 215 = .ok (.ireturn, 1) := by decide +kernel
theorem dX12_levelOf_216 : decode cX12_levelOf 216 = .ok (.iinc 7 1, 3) := by decide +kernel
theorem dX12_levelOf_219 : decode cX12_levelOf 219 = .ok (.goto (-81), 3) := by decide +kernel
theorem dX12_levelOf_222 : decode cX12_levelOf 222 = .ok (.iconst 0, 1) := by decide +kernel
theorem dX12_levelOf_223 : decode cX12_levelOf 223 = .ok (.ireturn, 1) := by decide +kernel
theorem dX12_isAir_0 : decode cX12_isAir 0 = .ok (.iload_n 0, 1) := by decide +kernel
theorem dX12_isAir_1 : decode cX12_isAir 1 = .ok (.ifCond .lt 22, 3) := by decide +kernel
theorem dX12_isAir_4 : decode cX12_isAir 4 = .ok (.iload_n 0, 1) := by decide +kernel
theorem dX12_isAir_5 : decode cX12_isAir 5 = .ok (.bipush 24, 2) := by decide +kernel
theorem dX12_isAir_7 : decode cX12_isAir 7 = .ok (.if_icmp .ge 16, 3) := by decide +kernel
theorem dX12_isAir_10 : decode cX12_isAir 10 = .ok (.iload_n 1, 1) := by decide +kernel
theorem dX12_isAir_11 : decode cX12_isAir 11 = .ok (.ifCond .lt 12, 3) := by decide +kernel
theorem dX12_isAir_14 : decode cX12_isAir 14 = .ok (.iload_n 1, 1) := by decide +kernel
theorem dX12_isAir_15 : decode cX12_isAir 15 = .ok (.iconst 4, 1) := by decide +kernel
theorem dX12_isAir_16 : decode cX12_isAir 16 = .ok (.if_icmp .ge 7, 3) := by decide +kernel
theorem dX12_isAir_19 : decode cX12_isAir 19 = .ok (.iconst 1, 1) := by decide +kernel
theorem dX12_isAir_20 : decode cX12_isAir 20 = .ok (.goto 4, 3) := by decide +kernel
theorem dX12_isAir_23 : decode cX12_isAir 23 = .ok (.iconst 0, 1) := by decide +kernel
theorem dX12_isAir_24 : decode cX12_isAir 24 = .ok (.ireturn, 1) := by decide +kernel
theorem dX12_level_0 : decode cX12_level 0 = .ok (.aload_n 0, 1) := by decide +kernel
theorem dX12_level_1 : decode cX12_level 1 = .ok (.iload_n 1, 1) := by decide +kernel
theorem dX12_level_2 : decode cX12_level 2 = .ok (.invokevirtual 187, 3) := by decide +kernel
theorem dX12_level_5 : decode cX12_level 5 = .ok (.ifCond .eq 46, 3) := by decide +kernel
theorem dX12_level_8 : decode cX12_level 8 = .ok (.aload_n 0, 1) := by decide +kernel
theorem dX12_level_9 : decode cX12_level 9 = .ok (.iload_n 2, 1) := by decide +kernel
theorem dX12_level_10 : decode cX12_level 10 = .ok (.invokevirtual 330, 3) := by decide +kernel
theorem dX12_level_13 : decode cX12_level 13 = .ok (.ifCond .eq 38, 3) := by decide +kernel
theorem dX12_level_16 : decode cX12_level 16 = .ok (.iload_n 3, 1) := by decide +kernel
theorem dX12_level_17 : decode cX12_level 17 = .ok (.iload 4, 2) := by decide +kernel
theorem dX12_level_19 : decode cX12_level 19 = .ok (.invokestatic 190, 3) := by decide +kernel
theorem dX12_level_22 : decode cX12_level 22 = .ok (.ifCond .eq 29, 3) := by decide +kernel
theorem dX12_level_25 : decode cX12_level 25 = .ok (.iload 5, 2) := by decide +kernel
theorem dX12_level_27 : decode cX12_level 27 = .ok (.iload 6, 2) := by decide +kernel
theorem dX12_level_29 : decode cX12_level 29 = .ok (.invokestatic 333, 3) := by decide +kernel
theorem dX12_level_32 : decode cX12_level 32 = .ok (.ifCond .eq 19, 3) := by decide +kernel
theorem dX12_level_35 : decode cX12_level 35 = .ok (.aload_n 0, 1) := by decide +kernel
theorem dX12_level_36 : decode cX12_level 36 = .ok (.iload_n 1, 1) := by decide +kernel
theorem dX12_level_37 : decode cX12_level 37 = .ok (.iload_n 2, 1) := by decide +kernel
theorem dX12_level_38 : decode cX12_level 38 = .ok (.iload_n 3, 1) := by decide +kernel
theorem dX12_level_39 : decode cX12_level 39 = .ok (.iload 4, 2) := by decide +kernel
theorem dX12_level_41 : decode cX12_level 41 = .ok (.iload 5, 2) := by decide +kernel
theorem dX12_level_43 : decode cX12_level 43 = .ok (.iload 6, 2) := by decide +kernel
theorem dX12_level_45 : decode cX12_level 45 = .ok (.invokevirtual 336, 3) := by decide +kernel
theorem dX12_level_48 : decode cX12_level 48 = .ok (.goto 4, 3) := by decide +kernel
theorem dX12_level_51 : decode cX12_level 51 = .ok (.iconst (-1), 1) := by decide +kernel
theorem dX12_level_52 : decode cX12_level 52 = .ok (.ireturn, 1) := by decide +kernel
theorem dX12_line_0 : decode cX12_line 0 = .ok (.iload_n 1, 1) := by decide +kernel
theorem dX12_line_1 : decode cX12_line 1 = .ok (.bipush (-9), 2) := by decide +kernel
theorem dX12_line_3 : decode cX12_line 3 = .ok (.bipush 9, 2) := by decide +kernel
theorem dX12_line_5 : decode cX12_line 5 = .ok (.invokestatic 173, 3) := by decide +kernel
theorem dX12_line_8 : decode cX12_line 8 = .ok (.ifCond .eq 42, 3) := by decide +kernel
theorem dX12_line_11 : decode cX12_line 11 = .ok (.iload_n 2, 1) := by decide +kernel
theorem dX12_line_12 : decode cX12_line 12 = .ok (.bipush (-9), 2) := by decide +kernel
theorem dX12_line_14 : decode cX12_line 14 = .ok (.bipush 9, 2) := by decide +kernel
theorem dX12_line_16 : decode cX12_line 16 = .ok (.invokestatic 173, 3) := by decide +kernel
theorem dX12_line_19 : decode cX12_line 19 = .ok (.ifCond .eq 31, 3) := by decide +kernel
theorem dX12_line_22 : decode cX12_line 22 = .ok (.iload_n 3, 1) := by decide +kernel
theorem dX12_line_23 : decode cX12_line 23 = .ok (.iconst 0, 1) := by decide +kernel
theorem dX12_line_24 : decode cX12_line 24 = .ok (.iconst 3, 1) := by decide +kernel
theorem dX12_line_25 : decode cX12_line 25 = .ok (.invokestatic 173, 3) := by decide +kernel
theorem dX12_line_28 : decode cX12_line 28 = .ok (.ifCond .eq 22, 3) := by decide +kernel
theorem dX12_line_31 : decode cX12_line 31 = .ok (.iload 4, 2) := by decide +kernel
theorem dX12_line_33 : decode cX12_line 33 = .ok (.iload 5, 2) := by decide +kernel
theorem dX12_line_35 : decode cX12_line 35 = .ok (.invokestatic 333, 3) := by decide +kernel
theorem dX12_line_38 : decode cX12_line 38 = .ok (.ifCond .eq 12, 3) := by decide +kernel
theorem dX12_line_41 : decode cX12_line 41 = .ok (.aload_n 0, 1) := by decide +kernel
theorem dX12_line_42 : decode cX12_line 42 = .ok (.getfield 340, 3) := by decide +kernel
theorem dX12_line_45 : decode cX12_line 45 = .ok (.bipush 12, 2) := by decide +kernel
theorem dX12_line_47 : decode cX12_line 47 = .ok (.if_icmp .ne 5, 3) := by decide +kernel
theorem dX12_line_50 : decode cX12_line 50 = .ok (.iconst (-1), 1) := by decide +kernel
theorem dX12_line_51 : decode cX12_line 51 = .ok (.ireturn, 1) := by decide +kernel
theorem dX12_line_52 : decode cX12_line 52 = .ok (.aload_n 0, 1) := by decide +kernel
theorem dX12_line_53 : decode cX12_line 53 = .ok (.getfield 75, 3) := by decide +kernel
theorem dX12_line_56 : decode cX12_line 56 = .ok (.aload_n 0, 1) := by decide +kernel
theorem dX12_line_57 : decode cX12_line 57 = .ok (.getfield 340, 3) := by decide +kernel
theorem dX12_line_60 : decode cX12_line 60 = .ok (.iload_n 1, 1) := by decide +kernel
theorem dX12_line_61 : decode cX12_line 61 = .ok (.iastore, 1) := by decide +kernel
theorem dX12_line_62 : decode cX12_line 62 = .ok (.aload_n 0, 1) := by decide +kernel
theorem dX12_line_63 : decode cX12_line 63 = .ok (.getfield 78, 3) := by decide +kernel
theorem dX12_line_66 : decode cX12_line 66 = .ok (.aload_n 0, 1) := by decide +kernel
theorem dX12_line_67 : decode cX12_line 67 = .ok (.getfield 340, 3) := by decide +kernel
theorem dX12_line_70 : decode cX12_line 70 = .ok (.iload_n 2, 1) := by decide +kernel
theorem dX12_line_71 : decode cX12_line 71 = .ok (.iastore, 1) := by decide +kernel
theorem dX12_line_72 : decode cX12_line 72 = .ok (.aload_n 0, 1) := by decide +kernel
theorem dX12_line_73 : decode cX12_line 73 = .ok (.getfield 81, 3) := by decide +kernel
theorem dX12_line_76 : decode cX12_line 76 = .ok (.aload_n 0, 1) := by decide +kernel
theorem dX12_line_77 : decode cX12_line 77 = .ok (.getfield 340, 3) := by decide +kernel
theorem dX12_line_80 : decode cX12_line 80 = .ok (.iload_n 3, 1) := by decide +kernel
theorem dX12_line_81 : decode cX12_line 81 = .ok (.iastore, 1) := by decide +kernel
theorem dX12_line_82 : decode cX12_line 82 = .ok (.aload_n 0, 1) := by decide +kernel
theorem dX12_line_83 : decode cX12_line 83 = .ok (.getfield 84, 3) := by decide +kernel
theorem dX12_line_86 : decode cX12_line 86 = .ok (.aload_n 0, 1) := by decide +kernel
theorem dX12_line_87 : decode cX12_line 87 = .ok (.getfield 340, 3) := by decide +kernel
theorem dX12_line_90 : decode cX12_line 90 = .ok (.iload 4, 2) := by decide +kernel
theorem dX12_line_92 : decode cX12_line 92 = .ok (.iastore, 1) := by decide +kernel
theorem dX12_line_93 : decode cX12_line 93 = .ok (.aload_n 0, 1) := by decide +kernel
theorem dX12_line_94 : decode cX12_line 94 = .ok (.getfield 87, 3) := by decide +kernel
theorem dX12_line_97 : decode cX12_line 97 = .ok (.aload_n 0, 1) := by decide +kernel
theorem dX12_line_98 : decode cX12_line 98 = .ok (.getfield 340, 3) := by decide +kernel
theorem dX12_line_101 : decode cX12_line 101 = .ok (.iload 5, 2) := by decide +kernel
theorem dX12_line_103 : decode cX12_line 103 = .ok (.iastore, 1) := by decide +kernel
theorem dX12_line_104 : decode cX12_line 104 = .ok (.aload_n 0, 1) := by decide +kernel
theorem dX12_line_105 : decode cX12_line 105 = .ok (.getfield 90, 3) := by decide +kernel
theorem dX12_line_108 : decode cX12_line 108 = .ok (.aload_n 0, 1) := by decide +kernel
theorem dX12_line_109 : decode cX12_line 109 = .ok (.getfield 340, 3) := by decide +kernel
theorem dX12_line_112 : decode cX12_line 112 = .ok (.iconst 0, 1) := by decide +kernel
theorem dX12_line_113 : decode cX12_line 113 = .ok (.iastore, 1) := by decide +kernel
theorem dX12_line_114 : decode cX12_line 114 = .ok (.aload_n 0, 1) := by decide +kernel
theorem dX12_line_115 : decode cX12_line 115 = .ok (.aload_n 0, 1) := by decide +kernel
theorem dX12_line_116 : decode cX12_line 116 = .ok (.getfield 340, 3) := by decide +kernel
theorem dX12_line_119 : decode cX12_line 119 = .ok (.iconst 1, 1) := by decide +kernel
theorem dX12_line_120 : decode cX12_line 120 = .ok (.iadd, 1) := by decide +kernel
theorem dX12_line_121 : decode cX12_line 121 = .ok (.putfield 340, 3) := by decide +kernel
theorem dX12_line_124 : decode cX12_line 124 = .ok (.aload_n 0, 1) := by decide +kernel
theorem dX12_line_125 : decode cX12_line 125 = .ok (.getfield 340, 3) := by decide +kernel
theorem dX12_line_128 : decode cX12_line 128 = .ok (.iconst 1, 1) := by decide +kernel
theorem dX12_line_129 : decode cX12_line 129 = .ok (.isub, 1) := by decide +kernel
theorem dX12_line_130 : decode cX12_line 130 = .ok (.ireturn, 1) := by decide +kernel
theorem dX12_note_0 : decode cX12_note 0 = .ok (.aload_n 0, 1) := by decide +kernel
theorem dX12_note_1 : decode cX12_note 1 = .ok (.getfield 340, 3) := by decide +kernel
theorem dX12_note_4 : decode cX12_note 4 = .ok (.ifCond .eq 19, 3) := by decide +kernel
theorem dX12_note_7 : decode cX12_note 7 = .ok (.aload_n 0, 1) := by decide +kernel
theorem dX12_note_8 : decode cX12_note 8 = .ok (.getfield 90, 3) := by decide +kernel
theorem dX12_note_11 : decode cX12_note 11 = .ok (.aload_n 0, 1) := by decide +kernel
theorem dX12_note_12 : decode cX12_note 12 = .ok (.getfield 340, 3) := by decide +kernel
theorem dX12_note_15 : decode cX12_note 15 = .ok (.iconst 1, 1) := by decide +kernel
theorem dX12_note_16 : decode cX12_note 16 = .ok (.isub, 1) := by decide +kernel
theorem dX12_note_17 : decode cX12_note 17 = .ok (.iaload, 1) := by decide +kernel
theorem dX12_note_18 : decode cX12_note 18 = .ok (.bipush 6, 2) := by decide +kernel
theorem dX12_note_20 : decode cX12_note 20 = .ok (.if_icmp .ne 5, 3) := by decide +kernel
theorem dX12_note_23 : decode cX12_note 23 = .ok (.iconst (-1), 1) := by decide +kernel
theorem dX12_note_24 : decode cX12_note 24 = .ok (.ireturn, 1) := by decide +kernel
theorem dX12_note_25 : decode cX12_note 25 = .ok (.bipush 6, 2) := by decide +kernel
theorem dX12_note_27 : decode cX12_note 27 = .ok (.aload_n 0, 1) := by decide +kernel
theorem dX12_note_28 : decode cX12_note 28 = .ok (.getfield 340, 3) := by decide +kernel
theorem dX12_note_31 : decode cX12_note 31 = .ok (.iconst 1, 1) := by decide +kernel
theorem dX12_note_32 : decode cX12_note 32 = .ok (.isub, 1) := by decide +kernel
theorem dX12_note_33 : decode cX12_note 33 = .ok (.imul, 1) := by decide +kernel
theorem dX12_note_34 : decode cX12_note 34 = .ok (.aload_n 0, 1) := by decide +kernel
theorem dX12_note_35 : decode cX12_note 35 = .ok (.getfield 90, 3) := by decide +kernel
theorem dX12_note_38 : decode cX12_note 38 = .ok (.aload_n 0, 1) := by decide +kernel
theorem dX12_note_39 : decode cX12_note 39 = .ok (.getfield 340, 3) := by decide +kernel
theorem dX12_note_42 : decode cX12_note 42 = .ok (.iconst 1, 1) := by decide +kernel
theorem dX12_note_43 : decode cX12_note 43 = .ok (.isub, 1) := by decide +kernel
theorem dX12_note_44 : decode cX12_note 44 = .ok (.iaload, 1) := by decide +kernel
theorem dX12_note_45 : decode cX12_note 45 = .ok (.iadd, 1) := by decide +kernel
theorem dX12_note_46 : decode cX12_note 46 = .ok (.istore 4, 2) := by decide +kernel
theorem dX12_note_48 : decode cX12_note 48 = .ok (.aload_n 0, 1) := by decide +kernel
theorem dX12_note_49 : decode cX12_note 49 = .ok (.getfield 93, 3) := by decide +kernel
theorem dX12_note_52 : decode cX12_note 52 = .ok (.iload 4, 2) := by decide +kernel
theorem dX12_note_54 : decode cX12_note 54 = .ok (.iload_n 1, 1) := by decide +kernel
theorem dX12_note_55 : decode cX12_note 55 = .ok (.iastore, 1) := by decide +kernel
theorem dX12_note_56 : decode cX12_note 56 = .ok (.aload_n 0, 1) := by decide +kernel
theorem dX12_note_57 : decode cX12_note 57 = .ok (.getfield 96, 3) := by decide +kernel
theorem dX12_note_60 : decode cX12_note 60 = .ok (.iload 4, 2) := by decide +kernel
theorem dX12_note_62 : decode cX12_note 62 = .ok (.iload_n 2, 1) := by decide +kernel
theorem dX12_note_63 : decode cX12_note 63 = .ok (.iastore, 1) := by decide +kernel
theorem dX12_note_64 : decode cX12_note 64 = .ok (.aload_n 0, 1) := by decide +kernel
theorem dX12_note_65 : decode cX12_note 65 = .ok (.getfield 99, 3) := by decide +kernel
theorem dX12_note_68 : decode cX12_note 68 = .ok (.iload 4, 2) := by decide +kernel
theorem dX12_note_70 : decode cX12_note 70 = .ok (.iload_n 3, 1) := by decide +kernel
theorem dX12_note_71 : decode cX12_note 71 = .ok (.iastore, 1) := by decide +kernel
theorem dX12_note_72 : decode cX12_note 72 = .ok (.aload_n 0, 1) := by decide +kernel
theorem dX12_note_73 : decode cX12_note 73 = .ok (.getfield 90, 3) := by decide +kernel
theorem dX12_note_76 : decode cX12_note 76 = .ok (.aload_n 0, 1) := by decide +kernel
theorem dX12_note_77 : decode cX12_note 77 = .ok (.getfield 340, 3) := by decide +kernel
theorem dX12_note_80 : decode cX12_note 80 = .ok (.iconst 1, 1) := by decide +kernel
theorem dX12_note_81 : decode cX12_note 81 = .ok (.isub, 1) := by decide +kernel
theorem dX12_note_82 : decode cX12_note 82 = .ok (.aload_n 0, 1) := by decide +kernel
theorem dX12_note_83 : decode cX12_note 83 = .ok (.getfield 90, 3) := by decide +kernel
theorem dX12_note_86 : decode cX12_note 86 = .ok (.aload_n 0, 1) := by decide +kernel
theorem dX12_note_87 : decode cX12_note 87 = .ok (.getfield 340, 3) := by decide +kernel
theorem dX12_note_90 : decode cX12_note 90 = .ok (.iconst 1, 1) := by decide +kernel
theorem dX12_note_91 : decode cX12_note 91 = .ok (.isub, 1) := by decide +kernel
theorem dX12_note_92 : decode cX12_note 92 = .ok (.iaload, 1) := by decide +kernel
theorem dX12_note_93 : decode cX12_note 93 = .ok (.iconst 1, 1) := by decide +kernel
theorem dX12_note_94 : decode cX12_note 94 = .ok (.iadd, 1) := by decide +kernel
theorem dX12_note_95 : decode cX12_note 95 = .ok (.iastore, 1) := by decide +kernel
theorem dX12_note_96 : decode cX12_note 96 = .ok (.aload_n 0, 1) := by decide +kernel
theorem dX12_note_97 : decode cX12_note 97 = .ok (.getfield 90, 3) := by decide +kernel
theorem dX12_note_100 : decode cX12_note 100 = .ok (.aload_n 0, 1) := by decide +kernel
theorem dX12_note_101 : decode cX12_note 101 = .ok (.getfield 340, 3) := by decide +kernel
theorem dX12_note_104 : decode cX12_note 104 = .ok (.iconst 1, 1) := by decide +kernel
theorem dX12_note_105 : decode cX12_note 105 = .ok (.isub, 1) := by decide +kernel
theorem dX12_note_106 : decode cX12_note 106 = .ok (.iaload, 1) := by decide +kernel
theorem dX12_note_107 : decode cX12_note 107 = .ok (.ireturn, 1) := by decide +kernel
theorem dX12_hears_0 : decode cX12_hears 0 = .ok (.aload_n 0, 1) := by decide +kernel
theorem dX12_hears_1 : decode cX12_hears 1 = .ok (.iload_n 1, 1) := by decide +kernel
theorem dX12_hears_2 : decode cX12_hears 2 = .ok (.invokevirtual 330, 3) := by decide +kernel
theorem dX12_hears_5 : decode cX12_hears 5 = .ok (.ifCond .eq 33, 3) := by decide +kernel
theorem dX12_hears_8 : decode cX12_hears 8 = .ok (.iload_n 2, 1) := by decide +kernel
theorem dX12_hears_9 : decode cX12_hears 9 = .ok (.iconst 0, 1) := by decide +kernel
theorem dX12_hears_10 : decode cX12_hears 10 = .ok (.bipush 99, 2) := by decide +kernel
theorem dX12_hears_12 : decode cX12_hears 12 = .ok (.invokestatic 173, 3) := by decide +kernel
theorem dX12_hears_15 : decode cX12_hears 15 = .ok (.ifCond .eq 23, 3) := by decide +kernel
theorem dX12_hears_18 : decode cX12_hears 18 = .ok (.iload_n 3, 1) := by decide +kernel
theorem dX12_hears_19 : decode cX12_hears 19 = .ok (.iconst 0, 1) := by decide +kernel
theorem dX12_hears_20 : decode cX12_hears 20 = .ok (.bipush 99, 2) := by decide +kernel
theorem dX12_hears_22 : decode cX12_hears 22 = .ok (.invokestatic 173, 3) := by decide +kernel
theorem dX12_hears_25 : decode cX12_hears 25 = .ok (.ifCond .eq 13, 3) := by decide +kernel
theorem dX12_hears_28 : decode cX12_hears 28 = .ok (.aload_n 0, 1) := by decide +kernel
theorem dX12_hears_29 : decode cX12_hears 29 = .ok (.iload_n 1, 1) := by decide +kernel
theorem dX12_hears_30 : decode cX12_hears 30 = .ok (.iload_n 2, 1) := by decide +kernel
theorem dX12_hears_31 : decode cX12_hears 31 = .ok (.iload_n 3, 1) := by decide +kernel
theorem dX12_hears_32 : decode cX12_hears 32 = .ok (.invokevirtual 343, 3) := by decide +kernel
theorem dX12_hears_35 : decode cX12_hears 35 = .ok (.goto 4, 3) := by decide +kernel
theorem dX12_hears_38 : decode cX12_hears 38 = .ok (.iconst (-1), 1) := by decide +kernel
theorem dX12_hears_39 : decode cX12_hears 39 = .ok (.ireturn, 1) := by decide +kernel
theorem dX12_echo_0 : decode cX12_echo 0 = .ok (.iload_n 1, 1) := by decide +kernel
theorem dX12_echo_1 : decode cX12_echo 1 = .ok (.invokestatic 212, 3) := by decide +kernel
theorem dX12_echo_4 : decode cX12_echo 4 = .ok (.ifCond .eq 26, 3) := by decide +kernel
theorem dX12_echo_7 : decode cX12_echo 7 = .ok (.iload_n 2, 1) := by decide +kernel
theorem dX12_echo_8 : decode cX12_echo 8 = .ok (.iconst 0, 1) := by decide +kernel
theorem dX12_echo_9 : decode cX12_echo 9 = .ok (.bipush 64, 2) := by decide +kernel
theorem dX12_echo_11 : decode cX12_echo 11 = .ok (.invokestatic 173, 3) := by decide +kernel
theorem dX12_echo_14 : decode cX12_echo 14 = .ok (.ifCond .eq 16, 3) := by decide +kernel
theorem dX12_echo_17 : decode cX12_echo 17 = .ok (.aload_n 0, 1) := by decide +kernel
theorem dX12_echo_18 : decode cX12_echo 18 = .ok (.iload_n 1, 1) := by decide +kernel
theorem dX12_echo_19 : decode cX12_echo 19 = .ok (.bipush 10, 2) := by decide +kernel
theorem dX12_echo_21 : decode cX12_echo 21 = .ok (.isub, 1) := by decide +kernel
theorem dX12_echo_22 : decode cX12_echo 22 = .ok (.iload_n 2, 1) := by decide +kernel
theorem dX12_echo_23 : decode cX12_echo 23 = .ok (.iconst 0, 1) := by decide +kernel
theorem dX12_echo_24 : decode cX12_echo 24 = .ok (.invokevirtual 343, 3) := by decide +kernel
theorem dX12_echo_27 : decode cX12_echo 27 = .ok (.goto 4, 3) := by decide +kernel
theorem dX12_echo_30 : decode cX12_echo 30 = .ok (.iconst (-1), 1) := by decide +kernel
theorem dX12_echo_31 : decode cX12_echo 31 = .ok (.ireturn, 1) := by decide +kernel
theorem dX12_back_0 : decode cX12_back 0 = .ok (.aload_n 0, 1) := by decide +kernel
theorem dX12_back_1 : decode cX12_back 1 = .ok (.getfield 340, 3) := by decide +kernel
theorem dX12_back_4 : decode cX12_back 4 = .ok (.ifCond .ne 5, 3) := by decide +kernel
theorem dX12_back_7 : decode cX12_back 7 = .ok (.iconst (-1), 1) := by decide +kernel
theorem dX12_back_8 : decode cX12_back 8 = .ok (.ireturn, 1) := by decide +kernel
theorem dX12_back_9 : decode cX12_back 9 = .ok (.aload_n 0, 1) := by decide +kernel
theorem dX12_back_10 : decode cX12_back 10 = .ok (.aload_n 0, 1) := by decide +kernel
theorem dX12_back_11 : decode cX12_back 11 = .ok (.getfield 340, 3) := by decide +kernel
theorem dX12_back_14 : decode cX12_back 14 = .ok (.iconst 1, 1) := by decide +kernel
theorem dX12_back_15 : decode cX12_back 15 = .ok (.isub, 1) := by decide +kernel
theorem dX12_back_16 : decode cX12_back 16 = .ok (.putfield 340, 3) := by decide +kernel
theorem dX12_back_19 : decode cX12_back 19 = .ok (.aload_n 0, 1) := by decide +kernel
theorem dX12_back_20 : decode cX12_back 20 = .ok (.getfield 340, 3) := by decide +kernel
theorem dX12_back_23 : decode cX12_back 23 = .ok (.ireturn, 1) := by decide +kernel
theorem dX12_wrong_0 : decode cX12_wrong 0 = .ok (.iload_n 1, 1) := by decide +kernel
theorem dX12_wrong_1 : decode cX12_wrong 1 = .ok (.iconst 0, 1) := by decide +kernel
theorem dX12_wrong_2 : decode cX12_wrong 2 = .ok (.iconst 3, 1) := by decide +kernel
theorem dX12_wrong_3 : decode cX12_wrong 3 = .ok (.invokestatic 173, 3) := by decide +kernel
theorem dX12_wrong_6 : decode cX12_wrong 6 = .ok (.ifCond .ne 5, 3) := by decide +kernel
theorem dX12_wrong_9 : decode cX12_wrong 9 = .ok (.iconst 0, 1) := by decide +kernel
theorem dX12_wrong_10 : decode cX12_wrong 10 = .ok (.ireturn, 1) := by decide +kernel
theorem dX12_wrong_11 : decode cX12_wrong 11 = .ok (.aload_n 0, 1) := by decide +kernel
theorem dX12_wrong_12 : decode cX12_wrong 12 = .ok (.iload_n 1, 1) := by decide +kernel
theorem dX12_wrong_13 : decode cX12_wrong 13 = .ok (.putfield 346, 3) := by decide +kernel
theorem dX12_wrong_16 : decode cX12_wrong 16 = .ok (.iconst 1, 1) := by decide +kernel
theorem dX12_wrong_17 : decode cX12_wrong 17 = .ok (.ireturn, 1) := by decide +kernel
theorem dX12_box_0 : decode cX12_box 0 = .ok (.iload_n 1, 1) := by decide +kernel
theorem dX12_box_1 : decode cX12_box 1 = .ok (.iload_n 2, 1) := by decide +kernel
theorem dX12_box_2 : decode cX12_box 2 = .ok (.invokestatic 190, 3) := by decide +kernel
theorem dX12_box_5 : decode cX12_box 5 = .ok (.ifCond .eq 23, 3) := by decide +kernel
theorem dX12_box_8 : decode cX12_box 8 = .ok (.iload_n 3, 1) := by decide +kernel
theorem dX12_box_9 : decode cX12_box 9 = .ok (.iload 4, 2) := by decide +kernel
theorem dX12_box_11 : decode cX12_box 11 = .ok (.invokestatic 190, 3) := by decide +kernel
theorem dX12_box_14 : decode cX12_box 14 = .ok (.ifCond .eq 14, 3) := by decide +kernel
theorem dX12_box_17 : decode cX12_box 17 = .ok (.iload_n 3, 1) := by decide +kernel
theorem dX12_box_18 : decode cX12_box 18 = .ok (.iload_n 1, 1) := by decide +kernel
theorem dX12_box_19 : decode cX12_box 19 = .ok (.if_icmp .lt 9, 3) := by decide +kernel
theorem dX12_box_22 : decode cX12_box 22 = .ok (.iload 4, 2) := by decide +kernel
theorem dX12_box_24 : decode cX12_box 24 = .ok (.iload_n 2, 1) := by decide +kernel
theorem dX12_box_25 : decode cX12_box 25 = .ok (.if_icmp .ge 5, 3) := by decide +kernel
theorem dX12_box_28 : decode cX12_box 28 = .ok (.iconst 0, 1) := by decide +kernel
theorem dX12_box_29 : decode cX12_box 29 = .ok (.ireturn, 1) := by decide +kernel
theorem dX12_box_30 : decode cX12_box 30 = .ok (.aload_n 0, 1) := by decide +kernel
theorem dX12_box_31 : decode cX12_box 31 = .ok (.iload_n 1, 1) := by decide +kernel
theorem dX12_box_32 : decode cX12_box 32 = .ok (.putfield 349, 3) := by decide +kernel
theorem dX12_box_35 : decode cX12_box 35 = .ok (.aload_n 0, 1) := by decide +kernel
theorem dX12_box_36 : decode cX12_box 36 = .ok (.iload_n 2, 1) := by decide +kernel
theorem dX12_box_37 : decode cX12_box 37 = .ok (.putfield 352, 3) := by decide +kernel
theorem dX12_box_40 : decode cX12_box 40 = .ok (.aload_n 0, 1) := by decide +kernel
theorem dX12_box_41 : decode cX12_box 41 = .ok (.iload_n 3, 1) := by decide +kernel
theorem dX12_box_42 : decode cX12_box 42 = .ok (.putfield 147, 3) := by decide +kernel
theorem dX12_box_45 : decode cX12_box 45 = .ok (.aload_n 0, 1) := by decide +kernel
theorem dX12_box_46 : decode cX12_box 46 = .ok (.iload 4, 2) := by decide +kernel
theorem dX12_box_48 : decode cX12_box 48 = .ok (.putfield 151, 3) := by decide +kernel
theorem dX12_box_51 : decode cX12_box 51 = .ok (.iconst 1, 1) := by decide +kernel
theorem dX12_box_52 : decode cX12_box 52 = .ok (.ireturn, 1) := by decide +kernel
theorem dX12_holds_0 : decode cX12_holds 0 = .ok (.iload_n 2, 1) := by decide +kernel
theorem dX12_holds_1 : decode cX12_holds 1 = .ok (.bipush 32, 2) := by decide +kernel
theorem dX12_holds_3 : decode cX12_holds 3 = .ok (.irem, 1) := by decide +kernel
theorem dX12_holds_4 : decode cX12_holds 4 = .ok (.istore 5, 2) := by decide +kernel
theorem dX12_holds_6 : decode cX12_holds 6 = .ok (.iload_n 2, 1) := by decide +kernel
theorem dX12_holds_7 : decode cX12_holds 7 = .ok (.bipush 32, 2) := by decide +kernel
theorem dX12_holds_9 : decode cX12_holds 9 = .ok (.idiv, 1) := by decide +kernel
theorem dX12_holds_10 : decode cX12_holds 10 = .ok (.istore 6, 2) := by decide +kernel
theorem dX12_holds_12 : decode cX12_holds 12 = .ok (.aload_n 0, 1) := by decide +kernel
theorem dX12_holds_13 : decode cX12_holds 13 = .ok (.getfield 93, 3) := by decide +kernel
theorem dX12_holds_16 : decode cX12_holds 16 = .ok (.iload_n 3, 1) := by decide +kernel
theorem dX12_holds_17 : decode cX12_holds 17 = .ok (.iaload, 1) := by decide +kernel
theorem dX12_holds_18 : decode cX12_holds 18 = .ok (.ifCond .lt 57, 3) := by decide +kernel
theorem dX12_holds_21 : decode cX12_holds 21 = .ok (.aload_n 0, 1) := by decide +kernel
theorem dX12_holds_22 : decode cX12_holds 22 = .ok (.iload_n 1, 1) := by decide +kernel
theorem dX12_holds_23 : decode cX12_holds 23 = .ok (.aload_n 0, 1) := by decide +kernel
theorem dX12_holds_24 : decode cX12_holds 24 = .ok (.getfield 93, 3) := by decide +kernel
theorem dX12_holds_27 : decode cX12_holds 27 = .ok (.iload_n 3, 1) := by decide +kernel
theorem dX12_holds_28 : decode cX12_holds 28 = .ok (.iaload, 1) := by decide +kernel
theorem dX12_holds_29 : decode cX12_holds 29 = .ok (.iload 5, 2) := by decide +kernel
theorem dX12_holds_31 : decode cX12_holds 31 = .ok (.iload 6, 2) := by decide +kernel
theorem dX12_holds_33 : decode cX12_holds 33 = .ok (.aload_n 0, 1) := by decide +kernel
theorem dX12_holds_34 : decode cX12_holds 34 = .ok (.getfield 84, 3) := by decide +kernel
theorem dX12_holds_37 : decode cX12_holds 37 = .ok (.iload 4, 2) := by decide +kernel
theorem dX12_holds_39 : decode cX12_holds 39 = .ok (.iaload, 1) := by decide +kernel
theorem dX12_holds_40 : decode cX12_holds 40 = .ok (.aload_n 0, 1) := by decide +kernel
theorem dX12_holds_41 : decode cX12_holds 41 = .ok (.getfield 87, 3) := by decide +kernel
theorem dX12_holds_44 : decode cX12_holds 44 = .ok (.iload 4, 2) := by decide +kernel
theorem dX12_holds_46 : decode cX12_holds 46 = .ok (.iaload, 1) := by decide +kernel
theorem dX12_holds_47 : decode cX12_holds 47 = .ok (.invokevirtual 336, 3) := by decide +kernel
theorem dX12_holds_50 : decode cX12_holds 50 = .ok (.aload_n 0, 1) := by decide +kernel
theorem dX12_holds_51 : decode cX12_holds 51 = .ok (.getfield 96, 3) := by decide +kernel
theorem dX12_holds_54 : decode cX12_holds 54 = .ok (.iload_n 3, 1) := by decide +kernel
theorem dX12_holds_55 : decode cX12_holds 55 = .ok (.iaload, 1) := by decide +kernel
theorem dX12_holds_56 : decode cX12_holds 56 = .ok (.isub, 1) := by decide +kernel
theorem dX12_holds_57 : decode cX12_holds 57 = .ok (.invokestatic 320, 3) := by decide +kernel
theorem dX12_holds_60 : decode cX12_holds 60 = .ok (.aload_n 0, 1) := by decide +kernel
theorem dX12_holds_61 : decode cX12_holds 61 = .ok (.getfield 99, 3) := by decide +kernel
theorem dX12_holds_64 : decode cX12_holds 64 = .ok (.iload_n 3, 1) := by decide +kernel
theorem dX12_holds_65 : decode cX12_holds 65 = .ok (.iaload, 1) := by decide +kernel
theorem dX12_holds_66 : decode cX12_holds 66 = .ok (.if_icmp .gt 7, 3) := by decide +kernel
theorem dX12_holds_69 : decode cX12_holds 69 = .ok (.iconst 1, 1) := by decide +kernel
theorem dX12_holds_70 : decode cX12_holds 70 = .ok (.goto 4, 3) := by decide +kernel
theorem dX12_holds_73 : decode cX12_holds 73 = .ok (.iconst 0, 1) := by decide +kernel
theorem dX12_holds_74 : decode cX12_holds 74 = .ok (.ireturn, 1) := by decide +kernel
theorem dX12_holds_75 : decode cX12_holds 75 = .ok (.aload_n 0, 1) := by decide +kernel
theorem dX12_holds_76 : decode cX12_holds 76 = .ok (.getfield 93, 3) := by decide +kernel
theorem dX12_holds_79 : decode cX12_holds 79 = .ok (.iload_n 3, 1) := by decide +kernel
theorem dX12_holds_80 : decode cX12_holds 80 = .ok (.iaload, 1) := by decide +kernel
theorem dX12_holds_81 : decode cX12_holds 81 = .ok (.bipush 10, 2) := by decide +kernel
theorem dX12_holds_83 : decode cX12_holds 83 = .ok (.iadd, 1) := by decide +kernel
theorem dX12_holds_84 : decode cX12_holds 84 = .ok (.istore 7, 2) := by decide +kernel
theorem dX12_holds_86 : decode cX12_holds 86 = .ok (.aload_n 0, 1) := by decide +kernel
theorem dX12_holds_87 : decode cX12_holds 87 = .ok (.getfield 96, 3) := by decide +kernel
theorem dX12_holds_90 : decode cX12_holds 90 = .ok (.iload_n 3, 1) := by decide +kernel
theorem dX12_holds_91 : decode cX12_holds 91 = .ok (.iaload, 1) := by decide +kernel
theorem dX12_holds_92 : decode cX12_holds 92 = .ok (.ifCond .ne 17, 3) := by decide +kernel
theorem dX12_holds_95 : decode cX12_holds 95 = .ok (.aload_n 0, 1) := by decide +kernel
theorem dX12_holds_96 : decode cX12_holds 96 = .ok (.iload_n 1, 1) := by decide +kernel
theorem dX12_holds_97 : decode cX12_holds 97 = .ok (.iload 5, 2) := by decide +kernel
theorem dX12_holds_99 : decode cX12_holds 99 = .ok (.iload 6, 2) := by decide +kernel
theorem dX12_holds_101 : decode cX12_holds 101 = .ok (.iload 7, 2) := by decide +kernel
theorem dX12_holds_103 : decode cX12_holds 103 = .ok (.invokevirtual 355, 3) := by decide +kernel
theorem dX12_holds_106 : decode cX12_holds 106 = .ok (.goto 28, 3) := by decide +kernel
theorem dX12_holds_109 : decode cX12_holds 109 = .ok (.aload_n 0, 1) := by decide +kernel
theorem dX12_holds_110 : decode cX12_holds 110 = .ok (.iload_n 1, 1) := by decide +kernel
theorem dX12_holds_111 : decode cX12_holds 111 = .ok (.iload 5, 2) := by decide +kernel
theorem dX12_holds_113 : decode cX12_holds 113 = .ok (.iload 6, 2) := by decide +kernel
theorem dX12_holds_115 : decode cX12_holds 115 = .ok (.iload 7, 2) := by decide +kernel
theorem dX12_holds_117 : decode cX12_holds 117 = .ok (.invokevirtual 215, 3) := by decide +kernel
theorem dX12_holds_120 : decode cX12_holds 120 = .ok (.aload_n 0, 1) := by decide +kernel
theorem dX12_holds_121 : decode cX12_holds 121 = .ok (.getfield 96, 3) := by decide +kernel
theorem dX12_holds_124 : decode cX12_holds 124 = .ok (.iload_n 3, 1) := by decide +kernel
theorem dX12_holds_125 : decode cX12_holds 125 = .ok (.iaload, 1) := by decide +kernel
theorem dX12_holds_126 : decode cX12_holds 126 = .ok (.if_icmp .ne 7, 3) := by decide +kernel
theorem dX12_holds_129 : decode cX12_holds 129 = .ok (.iconst 1, 1) := by decide +kernel
theorem dX12_holds_130 : decode cX12_holds 130 = .ok (.goto 4, 3) := by decide +kernel
theorem dX12_holds_133 : decode cX12_holds 133 = .ok (.iconst 0, 1) := by decide +kernel
theorem dX12_holds_134 : decode cX12_holds 134 = .ok (.ireturn, 1) := by decide +kernel
theorem dX12_laysOwn_0 : decode cX12_laysOwn 0 = .ok (.iconst 0, 1) := by decide +kernel
theorem dX12_laysOwn_1 : decode cX12_laysOwn 1 = .ok (.istore_n 2, 1) := by decide +kernel
theorem dX12_laysOwn_2 : decode cX12_laysOwn 2 = .ok (.iload_n 2, 1) := by decide +kernel
theorem dX12_laysOwn_3 : decode cX12_laysOwn 3 = .ok (.aload_n 0, 1) := by decide +kernel
theorem dX12_laysOwn_4 : decode cX12_laysOwn 4 = .ok (.getfield 340, 3) := by decide +kernel
theorem dX12_laysOwn_7 : decode cX12_laysOwn 7 = .ok (.if_icmp .ge 117, 3) := by decide +kernel
theorem dX12_laysOwn_10 : decode cX12_laysOwn 10 = .ok (.iconst 0, 1) := by decide +kernel
theorem dX12_laysOwn_11 : decode cX12_laysOwn 11 = .ok (.istore_n 3, 1) := by decide +kernel
theorem dX12_laysOwn_12 : decode cX12_laysOwn 12 = .ok (.iload_n 3, 1) := by decide +kernel
theorem dX12_laysOwn_13 : decode cX12_laysOwn 13 = .ok (.sipush 1024, 3) := by decide +kernel
theorem dX12_laysOwn_16 : decode cX12_laysOwn 16 = .ok (.if_icmp .ge 102, 3) := by decide +kernel
theorem dX12_laysOwn_19 : decode cX12_laysOwn 19 = .ok (.aload_n 0, 1) := by decide +kernel
theorem dX12_laysOwn_20 : decode cX12_laysOwn 20 = .ok (.getfield 22, 3) := by decide +kernel
theorem dX12_laysOwn_23 : decode cX12_laysOwn 23 = .ok (.sipush 1024, 3) := by decide +kernel
theorem dX12_laysOwn_26 : decode cX12_laysOwn 26 = .ok (.iload_n 1, 1) := by decide +kernel
theorem dX12_laysOwn_27 : decode cX12_laysOwn 27 = .ok (.imul, 1) := by decide +kernel
theorem dX12_laysOwn_28 : decode cX12_laysOwn 28 = .ok (.iload_n 3, 1) := by decide +kernel
theorem dX12_laysOwn_29 : decode cX12_laysOwn 29 = .ok (.iadd, 1) := by decide +kernel
theorem dX12_laysOwn_30 : decode cX12_laysOwn 30 = .ok (.baload, 1) := by decide +kernel
theorem dX12_laysOwn_31 : decode cX12_laysOwn 31 = .ok (.ifCond .eq 9, 3) := by decide +kernel
theorem dX12_laysOwn_34 : decode cX12_laysOwn 34 = .ok (.ldc_w 359, 3) := by decide +kernel
theorem dX12_laysOwn_37 : decode cX12_laysOwn 37 = .ok (.goto 4, 3) := by decide +kernel
theorem dX12_laysOwn_40 : decode cX12_laysOwn 40 = .ok (.iconst 0, 1) := by decide +kernel
theorem dX12_laysOwn_41 : decode cX12_laysOwn 41 = .ok (.istore 4, 2) := by decide +kernel
theorem dX12_laysOwn_43 : decode cX12_laysOwn 43 = .ok (.iconst 0, 1) := by decide +kernel
theorem dX12_laysOwn_44 : decode cX12_laysOwn 44 = .ok (.istore 5, 2) := by decide +kernel
theorem dX12_laysOwn_46 : decode cX12_laysOwn 46 = .ok (.iload 5, 2) := by decide +kernel
theorem dX12_laysOwn_48 : decode cX12_laysOwn 48 = .ok (.aload_n 0, 1) := by decide +kernel
theorem dX12_laysOwn_49 : decode cX12_laysOwn 49 = .ok (.getfield 90, 3) := by decide +kernel
theorem dX12_laysOwn_52 : decode cX12_laysOwn 52 = .ok (.iload_n 2, 1) := by decide +kernel
theorem dX12_laysOwn_53 : decode cX12_laysOwn 53 = .ok (.iaload, 1) := by decide +kernel
theorem dX12_laysOwn_54 : decode cX12_laysOwn 54 = .ok (.if_icmp .ge 44, 3) := by decide +kernel
theorem dX12_laysOwn_57 : decode cX12_laysOwn 57 = .ok (.iload 4, 2) := by decide +kernel
theorem dX12_laysOwn_59 : decode cX12_laysOwn 59 = .ok (.ldc_w 359, 3) := by decide +kernel
theorem dX12_laysOwn_62 : decode cX12_laysOwn 62 = .ok (.if_icmp .ge 36, 3) := by decide +kernel
theorem dX12_laysOwn_65 : decode cX12_laysOwn 65 = .ok (.iload 4, 2) := by decide +kernel
theorem dX12_laysOwn_67 : decode cX12_laysOwn 67 = .ok (.aload_n 0, 1) := by decide +kernel
theorem dX12_laysOwn_68 : decode cX12_laysOwn 68 = .ok (.iload_n 1, 1) := by decide +kernel
theorem dX12_laysOwn_69 : decode cX12_laysOwn 69 = .ok (.iload_n 3, 1) := by decide +kernel
theorem dX12_laysOwn_70 : decode cX12_laysOwn 70 = .ok (.bipush 6, 2) := by decide +kernel
theorem dX12_laysOwn_72 : decode cX12_laysOwn 72 = .ok (.iload_n 2, 1) := by decide +kernel
theorem dX12_laysOwn_73 : decode cX12_laysOwn 73 = .ok (.imul, 1) := by decide +kernel
theorem dX12_laysOwn_74 : decode cX12_laysOwn 74 = .ok (.iload 5, 2) := by decide +kernel
theorem dX12_laysOwn_76 : decode cX12_laysOwn 76 = .ok (.iadd, 1) := by decide +kernel
theorem dX12_laysOwn_77 : decode cX12_laysOwn 77 = .ok (.iload_n 2, 1) := by decide +kernel
theorem dX12_laysOwn_78 : decode cX12_laysOwn 78 = .ok (.invokevirtual 360, 3) := by decide +kernel
theorem dX12_laysOwn_81 : decode cX12_laysOwn 81 = .ok (.ifCond .eq 7, 3) := by decide +kernel
theorem dX12_laysOwn_84 : decode cX12_laysOwn 84 = .ok (.iconst 0, 1) := by decide +kernel
theorem dX12_laysOwn_85 : decode cX12_laysOwn 85 = .ok (.goto 4, 3) := by decide +kernel
theorem dX12_laysOwn_88 : decode cX12_laysOwn 88 = .ok (.iconst 1, 1) := by decide +kernel
theorem dX12_laysOwn_89 : decode cX12_laysOwn 89 = .ok (.iadd, 1) := by decide +kernel
theorem dX12_laysOwn_90 : decode cX12_laysOwn 90 = .ok (.istore 4, 2) := by decide +kernel
theorem dX12_laysOwn_92 : decode cX12_laysOwn 92 = .ok (.iinc 5 1, 3) := by decide +kernel
theorem dX12_laysOwn_95 : decode cX12_laysOwn 95 = .ok (.goto (-49), 3) := by decide +kernel
theorem dX12_laysOwn_98 : decode cX12_laysOwn 98 = .ok (.aload_n 0, 1) := by decide +kernel
theorem dX12_laysOwn_99 : decode cX12_laysOwn 99 = .ok (.getfield 102, 3) := by decide +kernel
theorem dX12_laysOwn_102 : decode cX12_laysOwn 102 = .ok (.sipush 1024, 3) := by decide +kernel
theorem dX12_laysOwn_105 : decode cX12_laysOwn 105 = .ok (.iload_n 2, 1) := by decide +kernel
theorem dX12_laysOwn_106 : decode cX12_laysOwn 106 = .ok (.imul, 1) := by decide +kernel
theorem dX12_laysOwn_107 : decode cX12_laysOwn 107 = .ok (.iload_n 3, 1) := by decide +kernel
theorem dX12_laysOwn_108 : decode cX12_laysOwn 108 = .ok (.iadd, 1) := by decide +kernel
theorem dX12_laysOwn_109 : decode cX12_laysOwn 109 = .ok (.iload 4, 2) := by decide +kernel
theorem dX12_laysOwn_111 : decode cX12_laysOwn 111 = .ok (.iastore, 1) := by decide +kernel
theorem dX12_laysOwn_112 : decode cX12_laysOwn 112 = .ok (.iinc 3 1, 3) := by decide +kernel
theorem dX12_laysOwn_115 : decode cX12_laysOwn 115 = .ok (.goto (-103), 3) := by decide +kernel
theorem dX12_laysOwn_118 : decode cX12_laysOwn 118 = .ok (.iinc 2 1, 3) := by decide +kernel
theorem dX12_laysOwn_121 : decode cX12_laysOwn 121 = .ok (.goto (-119), 3) := by decide +kernel
theorem dX12_laysOwn_124 : decode cX12_laysOwn 124 = .ok (.return_, 1) := by decide +kernel
theorem dX12_sum_0 : decode cX12_sum 0 = .ok (.iload_n 0, 1) := by decide +kernel
theorem dX12_sum_1 : decode cX12_sum 1 = .ok (.ldc_w 359, 3) := by decide +kernel
theorem dX12_sum_4 : decode cX12_sum 4 = .ok (.if_icmp .ge 10, 3) := by decide +kernel
theorem dX12_sum_7 : decode cX12_sum 7 = .ok (.iload_n 1, 1) := by decide +kernel
theorem dX12_sum_8 : decode cX12_sum 8 = .ok (.ldc_w 359, 3) := by decide +kernel
theorem dX12_sum_11 : decode cX12_sum 11 = .ok (.if_icmp .lt 9, 3) := by decide +kernel
theorem dX12_sum_14 : decode cX12_sum 14 = .ok (.ldc_w 359, 3) := by decide +kernel
theorem dX12_sum_17 : decode cX12_sum 17 = .ok (.goto 6, 3) := by decide +kernel
theorem dX12_sum_20 : decode cX12_sum 20 = .ok (.iload_n 0, 1) := by decide +kernel
theorem dX12_sum_21 : decode cX12_sum 21 = .ok (.iload_n 1, 1) := by decide +kernel
theorem dX12_sum_22 : decode cX12_sum 22 = .ok (.iadd, 1) := by decide +kernel
theorem dX12_sum_23 : decode cX12_sum 23 = .ok (.ireturn, 1) := by decide +kernel
theorem dX12_least_0 : decode cX12_least 0 = .ok (.iload_n 0, 1) := by decide +kernel
theorem dX12_least_1 : decode cX12_least 1 = .ok (.iload_n 1, 1) := by decide +kernel
theorem dX12_least_2 : decode cX12_least 2 = .ok (.if_icmp .ge 7, 3) := by decide +kernel
theorem dX12_least_5 : decode cX12_least 5 = .ok (.iload_n 0, 1) := by decide +kernel
theorem dX12_least_6 : decode cX12_least 6 = .ok (.goto 4, 3) := by decide +kernel
theorem dX12_least_9 : decode cX12_least 9 = .ok (.iload_n 1, 1) := by decide +kernel
theorem dX12_least_10 : decode cX12_least 10 = .ok (.ireturn, 1) := by decide +kernel
theorem dX12_leastAround_0 : decode cX12_leastAround 0 = .ok (.ldc_w 359, 3) := by decide +kernel
theorem dX12_leastAround_3 : decode cX12_leastAround 3 = .ok (.istore 6, 2) := by decide +kernel
theorem dX12_leastAround_5 : decode cX12_leastAround 5 = .ok (.iload 4, 2) := by decide +kernel
theorem dX12_leastAround_7 : decode cX12_leastAround 7 = .ok (.iload 5, 2) := by decide +kernel
theorem dX12_leastAround_9 : decode cX12_leastAround 9 = .ok (.isub, 1) := by decide +kernel
theorem dX12_leastAround_10 : decode cX12_leastAround 10 = .ok (.istore 7, 2) := by decide +kernel
theorem dX12_leastAround_12 : decode cX12_leastAround 12 = .ok (.iload 7, 2) := by decide +kernel
theorem dX12_leastAround_14 : decode cX12_leastAround 14 = .ok (.iload 4, 2) := by decide +kernel
theorem dX12_leastAround_16 : decode cX12_leastAround 16 = .ok (.iload 5, 2) := by decide +kernel
theorem dX12_leastAround_18 : decode cX12_leastAround 18 = .ok (.iadd, 1) := by decide +kernel
theorem dX12_leastAround_19 : decode cX12_leastAround 19 = .ok (.if_icmp .gt 63, 3) := by decide +kernel
theorem dX12_leastAround_22 : decode cX12_leastAround 22 = .ok (.iload_n 3, 1) := by decide +kernel
theorem dX12_leastAround_23 : decode cX12_leastAround 23 = .ok (.iload 5, 2) := by decide +kernel
theorem dX12_leastAround_25 : decode cX12_leastAround 25 = .ok (.isub, 1) := by decide +kernel
theorem dX12_leastAround_26 : decode cX12_leastAround 26 = .ok (.istore 8, 2) := by decide +kernel
theorem dX12_leastAround_28 : decode cX12_leastAround 28 = .ok (.iload 8, 2) := by decide +kernel
theorem dX12_leastAround_30 : decode cX12_leastAround 30 = .ok (.iload_n 3, 1) := by decide +kernel
theorem dX12_leastAround_31 : decode cX12_leastAround 31 = .ok (.iload 5, 2) := by decide +kernel
theorem dX12_leastAround_33 : decode cX12_leastAround 33 = .ok (.iadd, 1) := by decide +kernel
theorem dX12_leastAround_34 : decode cX12_leastAround 34 = .ok (.if_icmp .gt 42, 3) := by decide +kernel
theorem dX12_leastAround_37 : decode cX12_leastAround 37 = .ok (.iload 8, 2) := by decide +kernel
theorem dX12_leastAround_39 : decode cX12_leastAround 39 = .ok (.iload 7, 2) := by decide +kernel
theorem dX12_leastAround_41 : decode cX12_leastAround 41 = .ok (.invokestatic 190, 3) := by decide +kernel
theorem dX12_leastAround_44 : decode cX12_leastAround 44 = .ok (.ifCond .eq 26, 3) := by decide +kernel
theorem dX12_leastAround_47 : decode cX12_leastAround 47 = .ok (.iload 6, 2) := by decide +kernel
theorem dX12_leastAround_49 : decode cX12_leastAround 49 = .ok (.aload_n 1, 1) := by decide +kernel
theorem dX12_leastAround_50 : decode cX12_leastAround 50 = .ok (.sipush 1024, 3) := by decide +kernel
theorem dX12_leastAround_53 : decode cX12_leastAround 53 = .ok (.iload_n 2, 1) := by decide +kernel
theorem dX12_leastAround_54 : decode cX12_leastAround 54 = .ok (.imul, 1) := by decide +kernel
theorem dX12_leastAround_55 : decode cX12_leastAround 55 = .ok (.bipush 32, 2) := by decide +kernel
theorem dX12_leastAround_57 : decode cX12_leastAround 57 = .ok (.iload 7, 2) := by decide +kernel
theorem dX12_leastAround_59 : decode cX12_leastAround 59 = .ok (.imul, 1) := by decide +kernel
theorem dX12_leastAround_60 : decode cX12_leastAround 60 = .ok (.iadd, 1) := by decide +kernel
theorem dX12_leastAround_61 : decode cX12_leastAround 61 = .ok (.iload 8, 2) := by decide +kernel
theorem dX12_leastAround_63 : decode cX12_leastAround 63 = .ok (.iadd, 1) := by decide +kernel
theorem dX12_leastAround_64 : decode cX12_leastAround 64 = .ok (.iaload, 1) := by decide +kernel
theorem dX12_leastAround_65 : decode cX12_leastAround 65 = .ok (.invokestatic 363, 3) := by decide +kernel
theorem dX12_leastAround_68 : decode cX12_leastAround 68 = .ok (.istore 6, 2) := by decide +kernel
theorem dX12_leastAround_70 : decode cX12_leastAround 70 = .ok (.iinc 8 1, 3) := by decide +kernel
theorem dX12_leastAround_73 : decode cX12_leastAround 73 = .ok (.goto (-45), 3) := by decide +kernel
theorem dX12_leastAround_76 : decode cX12_leastAround 76 = .ok (.iinc 7 1, 3) := by decide +kernel
theorem dX12_leastAround_79 : decode cX12_leastAround 79 = .ok (.goto (-67), 3) := by decide +kernel
theorem dX12_leastAround_82 : decode cX12_leastAround 82 = .ok (.iload 6, 2) := by decide +kernel
theorem dX12_leastAround_84 : decode cX12_leastAround 84 = .ok (.ireturn, 1) := by decide +kernel
theorem dX12_isInBox_0 : decode cX12_isInBox 0 = .ok (.iload_n 1, 1) := by decide +kernel
theorem dX12_isInBox_1 : decode cX12_isInBox 1 = .ok (.bipush 32, 2) := by decide +kernel
theorem dX12_isInBox_3 : decode cX12_isInBox 3 = .ok (.irem, 1) := by decide +kernel
theorem dX12_isInBox_4 : decode cX12_isInBox 4 = .ok (.aload_n 0, 1) := by decide +kernel
theorem dX12_isInBox_5 : decode cX12_isInBox 5 = .ok (.getfield 349, 3) := by decide +kernel
theorem dX12_isInBox_8 : decode cX12_isInBox 8 = .ok (.aload_n 0, 1) := by decide +kernel
theorem dX12_isInBox_9 : decode cX12_isInBox 9 = .ok (.getfield 147, 3) := by decide +kernel
theorem dX12_isInBox_12 : decode cX12_isInBox 12 = .ok (.invokestatic 173, 3) := by decide +kernel
theorem dX12_isInBox_15 : decode cX12_isInBox 15 = .ok (.ifCond .eq 25, 3) := by decide +kernel
theorem dX12_isInBox_18 : decode cX12_isInBox 18 = .ok (.iload_n 1, 1) := by decide +kernel
theorem dX12_isInBox_19 : decode cX12_isInBox 19 = .ok (.bipush 32, 2) := by decide +kernel
theorem dX12_isInBox_21 : decode cX12_isInBox 21 = .ok (.idiv, 1) := by decide +kernel
theorem dX12_isInBox_22 : decode cX12_isInBox 22 = .ok (.aload_n 0, 1) := by decide +kernel
theorem dX12_isInBox_23 : decode cX12_isInBox 23 = .ok (.getfield 352, 3) := by decide +kernel
theorem dX12_isInBox_26 : decode cX12_isInBox 26 = .ok (.aload_n 0, 1) := by decide +kernel
theorem dX12_isInBox_27 : decode cX12_isInBox 27 = .ok (.getfield 151, 3) := by decide +kernel
theorem dX12_isInBox_30 : decode cX12_isInBox 30 = .ok (.invokestatic 173, 3) := by decide +kernel
theorem dX12_isInBox_33 : decode cX12_isInBox 33 = .ok (.ifCond .eq 7, 3) := by decide +kernel
theorem dX12_isInBox_36 : decode cX12_isInBox 36 = .ok (.iconst 1, 1) := by decide +kernel
theorem dX12_isInBox_37 : decode cX12_isInBox 37 = .ok (.goto 4, 3) := by decide +kernel
theorem dX12_isInBox_40 : decode cX12_isInBox 40 = .ok (.iconst 0, 1) := by decide +kernel
theorem dX12_isInBox_41 : decode cX12_isInBox 41 = .ok (.ireturn, 1) := by decide +kernel
theorem dX12_laysForth_0 : decode cX12_laysForth 0 = .ok (.iconst 0, 1) := by decide +kernel
theorem dX12_laysForth_1 : decode cX12_laysForth 1 = .ok (.istore_n 1, 1) := by decide +kernel
theorem dX12_laysForth_2 : decode cX12_laysForth 2 = .ok (.iload_n 1, 1) := by decide +kernel
theorem dX12_laysForth_3 : decode cX12_laysForth 3 = .ok (.aload_n 0, 1) := by decide +kernel
theorem dX12_laysForth_4 : decode cX12_laysForth 4 = .ok (.getfield 340, 3) := by decide +kernel
theorem dX12_laysForth_7 : decode cX12_laysForth 7 = .ok (.if_icmp .ge 114, 3) := by decide +kernel
theorem dX12_laysForth_10 : decode cX12_laysForth 10 = .ok (.iconst 0, 1) := by decide +kernel
theorem dX12_laysForth_11 : decode cX12_laysForth 11 = .ok (.istore_n 2, 1) := by decide +kernel
theorem dX12_laysForth_12 : decode cX12_laysForth 12 = .ok (.iload_n 2, 1) := by decide +kernel
theorem dX12_laysForth_13 : decode cX12_laysForth 13 = .ok (.sipush 1024, 3) := by decide +kernel
theorem dX12_laysForth_16 : decode cX12_laysForth 16 = .ok (.if_icmp .ge 99, 3) := by decide +kernel
theorem dX12_laysForth_19 : decode cX12_laysForth 19 = .ok (.iload_n 1, 1) := by decide +kernel
theorem dX12_laysForth_20 : decode cX12_laysForth 20 = .ok (.ifCond .ne 21, 3) := by decide +kernel
theorem dX12_laysForth_23 : decode cX12_laysForth 23 = .ok (.aload_n 0, 1) := by decide +kernel
theorem dX12_laysForth_24 : decode cX12_laysForth 24 = .ok (.iload_n 2, 1) := by decide +kernel
theorem dX12_laysForth_25 : decode cX12_laysForth 25 = .ok (.invokevirtual 366, 3) := by decide +kernel
theorem dX12_laysForth_28 : decode cX12_laysForth 28 = .ok (.ifCond .eq 7, 3) := by decide +kernel
theorem dX12_laysForth_31 : decode cX12_laysForth 31 = .ok (.iconst 0, 1) := by decide +kernel
theorem dX12_laysForth_32 : decode cX12_laysForth 32 = .ok (.goto 48, 3) := by decide +kernel
theorem dX12_laysForth_35 : decode cX12_laysForth 35 = .ok (.ldc_w 359, 3) := by decide +kernel
theorem dX12_laysForth_38 : decode cX12_laysForth 38 = .ok (.goto 42, 3) := by decide +kernel
theorem dX12_laysForth_41 : decode cX12_laysForth 41 = .ok (.aload_n 0, 1) := by decide +kernel
theorem dX12_laysForth_42 : decode cX12_laysForth 42 = .ok (.aload_n 0, 1) := by decide +kernel
theorem dX12_laysForth_43 : decode cX12_laysForth 43 = .ok (.getfield 105, 3) := by decide +kernel
theorem dX12_laysForth_46 : decode cX12_laysForth 46 = .ok (.iload_n 1, 1) := by decide +kernel
theorem dX12_laysForth_47 : decode cX12_laysForth 47 = .ok (.iconst 1, 1) := by decide +kernel
theorem dX12_laysForth_48 : decode cX12_laysForth 48 = .ok (.isub, 1) := by decide +kernel
theorem dX12_laysForth_49 : decode cX12_laysForth 49 = .ok (.iload_n 2, 1) := by decide +kernel
theorem dX12_laysForth_50 : decode cX12_laysForth 50 = .ok (.bipush 32, 2) := by decide +kernel
theorem dX12_laysForth_52 : decode cX12_laysForth 52 = .ok (.irem, 1) := by decide +kernel
theorem dX12_laysForth_53 : decode cX12_laysForth 53 = .ok (.aload_n 0, 1) := by decide +kernel
theorem dX12_laysForth_54 : decode cX12_laysForth 54 = .ok (.getfield 75, 3) := by decide +kernel
theorem dX12_laysForth_57 : decode cX12_laysForth 57 = .ok (.iload_n 1, 1) := by decide +kernel
theorem dX12_laysForth_58 : decode cX12_laysForth 58 = .ok (.iaload, 1) := by decide +kernel
theorem dX12_laysForth_59 : decode cX12_laysForth 59 = .ok (.isub, 1) := by decide +kernel
theorem dX12_laysForth_60 : decode cX12_laysForth 60 = .ok (.iload_n 2, 1) := by decide +kernel
theorem dX12_laysForth_61 : decode cX12_laysForth 61 = .ok (.bipush 32, 2) := by decide +kernel
theorem dX12_laysForth_63 : decode cX12_laysForth 63 = .ok (.idiv, 1) := by decide +kernel
theorem dX12_laysForth_64 : decode cX12_laysForth 64 = .ok (.aload_n 0, 1) := by decide +kernel
theorem dX12_laysForth_65 : decode cX12_laysForth 65 = .ok (.getfield 78, 3) := by decide +kernel
theorem dX12_laysForth_68 : decode cX12_laysForth 68 = .ok (.iload_n 1, 1) := by decide +kernel
theorem dX12_laysForth_69 : decode cX12_laysForth 69 = .ok (.iaload, 1) := by decide +kernel
theorem dX12_laysForth_70 : decode cX12_laysForth 70 = .ok (.isub, 1) := by decide +kernel
theorem dX12_laysForth_71 : decode cX12_laysForth 71 = .ok (.aload_n 0, 1) := by decide +kernel
theorem dX12_laysForth_72 : decode cX12_laysForth 72 = .ok (.getfield 81, 3) := by decide +kernel
theorem dX12_laysForth_75 : decode cX12_laysForth 75 = .ok (.iload_n 1, 1) := by decide +kernel
theorem dX12_laysForth_76 : decode cX12_laysForth 76 = .ok (.iaload, 1) := by decide +kernel
theorem dX12_laysForth_77 : decode cX12_laysForth 77 = .ok (.invokevirtual 369, 3) := by decide +kernel
theorem dX12_laysForth_80 : decode cX12_laysForth 80 = .ok (.istore_n 3, 1) := by decide +kernel
theorem dX12_laysForth_81 : decode cX12_laysForth 81 = .ok (.aload_n 0, 1) := by decide +kernel
theorem dX12_laysForth_82 : decode cX12_laysForth 82 = .ok (.getfield 105, 3) := by decide +kernel
theorem dX12_laysForth_85 : decode cX12_laysForth 85 = .ok (.sipush 1024, 3) := by decide +kernel
theorem dX12_laysForth_88 : decode cX12_laysForth 88 = .ok (.iload_n 1, 1) := by decide +kernel
theorem dX12_laysForth_89 : decode cX12_laysForth 89 = .ok (.imul, 1) := by decide +kernel
theorem dX12_laysForth_90 : decode cX12_laysForth 90 = .ok (.iload_n 2, 1) := by decide +kernel
theorem dX12_laysForth_91 : decode cX12_laysForth 91 = .ok (.iadd, 1) := by decide +kernel
theorem dX12_laysForth_92 : decode cX12_laysForth 92 = .ok (.iload_n 3, 1) := by decide +kernel
theorem dX12_laysForth_93 : decode cX12_laysForth 93 = .ok (.aload_n 0, 1) := by decide +kernel
theorem dX12_laysForth_94 : decode cX12_laysForth 94 = .ok (.getfield 102, 3) := by decide +kernel
theorem dX12_laysForth_97 : decode cX12_laysForth 97 = .ok (.sipush 1024, 3) := by decide +kernel
theorem dX12_laysForth_100 : decode cX12_laysForth 100 = .ok (.iload_n 1, 1) := by decide +kernel
theorem dX12_laysForth_101 : decode cX12_laysForth 101 = .ok (.imul, 1) := by decide +kernel
theorem dX12_laysForth_102 : decode cX12_laysForth 102 = .ok (.iload_n 2, 1) := by decide +kernel
theorem dX12_laysForth_103 : decode cX12_laysForth 103 = .ok (.iadd, 1) := by decide +kernel
theorem dX12_laysForth_104 : decode cX12_laysForth 104 = .ok (.iaload, 1) := by decide +kernel
theorem dX12_laysForth_105 : decode cX12_laysForth 105 = .ok (.invokestatic 373, 3) := by decide +kernel
theorem dX12_laysForth_108 : decode cX12_laysForth 108 = .ok (.iastore, 1) := by decide +kernel
theorem dX12_laysForth_109 : decode cX12_laysForth 109 = .ok (.iinc 2 1, 3) := by decide +kernel
theorem dX12_laysForth_112 : decode cX12_laysForth 112 = .ok (.goto (-100), 3) := by decide +kernel
theorem dX12_laysForth_115 : decode cX12_laysForth 115 = .ok (.iinc 1 1, 3) := by decide +kernel
theorem dX12_laysForth_118 : decode cX12_laysForth 118 = .ok (.goto (-116), 3) := by decide +kernel
theorem dX12_laysForth_121 : decode cX12_laysForth 121 = .ok (.return_, 1) := by decide +kernel
theorem dX12_laysBehind_0 : decode cX12_laysBehind 0 = .ok (.aload_n 0, 1) := by decide +kernel
theorem dX12_laysBehind_1 : decode cX12_laysBehind 1 = .ok (.getfield 340, 3) := by decide +kernel
theorem dX12_laysBehind_4 : decode cX12_laysBehind 4 = .ok (.iconst 1, 1) := by decide +kernel
theorem dX12_laysBehind_5 : decode cX12_laysBehind 5 = .ok (.isub, 1) := by decide +kernel
theorem dX12_laysBehind_6 : decode cX12_laysBehind 6 = .ok (.istore_n 1, 1) := by decide +kernel
theorem dX12_laysBehind_7 : decode cX12_laysBehind 7 = .ok (.iload_n 1, 1) := by decide +kernel
theorem dX12_laysBehind_8 : decode cX12_laysBehind 8 = .ok (.ifCond .lt 112, 3) := by decide +kernel
theorem dX12_laysBehind_11 : decode cX12_laysBehind 11 = .ok (.iconst 0, 1) := by decide +kernel
theorem dX12_laysBehind_12 : decode cX12_laysBehind 12 = .ok (.istore_n 2, 1) := by decide +kernel
theorem dX12_laysBehind_13 : decode cX12_laysBehind 13 = .ok (.iload_n 2, 1) := by decide +kernel
theorem dX12_laysBehind_14 : decode cX12_laysBehind 14 = .ok (.sipush 1024, 3) := by decide +kernel
theorem dX12_laysBehind_17 : decode cX12_laysBehind 17 = .ok (.if_icmp .ge 97, 3) := by decide +kernel
theorem dX12_laysBehind_20 : decode cX12_laysBehind 20 = .ok (.iload_n 1, 1) := by decide +kernel
theorem dX12_laysBehind_21 : decode cX12_laysBehind 21 = .ok (.aload_n 0, 1) := by decide +kernel
theorem dX12_laysBehind_22 : decode cX12_laysBehind 22 = .ok (.getfield 340, 3) := by decide +kernel
theorem dX12_laysBehind_25 : decode cX12_laysBehind 25 = .ok (.iconst 1, 1) := by decide +kernel
theorem dX12_laysBehind_26 : decode cX12_laysBehind 26 = .ok (.isub, 1) := by decide +kernel
theorem dX12_laysBehind_27 : decode cX12_laysBehind 27 = .ok (.if_icmp .ne 7, 3) := by decide +kernel
theorem dX12_laysBehind_30 : decode cX12_laysBehind 30 = .ok (.iconst 0, 1) := by decide +kernel
theorem dX12_laysBehind_31 : decode cX12_laysBehind 31 = .ok (.goto 48, 3) := by decide +kernel
theorem dX12_laysBehind_34 : decode cX12_laysBehind 34 = .ok (.aload_n 0, 1) := by decide +kernel
theorem dX12_laysBehind_35 : decode cX12_laysBehind 35 = .ok (.aload_n 0, 1) := by decide +kernel
theorem dX12_laysBehind_36 : decode cX12_laysBehind 36 = .ok (.getfield 108, 3) := by decide +kernel
theorem dX12_laysBehind_39 : decode cX12_laysBehind 39 = .ok (.iload_n 1, 1) := by decide +kernel
theorem dX12_laysBehind_40 : decode cX12_laysBehind 40 = .ok (.iconst 1, 1) := by decide +kernel
theorem dX12_laysBehind_41 : decode cX12_laysBehind 41 = .ok (.iadd, 1) := by decide +kernel
theorem dX12_laysBehind_42 : decode cX12_laysBehind 42 = .ok (.iload_n 2, 1) := by decide +kernel
theorem dX12_laysBehind_43 : decode cX12_laysBehind 43 = .ok (.bipush 32, 2) := by decide +kernel
theorem dX12_laysBehind_45 : decode cX12_laysBehind 45 = .ok (.irem, 1) := by decide +kernel
theorem dX12_laysBehind_46 : decode cX12_laysBehind 46 = .ok (.aload_n 0, 1) := by decide +kernel
theorem dX12_laysBehind_47 : decode cX12_laysBehind 47 = .ok (.getfield 75, 3) := by decide +kernel
theorem dX12_laysBehind_50 : decode cX12_laysBehind 50 = .ok (.iload_n 1, 1) := by decide +kernel
theorem dX12_laysBehind_51 : decode cX12_laysBehind 51 = .ok (.iconst 1, 1) := by decide +kernel
theorem dX12_laysBehind_52 : decode cX12_laysBehind 52 = .ok (.iadd, 1) := by decide +kernel
theorem dX12_laysBehind_53 : decode cX12_laysBehind 53 = .ok (.iaload, 1) := by decide +kernel
theorem dX12_laysBehind_54 : decode cX12_laysBehind 54 = .ok (.iadd, 1) := by decide +kernel
theorem dX12_laysBehind_55 : decode cX12_laysBehind 55 = .ok (.iload_n 2, 1) := by decide +kernel
theorem dX12_laysBehind_56 : decode cX12_laysBehind 56 = .ok (.bipush 32, 2) := by decide +kernel
theorem dX12_laysBehind_58 : decode cX12_laysBehind 58 = .ok (.idiv, 1) := by decide +kernel
theorem dX12_laysBehind_59 : decode cX12_laysBehind 59 = .ok (.aload_n 0, 1) := by decide +kernel
theorem dX12_laysBehind_60 : decode cX12_laysBehind 60 = .ok (.getfield 78, 3) := by decide +kernel
theorem dX12_laysBehind_63 : decode cX12_laysBehind 63 = .ok (.iload_n 1, 1) := by decide +kernel
theorem dX12_laysBehind_64 : decode cX12_laysBehind 64 = .ok (.iconst 1, 1) := by decide +kernel
theorem dX12_laysBehind_65 : decode cX12_laysBehind 65 = .ok (.iadd, 1) := by decide +kernel
theorem dX12_laysBehind_66 : decode cX12_laysBehind 66 = .ok (.iaload, 1) := by decide +kernel
theorem dX12_laysBehind_67 : decode cX12_laysBehind 67 = .ok (.iadd, 1) := by decide +kernel
theorem dX12_laysBehind_68 : decode cX12_laysBehind 68 = .ok (.aload_n 0, 1) := by decide +kernel
theorem dX12_laysBehind_69 : decode cX12_laysBehind 69 = .ok (.getfield 81, 3) := by decide +kernel
theorem dX12_laysBehind_72 : decode cX12_laysBehind 72 = .ok (.iload_n 1, 1) := by decide +kernel
theorem dX12_laysBehind_73 : decode cX12_laysBehind 73 = .ok (.iconst 1, 1) := by decide +kernel
theorem dX12_laysBehind_74 : decode cX12_laysBehind 74 = .ok (.iadd, 1) := by decide +kernel
theorem dX12_laysBehind_75 : decode cX12_laysBehind 75 = .ok (.iaload, 1) := by decide +kernel
theorem dX12_laysBehind_76 : decode cX12_laysBehind 76 = .ok (.invokevirtual 369, 3) := by decide +kernel
theorem dX12_laysBehind_79 : decode cX12_laysBehind 79 = .ok (.istore_n 3, 1) := by decide +kernel
theorem dX12_laysBehind_80 : decode cX12_laysBehind 80 = .ok (.aload_n 0, 1) := by decide +kernel
theorem dX12_laysBehind_81 : decode cX12_laysBehind 81 = .ok (.getfield 108, 3) := by decide +kernel
theorem dX12_laysBehind_84 : decode cX12_laysBehind 84 = .ok (.sipush 1024, 3) := by decide +kernel
theorem dX12_laysBehind_87 : decode cX12_laysBehind 87 = .ok (.iload_n 1, 1) := by decide +kernel
theorem dX12_laysBehind_88 : decode cX12_laysBehind 88 = .ok (.imul, 1) := by decide +kernel
theorem dX12_laysBehind_89 : decode cX12_laysBehind 89 = .ok (.iload_n 2, 1) := by decide +kernel
theorem dX12_laysBehind_90 : decode cX12_laysBehind 90 = .ok (.iadd, 1) := by decide +kernel
theorem dX12_laysBehind_91 : decode cX12_laysBehind 91 = .ok (.iload_n 3, 1) := by decide +kernel
theorem dX12_laysBehind_92 : decode cX12_laysBehind 92 = .ok (.aload_n 0, 1) := by decide +kernel
theorem dX12_laysBehind_93 : decode cX12_laysBehind 93 = .ok (.getfield 102, 3) := by decide +kernel
theorem dX12_laysBehind_96 : decode cX12_laysBehind 96 = .ok (.sipush 1024, 3) := by decide +kernel
theorem dX12_laysBehind_99 : decode cX12_laysBehind 99 = .ok (.iload_n 1, 1) := by decide +kernel
theorem dX12_laysBehind_100 : decode cX12_laysBehind 100 = .ok (.imul, 1) := by decide +kernel
theorem dX12_laysBehind_101 : decode cX12_laysBehind 101 = .ok (.iload_n 2, 1) := by decide +kernel
theorem dX12_laysBehind_102 : decode cX12_laysBehind 102 = .ok (.iadd, 1) := by decide +kernel
theorem dX12_laysBehind_103 : decode cX12_laysBehind 103 = .ok (.iaload, 1) := by decide +kernel
theorem dX12_laysBehind_104 : decode cX12_laysBehind 104 = .ok (.invokestatic 373, 3) := by decide +kernel
theorem dX12_laysBehind_107 : decode cX12_laysBehind 107 = .ok (.iastore, 1) := by decide +kernel
theorem dX12_laysBehind_108 : decode cX12_laysBehind 108 = .ok (.iinc 2 1, 3) := by decide +kernel
theorem dX12_laysBehind_111 : decode cX12_laysBehind 111 = .ok (.goto (-98), 3) := by decide +kernel
theorem dX12_laysBehind_114 : decode cX12_laysBehind 114 = .ok (.iinc 1 (-1), 3) := by decide +kernel
theorem dX12_laysBehind_117 : decode cX12_laysBehind 117 = .ok (.goto (-110), 3) := by decide +kernel
theorem dX12_laysBehind_120 : decode cX12_laysBehind 120 = .ok (.return_, 1) := by decide +kernel
theorem dX12_leastAt_0 : decode cX12_leastAt 0 = .ok (.ldc_w 359, 3) := by decide +kernel
theorem dX12_leastAt_3 : decode cX12_leastAt 3 = .ok (.istore_n 2, 1) := by decide +kernel
theorem dX12_leastAt_4 : decode cX12_leastAt 4 = .ok (.iconst 0, 1) := by decide +kernel
theorem dX12_leastAt_5 : decode cX12_leastAt 5 = .ok (.istore_n 3, 1) := by decide +kernel
theorem dX12_leastAt_6 : decode cX12_leastAt 6 = .ok (.iload_n 3, 1) := by decide +kernel
theorem dX12_leastAt_7 : decode cX12_leastAt 7 = .ok (.sipush 1024, 3) := by decide +kernel
theorem dX12_leastAt_10 : decode cX12_leastAt 10 = .ok (.if_icmp .ge 26, 3) := by decide +kernel
theorem dX12_leastAt_13 : decode cX12_leastAt 13 = .ok (.iload_n 2, 1) := by decide +kernel
theorem dX12_leastAt_14 : decode cX12_leastAt 14 = .ok (.aload_n 0, 1) := by decide +kernel
theorem dX12_leastAt_15 : decode cX12_leastAt 15 = .ok (.getfield 105, 3) := by decide +kernel
theorem dX12_leastAt_18 : decode cX12_leastAt 18 = .ok (.sipush 1024, 3) := by decide +kernel
theorem dX12_leastAt_21 : decode cX12_leastAt 21 = .ok (.iload_n 1, 1) := by decide +kernel
theorem dX12_leastAt_22 : decode cX12_leastAt 22 = .ok (.imul, 1) := by decide +kernel
theorem dX12_leastAt_23 : decode cX12_leastAt 23 = .ok (.iload_n 3, 1) := by decide +kernel
theorem dX12_leastAt_24 : decode cX12_leastAt 24 = .ok (.iadd, 1) := by decide +kernel
theorem dX12_leastAt_25 : decode cX12_leastAt 25 = .ok (.iaload, 1) := by decide +kernel
theorem dX12_leastAt_26 : decode cX12_leastAt 26 = .ok (.invokestatic 363, 3) := by decide +kernel
theorem dX12_leastAt_29 : decode cX12_leastAt 29 = .ok (.istore_n 2, 1) := by decide +kernel
theorem dX12_leastAt_30 : decode cX12_leastAt 30 = .ok (.iinc 3 1, 3) := by decide +kernel
theorem dX12_leastAt_33 : decode cX12_leastAt 33 = .ok (.goto (-27), 3) := by decide +kernel
theorem dX12_leastAt_36 : decode cX12_leastAt 36 = .ok (.iload_n 2, 1) := by decide +kernel
theorem dX12_leastAt_37 : decode cX12_leastAt 37 = .ok (.ireturn, 1) := by decide +kernel
theorem dX12_isFitting_0 : decode cX12_isFitting 0 = .ok (.aload_n 0, 1) := by decide +kernel
theorem dX12_isFitting_1 : decode cX12_isFitting 1 = .ok (.getfield 340, 3) := by decide +kernel
theorem dX12_isFitting_4 : decode cX12_isFitting 4 = .ok (.ifCond .ne 5, 3) := by decide +kernel
theorem dX12_isFitting_7 : decode cX12_isFitting 7 = .ok (.iconst 1, 1) := by decide +kernel
theorem dX12_isFitting_8 : decode cX12_isFitting 8 = .ok (.ireturn, 1) := by decide +kernel
theorem dX12_isFitting_9 : decode cX12_isFitting 9 = .ok (.aload_n 0, 1) := by decide +kernel
theorem dX12_isFitting_10 : decode cX12_isFitting 10 = .ok (.iload_n 1, 1) := by decide +kernel
theorem dX12_isFitting_11 : decode cX12_isFitting 11 = .ok (.invokevirtual 376, 3) := by decide +kernel
theorem dX12_isFitting_14 : decode cX12_isFitting 14 = .ok (.aload_n 0, 1) := by decide +kernel
theorem dX12_isFitting_15 : decode cX12_isFitting 15 = .ok (.invokevirtual 379, 3) := by decide +kernel
theorem dX12_isFitting_18 : decode cX12_isFitting 18 = .ok (.aload_n 0, 1) := by decide +kernel
theorem dX12_isFitting_19 : decode cX12_isFitting 19 = .ok (.aload_n 0, 1) := by decide +kernel
theorem dX12_isFitting_20 : decode cX12_isFitting 20 = .ok (.getfield 340, 3) := by decide +kernel
theorem dX12_isFitting_23 : decode cX12_isFitting 23 = .ok (.iconst 1, 1) := by decide +kernel
theorem dX12_isFitting_24 : decode cX12_isFitting 24 = .ok (.isub, 1) := by decide +kernel
theorem dX12_isFitting_25 : decode cX12_isFitting 25 = .ok (.invokevirtual 382, 3) := by decide +kernel
theorem dX12_isFitting_28 : decode cX12_isFitting 28 = .ok (.aload_n 0, 1) := by decide +kernel
theorem dX12_isFitting_29 : decode cX12_isFitting 29 = .ok (.getfield 346, 3) := by decide +kernel
theorem dX12_isFitting_32 : decode cX12_isFitting 32 = .ok (.if_icmp .gt 7, 3) := by decide +kernel
theorem dX12_isFitting_35 : decode cX12_isFitting 35 = .ok (.iconst 1, 1) := by decide +kernel
theorem dX12_isFitting_36 : decode cX12_isFitting 36 = .ok (.goto 4, 3) := by decide +kernel
theorem dX12_isFitting_39 : decode cX12_isFitting 39 = .ok (.iconst 0, 1) := by decide +kernel
theorem dX12_isFitting_40 : decode cX12_isFitting 40 = .ok (.ireturn, 1) := by decide +kernel
theorem dX12_fits_0 : decode cX12_fits 0 = .ok (.aload_n 0, 1) := by decide +kernel
theorem dX12_fits_1 : decode cX12_fits 1 = .ok (.iload_n 1, 1) := by decide +kernel
theorem dX12_fits_2 : decode cX12_fits 2 = .ok (.invokevirtual 187, 3) := by decide +kernel
theorem dX12_fits_5 : decode cX12_fits 5 = .ok (.ifCond .ne 7, 3) := by decide +kernel
theorem dX12_fits_8 : decode cX12_fits 8 = .ok (.iconst (-1), 1) := by decide +kernel
theorem dX12_fits_9 : decode cX12_fits 9 = .ok (.goto 16, 3) := by decide +kernel
theorem dX12_fits_12 : decode cX12_fits 12 = .ok (.aload_n 0, 1) := by decide +kernel
theorem dX12_fits_13 : decode cX12_fits 13 = .ok (.iload_n 1, 1) := by decide +kernel
theorem dX12_fits_14 : decode cX12_fits 14 = .ok (.invokevirtual 385, 3) := by decide +kernel
theorem dX12_fits_17 : decode cX12_fits 17 = .ok (.ifCond .eq 7, 3) := by decide +kernel
theorem dX12_fits_20 : decode cX12_fits 20 = .ok (.iconst 1, 1) := by decide +kernel
theorem dX12_fits_21 : decode cX12_fits 21 = .ok (.goto 4, 3) := by decide +kernel
theorem dX12_fits_24 : decode cX12_fits 24 = .ok (.iconst 0, 1) := by decide +kernel
theorem dX12_fits_25 : decode cX12_fits 25 = .ok (.ireturn, 1) := by decide +kernel
theorem dX12_firstBad_0 : decode cX12_firstBad 0 = .ok (.aload_n 0, 1) := by decide +kernel
theorem dX12_firstBad_1 : decode cX12_firstBad 1 = .ok (.iload_n 1, 1) := by decide +kernel
theorem dX12_firstBad_2 : decode cX12_firstBad 2 = .ok (.invokevirtual 187, 3) := by decide +kernel
theorem dX12_firstBad_5 : decode cX12_firstBad 5 = .ok (.ifCond .ne 5, 3) := by decide +kernel
theorem dX12_firstBad_8 : decode cX12_firstBad 8 = .ok (.iconst (-1), 1) := by decide +kernel
theorem dX12_firstBad_9 : decode cX12_firstBad 9 = .ok (.ireturn, 1) := by decide +kernel
theorem dX12_firstBad_10 : decode cX12_firstBad 10 = .ok (.aload_n 0, 1) := by decide +kernel
theorem dX12_firstBad_11 : decode cX12_firstBad 11 = .ok (.iload_n 1, 1) := by decide +kernel
theorem dX12_firstBad_12 : decode cX12_firstBad 12 = .ok (.invokevirtual 385, 3) := by decide +kernel
theorem dX12_firstBad_15 : decode cX12_firstBad 15 = .ok (.ifCond .eq 6, 3) := by decide +kernel
theorem dX12_firstBad_18 : decode cX12_firstBad 18 = .ok (.bipush (-2), 2) := by decide +kernel
theorem dX12_firstBad_20 : decode cX12_firstBad 20 = .ok (.ireturn, 1) := by decide +kernel
theorem dX12_firstBad_21 : decode cX12_firstBad 21 = .ok (.iconst 0, 1) := by decide +kernel
theorem dX12_firstBad_22 : decode cX12_firstBad 22 = .ok (.istore_n 2, 1) := by decide +kernel
theorem dX12_firstBad_23 : decode cX12_firstBad 23 = .ok (.aload_n 0, 1) := by decide +kernel
theorem dX12_firstBad_24 : decode cX12_firstBad 24 = .ok (.iload_n 2, 1) := by decide +kernel
theorem dX12_firstBad_25 : decode cX12_firstBad 25 = .ok (.invokevirtual 382, 3) := by decide +kernel
theorem dX12_firstBad_28 : decode cX12_firstBad 28 = .ok (.aload_n 0, 1) := by decide +kernel
theorem dX12_firstBad_29 : decode cX12_firstBad 29 = .ok (.getfield 346, 3) := by decide +kernel
theorem dX12_firstBad_32 : decode cX12_firstBad 32 = .ok (.if_icmp .gt 10, 3) := by decide +kernel
theorem dX12_firstBad_35 : decode cX12_firstBad 35 = .ok (.iload_n 2, 1) := by decide +kernel
theorem dX12_firstBad_36 : decode cX12_firstBad 36 = .ok (.iconst 1, 1) := by decide +kernel
theorem dX12_firstBad_37 : decode cX12_firstBad 37 = .ok (.iadd, 1) := by decide +kernel
theorem dX12_firstBad_38 : decode cX12_firstBad 38 = .ok (.istore_n 2, 1) := by decide +kernel
theorem dX12_firstBad_39 : decode cX12_firstBad 39 = .ok (.goto (-16), 3) := by decide +kernel
theorem dX12_firstBad_42 : decode cX12_firstBad 42 = .ok (.iload_n 2, 1) := by decide +kernel
theorem dX12_firstBad_43 : decode cX12_firstBad 43 = .ok (.ireturn, 1) := by decide +kernel
theorem dX12_laysPossible_0 : decode cX12_laysPossible 0 = .ok (.aload_n 0, 1) := by decide +kernel
theorem dX12_laysPossible_1 : decode cX12_laysPossible 1 = .ok (.iload_n 1, 1) := by decide +kernel
theorem dX12_laysPossible_2 : decode cX12_laysPossible 2 = .ok (.invokevirtual 376, 3) := by decide +kernel
theorem dX12_laysPossible_5 : decode cX12_laysPossible 5 = .ok (.aload_n 0, 1) := by decide +kernel
theorem dX12_laysPossible_6 : decode cX12_laysPossible 6 = .ok (.invokevirtual 379, 3) := by decide +kernel
theorem dX12_laysPossible_9 : decode cX12_laysPossible 9 = .ok (.aload_n 0, 1) := by decide +kernel
theorem dX12_laysPossible_10 : decode cX12_laysPossible 10 = .ok (.invokevirtual 388, 3) := by decide +kernel
theorem dX12_laysPossible_13 : decode cX12_laysPossible 13 = .ok (.return_, 1) := by decide +kernel
theorem dX12_isThere_0 : decode cX12_isThere 0 = .ok (.aload_n 0, 1) := by decide +kernel
theorem dX12_isThere_1 : decode cX12_isThere 1 = .ok (.getfield 105, 3) := by decide +kernel
theorem dX12_isThere_4 : decode cX12_isThere 4 = .ok (.sipush 1024, 3) := by decide +kernel
theorem dX12_isThere_7 : decode cX12_isThere 7 = .ok (.iload_n 1, 1) := by decide +kernel
theorem dX12_isThere_8 : decode cX12_isThere 8 = .ok (.imul, 1) := by decide +kernel
theorem dX12_isThere_9 : decode cX12_isThere 9 = .ok (.iload_n 2, 1) := by decide +kernel
theorem dX12_isThere_10 : decode cX12_isThere 10 = .ok (.iadd, 1) := by decide +kernel
theorem dX12_isThere_11 : decode cX12_isThere 11 = .ok (.iaload, 1) := by decide +kernel
theorem dX12_isThere_12 : decode cX12_isThere 12 = .ok (.aload_n 0, 1) := by decide +kernel
theorem dX12_isThere_13 : decode cX12_isThere 13 = .ok (.getfield 108, 3) := by decide +kernel
theorem dX12_isThere_16 : decode cX12_isThere 16 = .ok (.sipush 1024, 3) := by decide +kernel
theorem dX12_isThere_19 : decode cX12_isThere 19 = .ok (.iload_n 1, 1) := by decide +kernel
theorem dX12_isThere_20 : decode cX12_isThere 20 = .ok (.imul, 1) := by decide +kernel
theorem dX12_isThere_21 : decode cX12_isThere 21 = .ok (.iload_n 2, 1) := by decide +kernel
theorem dX12_isThere_22 : decode cX12_isThere 22 = .ok (.iadd, 1) := by decide +kernel
theorem dX12_isThere_23 : decode cX12_isThere 23 = .ok (.iaload, 1) := by decide +kernel
theorem dX12_isThere_24 : decode cX12_isThere 24 = .ok (.invokestatic 373, 3) := by decide +kernel
theorem dX12_isThere_27 : decode cX12_isThere 27 = .ok (.istore_n 3, 1) := by decide +kernel
theorem dX12_isThere_28 : decode cX12_isThere 28 = .ok (.iload_n 3, 1) := by decide +kernel
theorem dX12_isThere_29 : decode cX12_isThere 29 = .ok (.ldc_w 359, 3) := by decide +kernel
theorem dX12_isThere_32 : decode cX12_isThere 32 = .ok (.if_icmp .ge 28, 3) := by decide +kernel
theorem dX12_isThere_35 : decode cX12_isThere 35 = .ok (.iload_n 3, 1) := by decide +kernel
theorem dX12_isThere_36 : decode cX12_isThere 36 = .ok (.aload_n 0, 1) := by decide +kernel
theorem dX12_isThere_37 : decode cX12_isThere 37 = .ok (.getfield 102, 3) := by decide +kernel
theorem dX12_isThere_40 : decode cX12_isThere 40 = .ok (.sipush 1024, 3) := by decide +kernel
theorem dX12_isThere_43 : decode cX12_isThere 43 = .ok (.iload_n 1, 1) := by decide +kernel
theorem dX12_isThere_44 : decode cX12_isThere 44 = .ok (.imul, 1) := by decide +kernel
theorem dX12_isThere_45 : decode cX12_isThere 45 = .ok (.iload_n 2, 1) := by decide +kernel
theorem dX12_isThere_46 : decode cX12_isThere 46 = .ok (.iadd, 1) := by decide +kernel
theorem dX12_isThere_47 : decode cX12_isThere 47 = .ok (.iaload, 1) := by decide +kernel
theorem dX12_isThere_48 : decode cX12_isThere 48 = .ok (.isub, 1) := by decide +kernel
theorem dX12_isThere_49 : decode cX12_isThere 49 = .ok (.aload_n 0, 1) := by decide +kernel
theorem dX12_isThere_50 : decode cX12_isThere 50 = .ok (.getfield 346, 3) := by decide +kernel
theorem dX12_isThere_53 : decode cX12_isThere 53 = .ok (.if_icmp .gt 7, 3) := by decide +kernel
theorem dX12_isThere_56 : decode cX12_isThere 56 = .ok (.iconst 1, 1) := by decide +kernel
theorem dX12_isThere_57 : decode cX12_isThere 57 = .ok (.goto 4, 3) := by decide +kernel
theorem dX12_isThere_60 : decode cX12_isThere 60 = .ok (.iconst 0, 1) := by decide +kernel
theorem dX12_isThere_61 : decode cX12_isThere 61 = .ok (.ireturn, 1) := by decide +kernel
theorem dX12_possibleIn_0 : decode cX12_possibleIn 0 = .ok (.aload_n 0, 1) := by decide +kernel
theorem dX12_possibleIn_1 : decode cX12_possibleIn 1 = .ok (.iload_n 1, 1) := by decide +kernel
theorem dX12_possibleIn_2 : decode cX12_possibleIn 2 = .ok (.invokevirtual 391, 3) := by decide +kernel
theorem dX12_possibleIn_5 : decode cX12_possibleIn 5 = .ok (.iconst 0, 1) := by decide +kernel
theorem dX12_possibleIn_6 : decode cX12_possibleIn 6 = .ok (.istore_n 3, 1) := by decide +kernel
theorem dX12_possibleIn_7 : decode cX12_possibleIn 7 = .ok (.iconst 0, 1) := by decide +kernel
theorem dX12_possibleIn_8 : decode cX12_possibleIn 8 = .ok (.istore 4, 2) := by decide +kernel
theorem dX12_possibleIn_10 : decode cX12_possibleIn 10 = .ok (.iload 4, 2) := by decide +kernel
theorem dX12_possibleIn_12 : decode cX12_possibleIn 12 = .ok (.sipush 1024, 3) := by decide +kernel
theorem dX12_possibleIn_15 : decode cX12_possibleIn 15 = .ok (.if_icmp .ge 27, 3) := by decide +kernel
theorem dX12_possibleIn_18 : decode cX12_possibleIn 18 = .ok (.iload_n 3, 1) := by decide +kernel
theorem dX12_possibleIn_19 : decode cX12_possibleIn 19 = .ok (.aload_n 0, 1) := by decide +kernel
theorem dX12_possibleIn_20 : decode cX12_possibleIn 20 = .ok (.iload_n 2, 1) := by decide +kernel
theorem dX12_possibleIn_21 : decode cX12_possibleIn 21 = .ok (.iload 4, 2) := by decide +kernel
theorem dX12_possibleIn_23 : decode cX12_possibleIn 23 = .ok (.invokevirtual 394, 3) := by decide +kernel
theorem dX12_possibleIn_26 : decode cX12_possibleIn 26 = .ok (.ifCond .eq 7, 3) := by decide +kernel
theorem dX12_possibleIn_29 : decode cX12_possibleIn 29 = .ok (.iconst 1, 1) := by decide +kernel
theorem dX12_possibleIn_30 : decode cX12_possibleIn 30 = .ok (.goto 4, 3) := by decide +kernel
theorem dX12_possibleIn_33 : decode cX12_possibleIn 33 = .ok (.iconst 0, 1) := by decide +kernel
theorem dX12_possibleIn_34 : decode cX12_possibleIn 34 = .ok (.iadd, 1) := by decide +kernel
theorem dX12_possibleIn_35 : decode cX12_possibleIn 35 = .ok (.istore_n 3, 1) := by decide +kernel
theorem dX12_possibleIn_36 : decode cX12_possibleIn 36 = .ok (.iinc 4 1, 3) := by decide +kernel
theorem dX12_possibleIn_39 : decode cX12_possibleIn 39 = .ok (.goto (-29), 3) := by decide +kernel
theorem dX12_possibleIn_42 : decode cX12_possibleIn 42 = .ok (.iload_n 3, 1) := by decide +kernel
theorem dX12_possibleIn_43 : decode cX12_possibleIn 43 = .ok (.ireturn, 1) := by decide +kernel
theorem dX12_isLine_0 : decode cX12_isLine 0 = .ok (.iload_n 1, 1) := by decide +kernel
theorem dX12_isLine_1 : decode cX12_isLine 1 = .ok (.ifCond .lt 15, 3) := by decide +kernel
theorem dX12_isLine_4 : decode cX12_isLine 4 = .ok (.iload_n 1, 1) := by decide +kernel
theorem dX12_isLine_5 : decode cX12_isLine 5 = .ok (.aload_n 0, 1) := by decide +kernel
theorem dX12_isLine_6 : decode cX12_isLine 6 = .ok (.getfield 340, 3) := by decide +kernel
theorem dX12_isLine_9 : decode cX12_isLine 9 = .ok (.if_icmp .ge 7, 3) := by decide +kernel
theorem dX12_isLine_12 : decode cX12_isLine 12 = .ok (.iconst 1, 1) := by decide +kernel
theorem dX12_isLine_13 : decode cX12_isLine 13 = .ok (.goto 4, 3) := by decide +kernel
theorem dX12_isLine_16 : decode cX12_isLine 16 = .ok (.iconst 0, 1) := by decide +kernel
theorem dX12_isLine_17 : decode cX12_isLine 17 = .ok (.ireturn, 1) := by decide +kernel
theorem dX12_possible_0 : decode cX12_possible 0 = .ok (.iload_n 1, 1) := by decide +kernel
theorem dX12_possible_1 : decode cX12_possible 1 = .ok (.iconst (-1), 1) := by decide +kernel
theorem dX12_possible_2 : decode cX12_possible 2 = .ok (.if_icmp .eq 11, 3) := by decide +kernel
theorem dX12_possible_5 : decode cX12_possible 5 = .ok (.aload_n 0, 1) := by decide +kernel
theorem dX12_possible_6 : decode cX12_possible 6 = .ok (.iload_n 1, 1) := by decide +kernel
theorem dX12_possible_7 : decode cX12_possible 7 = .ok (.invokevirtual 187, 3) := by decide +kernel
theorem dX12_possible_10 : decode cX12_possible 10 = .ok (.ifCond .eq 11, 3) := by decide +kernel
theorem dX12_possible_13 : decode cX12_possible 13 = .ok (.aload_n 0, 1) := by decide +kernel
theorem dX12_possible_14 : decode cX12_possible 14 = .ok (.iload_n 2, 1) := by decide +kernel
theorem dX12_possible_15 : decode cX12_possible 15 = .ok (.invokevirtual 397, 3) := by decide +kernel
theorem dX12_possible_18 : decode cX12_possible 18 = .ok (.ifCond .ne 6, 3) := by decide +kernel
theorem dX12_possible_21 : decode cX12_possible 21 = .ok (.bipush (-2), 2) := by decide +kernel
theorem dX12_possible_23 : decode cX12_possible 23 = .ok (.ireturn, 1) := by decide +kernel
theorem dX12_possible_24 : decode cX12_possible 24 = .ok (.iload_n 1, 1) := by decide +kernel
theorem dX12_possible_25 : decode cX12_possible 25 = .ok (.iconst (-1), 1) := by decide +kernel
theorem dX12_possible_26 : decode cX12_possible 26 = .ok (.if_icmp .eq 10, 3) := by decide +kernel
theorem dX12_possible_29 : decode cX12_possible 29 = .ok (.aload_n 0, 1) := by decide +kernel
theorem dX12_possible_30 : decode cX12_possible 30 = .ok (.iload_n 1, 1) := by decide +kernel
theorem dX12_possible_31 : decode cX12_possible 31 = .ok (.iload_n 2, 1) := by decide +kernel
theorem dX12_possible_32 : decode cX12_possible 32 = .ok (.invokevirtual 400, 3) := by decide +kernel
theorem dX12_possible_35 : decode cX12_possible 35 = .ok (.ireturn, 1) := by decide +kernel
theorem dX12_possible_36 : decode cX12_possible 36 = .ok (.iconst 0, 1) := by decide +kernel
theorem dX12_possible_37 : decode cX12_possible 37 = .ok (.istore_n 3, 1) := by decide +kernel
theorem dX12_possible_38 : decode cX12_possible 38 = .ok (.iconst 0, 1) := by decide +kernel
theorem dX12_possible_39 : decode cX12_possible 39 = .ok (.istore 4, 2) := by decide +kernel
theorem dX12_possible_41 : decode cX12_possible 41 = .ok (.iload 4, 2) := by decide +kernel
theorem dX12_possible_43 : decode cX12_possible 43 = .ok (.aload_n 0, 1) := by decide +kernel
theorem dX12_possible_44 : decode cX12_possible 44 = .ok (.getfield 154, 3) := by decide +kernel
theorem dX12_possible_47 : decode cX12_possible 47 = .ok (.if_icmp .ge 19, 3) := by decide +kernel
theorem dX12_possible_50 : decode cX12_possible 50 = .ok (.iload_n 3, 1) := by decide +kernel
theorem dX12_possible_51 : decode cX12_possible 51 = .ok (.aload_n 0, 1) := by decide +kernel
theorem dX12_possible_52 : decode cX12_possible 52 = .ok (.iload 4, 2) := by decide +kernel
theorem dX12_possible_54 : decode cX12_possible 54 = .ok (.iload_n 2, 1) := by decide +kernel
theorem dX12_possible_55 : decode cX12_possible 55 = .ok (.invokevirtual 400, 3) := by decide +kernel
theorem dX12_possible_58 : decode cX12_possible 58 = .ok (.iadd, 1) := by decide +kernel
theorem dX12_possible_59 : decode cX12_possible 59 = .ok (.istore_n 3, 1) := by decide +kernel
theorem dX12_possible_60 : decode cX12_possible 60 = .ok (.iinc 4 1, 3) := by decide +kernel
theorem dX12_possible_63 : decode cX12_possible 63 = .ok (.goto (-22), 3) := by decide +kernel
theorem dX12_possible_66 : decode cX12_possible 66 = .ok (.iload_n 3, 1) := by decide +kernel
theorem dX12_possible_67 : decode cX12_possible 67 = .ok (.ireturn, 1) := by decide +kernel
theorem dX12_isPossible_0 : decode cX12_isPossible 0 = .ok (.aload_n 0, 1) := by decide +kernel
theorem dX12_isPossible_1 : decode cX12_isPossible 1 = .ok (.iload_n 1, 1) := by decide +kernel
theorem dX12_isPossible_2 : decode cX12_isPossible 2 = .ok (.invokevirtual 187, 3) := by decide +kernel
theorem dX12_isPossible_5 : decode cX12_isPossible 5 = .ok (.ifCond .eq 20, 3) := by decide +kernel
theorem dX12_isPossible_8 : decode cX12_isPossible 8 = .ok (.aload_n 0, 1) := by decide +kernel
theorem dX12_isPossible_9 : decode cX12_isPossible 9 = .ok (.iload_n 2, 1) := by decide +kernel
theorem dX12_isPossible_10 : decode cX12_isPossible 10 = .ok (.invokevirtual 397, 3) := by decide +kernel
theorem dX12_isPossible_13 : decode cX12_isPossible 13 = .ok (.ifCond .eq 12, 3) := by decide +kernel
theorem dX12_isPossible_16 : decode cX12_isPossible 16 = .ok (.iload_n 3, 1) := by decide +kernel
theorem dX12_isPossible_17 : decode cX12_isPossible 17 = .ok (.iload 4, 2) := by decide +kernel
theorem dX12_isPossible_19 : decode cX12_isPossible 19 = .ok (.invokestatic 190, 3) := by decide +kernel
theorem dX12_isPossible_22 : decode cX12_isPossible 22 = .ok (.ifCond .ne 5, 3) := by decide +kernel
theorem dX12_isPossible_25 : decode cX12_isPossible 25 = .ok (.iconst (-1), 1) := by decide +kernel
theorem dX12_isPossible_26 : decode cX12_isPossible 26 = .ok (.ireturn, 1) := by decide +kernel
theorem dX12_isPossible_27 : decode cX12_isPossible 27 = .ok (.aload_n 0, 1) := by decide +kernel
theorem dX12_isPossible_28 : decode cX12_isPossible 28 = .ok (.iload_n 1, 1) := by decide +kernel
theorem dX12_isPossible_29 : decode cX12_isPossible 29 = .ok (.invokevirtual 391, 3) := by decide +kernel
theorem dX12_isPossible_32 : decode cX12_isPossible 32 = .ok (.aload_n 0, 1) := by decide +kernel
theorem dX12_isPossible_33 : decode cX12_isPossible 33 = .ok (.iload_n 2, 1) := by decide +kernel
theorem dX12_isPossible_34 : decode cX12_isPossible 34 = .ok (.bipush 32, 2) := by decide +kernel
theorem dX12_isPossible_36 : decode cX12_isPossible 36 = .ok (.iload 4, 2) := by decide +kernel
theorem dX12_isPossible_38 : decode cX12_isPossible 38 = .ok (.imul, 1) := by decide +kernel
theorem dX12_isPossible_39 : decode cX12_isPossible 39 = .ok (.iload_n 3, 1) := by decide +kernel
theorem dX12_isPossible_40 : decode cX12_isPossible 40 = .ok (.iadd, 1) := by decide +kernel
theorem dX12_isPossible_41 : decode cX12_isPossible 41 = .ok (.invokevirtual 394, 3) := by decide +kernel
theorem dX12_isPossible_44 : decode cX12_isPossible 44 = .ok (.ifCond .eq 7, 3) := by decide +kernel
theorem dX12_isPossible_47 : decode cX12_isPossible 47 = .ok (.iconst 1, 1) := by decide +kernel
theorem dX12_isPossible_48 : decode cX12_isPossible 48 = .ok (.goto 4, 3) := by decide +kernel
theorem dX12_isPossible_51 : decode cX12_isPossible 51 = .ok (.iconst 0, 1) := by decide +kernel
theorem dX12_isPossible_52 : decode cX12_isPossible 52 = .ok (.ireturn, 1) := by decide +kernel
theorem dX12_laysFitting_0 : decode cX12_laysFitting 0 = .ok (.aload_n 0, 1) := by decide +kernel
theorem dX12_laysFitting_1 : decode cX12_laysFitting 1 = .ok (.iconst 0, 1) := by decide +kernel
theorem dX12_laysFitting_2 : decode cX12_laysFitting 2 = .ok (.putfield 403, 3) := by decide +kernel
theorem dX12_laysFitting_5 : decode cX12_laysFitting 5 = .ok (.iconst 0, 1) := by decide +kernel
theorem dX12_laysFitting_6 : decode cX12_laysFitting 6 = .ok (.istore_n 1, 1) := by decide +kernel
theorem dX12_laysFitting_7 : decode cX12_laysFitting 7 = .ok (.iload_n 1, 1) := by decide +kernel
theorem dX12_laysFitting_8 : decode cX12_laysFitting 8 = .ok (.aload_n 0, 1) := by decide +kernel
theorem dX12_laysFitting_9 : decode cX12_laysFitting 9 = .ok (.getfield 154, 3) := by decide +kernel
theorem dX12_laysFitting_12 : decode cX12_laysFitting 12 = .ok (.if_icmp .ge 29, 3) := by decide +kernel
theorem dX12_laysFitting_15 : decode cX12_laysFitting 15 = .ok (.aload_n 0, 1) := by decide +kernel
theorem dX12_laysFitting_16 : decode cX12_laysFitting 16 = .ok (.iload_n 1, 1) := by decide +kernel
theorem dX12_laysFitting_17 : decode cX12_laysFitting 17 = .ok (.invokevirtual 385, 3) := by decide +kernel
theorem dX12_laysFitting_20 : decode cX12_laysFitting 20 = .ok (.ifCond .eq 15, 3) := by decide +kernel
theorem dX12_laysFitting_23 : decode cX12_laysFitting 23 = .ok (.aload_n 0, 1) := by decide +kernel
theorem dX12_laysFitting_24 : decode cX12_laysFitting 24 = .ok (.aload_n 0, 1) := by decide +kernel
theorem dX12_laysFitting_25 : decode cX12_laysFitting 25 = .ok (.getfield 403, 3) := by decide +kernel
theorem dX12_laysFitting_28 : decode cX12_laysFitting 28 = .ok (.iconst 1, 1) := by decide +kernel
theorem dX12_laysFitting_29 : decode cX12_laysFitting 29 = .ok (.iload_n 1, 1) := by decide +kernel
theorem dX12_laysFitting_30 : decode cX12_laysFitting 30 = .ok (.ishl, 1) := by decide +kernel
theorem dX12_laysFitting_31 : decode cX12_laysFitting 31 = .ok (.ior, 1) := by decide +kernel
theorem dX12_laysFitting_32 : decode cX12_laysFitting 32 = .ok (.putfield 403, 3) := by decide +kernel
theorem dX12_laysFitting_35 : decode cX12_laysFitting 35 = .ok (.iinc 1 1, 3) := by decide +kernel
theorem dX12_laysFitting_38 : decode cX12_laysFitting 38 = .ok (.goto (-31), 3) := by decide +kernel
theorem dX12_laysFitting_41 : decode cX12_laysFitting 41 = .ok (.return_, 1) := by decide +kernel
theorem dX12_lowest_0 : decode cX12_lowest 0 = .ok (.iconst 0, 1) := by decide +kernel
theorem dX12_lowest_1 : decode cX12_lowest 1 = .ok (.istore_n 3, 1) := by decide +kernel
theorem dX12_lowest_2 : decode cX12_lowest 2 = .ok (.iload_n 3, 1) := by decide +kernel
theorem dX12_lowest_3 : decode cX12_lowest 3 = .ok (.aload_n 0, 1) := by decide +kernel
theorem dX12_lowest_4 : decode cX12_lowest 4 = .ok (.getfield 154, 3) := by decide +kernel
theorem dX12_lowest_7 : decode cX12_lowest 7 = .ok (.if_icmp .ge 39, 3) := by decide +kernel
theorem dX12_lowest_10 : decode cX12_lowest 10 = .ok (.aload_n 0, 1) := by decide +kernel
theorem dX12_lowest_11 : decode cX12_lowest 11 = .ok (.getfield 403, 3) := by decide +kernel
theorem dX12_lowest_14 : decode cX12_lowest 14 = .ok (.iload_n 3, 1) := by decide +kernel
theorem dX12_lowest_15 : decode cX12_lowest 15 = .ok (.ishr, 1) := by decide +kernel
theorem dX12_lowest_16 : decode cX12_lowest 16 = .ok (.iconst 1, 1) := by decide +kernel
theorem dX12_lowest_17 : decode cX12_lowest 17 = .ok (.iand, 1) := by decide +kernel
theorem dX12_lowest_18 : decode cX12_lowest 18 = .ok (.iconst 1, 1) := by decide +kernel
theorem dX12_lowest_19 : decode cX12_lowest 19 = .ok (.if_icmp .ne 21, 3) := by decide +kernel
theorem dX12_lowest_22 : decode cX12_lowest 22 = .ok (.aload_n 0, 1) := by decide +kernel
theorem dX12_lowest_23 : decode cX12_lowest 23 = .ok (.getfield 22, 3) := by decide +kernel
theorem dX12_lowest_26 : decode cX12_lowest 26 = .ok (.sipush 1024, 3) := by decide +kernel
theorem dX12_lowest_29 : decode cX12_lowest 29 = .ok (.iload_n 3, 1) := by decide +kernel
theorem dX12_lowest_30 : decode cX12_lowest 30 = .ok (.imul, 1) := by decide +kernel
theorem dX12_lowest_31 : decode cX12_lowest 31 = .ok (.iload_n 1, 1) := by decide +kernel
theorem dX12_lowest_32 : decode cX12_lowest 32 = .ok (.iadd, 1) := by decide +kernel
theorem dX12_lowest_33 : decode cX12_lowest 33 = .ok (.baload, 1) := by decide +kernel
theorem dX12_lowest_34 : decode cX12_lowest 34 = .ok (.iload_n 2, 1) := by decide +kernel
theorem dX12_lowest_35 : decode cX12_lowest 35 = .ok (.if_icmp .ne 5, 3) := by decide +kernel
theorem dX12_lowest_38 : decode cX12_lowest 38 = .ok (.iload_n 3, 1) := by decide +kernel
theorem dX12_lowest_39 : decode cX12_lowest 39 = .ok (.ireturn, 1) := by decide +kernel
theorem dX12_lowest_40 : decode cX12_lowest 40 = .ok (.iinc 3 1, 3) := by decide +kernel
theorem dX12_lowest_43 : decode cX12_lowest 43 = .ok (.goto (-41), 3) := by decide +kernel
theorem dX12_lowest_46 : decode cX12_lowest 46 = .ok (.iconst (-1), 1) := by decide +kernel
theorem dX12_lowest_47 : decode cX12_lowest 47 = .ok (.ireturn, 1) := by decide +kernel
theorem dX12_isSurelyWater_0 : decode cX12_isSurelyWater 0 = .ok (.aload_n 0, 1) := by decide +kernel
theorem dX12_isSurelyWater_1 : decode cX12_isSurelyWater 1 = .ok (.iload_n 1, 1) := by decide +kernel
theorem dX12_isSurelyWater_2 : decode cX12_isSurelyWater 2 = .ok (.iconst 1, 1) := by decide +kernel
theorem dX12_isSurelyWater_3 : decode cX12_isSurelyWater 3 = .ok (.invokevirtual 406, 3) := by decide +kernel
theorem dX12_isSurelyWater_6 : decode cX12_isSurelyWater 6 = .ok (.iconst (-1), 1) := by decide +kernel
theorem dX12_isSurelyWater_7 : decode cX12_isSurelyWater 7 = .ok (.if_icmp .ne 7, 3) := by decide +kernel
theorem dX12_isSurelyWater_10 : decode cX12_isSurelyWater 10 = .ok (.iconst 1, 1) := by decide +kernel
theorem dX12_isSurelyWater_11 : decode cX12_isSurelyWater 11 = .ok (.goto 4, 3) := by decide +kernel
theorem dX12_isSurelyWater_14 : decode cX12_isSurelyWater 14 = .ok (.iconst 0, 1) := by decide +kernel
theorem dX12_isSurelyWater_15 : decode cX12_isSurelyWater 15 = .ok (.ireturn, 1) := by decide +kernel
theorem dX12_sure_0 : decode cX12_sure 0 = .ok (.iload_n 1, 1) := by decide +kernel
theorem dX12_sure_1 : decode cX12_sure 1 = .ok (.iload_n 2, 1) := by decide +kernel
theorem dX12_sure_2 : decode cX12_sure 2 = .ok (.invokestatic 190, 3) := by decide +kernel
theorem dX12_sure_5 : decode cX12_sure 5 = .ok (.ifCond .eq 12, 3) := by decide +kernel
theorem dX12_sure_8 : decode cX12_sure 8 = .ok (.iload_n 3, 1) := by decide +kernel
theorem dX12_sure_9 : decode cX12_sure 9 = .ok (.iconst 0, 1) := by decide +kernel
theorem dX12_sure_10 : decode cX12_sure 10 = .ok (.iconst 2, 1) := by decide +kernel
theorem dX12_sure_11 : decode cX12_sure 11 = .ok (.invokestatic 173, 3) := by decide +kernel
theorem dX12_sure_14 : decode cX12_sure 14 = .ok (.ifCond .ne 6, 3) := by decide +kernel
theorem dX12_sure_17 : decode cX12_sure 17 = .ok (.bipush (-3), 2) := by decide +kernel
theorem dX12_sure_19 : decode cX12_sure 19 = .ok (.ireturn, 1) := by decide +kernel
theorem dX12_sure_20 : decode cX12_sure 20 = .ok (.aload_n 0, 1) := by decide +kernel
theorem dX12_sure_21 : decode cX12_sure 21 = .ok (.invokevirtual 410, 3) := by decide +kernel
theorem dX12_sure_24 : decode cX12_sure 24 = .ok (.aload_n 0, 1) := by decide +kernel
theorem dX12_sure_25 : decode cX12_sure 25 = .ok (.getfield 403, 3) := by decide +kernel
theorem dX12_sure_28 : decode cX12_sure 28 = .ok (.ifCond .ne 6, 3) := by decide +kernel
theorem dX12_sure_31 : decode cX12_sure 31 = .ok (.bipush (-2), 2) := by decide +kernel
theorem dX12_sure_33 : decode cX12_sure 33 = .ok (.ireturn, 1) := by decide +kernel
theorem dX12_sure_34 : decode cX12_sure 34 = .ok (.aload_n 0, 1) := by decide +kernel
theorem dX12_sure_35 : decode cX12_sure 35 = .ok (.bipush 32, 2) := by decide +kernel
theorem dX12_sure_37 : decode cX12_sure 37 = .ok (.iload_n 2, 1) := by decide +kernel
theorem dX12_sure_38 : decode cX12_sure 38 = .ok (.imul, 1) := by decide +kernel
theorem dX12_sure_39 : decode cX12_sure 39 = .ok (.iload_n 1, 1) := by decide +kernel
theorem dX12_sure_40 : decode cX12_sure 40 = .ok (.iadd, 1) := by decide +kernel
theorem dX12_sure_41 : decode cX12_sure 41 = .ok (.iconst 1, 1) := by decide +kernel
theorem dX12_sure_42 : decode cX12_sure 42 = .ok (.invokevirtual 406, 3) := by decide +kernel
theorem dX12_sure_45 : decode cX12_sure 45 = .ok (.istore 4, 2) := by decide +kernel
theorem dX12_sure_47 : decode cX12_sure 47 = .ok (.aload_n 0, 1) := by decide +kernel
theorem dX12_sure_48 : decode cX12_sure 48 = .ok (.bipush 32, 2) := by decide +kernel
theorem dX12_sure_50 : decode cX12_sure 50 = .ok (.iload_n 2, 1) := by decide +kernel
theorem dX12_sure_51 : decode cX12_sure 51 = .ok (.imul, 1) := by decide +kernel
theorem dX12_sure_52 : decode cX12_sure 52 = .ok (.iload_n 1, 1) := by decide +kernel
theorem dX12_sure_53 : decode cX12_sure 53 = .ok (.iadd, 1) := by decide +kernel
theorem dX12_sure_54 : decode cX12_sure 54 = .ok (.iconst 0, 1) := by decide +kernel
theorem dX12_sure_55 : decode cX12_sure 55 = .ok (.invokevirtual 406, 3) := by decide +kernel
theorem dX12_sure_58 : decode cX12_sure 58 = .ok (.istore 5, 2) := by decide +kernel
theorem dX12_sure_60 : decode cX12_sure 60 = .ok (.iload_n 3, 1) := by decide +kernel
theorem dX12_sure_61 : decode cX12_sure 61 = .ok (.ifCond .le 16, 3) := by decide +kernel
theorem dX12_sure_64 : decode cX12_sure 64 = .ok (.iload_n 3, 1) := by decide +kernel
theorem dX12_sure_65 : decode cX12_sure 65 = .ok (.iconst 1, 1) := by decide +kernel
theorem dX12_sure_66 : decode cX12_sure 66 = .ok (.if_icmp .ne 8, 3) := by decide +kernel
theorem dX12_sure_69 : decode cX12_sure 69 = .ok (.iload 4, 2) := by decide +kernel
theorem dX12_sure_71 : decode cX12_sure 71 = .ok (.goto 5, 3) := by decide +kernel
theorem dX12_sure_74 : decode cX12_sure 74 = .ok (.iload 5, 2) := by decide +kernel
theorem dX12_sure_76 : decode cX12_sure 76 = .ok (.ireturn, 1) := by decide +kernel
theorem dX12_sure_77 : decode cX12_sure 77 = .ok (.iload 5, 2) := by decide +kernel
theorem dX12_sure_79 : decode cX12_sure 79 = .ok (.iconst (-1), 1) := by decide +kernel
theorem dX12_sure_80 : decode cX12_sure 80 = .ok (.if_icmp .ne 7, 3) := by decide +kernel
theorem dX12_sure_83 : decode cX12_sure 83 = .ok (.iconst 0, 1) := by decide +kernel
theorem dX12_sure_84 : decode cX12_sure 84 = .ok (.goto 14, 3) := by decide +kernel
theorem dX12_sure_87 : decode cX12_sure 87 = .ok (.iload 4, 2) := by decide +kernel
theorem dX12_sure_89 : decode cX12_sure 89 = .ok (.iconst (-1), 1) := by decide +kernel
theorem dX12_sure_90 : decode cX12_sure 90 = .ok (.if_icmp .ne 7, 3) := by decide +kernel
theorem dX12_sure_93 : decode cX12_sure 93 = .ok (.iconst 1, 1) := by decide +kernel
theorem dX12_sure_94 : decode cX12_sure 94 = .ok (.goto 4, 3) := by decide +kernel
theorem dX12_sure_97 : decode cX12_sure 97 = .ok (.iconst 2, 1) := by decide +kernel
theorem dX12_sure_98 : decode cX12_sure 98 = .ok (.ireturn, 1) := by decide +kernel
theorem dX12_choice_0 : decode cX12_choice 0 = .ok (.iload_n 1, 1) := by decide +kernel
theorem dX12_choice_1 : decode cX12_choice 1 = .ok (.iconst 0, 1) := by decide +kernel
theorem dX12_choice_2 : decode cX12_choice 2 = .ok (.iconst 5, 1) := by decide +kernel
theorem dX12_choice_3 : decode cX12_choice 3 = .ok (.invokestatic 173, 3) := by decide +kernel
theorem dX12_choice_6 : decode cX12_choice 6 = .ok (.ifCond .eq 33, 3) := by decide +kernel
theorem dX12_choice_9 : decode cX12_choice 9 = .ok (.iload_n 2, 1) := by decide +kernel
theorem dX12_choice_10 : decode cX12_choice 10 = .ok (.bipush (-9), 2) := by decide +kernel
theorem dX12_choice_12 : decode cX12_choice 12 = .ok (.bipush 9, 2) := by decide +kernel
theorem dX12_choice_14 : decode cX12_choice 14 = .ok (.invokestatic 173, 3) := by decide +kernel
theorem dX12_choice_17 : decode cX12_choice 17 = .ok (.ifCond .eq 22, 3) := by decide +kernel
theorem dX12_choice_20 : decode cX12_choice 20 = .ok (.iload_n 3, 1) := by decide +kernel
theorem dX12_choice_21 : decode cX12_choice 21 = .ok (.bipush (-9), 2) := by decide +kernel
theorem dX12_choice_23 : decode cX12_choice 23 = .ok (.bipush 9, 2) := by decide +kernel
theorem dX12_choice_25 : decode cX12_choice 25 = .ok (.invokestatic 173, 3) := by decide +kernel
theorem dX12_choice_28 : decode cX12_choice 28 = .ok (.ifCond .eq 11, 3) := by decide +kernel
theorem dX12_choice_31 : decode cX12_choice 31 = .ok (.iload 4, 2) := by decide +kernel
theorem dX12_choice_33 : decode cX12_choice 33 = .ok (.invokestatic 212, 3) := by decide +kernel
theorem dX12_choice_36 : decode cX12_choice 36 = .ok (.ifCond .ne 5, 3) := by decide +kernel
theorem dX12_choice_39 : decode cX12_choice 39 = .ok (.iconst 0, 1) := by decide +kernel
theorem dX12_choice_40 : decode cX12_choice 40 = .ok (.ireturn, 1) := by decide +kernel
theorem dX12_choice_41 : decode cX12_choice 41 = .ok (.aload_n 0, 1) := by decide +kernel
theorem dX12_choice_42 : decode cX12_choice 42 = .ok (.getfield 111, 3) := by decide +kernel
theorem dX12_choice_45 : decode cX12_choice 45 = .ok (.iload_n 1, 1) := by decide +kernel
theorem dX12_choice_46 : decode cX12_choice 46 = .ok (.iload_n 2, 1) := by decide +kernel
theorem dX12_choice_47 : decode cX12_choice 47 = .ok (.iastore, 1) := by decide +kernel
theorem dX12_choice_48 : decode cX12_choice 48 = .ok (.aload_n 0, 1) := by decide +kernel
theorem dX12_choice_49 : decode cX12_choice 49 = .ok (.getfield 114, 3) := by decide +kernel
theorem dX12_choice_52 : decode cX12_choice 52 = .ok (.iload_n 1, 1) := by decide +kernel
theorem dX12_choice_53 : decode cX12_choice 53 = .ok (.iload_n 3, 1) := by decide +kernel
theorem dX12_choice_54 : decode cX12_choice 54 = .ok (.iastore, 1) := by decide +kernel
theorem dX12_choice_55 : decode cX12_choice 55 = .ok (.aload_n 0, 1) := by decide +kernel
theorem dX12_choice_56 : decode cX12_choice 56 = .ok (.getfield 117, 3) := by decide +kernel
theorem dX12_choice_59 : decode cX12_choice 59 = .ok (.iload_n 1, 1) := by decide +kernel
theorem dX12_choice_60 : decode cX12_choice 60 = .ok (.iload 4, 2) := by decide +kernel
theorem dX12_choice_62 : decode cX12_choice 62 = .ok (.iastore, 1) := by decide +kernel
theorem dX12_choice_63 : decode cX12_choice 63 = .ok (.aload_n 0, 1) := by decide +kernel
theorem dX12_choice_64 : decode cX12_choice 64 = .ok (.aload_n 0, 1) := by decide +kernel
theorem dX12_choice_65 : decode cX12_choice 65 = .ok (.getfield 413, 3) := by decide +kernel
theorem dX12_choice_68 : decode cX12_choice 68 = .ok (.iconst 1, 1) := by decide +kernel
theorem dX12_choice_69 : decode cX12_choice 69 = .ok (.iload_n 1, 1) := by decide +kernel
theorem dX12_choice_70 : decode cX12_choice 70 = .ok (.ishl, 1) := by decide +kernel
theorem dX12_choice_71 : decode cX12_choice 71 = .ok (.ior, 1) := by decide +kernel
theorem dX12_choice_72 : decode cX12_choice 72 = .ok (.putfield 413, 3) := by decide +kernel
theorem dX12_choice_75 : decode cX12_choice 75 = .ok (.iconst 1, 1) := by decide +kernel
theorem dX12_choice_76 : decode cX12_choice 76 = .ok (.ireturn, 1) := by decide +kernel
theorem dX12_laysStates_0 : decode cX12_laysStates 0 = .ok (.aload_n 0, 1) := by decide +kernel
theorem dX12_laysStates_1 : decode cX12_laysStates 1 = .ok (.iconst 0, 1) := by decide +kernel
theorem dX12_laysStates_2 : decode cX12_laysStates 2 = .ok (.putfield 416, 3) := by decide +kernel
theorem dX12_laysStates_5 : decode cX12_laysStates 5 = .ok (.iconst 0, 1) := by decide +kernel
theorem dX12_laysStates_6 : decode cX12_laysStates 6 = .ok (.istore_n 1, 1) := by decide +kernel
theorem dX12_laysStates_7 : decode cX12_laysStates 7 = .ok (.iload_n 1, 1) := by decide +kernel
theorem dX12_laysStates_8 : decode cX12_laysStates 8 = .ok (.aload_n 0, 1) := by decide +kernel
theorem dX12_laysStates_9 : decode cX12_laysStates 9 = .ok (.getfield 154, 3) := by decide +kernel
theorem dX12_laysStates_12 : decode cX12_laysStates 12 = .ok (.if_icmp .ge 83, 3) := by decide +kernel
theorem dX12_laysStates_15 : decode cX12_laysStates 15 = .ok (.aload_n 0, 1) := by decide +kernel
theorem dX12_laysStates_16 : decode cX12_laysStates 16 = .ok (.getfield 340, 3) := by decide +kernel
theorem dX12_laysStates_19 : decode cX12_laysStates 19 = .ok (.ifCond .le 76, 3) := by decide +kernel
theorem dX12_laysStates_22 : decode cX12_laysStates 22 = .ok (.aload_n 0, 1) := by decide +kernel
theorem dX12_laysStates_23 : decode cX12_laysStates 23 = .ok (.iload_n 1, 1) := by decide +kernel
theorem dX12_laysStates_24 : decode cX12_laysStates 24 = .ok (.invokevirtual 391, 3) := by decide +kernel
theorem dX12_laysStates_27 : decode cX12_laysStates 27 = .ok (.iconst 0, 1) := by decide +kernel
theorem dX12_laysStates_28 : decode cX12_laysStates 28 = .ok (.istore_n 2, 1) := by decide +kernel
theorem dX12_laysStates_29 : decode cX12_laysStates 29 = .ok (.iload_n 2, 1) := by decide +kernel
theorem dX12_laysStates_30 : decode cX12_laysStates 30 = .ok (.sipush 1024, 3) := by decide +kernel
theorem dX12_laysStates_33 : decode cX12_laysStates 33 = .ok (.if_icmp .ge 56, 3) := by decide +kernel
theorem dX12_laysStates_36 : decode cX12_laysStates 36 = .ok (.aload_n 0, 1) := by decide +kernel
theorem dX12_laysStates_37 : decode cX12_laysStates 37 = .ok (.aload_n 0, 1) := by decide +kernel
theorem dX12_laysStates_38 : decode cX12_laysStates 38 = .ok (.getfield 340, 3) := by decide +kernel
theorem dX12_laysStates_41 : decode cX12_laysStates 41 = .ok (.iconst 1, 1) := by decide +kernel
theorem dX12_laysStates_42 : decode cX12_laysStates 42 = .ok (.isub, 1) := by decide +kernel
theorem dX12_laysStates_43 : decode cX12_laysStates 43 = .ok (.iload_n 2, 1) := by decide +kernel
theorem dX12_laysStates_44 : decode cX12_laysStates 44 = .ok (.invokevirtual 394, 3) := by decide +kernel
theorem dX12_laysStates_47 : decode cX12_laysStates 47 = .ok (.ifCond .ne 6, 3) := by decide +kernel
theorem dX12_laysStates_50 : decode cX12_laysStates 50 = .ok (.goto 33, 3) := by decide +kernel
theorem dX12_laysStates_53 : decode cX12_laysStates 53 = .ok (.aload_n 0, 1) := by decide +kernel
theorem dX12_laysStates_54 : decode cX12_laysStates 54 = .ok (.getfield 120, 3) := by decide +kernel
theorem dX12_laysStates_57 : decode cX12_laysStates 57 = .ok (.aload_n 0, 1) := by decide +kernel
theorem dX12_laysStates_58 : decode cX12_laysStates 58 = .ok (.getfield 416, 3) := by decide +kernel
theorem dX12_laysStates_61 : decode cX12_laysStates 61 = .ok (.iload_n 1, 1) := by decide +kernel
theorem dX12_laysStates_62 : decode cX12_laysStates 62 = .ok (.iastore, 1) := by decide +kernel
theorem dX12_laysStates_63 : decode cX12_laysStates 63 = .ok (.aload_n 0, 1) := by decide +kernel
theorem dX12_laysStates_64 : decode cX12_laysStates 64 = .ok (.getfield 123, 3) := by decide +kernel
theorem dX12_laysStates_67 : decode cX12_laysStates 67 = .ok (.aload_n 0, 1) := by decide +kernel
theorem dX12_laysStates_68 : decode cX12_laysStates 68 = .ok (.getfield 416, 3) := by decide +kernel
theorem dX12_laysStates_71 : decode cX12_laysStates 71 = .ok (.iload_n 2, 1) := by decide +kernel
theorem dX12_laysStates_72 : decode cX12_laysStates 72 = .ok (.iastore, 1) := by decide +kernel
theorem dX12_laysStates_73 : decode cX12_laysStates 73 = .ok (.aload_n 0, 1) := by decide +kernel
theorem dX12_laysStates_74 : decode cX12_laysStates 74 = .ok (.aload_n 0, 1) := by decide +kernel
theorem dX12_laysStates_75 : decode cX12_laysStates 75 = .ok (.getfield 416, 3) := by decide +kernel
theorem dX12_laysStates_78 : decode cX12_laysStates 78 = .ok (.iconst 1, 1) := by decide +kernel
theorem dX12_laysStates_79 : decode cX12_laysStates 79 = .ok (.iadd, 1) := by decide +kernel
theorem dX12_laysStates_80 : decode cX12_laysStates 80 = .ok (.putfield 416, 3) := by decide +kernel
theorem dX12_laysStates_83 : decode cX12_laysStates 83 = .ok (.iinc 2 1, 3) := by decide +kernel
theorem dX12_laysStates_86 : decode cX12_laysStates 86 = .ok (.goto (-57), 3) := by decide +kernel
theorem dX12_laysStates_89 : decode cX12_laysStates 89 = .ok (.iinc 1 1, 3) := by decide +kernel
theorem dX12_laysStates_92 : decode cX12_laysStates 92 = .ok (.goto (-85), 3) := by decide +kernel
theorem dX12_laysStates_95 : decode cX12_laysStates 95 = .ok (.return_, 1) := by decide +kernel
theorem dX12_isChoice_0 : decode cX12_isChoice 0 = .ok (.aload_n 0, 1) := by decide +kernel
theorem dX12_isChoice_1 : decode cX12_isChoice 1 = .ok (.getfield 413, 3) := by decide +kernel
theorem dX12_isChoice_4 : decode cX12_isChoice 4 = .ok (.iload_n 1, 1) := by decide +kernel
theorem dX12_isChoice_5 : decode cX12_isChoice 5 = .ok (.ishr, 1) := by decide +kernel
theorem dX12_isChoice_6 : decode cX12_isChoice 6 = .ok (.iconst 1, 1) := by decide +kernel
theorem dX12_isChoice_7 : decode cX12_isChoice 7 = .ok (.iand, 1) := by decide +kernel
theorem dX12_isChoice_8 : decode cX12_isChoice 8 = .ok (.iconst 1, 1) := by decide +kernel
theorem dX12_isChoice_9 : decode cX12_isChoice 9 = .ok (.if_icmp .ne 7, 3) := by decide +kernel
theorem dX12_isChoice_12 : decode cX12_isChoice 12 = .ok (.iconst 1, 1) := by decide +kernel
theorem dX12_isChoice_13 : decode cX12_isChoice 13 = .ok (.goto 4, 3) := by decide +kernel
theorem dX12_isChoice_16 : decode cX12_isChoice 16 = .ok (.iconst 0, 1) := by decide +kernel
theorem dX12_isChoice_17 : decode cX12_isChoice 17 = .ok (.ireturn, 1) := by decide +kernel
theorem dX12_movedBy_0 : decode cX12_movedBy 0 = .ok (.iload_n 2, 1) := by decide +kernel
theorem dX12_movedBy_1 : decode cX12_movedBy 1 = .ok (.bipush 32, 2) := by decide +kernel
theorem dX12_movedBy_3 : decode cX12_movedBy 3 = .ok (.irem, 1) := by decide +kernel
theorem dX12_movedBy_4 : decode cX12_movedBy 4 = .ok (.aload_n 0, 1) := by decide +kernel
theorem dX12_movedBy_5 : decode cX12_movedBy 5 = .ok (.getfield 111, 3) := by decide +kernel
theorem dX12_movedBy_8 : decode cX12_movedBy 8 = .ok (.iload_n 3, 1) := by decide +kernel
theorem dX12_movedBy_9 : decode cX12_movedBy 9 = .ok (.iaload, 1) := by decide +kernel
theorem dX12_movedBy_10 : decode cX12_movedBy 10 = .ok (.iadd, 1) := by decide +kernel
theorem dX12_movedBy_11 : decode cX12_movedBy 11 = .ok (.istore 4, 2) := by decide +kernel
theorem dX12_movedBy_13 : decode cX12_movedBy 13 = .ok (.iload_n 2, 1) := by decide +kernel
theorem dX12_movedBy_14 : decode cX12_movedBy 14 = .ok (.bipush 32, 2) := by decide +kernel
theorem dX12_movedBy_16 : decode cX12_movedBy 16 = .ok (.idiv, 1) := by decide +kernel
theorem dX12_movedBy_17 : decode cX12_movedBy 17 = .ok (.aload_n 0, 1) := by decide +kernel
theorem dX12_movedBy_18 : decode cX12_movedBy 18 = .ok (.getfield 114, 3) := by decide +kernel
theorem dX12_movedBy_21 : decode cX12_movedBy 21 = .ok (.iload_n 3, 1) := by decide +kernel
theorem dX12_movedBy_22 : decode cX12_movedBy 22 = .ok (.iaload, 1) := by decide +kernel
theorem dX12_movedBy_23 : decode cX12_movedBy 23 = .ok (.iadd, 1) := by decide +kernel
theorem dX12_movedBy_24 : decode cX12_movedBy 24 = .ok (.istore 5, 2) := by decide +kernel
theorem dX12_movedBy_26 : decode cX12_movedBy 26 = .ok (.iload 4, 2) := by decide +kernel
theorem dX12_movedBy_28 : decode cX12_movedBy 28 = .ok (.iload 5, 2) := by decide +kernel
theorem dX12_movedBy_30 : decode cX12_movedBy 30 = .ok (.invokestatic 190, 3) := by decide +kernel
theorem dX12_movedBy_33 : decode cX12_movedBy 33 = .ok (.ifCond .eq 15, 3) := by decide +kernel
theorem dX12_movedBy_36 : decode cX12_movedBy 36 = .ok (.aload_n 0, 1) := by decide +kernel
theorem dX12_movedBy_37 : decode cX12_movedBy 37 = .ok (.iload_n 1, 1) := by decide +kernel
theorem dX12_movedBy_38 : decode cX12_movedBy 38 = .ok (.iload 4, 2) := by decide +kernel
theorem dX12_movedBy_40 : decode cX12_movedBy 40 = .ok (.iload 5, 2) := by decide +kernel
theorem dX12_movedBy_42 : decode cX12_movedBy 42 = .ok (.invokevirtual 193, 3) := by decide +kernel
theorem dX12_movedBy_45 : decode cX12_movedBy 45 = .ok (.ifCond .eq 7, 3) := by decide +kernel
theorem dX12_movedBy_48 : decode cX12_movedBy 48 = .ok (.iconst (-1), 1) := by decide +kernel
theorem dX12_movedBy_49 : decode cX12_movedBy 49 = .ok (.goto 11, 3) := by decide +kernel
theorem dX12_movedBy_52 : decode cX12_movedBy 52 = .ok (.bipush 32, 2) := by decide +kernel
theorem dX12_movedBy_54 : decode cX12_movedBy 54 = .ok (.iload 5, 2) := by decide +kernel
theorem dX12_movedBy_56 : decode cX12_movedBy 56 = .ok (.imul, 1) := by decide +kernel
theorem dX12_movedBy_57 : decode cX12_movedBy 57 = .ok (.iload 4, 2) := by decide +kernel
theorem dX12_movedBy_59 : decode cX12_movedBy 59 = .ok (.iadd, 1) := by decide +kernel
theorem dX12_movedBy_60 : decode cX12_movedBy 60 = .ok (.ireturn, 1) := by decide +kernel
theorem dX12_countAt_0 : decode cX12_countAt 0 = .ok (.aload_n 0, 1) := by decide +kernel
theorem dX12_countAt_1 : decode cX12_countAt 1 = .ok (.iload_n 1, 1) := by decide +kernel
theorem dX12_countAt_2 : decode cX12_countAt 2 = .ok (.iload_n 2, 1) := by decide +kernel
theorem dX12_countAt_3 : decode cX12_countAt 3 = .ok (.bipush 32, 2) := by decide +kernel
theorem dX12_countAt_5 : decode cX12_countAt 5 = .ok (.irem, 1) := by decide +kernel
theorem dX12_countAt_6 : decode cX12_countAt 6 = .ok (.iload_n 2, 1) := by decide +kernel
theorem dX12_countAt_7 : decode cX12_countAt 7 = .ok (.bipush 32, 2) := by decide +kernel
theorem dX12_countAt_9 : decode cX12_countAt 9 = .ok (.idiv, 1) := by decide +kernel
theorem dX12_countAt_10 : decode cX12_countAt 10 = .ok (.aload_n 0, 1) := by decide +kernel
theorem dX12_countAt_11 : decode cX12_countAt 11 = .ok (.getfield 117, 3) := by decide +kernel
theorem dX12_countAt_14 : decode cX12_countAt 14 = .ok (.iload_n 3, 1) := by decide +kernel
theorem dX12_countAt_15 : decode cX12_countAt 15 = .ok (.iaload, 1) := by decide +kernel
theorem dX12_countAt_16 : decode cX12_countAt 16 = .ok (.invokevirtual 215, 3) := by decide +kernel
theorem dX12_countAt_19 : decode cX12_countAt 19 = .ok (.ireturn, 1) := by decide +kernel
theorem dX12_mayBeSilent_0 : decode cX12_mayBeSilent 0 = .ok (.aload_n 0, 1) := by decide +kernel
theorem dX12_mayBeSilent_1 : decode cX12_mayBeSilent 1 = .ok (.iload_n 1, 1) := by decide +kernel
theorem dX12_mayBeSilent_2 : decode cX12_mayBeSilent 2 = .ok (.iload_n 2, 1) := by decide +kernel
theorem dX12_mayBeSilent_3 : decode cX12_mayBeSilent 3 = .ok (.bipush 32, 2) := by decide +kernel
theorem dX12_mayBeSilent_5 : decode cX12_mayBeSilent 5 = .ok (.irem, 1) := by decide +kernel
theorem dX12_mayBeSilent_6 : decode cX12_mayBeSilent 6 = .ok (.iload_n 2, 1) := by decide +kernel
theorem dX12_mayBeSilent_7 : decode cX12_mayBeSilent 7 = .ok (.bipush 32, 2) := by decide +kernel
theorem dX12_mayBeSilent_9 : decode cX12_mayBeSilent 9 = .ok (.idiv, 1) := by decide +kernel
theorem dX12_mayBeSilent_10 : decode cX12_mayBeSilent 10 = .ok (.aload_n 0, 1) := by decide +kernel
theorem dX12_mayBeSilent_11 : decode cX12_mayBeSilent 11 = .ok (.getfield 117, 3) := by decide +kernel
theorem dX12_mayBeSilent_14 : decode cX12_mayBeSilent 14 = .ok (.iload_n 3, 1) := by decide +kernel
theorem dX12_mayBeSilent_15 : decode cX12_mayBeSilent 15 = .ok (.iaload, 1) := by decide +kernel
theorem dX12_mayBeSilent_16 : decode cX12_mayBeSilent 16 = .ok (.invokevirtual 355, 3) := by decide +kernel
theorem dX12_mayBeSilent_19 : decode cX12_mayBeSilent 19 = .ok (.ireturn, 1) := by decide +kernel
theorem dX12_mostBy_0 : decode cX12_mostBy 0 = .ok (.iconst 0, 1) := by decide +kernel
theorem dX12_mostBy_1 : decode cX12_mostBy 1 = .ok (.istore_n 2, 1) := by decide +kernel
theorem dX12_mostBy_2 : decode cX12_mostBy 2 = .ok (.iload_n 2, 1) := by decide +kernel
theorem dX12_mostBy_3 : decode cX12_mostBy 3 = .ok (.bipush 65, 2) := by decide +kernel
theorem dX12_mostBy_5 : decode cX12_mostBy 5 = .ok (.if_icmp .ge 16, 3) := by decide +kernel
theorem dX12_mostBy_8 : decode cX12_mostBy 8 = .ok (.aload_n 0, 1) := by decide +kernel
theorem dX12_mostBy_9 : decode cX12_mostBy 9 = .ok (.getfield 126, 3) := by decide +kernel
theorem dX12_mostBy_12 : decode cX12_mostBy 12 = .ok (.iload_n 2, 1) := by decide +kernel
theorem dX12_mostBy_13 : decode cX12_mostBy 13 = .ok (.iconst 0, 1) := by decide +kernel
theorem dX12_mostBy_14 : decode cX12_mostBy 14 = .ok (.iastore, 1) := by decide +kernel
theorem dX12_mostBy_15 : decode cX12_mostBy 15 = .ok (.iinc 2 1, 3) := by decide +kernel
theorem dX12_mostBy_18 : decode cX12_mostBy 18 = .ok (.goto (-16), 3) := by decide +kernel
theorem dX12_mostBy_21 : decode cX12_mostBy 21 = .ok (.iconst 0, 1) := by decide +kernel
theorem dX12_mostBy_22 : decode cX12_mostBy 22 = .ok (.istore_n 2, 1) := by decide +kernel
theorem dX12_mostBy_23 : decode cX12_mostBy 23 = .ok (.iload_n 2, 1) := by decide +kernel
theorem dX12_mostBy_24 : decode cX12_mostBy 24 = .ok (.aload_n 0, 1) := by decide +kernel
theorem dX12_mostBy_25 : decode cX12_mostBy 25 = .ok (.getfield 416, 3) := by decide +kernel
theorem dX12_mostBy_28 : decode cX12_mostBy 28 = .ok (.if_icmp .ge 99, 3) := by decide +kernel
theorem dX12_mostBy_31 : decode cX12_mostBy 31 = .ok (.aload_n 0, 1) := by decide +kernel
theorem dX12_mostBy_32 : decode cX12_mostBy 32 = .ok (.aload_n 0, 1) := by decide +kernel
theorem dX12_mostBy_33 : decode cX12_mostBy 33 = .ok (.getfield 120, 3) := by decide +kernel
theorem dX12_mostBy_36 : decode cX12_mostBy 36 = .ok (.iload_n 2, 1) := by decide +kernel
theorem dX12_mostBy_37 : decode cX12_mostBy 37 = .ok (.iaload, 1) := by decide +kernel
theorem dX12_mostBy_38 : decode cX12_mostBy 38 = .ok (.aload_n 0, 1) := by decide +kernel
theorem dX12_mostBy_39 : decode cX12_mostBy 39 = .ok (.getfield 123, 3) := by decide +kernel
theorem dX12_mostBy_42 : decode cX12_mostBy 42 = .ok (.iload_n 2, 1) := by decide +kernel
theorem dX12_mostBy_43 : decode cX12_mostBy 43 = .ok (.iaload, 1) := by decide +kernel
theorem dX12_mostBy_44 : decode cX12_mostBy 44 = .ok (.iload_n 1, 1) := by decide +kernel
theorem dX12_mostBy_45 : decode cX12_mostBy 45 = .ok (.invokevirtual 419, 3) := by decide +kernel
theorem dX12_mostBy_48 : decode cX12_mostBy 48 = .ok (.istore_n 3, 1) := by decide +kernel
theorem dX12_mostBy_49 : decode cX12_mostBy 49 = .ok (.iload_n 3, 1) := by decide +kernel
theorem dX12_mostBy_50 : decode cX12_mostBy 50 = .ok (.iconst (-1), 1) := by decide +kernel
theorem dX12_mostBy_51 : decode cX12_mostBy 51 = .ok (.if_icmp .ne 6, 3) := by decide +kernel
theorem dX12_mostBy_54 : decode cX12_mostBy 54 = .ok (.goto 67, 3) := by decide +kernel
theorem dX12_mostBy_57 : decode cX12_mostBy 57 = .ok (.aload_n 0, 1) := by decide +kernel
theorem dX12_mostBy_58 : decode cX12_mostBy 58 = .ok (.aload_n 0, 1) := by decide +kernel
theorem dX12_mostBy_59 : decode cX12_mostBy 59 = .ok (.getfield 120, 3) := by decide +kernel
theorem dX12_mostBy_62 : decode cX12_mostBy 62 = .ok (.iload_n 2, 1) := by decide +kernel
theorem dX12_mostBy_63 : decode cX12_mostBy 63 = .ok (.iaload, 1) := by decide +kernel
theorem dX12_mostBy_64 : decode cX12_mostBy 64 = .ok (.iload_n 3, 1) := by decide +kernel
theorem dX12_mostBy_65 : decode cX12_mostBy 65 = .ok (.iload_n 1, 1) := by decide +kernel
theorem dX12_mostBy_66 : decode cX12_mostBy 66 = .ok (.invokevirtual 422, 3) := by decide +kernel
theorem dX12_mostBy_69 : decode cX12_mostBy 69 = .ok (.istore 4, 2) := by decide +kernel
theorem dX12_mostBy_71 : decode cX12_mostBy 71 = .ok (.iload 4, 2) := by decide +kernel
theorem dX12_mostBy_73 : decode cX12_mostBy 73 = .ok (.ifCond .le 19, 3) := by decide +kernel
theorem dX12_mostBy_76 : decode cX12_mostBy 76 = .ok (.aload_n 0, 1) := by decide +kernel
theorem dX12_mostBy_77 : decode cX12_mostBy 77 = .ok (.getfield 126, 3) := by decide +kernel
theorem dX12_mostBy_80 : decode cX12_mostBy 80 = .ok (.iload 4, 2) := by decide +kernel
theorem dX12_mostBy_82 : decode cX12_mostBy 82 = .ok (.aload_n 0, 1) := by decide +kernel
theorem dX12_mostBy_83 : decode cX12_mostBy 83 = .ok (.getfield 126, 3) := by decide +kernel
theorem dX12_mostBy_86 : decode cX12_mostBy 86 = .ok (.iload 4, 2) := by decide +kernel
theorem dX12_mostBy_88 : decode cX12_mostBy 88 = .ok (.iaload, 1) := by decide +kernel
theorem dX12_mostBy_89 : decode cX12_mostBy 89 = .ok (.iconst 1, 1) := by decide +kernel
theorem dX12_mostBy_90 : decode cX12_mostBy 90 = .ok (.iadd, 1) := by decide +kernel
theorem dX12_mostBy_91 : decode cX12_mostBy 91 = .ok (.iastore, 1) := by decide +kernel
theorem dX12_mostBy_92 : decode cX12_mostBy 92 = .ok (.aload_n 0, 1) := by decide +kernel
theorem dX12_mostBy_93 : decode cX12_mostBy 93 = .ok (.aload_n 0, 1) := by decide +kernel
theorem dX12_mostBy_94 : decode cX12_mostBy 94 = .ok (.getfield 120, 3) := by decide +kernel
theorem dX12_mostBy_97 : decode cX12_mostBy 97 = .ok (.iload_n 2, 1) := by decide +kernel
theorem dX12_mostBy_98 : decode cX12_mostBy 98 = .ok (.iaload, 1) := by decide +kernel
theorem dX12_mostBy_99 : decode cX12_mostBy 99 = .ok (.iload_n 3, 1) := by decide +kernel
theorem dX12_mostBy_100 : decode cX12_mostBy 100 = .ok (.iload_n 1, 1) := by decide +kernel
theorem dX12_mostBy_101 : decode cX12_mostBy 101 = .ok (.invokevirtual 425, 3) := by decide +kernel
theorem dX12_mostBy_104 : decode cX12_mostBy 104 = .ok (.ifCond .eq 17, 3) := by decide +kernel
theorem dX12_mostBy_107 : decode cX12_mostBy 107 = .ok (.aload_n 0, 1) := by decide +kernel
theorem dX12_mostBy_108 : decode cX12_mostBy 108 = .ok (.getfield 126, 3) := by decide +kernel
theorem dX12_mostBy_111 : decode cX12_mostBy 111 = .ok (.iconst 0, 1) := by decide +kernel
theorem dX12_mostBy_112 : decode cX12_mostBy 112 = .ok (.aload_n 0, 1) := by decide +kernel
theorem dX12_mostBy_113 : decode cX12_mostBy 113 = .ok (.getfield 126, 3) := by decide +kernel
theorem dX12_mostBy_116 : decode cX12_mostBy 116 = .ok (.iconst 0, 1) := by decide +kernel
theorem dX12_mostBy_117 : decode cX12_mostBy 117 = .ok (.iaload, 1) := by decide +kernel
theorem dX12_mostBy_118 : decode cX12_mostBy 118 = .ok (.iconst 1, 1) := by decide +kernel
theorem dX12_mostBy_119 : decode cX12_mostBy 119 = .ok (.iadd, 1) := by decide +kernel
theorem dX12_mostBy_120 : decode cX12_mostBy 120 = .ok (.iastore, 1) := by decide +kernel
theorem dX12_mostBy_121 : decode cX12_mostBy 121 = .ok (.iinc 2 1, 3) := by decide +kernel
theorem dX12_mostBy_124 : decode cX12_mostBy 124 = .ok (.goto (-101), 3) := by decide +kernel
theorem dX12_mostBy_127 : decode cX12_mostBy 127 = .ok (.iconst 0, 1) := by decide +kernel
theorem dX12_mostBy_128 : decode cX12_mostBy 128 = .ok (.istore_n 2, 1) := by decide +kernel
theorem dX12_mostBy_129 : decode cX12_mostBy 129 = .ok (.iconst 0, 1) := by decide +kernel
theorem dX12_mostBy_130 : decode cX12_mostBy 130 = .ok (.istore_n 3, 1) := by decide +kernel
theorem dX12_mostBy_131 : decode cX12_mostBy 131 = .ok (.iload_n 3, 1) := by decide +kernel
theorem dX12_mostBy_132 : decode cX12_mostBy 132 = .ok (.bipush 65, 2) := by decide +kernel
theorem dX12_mostBy_134 : decode cX12_mostBy 134 = .ok (.if_icmp .ge 30, 3) := by decide +kernel
theorem dX12_mostBy_137 : decode cX12_mostBy 137 = .ok (.aload_n 0, 1) := by decide +kernel
theorem dX12_mostBy_138 : decode cX12_mostBy 138 = .ok (.getfield 126, 3) := by decide +kernel
theorem dX12_mostBy_141 : decode cX12_mostBy 141 = .ok (.iload_n 3, 1) := by decide +kernel
theorem dX12_mostBy_142 : decode cX12_mostBy 142 = .ok (.iaload, 1) := by decide +kernel
theorem dX12_mostBy_143 : decode cX12_mostBy 143 = .ok (.iload_n 2, 1) := by decide +kernel
theorem dX12_mostBy_144 : decode cX12_mostBy 144 = .ok (.if_icmp .le 12, 3) := by decide +kernel
theorem dX12_mostBy_147 : decode cX12_mostBy 147 = .ok (.aload_n 0, 1) := by decide +kernel
theorem dX12_mostBy_148 : decode cX12_mostBy 148 = .ok (.getfield 126, 3) := by decide +kernel
theorem dX12_mostBy_151 : decode cX12_mostBy 151 = .ok (.iload_n 3, 1) := by decide +kernel
theorem dX12_mostBy_152 : decode cX12_mostBy 152 = .ok (.iaload, 1) := by decide +kernel
theorem dX12_mostBy_153 : decode cX12_mostBy 153 = .ok (.goto 4, 3) := by decide +kernel
theorem dX12_mostBy_156 : decode cX12_mostBy 156 = .ok (.iload_n 2, 1) := by decide +kernel
theorem dX12_mostBy_157 : decode cX12_mostBy 157 = .ok (.istore_n 2, 1) := by decide +kernel
theorem dX12_mostBy_158 : decode cX12_mostBy 158 = .ok (.iinc 3 1, 3) := by decide +kernel
theorem dX12_mostBy_161 : decode cX12_mostBy 161 = .ok (.goto (-30), 3) := by decide +kernel
theorem dX12_mostBy_164 : decode cX12_mostBy 164 = .ok (.iload_n 2, 1) := by decide +kernel
theorem dX12_mostBy_165 : decode cX12_mostBy 165 = .ok (.ireturn, 1) := by decide +kernel
theorem dX12_worstAnswer_0 : decode cX12_worstAnswer 0 = .ok (.iconst 0, 1) := by decide +kernel
theorem dX12_worstAnswer_1 : decode cX12_worstAnswer 1 = .ok (.istore_n 2, 1) := by decide +kernel
theorem dX12_worstAnswer_2 : decode cX12_worstAnswer 2 = .ok (.iload_n 2, 1) := by decide +kernel
theorem dX12_worstAnswer_3 : decode cX12_worstAnswer 3 = .ok (.bipush 65, 2) := by decide +kernel
theorem dX12_worstAnswer_5 : decode cX12_worstAnswer 5 = .ok (.if_icmp .ge 25, 3) := by decide +kernel
theorem dX12_worstAnswer_8 : decode cX12_worstAnswer 8 = .ok (.iload_n 1, 1) := by decide +kernel
theorem dX12_worstAnswer_9 : decode cX12_worstAnswer 9 = .ok (.ifCond .le 15, 3) := by decide +kernel
theorem dX12_worstAnswer_12 : decode cX12_worstAnswer 12 = .ok (.aload_n 0, 1) := by decide +kernel
theorem dX12_worstAnswer_13 : decode cX12_worstAnswer 13 = .ok (.getfield 126, 3) := by decide +kernel
theorem dX12_worstAnswer_16 : decode cX12_worstAnswer 16 = .ok (.iload_n 2, 1) := by decide +kernel
theorem dX12_worstAnswer_17 : decode cX12_worstAnswer 17 = .ok (.iaload, 1) := by decide +kernel
theorem dX12_worstAnswer_18 : decode cX12_worstAnswer 18 = .ok (.iload_n 1, 1) := by decide +kernel
theorem dX12_worstAnswer_19 : decode cX12_worstAnswer 19 = .ok (.if_icmp .ne 5, 3) := by decide +kernel
theorem dX12_worstAnswer_22 : decode cX12_worstAnswer 22 = .ok (.iload_n 2, 1) := by decide +kernel
theorem dX12_worstAnswer_23 : decode cX12_worstAnswer 23 = .ok (.ireturn, 1) := by decide +kernel
theorem dX12_worstAnswer_24 : decode cX12_worstAnswer 24 = .ok (.iinc 2 1, 3) := by decide +kernel
theorem dX12_worstAnswer_27 : decode cX12_worstAnswer 27 = .ok (.goto (-25), 3) := by decide +kernel
theorem dX12_worstAnswer_30 : decode cX12_worstAnswer 30 = .ok (.bipush (-2), 2) := by decide +kernel
theorem dX12_worstAnswer_32 : decode cX12_worstAnswer 32 = .ok (.ireturn, 1) := by decide +kernel
theorem dX12_canChoose_0 : decode cX12_canChoose 0 = .ok (.aload_n 0, 1) := by decide +kernel
theorem dX12_canChoose_1 : decode cX12_canChoose 1 = .ok (.getfield 413, 3) := by decide +kernel
theorem dX12_canChoose_4 : decode cX12_canChoose 4 = .ok (.ifCond .eq 10, 3) := by decide +kernel
theorem dX12_canChoose_7 : decode cX12_canChoose 7 = .ok (.aload_n 0, 1) := by decide +kernel
theorem dX12_canChoose_8 : decode cX12_canChoose 8 = .ok (.getfield 340, 3) := by decide +kernel
theorem dX12_canChoose_11 : decode cX12_canChoose 11 = .ok (.ifCond .ne 5, 3) := by decide +kernel
theorem dX12_canChoose_14 : decode cX12_canChoose 14 = .ok (.iconst 0, 1) := by decide +kernel
theorem dX12_canChoose_15 : decode cX12_canChoose 15 = .ok (.ireturn, 1) := by decide +kernel
theorem dX12_canChoose_16 : decode cX12_canChoose 16 = .ok (.aload_n 0, 1) := by decide +kernel
theorem dX12_canChoose_17 : decode cX12_canChoose 17 = .ok (.invokevirtual 428, 3) := by decide +kernel
theorem dX12_canChoose_20 : decode cX12_canChoose 20 = .ok (.aload_n 0, 1) := by decide +kernel
theorem dX12_canChoose_21 : decode cX12_canChoose 21 = .ok (.getfield 416, 3) := by decide +kernel
theorem dX12_canChoose_24 : decode cX12_canChoose 24 = .ok (.ifCond .le 7, 3) := by decide +kernel
theorem dX12_canChoose_27 : decode cX12_canChoose 27 = .ok (.iconst 1, 1) := by decide +kernel
theorem dX12_canChoose_28 : decode cX12_canChoose 28 = .ok (.goto 4, 3) := by decide +kernel
theorem dX12_canChoose_31 : decode cX12_canChoose 31 = .ok (.iconst 0, 1) := by decide +kernel
theorem dX12_canChoose_32 : decode cX12_canChoose 32 = .ok (.ireturn, 1) := by decide +kernel
theorem dX12_next_0 : decode cX12_next 0 = .ok (.iload_n 1, 1) := by decide +kernel
theorem dX12_next_1 : decode cX12_next 1 = .ok (.iconst 0, 1) := by decide +kernel
theorem dX12_next_2 : decode cX12_next 2 = .ok (.iconst 3, 1) := by decide +kernel
theorem dX12_next_3 : decode cX12_next 3 = .ok (.invokestatic 173, 3) := by decide +kernel
theorem dX12_next_6 : decode cX12_next 6 = .ok (.ifCond .ne 5, 3) := by decide +kernel
theorem dX12_next_9 : decode cX12_next 9 = .ok (.iconst (-1), 1) := by decide +kernel
theorem dX12_next_10 : decode cX12_next 10 = .ok (.ireturn, 1) := by decide +kernel
theorem dX12_next_11 : decode cX12_next 11 = .ok (.aload_n 0, 1) := by decide +kernel
theorem dX12_next_12 : decode cX12_next 12 = .ok (.invokevirtual 431, 3) := by decide +kernel
theorem dX12_next_15 : decode cX12_next 15 = .ok (.ifCond .ne 6, 3) := by decide +kernel
theorem dX12_next_18 : decode cX12_next 18 = .ok (.bipush (-2), 2) := by decide +kernel
theorem dX12_next_20 : decode cX12_next 20 = .ok (.ireturn, 1) := by decide +kernel
theorem dX12_next_21 : decode cX12_next 21 = .ok (.iconst (-1), 1) := by decide +kernel
theorem dX12_next_22 : decode cX12_next 22 = .ok (.istore_n 2, 1) := by decide +kernel
theorem dX12_next_23 : decode cX12_next 23 = .ok (.ldc_w 359, 3) := by decide +kernel
theorem dX12_next_26 : decode cX12_next 26 = .ok (.istore_n 3, 1) := by decide +kernel
theorem dX12_next_27 : decode cX12_next 27 = .ok (.bipush (-2), 2) := by decide +kernel
theorem dX12_next_29 : decode cX12_next 29 = .ok (.istore 4, 2) := by decide +kernel
theorem dX12_next_31 : decode cX12_next 31 = .ok (.iconst 0, 1) := by decide +kernel
theorem dX12_next_32 : decode cX12_next 32 = .ok (.istore 5, 2) := by decide +kernel
theorem dX12_next_34 : decode cX12_next 34 = .ok (.iload 5, 2) := by decide +kernel
theorem dX12_next_36 : decode cX12_next 36 = .ok (.bipush 6, 2) := by decide +kernel
theorem dX12_next_38 : decode cX12_next 38 = .ok (.if_icmp .ge 52, 3) := by decide +kernel
theorem dX12_next_41 : decode cX12_next 41 = .ok (.aload_n 0, 1) := by decide +kernel
theorem dX12_next_42 : decode cX12_next 42 = .ok (.iload 5, 2) := by decide +kernel
theorem dX12_next_44 : decode cX12_next 44 = .ok (.invokevirtual 434, 3) := by decide +kernel
theorem dX12_next_47 : decode cX12_next 47 = .ok (.ifCond .ne 6, 3) := by decide +kernel
theorem dX12_next_50 : decode cX12_next 50 = .ok (.goto 34, 3) := by decide +kernel
theorem dX12_next_53 : decode cX12_next 53 = .ok (.aload_n 0, 1) := by decide +kernel
theorem dX12_next_54 : decode cX12_next 54 = .ok (.iload 5, 2) := by decide +kernel
theorem dX12_next_56 : decode cX12_next 56 = .ok (.invokevirtual 437, 3) := by decide +kernel
theorem dX12_next_59 : decode cX12_next 59 = .ok (.istore 6, 2) := by decide +kernel
theorem dX12_next_61 : decode cX12_next 61 = .ok (.iload 6, 2) := by decide +kernel
theorem dX12_next_63 : decode cX12_next 63 = .ok (.iload_n 3, 1) := by decide +kernel
theorem dX12_next_64 : decode cX12_next 64 = .ok (.if_icmp .lt 6, 3) := by decide +kernel
theorem dX12_next_67 : decode cX12_next 67 = .ok (.goto 17, 3) := by decide +kernel
theorem dX12_next_70 : decode cX12_next 70 = .ok (.iload 6, 2) := by decide +kernel
theorem dX12_next_72 : decode cX12_next 72 = .ok (.istore_n 3, 1) := by decide +kernel
theorem dX12_next_73 : decode cX12_next 73 = .ok (.iload 5, 2) := by decide +kernel
theorem dX12_next_75 : decode cX12_next 75 = .ok (.istore_n 2, 1) := by decide +kernel
theorem dX12_next_76 : decode cX12_next 76 = .ok (.aload_n 0, 1) := by decide +kernel
theorem dX12_next_77 : decode cX12_next 77 = .ok (.iload 6, 2) := by decide +kernel
theorem dX12_next_79 : decode cX12_next 79 = .ok (.invokevirtual 440, 3) := by decide +kernel
theorem dX12_next_82 : decode cX12_next 82 = .ok (.istore 4, 2) := by decide +kernel
theorem dX12_next_84 : decode cX12_next 84 = .ok (.iinc 5 1, 3) := by decide +kernel
theorem dX12_next_87 : decode cX12_next 87 = .ok (.goto (-53), 3) := by decide +kernel
theorem dX12_next_90 : decode cX12_next 90 = .ok (.iload_n 1, 1) := by decide +kernel
theorem dX12_next_91 : decode cX12_next 91 = .ok (.ifCond .ne 7, 3) := by decide +kernel
theorem dX12_next_94 : decode cX12_next 94 = .ok (.iload_n 2, 1) := by decide +kernel
theorem dX12_next_95 : decode cX12_next 95 = .ok (.goto 26, 3) := by decide +kernel
theorem dX12_next_98 : decode cX12_next 98 = .ok (.iload_n 1, 1) := by decide +kernel
theorem dX12_next_99 : decode cX12_next 99 = .ok (.iconst 1, 1) := by decide +kernel
theorem dX12_next_100 : decode cX12_next 100 = .ok (.if_icmp .ne 7, 3) := by decide +kernel
theorem dX12_next_103 : decode cX12_next 103 = .ok (.iload_n 3, 1) := by decide +kernel
theorem dX12_next_104 : decode cX12_next 104 = .ok (.goto 17, 3) := by decide +kernel
theorem dX12_next_107 : decode cX12_next 107 = .ok (.iload_n 1, 1) := by decide +kernel
theorem dX12_next_108 : decode cX12_next 108 = .ok (.iconst 2, 1) := by decide +kernel
theorem dX12_next_109 : decode cX12_next 109 = .ok (.if_icmp .ne 8, 3) := by decide +kernel
theorem dX12_next_112 : decode cX12_next 112 = .ok (.iload 4, 2) := by decide +kernel
theorem dX12_next_114 : decode cX12_next 114 = .ok (.goto 7, 3) := by decide +kernel
theorem dX12_next_117 : decode cX12_next 117 = .ok (.aload_n 0, 1) := by decide +kernel
theorem dX12_next_118 : decode cX12_next 118 = .ok (.getfield 416, 3) := by decide +kernel
theorem dX12_next_121 : decode cX12_next 121 = .ok (.ireturn, 1) := by decide +kernel
theorem dX12_addsSecond_0 : decode cX12_addsSecond 0 = .ok (.iconst 0, 1) := by decide +kernel
theorem dX12_addsSecond_1 : decode cX12_addsSecond 1 = .ok (.istore 4, 2) := by decide +kernel
theorem dX12_addsSecond_3 : decode cX12_addsSecond 3 = .ok (.iload 4, 2) := by decide +kernel
theorem dX12_addsSecond_5 : decode cX12_addsSecond 5 = .ok (.bipush 6, 2) := by decide +kernel
theorem dX12_addsSecond_7 : decode cX12_addsSecond 7 = .ok (.if_icmp .ge 118, 3) := by decide +kernel
theorem dX12_addsSecond_10 : decode cX12_addsSecond 10 = .ok (.aload_n 0, 1) := by decide +kernel
theorem dX12_addsSecond_11 : decode cX12_addsSecond 11 = .ok (.iload 4, 2) := by decide +kernel
theorem dX12_addsSecond_13 : decode cX12_addsSecond 13 = .ok (.invokevirtual 434, 3) := by decide +kernel
theorem dX12_addsSecond_16 : decode cX12_addsSecond 16 = .ok (.ifCond .ne 6, 3) := by decide +kernel
theorem dX12_addsSecond_19 : decode cX12_addsSecond 19 = .ok (.goto 100, 3) := by decide +kernel
theorem dX12_addsSecond_22 : decode cX12_addsSecond 22 = .ok (.aload_n 0, 1) := by decide +kernel
theorem dX12_addsSecond_23 : decode cX12_addsSecond 23 = .ok (.iload_n 1, 1) := by decide +kernel
theorem dX12_addsSecond_24 : decode cX12_addsSecond 24 = .ok (.iload_n 2, 1) := by decide +kernel
theorem dX12_addsSecond_25 : decode cX12_addsSecond 25 = .ok (.iload 4, 2) := by decide +kernel
theorem dX12_addsSecond_27 : decode cX12_addsSecond 27 = .ok (.invokevirtual 419, 3) := by decide +kernel
theorem dX12_addsSecond_30 : decode cX12_addsSecond 30 = .ok (.istore 5, 2) := by decide +kernel
theorem dX12_addsSecond_32 : decode cX12_addsSecond 32 = .ok (.iload 5, 2) := by decide +kernel
theorem dX12_addsSecond_34 : decode cX12_addsSecond 34 = .ok (.iconst (-1), 1) := by decide +kernel
theorem dX12_addsSecond_35 : decode cX12_addsSecond 35 = .ok (.if_icmp .ne 6, 3) := by decide +kernel
theorem dX12_addsSecond_38 : decode cX12_addsSecond 38 = .ok (.goto 81, 3) := by decide +kernel
theorem dX12_addsSecond_41 : decode cX12_addsSecond 41 = .ok (.bipush 65, 2) := by decide +kernel
theorem dX12_addsSecond_43 : decode cX12_addsSecond 43 = .ok (.iload 4, 2) := by decide +kernel
theorem dX12_addsSecond_45 : decode cX12_addsSecond 45 = .ok (.imul, 1) := by decide +kernel
theorem dX12_addsSecond_46 : decode cX12_addsSecond 46 = .ok (.iload_n 3, 1) := by decide +kernel
theorem dX12_addsSecond_47 : decode cX12_addsSecond 47 = .ok (.iadd, 1) := by decide +kernel
theorem dX12_addsSecond_48 : decode cX12_addsSecond 48 = .ok (.bipush 65, 2) := by decide +kernel
theorem dX12_addsSecond_50 : decode cX12_addsSecond 50 = .ok (.imul, 1) := by decide +kernel
theorem dX12_addsSecond_51 : decode cX12_addsSecond 51 = .ok (.istore 6, 2) := by decide +kernel
theorem dX12_addsSecond_53 : decode cX12_addsSecond 53 = .ok (.aload_n 0, 1) := by decide +kernel
theorem dX12_addsSecond_54 : decode cX12_addsSecond 54 = .ok (.iload_n 1, 1) := by decide +kernel
theorem dX12_addsSecond_55 : decode cX12_addsSecond 55 = .ok (.iload 5, 2) := by decide +kernel
theorem dX12_addsSecond_57 : decode cX12_addsSecond 57 = .ok (.iload 4, 2) := by decide +kernel
theorem dX12_addsSecond_59 : decode cX12_addsSecond 59 = .ok (.invokevirtual 422, 3) := by decide +kernel
theorem dX12_addsSecond_62 : decode cX12_addsSecond 62 = .ok (.istore 7, 2) := by decide +kernel
theorem dX12_addsSecond_64 : decode cX12_addsSecond 64 = .ok (.iload 7, 2) := by decide +kernel
theorem dX12_addsSecond_66 : decode cX12_addsSecond 66 = .ok (.ifCond .le 25, 3) := by decide +kernel
theorem dX12_addsSecond_69 : decode cX12_addsSecond 69 = .ok (.aload_n 0, 1) := by decide +kernel
theorem dX12_addsSecond_70 : decode cX12_addsSecond 70 = .ok (.getfield 129, 3) := by decide +kernel
theorem dX12_addsSecond_73 : decode cX12_addsSecond 73 = .ok (.iload 6, 2) := by decide +kernel
theorem dX12_addsSecond_75 : decode cX12_addsSecond 75 = .ok (.iload 7, 2) := by decide +kernel
theorem dX12_addsSecond_77 : decode cX12_addsSecond 77 = .ok (.iadd, 1) := by decide +kernel
theorem dX12_addsSecond_78 : decode cX12_addsSecond 78 = .ok (.aload_n 0, 1) := by decide +kernel
theorem dX12_addsSecond_79 : decode cX12_addsSecond 79 = .ok (.getfield 129, 3) := by decide +kernel
theorem dX12_addsSecond_82 : decode cX12_addsSecond 82 = .ok (.iload 6, 2) := by decide +kernel
theorem dX12_addsSecond_84 : decode cX12_addsSecond 84 = .ok (.iload 7, 2) := by decide +kernel
theorem dX12_addsSecond_86 : decode cX12_addsSecond 86 = .ok (.iadd, 1) := by decide +kernel
theorem dX12_addsSecond_87 : decode cX12_addsSecond 87 = .ok (.iaload, 1) := by decide +kernel
theorem dX12_addsSecond_88 : decode cX12_addsSecond 88 = .ok (.iconst 1, 1) := by decide +kernel
theorem dX12_addsSecond_89 : decode cX12_addsSecond 89 = .ok (.iadd, 1) := by decide +kernel
theorem dX12_addsSecond_90 : decode cX12_addsSecond 90 = .ok (.iastore, 1) := by decide +kernel
theorem dX12_addsSecond_91 : decode cX12_addsSecond 91 = .ok (.aload_n 0, 1) := by decide +kernel
theorem dX12_addsSecond_92 : decode cX12_addsSecond 92 = .ok (.iload_n 1, 1) := by decide +kernel
theorem dX12_addsSecond_93 : decode cX12_addsSecond 93 = .ok (.iload 5, 2) := by decide +kernel
theorem dX12_addsSecond_95 : decode cX12_addsSecond 95 = .ok (.iload 4, 2) := by decide +kernel
theorem dX12_addsSecond_97 : decode cX12_addsSecond 97 = .ok (.invokevirtual 425, 3) := by decide +kernel
theorem dX12_addsSecond_100 : decode cX12_addsSecond 100 = .ok (.ifCond .eq 19, 3) := by decide +kernel
theorem dX12_addsSecond_103 : decode cX12_addsSecond 103 = .ok (.aload_n 0, 1) := by decide +kernel
theorem dX12_addsSecond_104 : decode cX12_addsSecond 104 = .ok (.getfield 129, 3) := by decide +kernel
theorem dX12_addsSecond_107 : decode cX12_addsSecond 107 = .ok (.iload 6, 2) := by decide +kernel
theorem dX12_addsSecond_109 : decode cX12_addsSecond 109 = .ok (.aload_n 0, 1) := by decide +kernel
theorem dX12_addsSecond_110 : decode cX12_addsSecond 110 = .ok (.getfield 129, 3) := by decide +kernel
theorem dX12_addsSecond_113 : decode cX12_addsSecond 113 = .ok (.iload 6, 2) := by decide +kernel
theorem dX12_addsSecond_115 : decode cX12_addsSecond 115 = .ok (.iaload, 1) := by decide +kernel
theorem dX12_addsSecond_116 : decode cX12_addsSecond 116 = .ok (.iconst 1, 1) := by decide +kernel
theorem dX12_addsSecond_117 : decode cX12_addsSecond 117 = .ok (.iadd, 1) := by decide +kernel
theorem dX12_addsSecond_118 : decode cX12_addsSecond 118 = .ok (.iastore, 1) := by decide +kernel
theorem dX12_addsSecond_119 : decode cX12_addsSecond 119 = .ok (.iinc 4 1, 3) := by decide +kernel
theorem dX12_addsSecond_122 : decode cX12_addsSecond 122 = .ok (.goto (-119), 3) := by decide +kernel
theorem dX12_addsSecond_125 : decode cX12_addsSecond 125 = .ok (.return_, 1) := by decide +kernel
theorem dX12_mostSecond_0 : decode cX12_mostSecond 0 = .ok (.iconst 0, 1) := by decide +kernel
theorem dX12_mostSecond_1 : decode cX12_mostSecond 1 = .ok (.istore_n 3, 1) := by decide +kernel
theorem dX12_mostSecond_2 : decode cX12_mostSecond 2 = .ok (.iconst 0, 1) := by decide +kernel
theorem dX12_mostSecond_3 : decode cX12_mostSecond 3 = .ok (.istore 4, 2) := by decide +kernel
theorem dX12_mostSecond_5 : decode cX12_mostSecond 5 = .ok (.iload 4, 2) := by decide +kernel
theorem dX12_mostSecond_7 : decode cX12_mostSecond 7 = .ok (.bipush 65, 2) := by decide +kernel
theorem dX12_mostSecond_9 : decode cX12_mostSecond 9 = .ok (.if_icmp .ge 52, 3) := by decide +kernel
theorem dX12_mostSecond_12 : decode cX12_mostSecond 12 = .ok (.aload_n 0, 1) := by decide +kernel
theorem dX12_mostSecond_13 : decode cX12_mostSecond 13 = .ok (.getfield 129, 3) := by decide +kernel
theorem dX12_mostSecond_16 : decode cX12_mostSecond 16 = .ok (.bipush 65, 2) := by decide +kernel
theorem dX12_mostSecond_18 : decode cX12_mostSecond 18 = .ok (.iload_n 2, 1) := by decide +kernel
theorem dX12_mostSecond_19 : decode cX12_mostSecond 19 = .ok (.imul, 1) := by decide +kernel
theorem dX12_mostSecond_20 : decode cX12_mostSecond 20 = .ok (.iload_n 1, 1) := by decide +kernel
theorem dX12_mostSecond_21 : decode cX12_mostSecond 21 = .ok (.iadd, 1) := by decide +kernel
theorem dX12_mostSecond_22 : decode cX12_mostSecond 22 = .ok (.bipush 65, 2) := by decide +kernel
theorem dX12_mostSecond_24 : decode cX12_mostSecond 24 = .ok (.imul, 1) := by decide +kernel
theorem dX12_mostSecond_25 : decode cX12_mostSecond 25 = .ok (.iload 4, 2) := by decide +kernel
theorem dX12_mostSecond_27 : decode cX12_mostSecond 27 = .ok (.iadd, 1) := by decide +kernel
theorem dX12_mostSecond_28 : decode cX12_mostSecond 28 = .ok (.iaload, 1) := by decide +kernel
theorem dX12_mostSecond_29 : decode cX12_mostSecond 29 = .ok (.iload_n 3, 1) := by decide +kernel
theorem dX12_mostSecond_30 : decode cX12_mostSecond 30 = .ok (.if_icmp .le 23, 3) := by decide +kernel
theorem dX12_mostSecond_33 : decode cX12_mostSecond 33 = .ok (.aload_n 0, 1) := by decide +kernel
theorem dX12_mostSecond_34 : decode cX12_mostSecond 34 = .ok (.getfield 129, 3) := by decide +kernel
theorem dX12_mostSecond_37 : decode cX12_mostSecond 37 = .ok (.bipush 65, 2) := by decide +kernel
theorem dX12_mostSecond_39 : decode cX12_mostSecond 39 = .ok (.iload_n 2, 1) := by decide +kernel
theorem dX12_mostSecond_40 : decode cX12_mostSecond 40 = .ok (.imul, 1) := by decide +kernel
theorem dX12_mostSecond_41 : decode cX12_mostSecond 41 = .ok (.iload_n 1, 1) := by decide +kernel
theorem dX12_mostSecond_42 : decode cX12_mostSecond 42 = .ok (.iadd, 1) := by decide +kernel
theorem dX12_mostSecond_43 : decode cX12_mostSecond 43 = .ok (.bipush 65, 2) := by decide +kernel
theorem dX12_mostSecond_45 : decode cX12_mostSecond 45 = .ok (.imul, 1) := by decide +kernel
theorem dX12_mostSecond_46 : decode cX12_mostSecond 46 = .ok (.iload 4, 2) := by decide +kernel
theorem dX12_mostSecond_48 : decode cX12_mostSecond 48 = .ok (.iadd, 1) := by decide +kernel
theorem dX12_mostSecond_49 : decode cX12_mostSecond 49 = .ok (.iaload, 1) := by decide +kernel
theorem dX12_mostSecond_50 : decode cX12_mostSecond 50 = .ok (.goto 4, 3) := by decide +kernel
theorem dX12_mostSecond_53 : decode cX12_mostSecond 53 = .ok (.iload_n 3, 1) := by decide +kernel
theorem dX12_mostSecond_54 : decode cX12_mostSecond 54 = .ok (.istore_n 3, 1) := by decide +kernel
theorem dX12_mostSecond_55 : decode cX12_mostSecond 55 = .ok (.iinc 4 1, 3) := by decide +kernel
theorem dX12_mostSecond_58 : decode cX12_mostSecond 58 = .ok (.goto (-53), 3) := by decide +kernel
theorem dX12_mostSecond_61 : decode cX12_mostSecond 61 = .ok (.iload_n 3, 1) := by decide +kernel
theorem dX12_mostSecond_62 : decode cX12_mostSecond 62 = .ok (.ireturn, 1) := by decide +kernel
theorem dX12_staysBy_0 : decode cX12_staysBy 0 = .ok (.aload_n 0, 1) := by decide +kernel
theorem dX12_staysBy_1 : decode cX12_staysBy 1 = .ok (.iload_n 1, 1) := by decide +kernel
theorem dX12_staysBy_2 : decode cX12_staysBy 2 = .ok (.invokevirtual 437, 3) := by decide +kernel
theorem dX12_staysBy_5 : decode cX12_staysBy 5 = .ok (.pop, 1) := by decide +kernel
theorem dX12_staysBy_6 : decode cX12_staysBy 6 = .ok (.iconst 0, 1) := by decide +kernel
theorem dX12_staysBy_7 : decode cX12_staysBy 7 = .ok (.istore_n 2, 1) := by decide +kernel
theorem dX12_staysBy_8 : decode cX12_staysBy 8 = .ok (.iload_n 2, 1) := by decide +kernel
theorem dX12_staysBy_9 : decode cX12_staysBy 9 = .ok (.sipush 25350, 3) := by decide +kernel
theorem dX12_staysBy_12 : decode cX12_staysBy 12 = .ok (.if_icmp .ge 16, 3) := by decide +kernel
theorem dX12_staysBy_15 : decode cX12_staysBy 15 = .ok (.aload_n 0, 1) := by decide +kernel
theorem dX12_staysBy_16 : decode cX12_staysBy 16 = .ok (.getfield 129, 3) := by decide +kernel
theorem dX12_staysBy_19 : decode cX12_staysBy 19 = .ok (.iload_n 2, 1) := by decide +kernel
theorem dX12_staysBy_20 : decode cX12_staysBy 20 = .ok (.iconst 0, 1) := by decide +kernel
theorem dX12_staysBy_21 : decode cX12_staysBy 21 = .ok (.iastore, 1) := by decide +kernel
theorem dX12_staysBy_22 : decode cX12_staysBy 22 = .ok (.iinc 2 1, 3) := by decide +kernel
theorem dX12_staysBy_25 : decode cX12_staysBy 25 = .ok (.goto (-17), 3) := by decide +kernel
theorem dX12_staysBy_28 : decode cX12_staysBy 28 = .ok (.iconst 0, 1) := by decide +kernel
theorem dX12_staysBy_29 : decode cX12_staysBy 29 = .ok (.istore_n 2, 1) := by decide +kernel
theorem dX12_staysBy_30 : decode cX12_staysBy 30 = .ok (.iload_n 2, 1) := by decide +kernel
theorem dX12_staysBy_31 : decode cX12_staysBy 31 = .ok (.aload_n 0, 1) := by decide +kernel
theorem dX12_staysBy_32 : decode cX12_staysBy 32 = .ok (.getfield 416, 3) := by decide +kernel
theorem dX12_staysBy_35 : decode cX12_staysBy 35 = .ok (.if_icmp .ge 82, 3) := by decide +kernel
theorem dX12_staysBy_38 : decode cX12_staysBy 38 = .ok (.aload_n 0, 1) := by decide +kernel
theorem dX12_staysBy_39 : decode cX12_staysBy 39 = .ok (.getfield 120, 3) := by decide +kernel
theorem dX12_staysBy_42 : decode cX12_staysBy 42 = .ok (.iload_n 2, 1) := by decide +kernel
theorem dX12_staysBy_43 : decode cX12_staysBy 43 = .ok (.iaload, 1) := by decide +kernel
theorem dX12_staysBy_44 : decode cX12_staysBy 44 = .ok (.istore_n 3, 1) := by decide +kernel
theorem dX12_staysBy_45 : decode cX12_staysBy 45 = .ok (.aload_n 0, 1) := by decide +kernel
theorem dX12_staysBy_46 : decode cX12_staysBy 46 = .ok (.iload_n 3, 1) := by decide +kernel
theorem dX12_staysBy_47 : decode cX12_staysBy 47 = .ok (.aload_n 0, 1) := by decide +kernel
theorem dX12_staysBy_48 : decode cX12_staysBy 48 = .ok (.getfield 123, 3) := by decide +kernel
theorem dX12_staysBy_51 : decode cX12_staysBy 51 = .ok (.iload_n 2, 1) := by decide +kernel
theorem dX12_staysBy_52 : decode cX12_staysBy 52 = .ok (.iaload, 1) := by decide +kernel
theorem dX12_staysBy_53 : decode cX12_staysBy 53 = .ok (.iload_n 1, 1) := by decide +kernel
theorem dX12_staysBy_54 : decode cX12_staysBy 54 = .ok (.invokevirtual 419, 3) := by decide +kernel
theorem dX12_staysBy_57 : decode cX12_staysBy 57 = .ok (.istore 4, 2) := by decide +kernel
theorem dX12_staysBy_59 : decode cX12_staysBy 59 = .ok (.iload 4, 2) := by decide +kernel
theorem dX12_staysBy_61 : decode cX12_staysBy 61 = .ok (.iconst (-1), 1) := by decide +kernel
theorem dX12_staysBy_62 : decode cX12_staysBy 62 = .ok (.if_icmp .ne 6, 3) := by decide +kernel
theorem dX12_staysBy_65 : decode cX12_staysBy 65 = .ok (.goto 46, 3) := by decide +kernel
theorem dX12_staysBy_68 : decode cX12_staysBy 68 = .ok (.aload_n 0, 1) := by decide +kernel
theorem dX12_staysBy_69 : decode cX12_staysBy 69 = .ok (.iload_n 3, 1) := by decide +kernel
theorem dX12_staysBy_70 : decode cX12_staysBy 70 = .ok (.iload 4, 2) := by decide +kernel
theorem dX12_staysBy_72 : decode cX12_staysBy 72 = .ok (.iload_n 1, 1) := by decide +kernel
theorem dX12_staysBy_73 : decode cX12_staysBy 73 = .ok (.invokevirtual 422, 3) := by decide +kernel
theorem dX12_staysBy_76 : decode cX12_staysBy 76 = .ok (.istore 5, 2) := by decide +kernel
theorem dX12_staysBy_78 : decode cX12_staysBy 78 = .ok (.iload 5, 2) := by decide +kernel
theorem dX12_staysBy_80 : decode cX12_staysBy 80 = .ok (.ifCond .le 12, 3) := by decide +kernel
theorem dX12_staysBy_83 : decode cX12_staysBy 83 = .ok (.aload_n 0, 1) := by decide +kernel
theorem dX12_staysBy_84 : decode cX12_staysBy 84 = .ok (.iload_n 3, 1) := by decide +kernel
theorem dX12_staysBy_85 : decode cX12_staysBy 85 = .ok (.iload 4, 2) := by decide +kernel
theorem dX12_staysBy_87 : decode cX12_staysBy 87 = .ok (.iload 5, 2) := by decide +kernel
theorem dX12_staysBy_89 : decode cX12_staysBy 89 = .ok (.invokevirtual 443, 3) := by decide +kernel
theorem dX12_staysBy_92 : decode cX12_staysBy 92 = .ok (.aload_n 0, 1) := by decide +kernel
theorem dX12_staysBy_93 : decode cX12_staysBy 93 = .ok (.iload_n 3, 1) := by decide +kernel
theorem dX12_staysBy_94 : decode cX12_staysBy 94 = .ok (.iload 4, 2) := by decide +kernel
theorem dX12_staysBy_96 : decode cX12_staysBy 96 = .ok (.iload_n 1, 1) := by decide +kernel
theorem dX12_staysBy_97 : decode cX12_staysBy 97 = .ok (.invokevirtual 425, 3) := by decide +kernel
theorem dX12_staysBy_100 : decode cX12_staysBy 100 = .ok (.ifCond .eq 11, 3) := by decide +kernel
theorem dX12_staysBy_103 : decode cX12_staysBy 103 = .ok (.aload_n 0, 1) := by decide +kernel
theorem dX12_staysBy_104 : decode cX12_staysBy 104 = .ok (.iload_n 3, 1) := by decide +kernel
theorem dX12_staysBy_105 : decode cX12_staysBy 105 = .ok (.iload 4, 2) := by decide +kernel
theorem dX12_staysBy_107 : decode cX12_staysBy 107 = .ok (.iconst 0, 1) := by decide +kernel
theorem dX12_staysBy_108 : decode cX12_staysBy 108 = .ok (.invokevirtual 443, 3) := by decide +kernel
theorem dX12_staysBy_111 : decode cX12_staysBy 111 = .ok (.iinc 2 1, 3) := by decide +kernel
theorem dX12_staysBy_114 : decode cX12_staysBy 114 = .ok (.goto (-84), 3) := by decide +kernel
theorem dX12_staysBy_117 : decode cX12_staysBy 117 = .ok (.iconst 0, 1) := by decide +kernel
theorem dX12_staysBy_118 : decode cX12_staysBy 118 = .ok (.istore_n 2, 1) := by decide +kernel
theorem dX12_staysBy_119 : decode cX12_staysBy 119 = .ok (.iconst 0, 1) := by decide +kernel
theorem dX12_staysBy_120 : decode cX12_staysBy 120 = .ok (.istore_n 3, 1) := by decide +kernel
theorem dX12_staysBy_121 : decode cX12_staysBy 121 = .ok (.iload_n 3, 1) := by decide +kernel
theorem dX12_staysBy_122 : decode cX12_staysBy 122 = .ok (.bipush 65, 2) := by decide +kernel
theorem dX12_staysBy_124 : decode cX12_staysBy 124 = .ok (.if_icmp .ge 78, 3) := by decide +kernel
theorem dX12_staysBy_127 : decode cX12_staysBy 127 = .ok (.aload_n 0, 1) := by decide +kernel
theorem dX12_staysBy_128 : decode cX12_staysBy 128 = .ok (.getfield 126, 3) := by decide +kernel
theorem dX12_staysBy_131 : decode cX12_staysBy 131 = .ok (.iload_n 3, 1) := by decide +kernel
theorem dX12_staysBy_132 : decode cX12_staysBy 132 = .ok (.iaload, 1) := by decide +kernel
theorem dX12_staysBy_133 : decode cX12_staysBy 133 = .ok (.ifCond .ne 6, 3) := by decide +kernel
theorem dX12_staysBy_136 : decode cX12_staysBy 136 = .ok (.goto 60, 3) := by decide +kernel
theorem dX12_staysBy_139 : decode cX12_staysBy 139 = .ok (.ldc_w 359, 3) := by decide +kernel
theorem dX12_staysBy_142 : decode cX12_staysBy 142 = .ok (.istore 4, 2) := by decide +kernel
theorem dX12_staysBy_144 : decode cX12_staysBy 144 = .ok (.iconst 0, 1) := by decide +kernel
theorem dX12_staysBy_145 : decode cX12_staysBy 145 = .ok (.istore 5, 2) := by decide +kernel
theorem dX12_staysBy_147 : decode cX12_staysBy 147 = .ok (.iload 5, 2) := by decide +kernel
theorem dX12_staysBy_149 : decode cX12_staysBy 149 = .ok (.bipush 6, 2) := by decide +kernel
theorem dX12_staysBy_151 : decode cX12_staysBy 151 = .ok (.if_icmp .ge 32, 3) := by decide +kernel
theorem dX12_staysBy_154 : decode cX12_staysBy 154 = .ok (.aload_n 0, 1) := by decide +kernel
theorem dX12_staysBy_155 : decode cX12_staysBy 155 = .ok (.iload 5, 2) := by decide +kernel
theorem dX12_staysBy_157 : decode cX12_staysBy 157 = .ok (.invokevirtual 434, 3) := by decide +kernel
theorem dX12_staysBy_160 : decode cX12_staysBy 160 = .ok (.ifCond .eq 17, 3) := by decide +kernel
theorem dX12_staysBy_163 : decode cX12_staysBy 163 = .ok (.iload 4, 2) := by decide +kernel
theorem dX12_staysBy_165 : decode cX12_staysBy 165 = .ok (.aload_n 0, 1) := by decide +kernel
theorem dX12_staysBy_166 : decode cX12_staysBy 166 = .ok (.iload_n 3, 1) := by decide +kernel
theorem dX12_staysBy_167 : decode cX12_staysBy 167 = .ok (.iload 5, 2) := by decide +kernel
theorem dX12_staysBy_169 : decode cX12_staysBy 169 = .ok (.invokevirtual 447, 3) := by decide +kernel
theorem dX12_staysBy_172 : decode cX12_staysBy 172 = .ok (.invokestatic 363, 3) := by decide +kernel
theorem dX12_staysBy_175 : decode cX12_staysBy 175 = .ok (.istore 4, 2) := by decide +kernel
theorem dX12_staysBy_177 : decode cX12_staysBy 177 = .ok (.iinc 5 1, 3) := by decide +kernel
theorem dX12_staysBy_180 : decode cX12_staysBy 180 = .ok (.goto (-33), 3) := by decide +kernel
theorem dX12_staysBy_183 : decode cX12_staysBy 183 = .ok (.iload 4, 2) := by decide +kernel
theorem dX12_staysBy_185 : decode cX12_staysBy 185 = .ok (.iload_n 2, 1) := by decide +kernel
theorem dX12_staysBy_186 : decode cX12_staysBy 186 = .ok (.if_icmp .le 8, 3) := by decide +kernel
theorem dX12_staysBy_189 : decode cX12_staysBy 189 = .ok (.iload 4, 2) := by decide +kernel
theorem dX12_staysBy_191 : decode cX12_staysBy 191 = .ok (.goto 4, 3) := by decide +kernel
theorem dX12_staysBy_194 : decode cX12_staysBy 194 = .ok (.iload_n 2, 1) := by decide +kernel
theorem dX12_staysBy_195 : decode cX12_staysBy 195 = .ok (.istore_n 2, 1) := by decide +kernel
theorem dX12_staysBy_196 : decode cX12_staysBy 196 = .ok (.iinc 3 1, 3) := by decide +kernel
theorem dX12_staysBy_199 : decode cX12_staysBy 199 = .ok (.goto (-78), 3) := by decide +kernel
theorem dX12_staysBy_202 : decode cX12_staysBy 202 = .ok (.iload_n 2, 1) := by decide +kernel
theorem dX12_staysBy_203 : decode cX12_staysBy 203 = .ok (.ireturn, 1) := by decide +kernel
theorem dX12_ahead_0 : decode cX12_ahead 0 = .ok (.iload_n 1, 1) := by decide +kernel
theorem dX12_ahead_1 : decode cX12_ahead 1 = .ok (.iconst 0, 1) := by decide +kernel
theorem dX12_ahead_2 : decode cX12_ahead 2 = .ok (.iconst 1, 1) := by decide +kernel
theorem dX12_ahead_3 : decode cX12_ahead 3 = .ok (.invokestatic 173, 3) := by decide +kernel
theorem dX12_ahead_6 : decode cX12_ahead 6 = .ok (.ifCond .ne 5, 3) := by decide +kernel
theorem dX12_ahead_9 : decode cX12_ahead 9 = .ok (.iconst (-1), 1) := by decide +kernel
theorem dX12_ahead_10 : decode cX12_ahead 10 = .ok (.ireturn, 1) := by decide +kernel
theorem dX12_ahead_11 : decode cX12_ahead 11 = .ok (.aload_n 0, 1) := by decide +kernel
theorem dX12_ahead_12 : decode cX12_ahead 12 = .ok (.invokevirtual 431, 3) := by decide +kernel
theorem dX12_ahead_15 : decode cX12_ahead 15 = .ok (.ifCond .ne 6, 3) := by decide +kernel
theorem dX12_ahead_18 : decode cX12_ahead 18 = .ok (.bipush (-2), 2) := by decide +kernel
theorem dX12_ahead_20 : decode cX12_ahead 20 = .ok (.ireturn, 1) := by decide +kernel
theorem dX12_ahead_21 : decode cX12_ahead 21 = .ok (.iconst (-1), 1) := by decide +kernel
theorem dX12_ahead_22 : decode cX12_ahead 22 = .ok (.istore_n 2, 1) := by decide +kernel
theorem dX12_ahead_23 : decode cX12_ahead 23 = .ok (.ldc_w 359, 3) := by decide +kernel
theorem dX12_ahead_26 : decode cX12_ahead 26 = .ok (.istore_n 3, 1) := by decide +kernel
theorem dX12_ahead_27 : decode cX12_ahead 27 = .ok (.iconst 0, 1) := by decide +kernel
theorem dX12_ahead_28 : decode cX12_ahead 28 = .ok (.istore 4, 2) := by decide +kernel
theorem dX12_ahead_30 : decode cX12_ahead 30 = .ok (.iload 4, 2) := by decide +kernel
theorem dX12_ahead_32 : decode cX12_ahead 32 = .ok (.bipush 6, 2) := by decide +kernel
theorem dX12_ahead_34 : decode cX12_ahead 34 = .ok (.if_icmp .ge 44, 3) := by decide +kernel
theorem dX12_ahead_37 : decode cX12_ahead 37 = .ok (.aload_n 0, 1) := by decide +kernel
theorem dX12_ahead_38 : decode cX12_ahead 38 = .ok (.iload 4, 2) := by decide +kernel
theorem dX12_ahead_40 : decode cX12_ahead 40 = .ok (.invokevirtual 434, 3) := by decide +kernel
theorem dX12_ahead_43 : decode cX12_ahead 43 = .ok (.ifCond .ne 6, 3) := by decide +kernel
theorem dX12_ahead_46 : decode cX12_ahead 46 = .ok (.goto 26, 3) := by decide +kernel
theorem dX12_ahead_49 : decode cX12_ahead 49 = .ok (.aload_n 0, 1) := by decide +kernel
theorem dX12_ahead_50 : decode cX12_ahead 50 = .ok (.iload 4, 2) := by decide +kernel
theorem dX12_ahead_52 : decode cX12_ahead 52 = .ok (.invokevirtual 450, 3) := by decide +kernel
theorem dX12_ahead_55 : decode cX12_ahead 55 = .ok (.istore 5, 2) := by decide +kernel
theorem dX12_ahead_57 : decode cX12_ahead 57 = .ok (.iload 5, 2) := by decide +kernel
theorem dX12_ahead_59 : decode cX12_ahead 59 = .ok (.iload_n 3, 1) := by decide +kernel
theorem dX12_ahead_60 : decode cX12_ahead 60 = .ok (.if_icmp .lt 6, 3) := by decide +kernel
theorem dX12_ahead_63 : decode cX12_ahead 63 = .ok (.goto 9, 3) := by decide +kernel
theorem dX12_ahead_66 : decode cX12_ahead 66 = .ok (.iload 5, 2) := by decide +kernel
theorem dX12_ahead_68 : decode cX12_ahead 68 = .ok (.istore_n 3, 1) := by decide +kernel
theorem dX12_ahead_69 : decode cX12_ahead 69 = .ok (.iload 4, 2) := by decide +kernel
theorem dX12_ahead_71 : decode cX12_ahead 71 = .ok (.istore_n 2, 1) := by decide +kernel
theorem dX12_ahead_72 : decode cX12_ahead 72 = .ok (.iinc 4 1, 3) := by decide +kernel
theorem dX12_ahead_75 : decode cX12_ahead 75 = .ok (.goto (-45), 3) := by decide +kernel
theorem dX12_ahead_78 : decode cX12_ahead 78 = .ok (.iload_n 1, 1) := by decide +kernel
theorem dX12_ahead_79 : decode cX12_ahead 79 = .ok (.ifCond .ne 7, 3) := by decide +kernel
theorem dX12_ahead_82 : decode cX12_ahead 82 = .ok (.iload_n 2, 1) := by decide +kernel
theorem dX12_ahead_83 : decode cX12_ahead 83 = .ok (.goto 4, 3) := by decide +kernel
theorem dX12_ahead_86 : decode cX12_ahead 86 = .ok (.iload_n 3, 1) := by decide +kernel
theorem dX12_ahead_87 : decode cX12_ahead 87 = .ok (.ireturn, 1) := by decide +kernel
theorem dX12_laysSure_0 : decode cX12_laysSure 0 = .ok (.aload_n 0, 1) := by decide +kernel
theorem dX12_laysSure_1 : decode cX12_laysSure 1 = .ok (.invokevirtual 410, 3) := by decide +kernel
theorem dX12_laysSure_4 : decode cX12_laysSure 4 = .ok (.iconst 0, 1) := by decide +kernel
theorem dX12_laysSure_5 : decode cX12_laysSure 5 = .ok (.istore_n 1, 1) := by decide +kernel
theorem dX12_laysSure_6 : decode cX12_laysSure 6 = .ok (.iload_n 1, 1) := by decide +kernel
theorem dX12_laysSure_7 : decode cX12_laysSure 7 = .ok (.sipush 1024, 3) := by decide +kernel
theorem dX12_laysSure_10 : decode cX12_laysSure 10 = .ok (.if_icmp .ge 35, 3) := by decide +kernel
theorem dX12_laysSure_13 : decode cX12_laysSure 13 = .ok (.aload_n 0, 1) := by decide +kernel
theorem dX12_laysSure_14 : decode cX12_laysSure 14 = .ok (.getfield 132, 3) := by decide +kernel
theorem dX12_laysSure_17 : decode cX12_laysSure 17 = .ok (.iload_n 1, 1) := by decide +kernel
theorem dX12_laysSure_18 : decode cX12_laysSure 18 = .ok (.aload_n 0, 1) := by decide +kernel
theorem dX12_laysSure_19 : decode cX12_laysSure 19 = .ok (.getfield 403, 3) := by decide +kernel
theorem dX12_laysSure_22 : decode cX12_laysSure 22 = .ok (.ifCond .le 15, 3) := by decide +kernel
theorem dX12_laysSure_25 : decode cX12_laysSure 25 = .ok (.aload_n 0, 1) := by decide +kernel
theorem dX12_laysSure_26 : decode cX12_laysSure 26 = .ok (.iload_n 1, 1) := by decide +kernel
theorem dX12_laysSure_27 : decode cX12_laysSure 27 = .ok (.invokevirtual 453, 3) := by decide +kernel
theorem dX12_laysSure_30 : decode cX12_laysSure 30 = .ok (.ifCond .eq 7, 3) := by decide +kernel
theorem dX12_laysSure_33 : decode cX12_laysSure 33 = .ok (.iconst 1, 1) := by decide +kernel
theorem dX12_laysSure_34 : decode cX12_laysSure 34 = .ok (.goto 4, 3) := by decide +kernel
theorem dX12_laysSure_37 : decode cX12_laysSure 37 = .ok (.iconst 0, 1) := by decide +kernel
theorem dX12_laysSure_38 : decode cX12_laysSure 38 = .ok (.bastore, 1) := by decide +kernel
theorem dX12_laysSure_39 : decode cX12_laysSure 39 = .ok (.iinc 1 1, 3) := by decide +kernel
theorem dX12_laysSure_42 : decode cX12_laysSure 42 = .ok (.goto (-36), 3) := by decide +kernel
theorem dX12_laysSure_45 : decode cX12_laysSure 45 = .ok (.aload_n 0, 1) := by decide +kernel
theorem dX12_laysSure_46 : decode cX12_laysSure 46 = .ok (.getfield 403, 3) := by decide +kernel
theorem dX12_laysSure_49 : decode cX12_laysSure 49 = .ok (.ifCond .le 7, 3) := by decide +kernel
theorem dX12_laysSure_52 : decode cX12_laysSure 52 = .ok (.iconst 1, 1) := by decide +kernel
theorem dX12_laysSure_53 : decode cX12_laysSure 53 = .ok (.goto 4, 3) := by decide +kernel
theorem dX12_laysSure_56 : decode cX12_laysSure 56 = .ok (.iconst 0, 1) := by decide +kernel
theorem dX12_laysSure_57 : decode cX12_laysSure 57 = .ok (.ireturn, 1) := by decide +kernel
theorem dX12_stepBy_0 : decode cX12_stepBy 0 = .ok (.iload_n 1, 1) := by decide +kernel
theorem dX12_stepBy_1 : decode cX12_stepBy 1 = .ok (.bipush 32, 2) := by decide +kernel
theorem dX12_stepBy_3 : decode cX12_stepBy 3 = .ok (.irem, 1) := by decide +kernel
theorem dX12_stepBy_4 : decode cX12_stepBy 4 = .ok (.iload_n 3, 1) := by decide +kernel
theorem dX12_stepBy_5 : decode cX12_stepBy 5 = .ok (.invokestatic 196, 3) := by decide +kernel
theorem dX12_stepBy_8 : decode cX12_stepBy 8 = .ok (.iadd, 1) := by decide +kernel
theorem dX12_stepBy_9 : decode cX12_stepBy 9 = .ok (.istore 4, 2) := by decide +kernel
theorem dX12_stepBy_11 : decode cX12_stepBy 11 = .ok (.iload_n 1, 1) := by decide +kernel
theorem dX12_stepBy_12 : decode cX12_stepBy 12 = .ok (.bipush 32, 2) := by decide +kernel
theorem dX12_stepBy_14 : decode cX12_stepBy 14 = .ok (.idiv, 1) := by decide +kernel
theorem dX12_stepBy_15 : decode cX12_stepBy 15 = .ok (.iload_n 3, 1) := by decide +kernel
theorem dX12_stepBy_16 : decode cX12_stepBy 16 = .ok (.invokestatic 199, 3) := by decide +kernel
theorem dX12_stepBy_19 : decode cX12_stepBy 19 = .ok (.iadd, 1) := by decide +kernel
theorem dX12_stepBy_20 : decode cX12_stepBy 20 = .ok (.istore 5, 2) := by decide +kernel
theorem dX12_stepBy_22 : decode cX12_stepBy 22 = .ok (.iload 4, 2) := by decide +kernel
theorem dX12_stepBy_24 : decode cX12_stepBy 24 = .ok (.iload 5, 2) := by decide +kernel
theorem dX12_stepBy_26 : decode cX12_stepBy 26 = .ok (.invokestatic 190, 3) := by decide +kernel
theorem dX12_stepBy_29 : decode cX12_stepBy 29 = .ok (.ifCond .eq 19, 3) := by decide +kernel
theorem dX12_stepBy_32 : decode cX12_stepBy 32 = .ok (.aload_n 0, 1) := by decide +kernel
theorem dX12_stepBy_33 : decode cX12_stepBy 33 = .ok (.getfield 132, 3) := by decide +kernel
theorem dX12_stepBy_36 : decode cX12_stepBy 36 = .ok (.bipush 32, 2) := by decide +kernel
theorem dX12_stepBy_38 : decode cX12_stepBy 38 = .ok (.iload 5, 2) := by decide +kernel
theorem dX12_stepBy_40 : decode cX12_stepBy 40 = .ok (.imul, 1) := by decide +kernel
theorem dX12_stepBy_41 : decode cX12_stepBy 41 = .ok (.iload 4, 2) := by decide +kernel
theorem dX12_stepBy_43 : decode cX12_stepBy 43 = .ok (.iadd, 1) := by decide +kernel
theorem dX12_stepBy_44 : decode cX12_stepBy 44 = .ok (.baload, 1) := by decide +kernel
theorem dX12_stepBy_45 : decode cX12_stepBy 45 = .ok (.ifCond .ne 7, 3) := by decide +kernel
theorem dX12_stepBy_48 : decode cX12_stepBy 48 = .ok (.ldc_w 359, 3) := by decide +kernel
theorem dX12_stepBy_51 : decode cX12_stepBy 51 = .ok (.ireturn, 1) := by decide +kernel
theorem dX12_stepBy_52 : decode cX12_stepBy 52 = .ok (.aload_n 0, 1) := by decide +kernel
theorem dX12_stepBy_53 : decode cX12_stepBy 53 = .ok (.getfield 135, 3) := by decide +kernel
theorem dX12_stepBy_56 : decode cX12_stepBy 56 = .ok (.iconst 4, 1) := by decide +kernel
theorem dX12_stepBy_57 : decode cX12_stepBy 57 = .ok (.bipush 32, 2) := by decide +kernel
theorem dX12_stepBy_59 : decode cX12_stepBy 59 = .ok (.iload 5, 2) := by decide +kernel
theorem dX12_stepBy_61 : decode cX12_stepBy 61 = .ok (.imul, 1) := by decide +kernel
theorem dX12_stepBy_62 : decode cX12_stepBy 62 = .ok (.iload 4, 2) := by decide +kernel
theorem dX12_stepBy_64 : decode cX12_stepBy 64 = .ok (.iadd, 1) := by decide +kernel
theorem dX12_stepBy_65 : decode cX12_stepBy 65 = .ok (.imul, 1) := by decide +kernel
theorem dX12_stepBy_66 : decode cX12_stepBy 66 = .ok (.iload_n 3, 1) := by decide +kernel
theorem dX12_stepBy_67 : decode cX12_stepBy 67 = .ok (.iadd, 1) := by decide +kernel
theorem dX12_stepBy_68 : decode cX12_stepBy 68 = .ok (.iaload, 1) := by decide +kernel
theorem dX12_stepBy_69 : decode cX12_stepBy 69 = .ok (.iload_n 2, 1) := by decide +kernel
theorem dX12_stepBy_70 : decode cX12_stepBy 70 = .ok (.iload_n 3, 1) := by decide +kernel
theorem dX12_stepBy_71 : decode cX12_stepBy 71 = .ok (.if_icmp .ne 7, 3) := by decide +kernel
theorem dX12_stepBy_74 : decode cX12_stepBy 74 = .ok (.iconst 1, 1) := by decide +kernel
theorem dX12_stepBy_75 : decode cX12_stepBy 75 = .ok (.goto 6, 3) := by decide +kernel
theorem dX12_stepBy_78 : decode cX12_stepBy 78 = .ok (.sipush 10001, 3) := by decide +kernel
theorem dX12_stepBy_81 : decode cX12_stepBy 81 = .ok (.invokestatic 373, 3) := by decide +kernel
theorem dX12_stepBy_84 : decode cX12_stepBy 84 = .ok (.ireturn, 1) := by decide +kernel
theorem dX12_bestBy_0 : decode cX12_bestBy 0 = .ok (.ldc_w 359, 3) := by decide +kernel
theorem dX12_bestBy_3 : decode cX12_bestBy 3 = .ok (.istore_n 3, 1) := by decide +kernel
theorem dX12_bestBy_4 : decode cX12_bestBy 4 = .ok (.iconst 0, 1) := by decide +kernel
theorem dX12_bestBy_5 : decode cX12_bestBy 5 = .ok (.istore 4, 2) := by decide +kernel
theorem dX12_bestBy_7 : decode cX12_bestBy 7 = .ok (.iload 4, 2) := by decide +kernel
theorem dX12_bestBy_9 : decode cX12_bestBy 9 = .ok (.iconst 4, 1) := by decide +kernel
theorem dX12_bestBy_10 : decode cX12_bestBy 10 = .ok (.if_icmp .ge 22, 3) := by decide +kernel
theorem dX12_bestBy_13 : decode cX12_bestBy 13 = .ok (.iload_n 3, 1) := by decide +kernel
theorem dX12_bestBy_14 : decode cX12_bestBy 14 = .ok (.aload_n 0, 1) := by decide +kernel
theorem dX12_bestBy_15 : decode cX12_bestBy 15 = .ok (.iload_n 1, 1) := by decide +kernel
theorem dX12_bestBy_16 : decode cX12_bestBy 16 = .ok (.iload_n 2, 1) := by decide +kernel
theorem dX12_bestBy_17 : decode cX12_bestBy 17 = .ok (.iload 4, 2) := by decide +kernel
theorem dX12_bestBy_19 : decode cX12_bestBy 19 = .ok (.invokevirtual 456, 3) := by decide +kernel
theorem dX12_bestBy_22 : decode cX12_bestBy 22 = .ok (.invokestatic 363, 3) := by decide +kernel
theorem dX12_bestBy_25 : decode cX12_bestBy 25 = .ok (.istore_n 3, 1) := by decide +kernel
theorem dX12_bestBy_26 : decode cX12_bestBy 26 = .ok (.iinc 4 1, 3) := by decide +kernel
theorem dX12_bestBy_29 : decode cX12_bestBy 29 = .ok (.goto (-22), 3) := by decide +kernel
theorem dX12_bestBy_32 : decode cX12_bestBy 32 = .ok (.iload_n 3, 1) := by decide +kernel
theorem dX12_bestBy_33 : decode cX12_bestBy 33 = .ok (.ireturn, 1) := by decide +kernel
theorem dX12_laysWays_0 : decode cX12_laysWays 0 = .ok (.iconst 0, 1) := by decide +kernel
theorem dX12_laysWays_1 : decode cX12_laysWays 1 = .ok (.istore_n 2, 1) := by decide +kernel
theorem dX12_laysWays_2 : decode cX12_laysWays 2 = .ok (.iload_n 2, 1) := by decide +kernel
theorem dX12_laysWays_3 : decode cX12_laysWays 3 = .ok (.sipush 4096, 3) := by decide +kernel
theorem dX12_laysWays_6 : decode cX12_laysWays 6 = .ok (.if_icmp .ge 29, 3) := by decide +kernel
theorem dX12_laysWays_9 : decode cX12_laysWays 9 = .ok (.aload_n 0, 1) := by decide +kernel
theorem dX12_laysWays_10 : decode cX12_laysWays 10 = .ok (.getfield 135, 3) := by decide +kernel
theorem dX12_laysWays_13 : decode cX12_laysWays 13 = .ok (.iload_n 2, 1) := by decide +kernel
theorem dX12_laysWays_14 : decode cX12_laysWays 14 = .ok (.iload_n 2, 1) := by decide +kernel
theorem dX12_laysWays_15 : decode cX12_laysWays 15 = .ok (.iconst 4, 1) := by decide +kernel
theorem dX12_laysWays_16 : decode cX12_laysWays 16 = .ok (.idiv, 1) := by decide +kernel
theorem dX12_laysWays_17 : decode cX12_laysWays 17 = .ok (.iload_n 1, 1) := by decide +kernel
theorem dX12_laysWays_18 : decode cX12_laysWays 18 = .ok (.if_icmp .ne 7, 3) := by decide +kernel
theorem dX12_laysWays_21 : decode cX12_laysWays 21 = .ok (.iconst 0, 1) := by decide +kernel
theorem dX12_laysWays_22 : decode cX12_laysWays 22 = .ok (.goto 6, 3) := by decide +kernel
theorem dX12_laysWays_25 : decode cX12_laysWays 25 = .ok (.ldc_w 359, 3) := by decide +kernel
theorem dX12_laysWays_28 : decode cX12_laysWays 28 = .ok (.iastore, 1) := by decide +kernel
theorem dX12_laysWays_29 : decode cX12_laysWays 29 = .ok (.iinc 2 1, 3) := by decide +kernel
theorem dX12_laysWays_32 : decode cX12_laysWays 32 = .ok (.goto (-30), 3) := by decide +kernel
theorem dX12_laysWays_35 : decode cX12_laysWays 35 = .ok (.iconst 1, 1) := by decide +kernel
theorem dX12_laysWays_36 : decode cX12_laysWays 36 = .ok (.istore_n 2, 1) := by decide +kernel
theorem dX12_laysWays_37 : decode cX12_laysWays 37 = .ok (.iload_n 2, 1) := by decide +kernel
theorem dX12_laysWays_38 : decode cX12_laysWays 38 = .ok (.ifCond .eq 80, 3) := by decide +kernel
theorem dX12_laysWays_41 : decode cX12_laysWays 41 = .ok (.iconst 0, 1) := by decide +kernel
theorem dX12_laysWays_42 : decode cX12_laysWays 42 = .ok (.istore_n 2, 1) := by decide +kernel
theorem dX12_laysWays_43 : decode cX12_laysWays 43 = .ok (.iconst 0, 1) := by decide +kernel
theorem dX12_laysWays_44 : decode cX12_laysWays 44 = .ok (.istore_n 3, 1) := by decide +kernel
theorem dX12_laysWays_45 : decode cX12_laysWays 45 = .ok (.iload_n 3, 1) := by decide +kernel
theorem dX12_laysWays_46 : decode cX12_laysWays 46 = .ok (.sipush 4096, 3) := by decide +kernel
theorem dX12_laysWays_49 : decode cX12_laysWays 49 = .ok (.if_icmp .ge 66, 3) := by decide +kernel
theorem dX12_laysWays_52 : decode cX12_laysWays 52 = .ok (.iload_n 3, 1) := by decide +kernel
theorem dX12_laysWays_53 : decode cX12_laysWays 53 = .ok (.iconst 4, 1) := by decide +kernel
theorem dX12_laysWays_54 : decode cX12_laysWays 54 = .ok (.idiv, 1) := by decide +kernel
theorem dX12_laysWays_55 : decode cX12_laysWays 55 = .ok (.iload_n 1, 1) := by decide +kernel
theorem dX12_laysWays_56 : decode cX12_laysWays 56 = .ok (.if_icmp .eq 53, 3) := by decide +kernel
theorem dX12_laysWays_59 : decode cX12_laysWays 59 = .ok (.aload_n 0, 1) := by decide +kernel
theorem dX12_laysWays_60 : decode cX12_laysWays 60 = .ok (.getfield 132, 3) := by decide +kernel
theorem dX12_laysWays_63 : decode cX12_laysWays 63 = .ok (.iload_n 3, 1) := by decide +kernel
theorem dX12_laysWays_64 : decode cX12_laysWays 64 = .ok (.iconst 4, 1) := by decide +kernel
theorem dX12_laysWays_65 : decode cX12_laysWays 65 = .ok (.idiv, 1) := by decide +kernel
theorem dX12_laysWays_66 : decode cX12_laysWays 66 = .ok (.baload, 1) := by decide +kernel
theorem dX12_laysWays_67 : decode cX12_laysWays 67 = .ok (.ifCond .ne 6, 3) := by decide +kernel
theorem dX12_laysWays_70 : decode cX12_laysWays 70 = .ok (.goto 39, 3) := by decide +kernel
theorem dX12_laysWays_73 : decode cX12_laysWays 73 = .ok (.aload_n 0, 1) := by decide +kernel
theorem dX12_laysWays_74 : decode cX12_laysWays 74 = .ok (.iload_n 3, 1) := by decide +kernel
theorem dX12_laysWays_75 : decode cX12_laysWays 75 = .ok (.iconst 4, 1) := by decide +kernel
theorem dX12_laysWays_76 : decode cX12_laysWays 76 = .ok (.idiv, 1) := by decide +kernel
theorem dX12_laysWays_77 : decode cX12_laysWays 77 = .ok (.iload_n 3, 1) := by decide +kernel
theorem dX12_laysWays_78 : decode cX12_laysWays 78 = .ok (.iconst 4, 1) := by decide +kernel
theorem dX12_laysWays_79 : decode cX12_laysWays 79 = .ok (.irem, 1) := by decide +kernel
theorem dX12_laysWays_80 : decode cX12_laysWays 80 = .ok (.invokevirtual 459, 3) := by decide +kernel
theorem dX12_laysWays_83 : decode cX12_laysWays 83 = .ok (.istore 4, 2) := by decide +kernel
theorem dX12_laysWays_85 : decode cX12_laysWays 85 = .ok (.iload 4, 2) := by decide +kernel
theorem dX12_laysWays_87 : decode cX12_laysWays 87 = .ok (.aload_n 0, 1) := by decide +kernel
theorem dX12_laysWays_88 : decode cX12_laysWays 88 = .ok (.getfield 135, 3) := by decide +kernel
theorem dX12_laysWays_91 : decode cX12_laysWays 91 = .ok (.iload_n 3, 1) := by decide +kernel
theorem dX12_laysWays_92 : decode cX12_laysWays 92 = .ok (.iaload, 1) := by decide +kernel
theorem dX12_laysWays_93 : decode cX12_laysWays 93 = .ok (.if_icmp .lt 6, 3) := by decide +kernel
theorem dX12_laysWays_96 : decode cX12_laysWays 96 = .ok (.goto 13, 3) := by decide +kernel
theorem dX12_laysWays_99 : decode cX12_laysWays 99 = .ok (.aload_n 0, 1) := by decide +kernel
theorem dX12_laysWays_100 : decode cX12_laysWays 100 = .ok (.getfield 135, 3) := by decide +kernel
theorem dX12_laysWays_103 : decode cX12_laysWays 103 = .ok (.iload_n 3, 1) := by decide +kernel
theorem dX12_laysWays_104 : decode cX12_laysWays 104 = .ok (.iload 4, 2) := by decide +kernel
theorem dX12_laysWays_106 : decode cX12_laysWays 106 = .ok (.iastore, 1) := by decide +kernel
theorem dX12_laysWays_107 : decode cX12_laysWays 107 = .ok (.iconst 1, 1) := by decide +kernel
theorem dX12_laysWays_108 : decode cX12_laysWays 108 = .ok (.istore_n 2, 1) := by decide +kernel
theorem dX12_laysWays_109 : decode cX12_laysWays 109 = .ok (.iinc 3 1, 3) := by decide +kernel
theorem dX12_laysWays_112 : decode cX12_laysWays 112 = .ok (.goto (-67), 3) := by decide +kernel
theorem dX12_laysWays_115 : decode cX12_laysWays 115 = .ok (.goto (-78), 3) := by decide +kernel
theorem dX12_laysWays_118 : decode cX12_laysWays 118 = .ok (.return_, 1) := by decide +kernel
theorem dX12_firstBy_0 : decode cX12_firstBy 0 = .ok (.aload_n 0, 1) := by decide +kernel
theorem dX12_firstBy_1 : decode cX12_firstBy 1 = .ok (.iload_n 1, 1) := by decide +kernel
theorem dX12_firstBy_2 : decode cX12_firstBy 2 = .ok (.iload_n 2, 1) := by decide +kernel
theorem dX12_firstBy_3 : decode cX12_firstBy 3 = .ok (.iload_n 2, 1) := by decide +kernel
theorem dX12_firstBy_4 : decode cX12_firstBy 4 = .ok (.invokevirtual 456, 3) := by decide +kernel
theorem dX12_firstBy_7 : decode cX12_firstBy 7 = .ok (.ireturn, 1) := by decide +kernel
theorem dX12_wayIn_0 : decode cX12_wayIn 0 = .ok (.iload_n 1, 1) := by decide +kernel
theorem dX12_wayIn_1 : decode cX12_wayIn 1 = .ok (.iload_n 2, 1) := by decide +kernel
theorem dX12_wayIn_2 : decode cX12_wayIn 2 = .ok (.invokestatic 190, 3) := by decide +kernel
theorem dX12_wayIn_5 : decode cX12_wayIn 5 = .ok (.ifCond .eq 23, 3) := by decide +kernel
theorem dX12_wayIn_8 : decode cX12_wayIn 8 = .ok (.iload_n 3, 1) := by decide +kernel
theorem dX12_wayIn_9 : decode cX12_wayIn 9 = .ok (.iload 4, 2) := by decide +kernel
theorem dX12_wayIn_11 : decode cX12_wayIn 11 = .ok (.invokestatic 190, 3) := by decide +kernel
theorem dX12_wayIn_14 : decode cX12_wayIn 14 = .ok (.ifCond .eq 14, 3) := by decide +kernel
theorem dX12_wayIn_17 : decode cX12_wayIn 17 = .ok (.iload 5, 2) := by decide +kernel
theorem dX12_wayIn_19 : decode cX12_wayIn 19 = .ok (.iconst (-1), 1) := by decide +kernel
theorem dX12_wayIn_20 : decode cX12_wayIn 20 = .ok (.bipush 100, 2) := by decide +kernel
theorem dX12_wayIn_22 : decode cX12_wayIn 22 = .ok (.invokestatic 173, 3) := by decide +kernel
theorem dX12_wayIn_25 : decode cX12_wayIn 25 = .ok (.ifCond .ne 5, 3) := by decide +kernel
theorem dX12_wayIn_28 : decode cX12_wayIn 28 = .ok (.iconst (-1), 1) := by decide +kernel
theorem dX12_wayIn_29 : decode cX12_wayIn 29 = .ok (.ireturn, 1) := by decide +kernel
theorem dX12_wayIn_30 : decode cX12_wayIn 30 = .ok (.bipush 32, 2) := by decide +kernel
theorem dX12_wayIn_32 : decode cX12_wayIn 32 = .ok (.iload_n 2, 1) := by decide +kernel
theorem dX12_wayIn_33 : decode cX12_wayIn 33 = .ok (.imul, 1) := by decide +kernel
theorem dX12_wayIn_34 : decode cX12_wayIn 34 = .ok (.iload_n 1, 1) := by decide +kernel
theorem dX12_wayIn_35 : decode cX12_wayIn 35 = .ok (.iadd, 1) := by decide +kernel
theorem dX12_wayIn_36 : decode cX12_wayIn 36 = .ok (.istore 6, 2) := by decide +kernel
theorem dX12_wayIn_38 : decode cX12_wayIn 38 = .ok (.bipush 32, 2) := by decide +kernel
theorem dX12_wayIn_40 : decode cX12_wayIn 40 = .ok (.iload 4, 2) := by decide +kernel
theorem dX12_wayIn_42 : decode cX12_wayIn 42 = .ok (.imul, 1) := by decide +kernel
theorem dX12_wayIn_43 : decode cX12_wayIn 43 = .ok (.iload_n 3, 1) := by decide +kernel
theorem dX12_wayIn_44 : decode cX12_wayIn 44 = .ok (.iadd, 1) := by decide +kernel
theorem dX12_wayIn_45 : decode cX12_wayIn 45 = .ok (.istore 7, 2) := by decide +kernel
theorem dX12_wayIn_47 : decode cX12_wayIn 47 = .ok (.aload_n 0, 1) := by decide +kernel
theorem dX12_wayIn_48 : decode cX12_wayIn 48 = .ok (.invokevirtual 462, 3) := by decide +kernel
theorem dX12_wayIn_51 : decode cX12_wayIn 51 = .ok (.ifCond .eq 23, 3) := by decide +kernel
theorem dX12_wayIn_54 : decode cX12_wayIn 54 = .ok (.aload_n 0, 1) := by decide +kernel
theorem dX12_wayIn_55 : decode cX12_wayIn 55 = .ok (.getfield 132, 3) := by decide +kernel
theorem dX12_wayIn_58 : decode cX12_wayIn 58 = .ok (.iload 6, 2) := by decide +kernel
theorem dX12_wayIn_60 : decode cX12_wayIn 60 = .ok (.baload, 1) := by decide +kernel
theorem dX12_wayIn_61 : decode cX12_wayIn 61 = .ok (.ifCond .eq 13, 3) := by decide +kernel
theorem dX12_wayIn_64 : decode cX12_wayIn 64 = .ok (.aload_n 0, 1) := by decide +kernel
theorem dX12_wayIn_65 : decode cX12_wayIn 65 = .ok (.getfield 132, 3) := by decide +kernel
theorem dX12_wayIn_68 : decode cX12_wayIn 68 = .ok (.iload 7, 2) := by decide +kernel
theorem dX12_wayIn_70 : decode cX12_wayIn 70 = .ok (.baload, 1) := by decide +kernel
theorem dX12_wayIn_71 : decode cX12_wayIn 71 = .ok (.ifCond .ne 6, 3) := by decide +kernel
theorem dX12_wayIn_74 : decode cX12_wayIn 74 = .ok (.bipush (-2), 2) := by decide +kernel
theorem dX12_wayIn_76 : decode cX12_wayIn 76 = .ok (.ireturn, 1) := by decide +kernel
theorem dX12_wayIn_77 : decode cX12_wayIn 77 = .ok (.iload 6, 2) := by decide +kernel
theorem dX12_wayIn_79 : decode cX12_wayIn 79 = .ok (.iload 7, 2) := by decide +kernel
theorem dX12_wayIn_81 : decode cX12_wayIn 81 = .ok (.if_icmp .ne 22, 3) := by decide +kernel
theorem dX12_wayIn_84 : decode cX12_wayIn 84 = .ok (.iload 5, 2) := by decide +kernel
theorem dX12_wayIn_86 : decode cX12_wayIn 86 = .ok (.iconst (-1), 1) := by decide +kernel
theorem dX12_wayIn_87 : decode cX12_wayIn 87 = .ok (.if_icmp .eq 10, 3) := by decide +kernel
theorem dX12_wayIn_90 : decode cX12_wayIn 90 = .ok (.iload 5, 2) := by decide +kernel
theorem dX12_wayIn_92 : decode cX12_wayIn 92 = .ok (.bipush 100, 2) := by decide +kernel
theorem dX12_wayIn_94 : decode cX12_wayIn 94 = .ok (.if_icmp .ne 7, 3) := by decide +kernel
theorem dX12_wayIn_97 : decode cX12_wayIn 97 = .ok (.iconst 0, 1) := by decide +kernel
theorem dX12_wayIn_98 : decode cX12_wayIn 98 = .ok (.goto 4, 3) := by decide +kernel
theorem dX12_wayIn_101 : decode cX12_wayIn 101 = .ok (.iconst (-1), 1) := by decide +kernel
theorem dX12_wayIn_102 : decode cX12_wayIn 102 = .ok (.ireturn, 1) := by decide +kernel
theorem dX12_wayIn_103 : decode cX12_wayIn 103 = .ok (.aload_n 0, 1) := by decide +kernel
theorem dX12_wayIn_104 : decode cX12_wayIn 104 = .ok (.iload 7, 2) := by decide +kernel
theorem dX12_wayIn_106 : decode cX12_wayIn 106 = .ok (.invokevirtual 465, 3) := by decide +kernel
theorem dX12_wayIn_109 : decode cX12_wayIn 109 = .ok (.ldc_w 359, 3) := by decide +kernel
theorem dX12_wayIn_112 : decode cX12_wayIn 112 = .ok (.istore 8, 2) := by decide +kernel
theorem dX12_wayIn_114 : decode cX12_wayIn 114 = .ok (.iconst 0, 1) := by decide +kernel
theorem dX12_wayIn_115 : decode cX12_wayIn 115 = .ok (.istore 9, 2) := by decide +kernel
theorem dX12_wayIn_117 : decode cX12_wayIn 117 = .ok (.iload 9, 2) := by decide +kernel
theorem dX12_wayIn_119 : decode cX12_wayIn 119 = .ok (.iconst 4, 1) := by decide +kernel
theorem dX12_wayIn_120 : decode cX12_wayIn 120 = .ok (.if_icmp .ge 24, 3) := by decide +kernel
theorem dX12_wayIn_123 : decode cX12_wayIn 123 = .ok (.iload 8, 2) := by decide +kernel
theorem dX12_wayIn_125 : decode cX12_wayIn 125 = .ok (.aload_n 0, 1) := by decide +kernel
theorem dX12_wayIn_126 : decode cX12_wayIn 126 = .ok (.iload 6, 2) := by decide +kernel
theorem dX12_wayIn_128 : decode cX12_wayIn 128 = .ok (.iload 9, 2) := by decide +kernel
theorem dX12_wayIn_130 : decode cX12_wayIn 130 = .ok (.invokevirtual 468, 3) := by decide +kernel
theorem dX12_wayIn_133 : decode cX12_wayIn 133 = .ok (.invokestatic 363, 3) := by decide +kernel
theorem dX12_wayIn_136 : decode cX12_wayIn 136 = .ok (.istore 8, 2) := by decide +kernel
theorem dX12_wayIn_138 : decode cX12_wayIn 138 = .ok (.iinc 9 1, 3) := by decide +kernel
theorem dX12_wayIn_141 : decode cX12_wayIn 141 = .ok (.goto (-24), 3) := by decide +kernel
theorem dX12_wayIn_144 : decode cX12_wayIn 144 = .ok (.iload 8, 2) := by decide +kernel
theorem dX12_wayIn_146 : decode cX12_wayIn 146 = .ok (.ldc_w 359, 3) := by decide +kernel
theorem dX12_wayIn_149 : decode cX12_wayIn 149 = .ok (.if_icmp .lt 6, 3) := by decide +kernel
theorem dX12_wayIn_152 : decode cX12_wayIn 152 = .ok (.bipush (-2), 2) := by decide +kernel
theorem dX12_wayIn_154 : decode cX12_wayIn 154 = .ok (.ireturn, 1) := by decide +kernel
theorem dX12_wayIn_155 : decode cX12_wayIn 155 = .ok (.iload 5, 2) := by decide +kernel
theorem dX12_wayIn_157 : decode cX12_wayIn 157 = .ok (.iconst (-1), 1) := by decide +kernel
theorem dX12_wayIn_158 : decode cX12_wayIn 158 = .ok (.if_icmp .ne 10, 3) := by decide +kernel
theorem dX12_wayIn_161 : decode cX12_wayIn 161 = .ok (.iload 8, 2) := by decide +kernel
theorem dX12_wayIn_163 : decode cX12_wayIn 163 = .ok (.sipush 10000, 3) := by decide +kernel
theorem dX12_wayIn_166 : decode cX12_wayIn 166 = .ok (.idiv, 1) := by decide +kernel
theorem dX12_wayIn_167 : decode cX12_wayIn 167 = .ok (.ireturn, 1) := by decide +kernel
theorem dX12_wayIn_168 : decode cX12_wayIn 168 = .ok (.iload 5, 2) := by decide +kernel
theorem dX12_wayIn_170 : decode cX12_wayIn 170 = .ok (.bipush 100, 2) := by decide +kernel
theorem dX12_wayIn_172 : decode cX12_wayIn 172 = .ok (.if_icmp .ne 10, 3) := by decide +kernel
theorem dX12_wayIn_175 : decode cX12_wayIn 175 = .ok (.iload 8, 2) := by decide +kernel
theorem dX12_wayIn_177 : decode cX12_wayIn 177 = .ok (.sipush 10000, 3) := by decide +kernel
theorem dX12_wayIn_180 : decode cX12_wayIn 180 = .ok (.irem, 1) := by decide +kernel
theorem dX12_wayIn_181 : decode cX12_wayIn 181 = .ok (.ireturn, 1) := by decide +kernel
theorem dX12_wayIn_182 : decode cX12_wayIn 182 = .ok (.iload 5, 2) := by decide +kernel
theorem dX12_wayIn_184 : decode cX12_wayIn 184 = .ok (.iload 8, 2) := by decide +kernel
theorem dX12_wayIn_186 : decode cX12_wayIn 186 = .ok (.sipush 10000, 3) := by decide +kernel
theorem dX12_wayIn_189 : decode cX12_wayIn 189 = .ok (.irem, 1) := by decide +kernel
theorem dX12_wayIn_190 : decode cX12_wayIn 190 = .ok (.if_icmp .lt 5, 3) := by decide +kernel
theorem dX12_wayIn_193 : decode cX12_wayIn 193 = .ok (.iconst (-1), 1) := by decide +kernel
theorem dX12_wayIn_194 : decode cX12_wayIn 194 = .ok (.ireturn, 1) := by decide +kernel
theorem dX12_wayIn_195 : decode cX12_wayIn 195 = .ok (.iconst 0, 1) := by decide +kernel
theorem dX12_wayIn_196 : decode cX12_wayIn 196 = .ok (.istore 9, 2) := by decide +kernel
theorem dX12_wayIn_198 : decode cX12_wayIn 198 = .ok (.aload_n 0, 1) := by decide +kernel
theorem dX12_wayIn_199 : decode cX12_wayIn 199 = .ok (.iload 6, 2) := by decide +kernel
theorem dX12_wayIn_201 : decode cX12_wayIn 201 = .ok (.iload 9, 2) := by decide +kernel
theorem dX12_wayIn_203 : decode cX12_wayIn 203 = .ok (.invokevirtual 468, 3) := by decide +kernel
theorem dX12_wayIn_206 : decode cX12_wayIn 206 = .ok (.iload 8, 2) := by decide +kernel
theorem dX12_wayIn_208 : decode cX12_wayIn 208 = .ok (.if_icmp .eq 12, 3) := by decide +kernel
theorem dX12_wayIn_211 : decode cX12_wayIn 211 = .ok (.iload 9, 2) := by decide +kernel
theorem dX12_wayIn_213 : decode cX12_wayIn 213 = .ok (.iconst 1, 1) := by decide +kernel
theorem dX12_wayIn_214 : decode cX12_wayIn 214 = .ok (.iadd, 1) := by decide +kernel
theorem dX12_wayIn_215 : decode cX12_wayIn 215 = .ok (.istore 9, 2) := by decide +kernel
theorem dX12_wayIn_217 : decode cX12_wayIn 217 = .ok (.goto (-19), 3) := by decide +kernel
theorem dX12_wayIn_220 : decode cX12_wayIn 220 = .ok (.iload 6, 2) := by decide +kernel
theorem dX12_wayIn_222 : decode cX12_wayIn 222 = .ok (.istore 10, 2) := by decide +kernel
theorem dX12_wayIn_224 : decode cX12_wayIn 224 = .ok (.iconst 0, 1) := by decide +kernel
theorem dX12_wayIn_225 : decode cX12_wayIn 225 = .ok (.istore 11, 2) := by decide +kernel
theorem dX12_wayIn_227 : decode cX12_wayIn 227 = .ok (.iload 11, 2) := by decide +kernel
theorem dX12_wayIn_229 : decode cX12_wayIn 229 = .ok (.iload 5, 2) := by decide +kernel
theorem dX12_wayIn_231 : decode cX12_wayIn 231 = .ok (.if_icmp .ge 78, 3) := by decide +kernel
theorem dX12_wayIn_234 : decode cX12_wayIn 234 = .ok (.bipush 32, 2) := by decide +kernel
theorem dX12_wayIn_236 : decode cX12_wayIn 236 = .ok (.iload 10, 2) := by decide +kernel
theorem dX12_wayIn_238 : decode cX12_wayIn 238 = .ok (.bipush 32, 2) := by decide +kernel
theorem dX12_wayIn_240 : decode cX12_wayIn 240 = .ok (.idiv, 1) := by decide +kernel
theorem dX12_wayIn_241 : decode cX12_wayIn 241 = .ok (.iload 9, 2) := by decide +kernel
theorem dX12_wayIn_243 : decode cX12_wayIn 243 = .ok (.invokestatic 199, 3) := by decide +kernel
theorem dX12_wayIn_246 : decode cX12_wayIn 246 = .ok (.iadd, 1) := by decide +kernel
theorem dX12_wayIn_247 : decode cX12_wayIn 247 = .ok (.imul, 1) := by decide +kernel
theorem dX12_wayIn_248 : decode cX12_wayIn 248 = .ok (.iload 10, 2) := by decide +kernel
theorem dX12_wayIn_250 : decode cX12_wayIn 250 = .ok (.bipush 32, 2) := by decide +kernel
theorem dX12_wayIn_252 : decode cX12_wayIn 252 = .ok (.irem, 1) := by decide +kernel
theorem dX12_wayIn_253 : decode cX12_wayIn 253 = .ok (.iadd, 1) := by decide +kernel
theorem dX12_wayIn_254 : decode cX12_wayIn 254 = .ok (.iload 9, 2) := by decide +kernel
theorem dX12_wayIn_256 : decode cX12_wayIn 256 = .ok (.invokestatic 196, 3) := by decide +kernel
theorem dX12_wayIn_259 : decode cX12_wayIn 259 = .ok (.iadd, 1) := by decide +kernel
theorem dX12_wayIn_260 : decode cX12_wayIn 260 = .ok (.istore 10, 2) := by decide +kernel
theorem dX12_wayIn_262 : decode cX12_wayIn 262 = .ok (.iconst 0, 1) := by decide +kernel
theorem dX12_wayIn_263 : decode cX12_wayIn 263 = .ok (.istore 12, 2) := by decide +kernel
theorem dX12_wayIn_265 : decode cX12_wayIn 265 = .ok (.aload_n 0, 1) := by decide +kernel
theorem dX12_wayIn_266 : decode cX12_wayIn 266 = .ok (.iload 10, 2) := by decide +kernel
theorem dX12_wayIn_268 : decode cX12_wayIn 268 = .ok (.iload 9, 2) := by decide +kernel
theorem dX12_wayIn_270 : decode cX12_wayIn 270 = .ok (.iload 12, 2) := by decide +kernel
theorem dX12_wayIn_272 : decode cX12_wayIn 272 = .ok (.invokevirtual 456, 3) := by decide +kernel
theorem dX12_wayIn_275 : decode cX12_wayIn 275 = .ok (.aload_n 0, 1) := by decide +kernel
theorem dX12_wayIn_276 : decode cX12_wayIn 276 = .ok (.getfield 135, 3) := by decide +kernel
theorem dX12_wayIn_279 : decode cX12_wayIn 279 = .ok (.iconst 4, 1) := by decide +kernel
theorem dX12_wayIn_280 : decode cX12_wayIn 280 = .ok (.iload 10, 2) := by decide +kernel
theorem dX12_wayIn_282 : decode cX12_wayIn 282 = .ok (.imul, 1) := by decide +kernel
theorem dX12_wayIn_283 : decode cX12_wayIn 283 = .ok (.iload 9, 2) := by decide +kernel
theorem dX12_wayIn_285 : decode cX12_wayIn 285 = .ok (.iadd, 1) := by decide +kernel
theorem dX12_wayIn_286 : decode cX12_wayIn 286 = .ok (.iaload, 1) := by decide +kernel
theorem dX12_wayIn_287 : decode cX12_wayIn 287 = .ok (.if_icmp .eq 12, 3) := by decide +kernel
theorem dX12_wayIn_290 : decode cX12_wayIn 290 = .ok (.iload 12, 2) := by decide +kernel
theorem dX12_wayIn_292 : decode cX12_wayIn 292 = .ok (.iconst 1, 1) := by decide +kernel
theorem dX12_wayIn_293 : decode cX12_wayIn 293 = .ok (.iadd, 1) := by decide +kernel
theorem dX12_wayIn_294 : decode cX12_wayIn 294 = .ok (.istore 12, 2) := by decide +kernel
theorem dX12_wayIn_296 : decode cX12_wayIn 296 = .ok (.goto (-31), 3) := by decide +kernel
theorem dX12_wayIn_299 : decode cX12_wayIn 299 = .ok (.iload 12, 2) := by decide +kernel
theorem dX12_wayIn_301 : decode cX12_wayIn 301 = .ok (.istore 9, 2) := by decide +kernel
theorem dX12_wayIn_303 : decode cX12_wayIn 303 = .ok (.iinc 11 1, 3) := by decide +kernel
theorem dX12_wayIn_306 : decode cX12_wayIn 306 = .ok (.goto (-79), 3) := by decide +kernel
theorem dX12_wayIn_309 : decode cX12_wayIn 309 = .ok (.iload 9, 2) := by decide +kernel
theorem dX12_wayIn_311 : decode cX12_wayIn 311 = .ok (.ireturn, 1) := by decide +kernel
theorem dX12_spreads_0 : decode cX12_spreads 0 = .ok (.iconst 0, 1) := by decide +kernel
theorem dX12_spreads_1 : decode cX12_spreads 1 = .ok (.istore_n 2, 1) := by decide +kernel
theorem dX12_spreads_2 : decode cX12_spreads 2 = .ok (.iload_n 2, 1) := by decide +kernel
theorem dX12_spreads_3 : decode cX12_spreads 3 = .ok (.sipush 1024, 3) := by decide +kernel
theorem dX12_spreads_6 : decode cX12_spreads 6 = .ok (.if_icmp .ge 23, 3) := by decide +kernel
theorem dX12_spreads_9 : decode cX12_spreads 9 = .ok (.aload_n 0, 1) := by decide +kernel
theorem dX12_spreads_10 : decode cX12_spreads 10 = .ok (.getfield 138, 3) := by decide +kernel
theorem dX12_spreads_13 : decode cX12_spreads 13 = .ok (.iload_n 2, 1) := by decide +kernel
theorem dX12_spreads_14 : decode cX12_spreads 14 = .ok (.iconst 0, 1) := by decide +kernel
theorem dX12_spreads_15 : decode cX12_spreads 15 = .ok (.bastore, 1) := by decide +kernel
theorem dX12_spreads_16 : decode cX12_spreads 16 = .ok (.aload_n 0, 1) := by decide +kernel
theorem dX12_spreads_17 : decode cX12_spreads 17 = .ok (.getfield 141, 3) := by decide +kernel
theorem dX12_spreads_20 : decode cX12_spreads 20 = .ok (.iload_n 2, 1) := by decide +kernel
theorem dX12_spreads_21 : decode cX12_spreads 21 = .ok (.iconst 0, 1) := by decide +kernel
theorem dX12_spreads_22 : decode cX12_spreads 22 = .ok (.bastore, 1) := by decide +kernel
theorem dX12_spreads_23 : decode cX12_spreads 23 = .ok (.iinc 2 1, 3) := by decide +kernel
theorem dX12_spreads_26 : decode cX12_spreads 26 = .ok (.goto (-24), 3) := by decide +kernel
theorem dX12_spreads_29 : decode cX12_spreads 29 = .ok (.iconst 0, 1) := by decide +kernel
theorem dX12_spreads_30 : decode cX12_spreads 30 = .ok (.istore_n 2, 1) := by decide +kernel
theorem dX12_spreads_31 : decode cX12_spreads 31 = .ok (.aload_n 0, 1) := by decide +kernel
theorem dX12_spreads_32 : decode cX12_spreads 32 = .ok (.getfield 132, 3) := by decide +kernel
theorem dX12_spreads_35 : decode cX12_spreads 35 = .ok (.iload_n 1, 1) := by decide +kernel
theorem dX12_spreads_36 : decode cX12_spreads 36 = .ok (.baload, 1) := by decide +kernel
theorem dX12_spreads_37 : decode cX12_spreads 37 = .ok (.ifCond .eq 19, 3) := by decide +kernel
theorem dX12_spreads_40 : decode cX12_spreads 40 = .ok (.aload_n 0, 1) := by decide +kernel
theorem dX12_spreads_41 : decode cX12_spreads 41 = .ok (.getfield 138, 3) := by decide +kernel
theorem dX12_spreads_44 : decode cX12_spreads 44 = .ok (.iload_n 1, 1) := by decide +kernel
theorem dX12_spreads_45 : decode cX12_spreads 45 = .ok (.iconst 1, 1) := by decide +kernel
theorem dX12_spreads_46 : decode cX12_spreads 46 = .ok (.bastore, 1) := by decide +kernel
theorem dX12_spreads_47 : decode cX12_spreads 47 = .ok (.aload_n 0, 1) := by decide +kernel
theorem dX12_spreads_48 : decode cX12_spreads 48 = .ok (.getfield 144, 3) := by decide +kernel
theorem dX12_spreads_51 : decode cX12_spreads 51 = .ok (.iconst 0, 1) := by decide +kernel
theorem dX12_spreads_52 : decode cX12_spreads 52 = .ok (.iload_n 1, 1) := by decide +kernel
theorem dX12_spreads_53 : decode cX12_spreads 53 = .ok (.iastore, 1) := by decide +kernel
theorem dX12_spreads_54 : decode cX12_spreads 54 = .ok (.iconst 1, 1) := by decide +kernel
theorem dX12_spreads_55 : decode cX12_spreads 55 = .ok (.istore_n 2, 1) := by decide +kernel
theorem dX12_spreads_56 : decode cX12_spreads 56 = .ok (.iconst 0, 1) := by decide +kernel
theorem dX12_spreads_57 : decode cX12_spreads 57 = .ok (.istore_n 3, 1) := by decide +kernel
theorem dX12_spreads_58 : decode cX12_spreads 58 = .ok (.iload_n 3, 1) := by decide +kernel
theorem dX12_spreads_59 : decode cX12_spreads 59 = .ok (.iload_n 2, 1) := by decide +kernel
theorem dX12_spreads_60 : decode cX12_spreads 60 = .ok (.if_icmp .ge 142, 3) := by decide +kernel
theorem dX12_spreads_63 : decode cX12_spreads 63 = .ok (.iconst 0, 1) := by decide +kernel
theorem dX12_spreads_64 : decode cX12_spreads 64 = .ok (.istore 4, 2) := by decide +kernel
theorem dX12_spreads_66 : decode cX12_spreads 66 = .ok (.iload 4, 2) := by decide +kernel
theorem dX12_spreads_68 : decode cX12_spreads 68 = .ok (.iconst 4, 1) := by decide +kernel
theorem dX12_spreads_69 : decode cX12_spreads 69 = .ok (.if_icmp .ge 127, 3) := by decide +kernel
theorem dX12_spreads_72 : decode cX12_spreads 72 = .ok (.aload_n 0, 1) := by decide +kernel
theorem dX12_spreads_73 : decode cX12_spreads 73 = .ok (.getfield 144, 3) := by decide +kernel
theorem dX12_spreads_76 : decode cX12_spreads 76 = .ok (.iload_n 3, 1) := by decide +kernel
theorem dX12_spreads_77 : decode cX12_spreads 77 = .ok (.iaload, 1) := by decide +kernel
theorem dX12_spreads_78 : decode cX12_spreads 78 = .ok (.bipush 32, 2) := by decide +kernel
theorem dX12_spreads_80 : decode cX12_spreads 80 = .ok (.irem, 1) := by decide +kernel
theorem dX12_spreads_81 : decode cX12_spreads 81 = .ok (.iload 4, 2) := by decide +kernel
theorem dX12_spreads_83 : decode cX12_spreads 83 = .ok (.invokestatic 196, 3) := by decide +kernel
theorem dX12_spreads_86 : decode cX12_spreads 86 = .ok (.iadd, 1) := by decide +kernel
theorem dX12_spreads_87 : decode cX12_spreads 87 = .ok (.istore 5, 2) := by decide +kernel
theorem dX12_spreads_89 : decode cX12_spreads 89 = .ok (.aload_n 0, 1) := by decide +kernel
theorem dX12_spreads_90 : decode cX12_spreads 90 = .ok (.getfield 144, 3) := by decide +kernel
theorem dX12_spreads_93 : decode cX12_spreads 93 = .ok (.iload_n 3, 1) := by decide +kernel
theorem dX12_spreads_94 : decode cX12_spreads 94 = .ok (.iaload, 1) := by decide +kernel
theorem dX12_spreads_95 : decode cX12_spreads 95 = .ok (.bipush 32, 2) := by decide +kernel
theorem dX12_spreads_97 : decode cX12_spreads 97 = .ok (.idiv, 1) := by decide +kernel
theorem dX12_spreads_98 : decode cX12_spreads 98 = .ok (.iload 4, 2) := by decide +kernel
theorem dX12_spreads_100 : decode cX12_spreads 100 = .ok (.invokestatic 199, 3) := by decide +kernel
theorem dX12_spreads_103 : decode cX12_spreads 103 = .ok (.iadd, 1) := by decide +kernel
theorem dX12_spreads_104 : decode cX12_spreads 104 = .ok (.istore 6, 2) := by decide +kernel
theorem dX12_spreads_106 : decode cX12_spreads 106 = .ok (.iload 5, 2) := by decide +kernel
theorem dX12_spreads_108 : decode cX12_spreads 108 = .ok (.iload 6, 2) := by decide +kernel
theorem dX12_spreads_110 : decode cX12_spreads 110 = .ok (.invokestatic 190, 3) := by decide +kernel
theorem dX12_spreads_113 : decode cX12_spreads 113 = .ok (.ifCond .ne 6, 3) := by decide +kernel
theorem dX12_spreads_116 : decode cX12_spreads 116 = .ok (.goto 74, 3) := by decide +kernel
theorem dX12_spreads_119 : decode cX12_spreads 119 = .ok (.bipush 32, 2) := by decide +kernel
theorem dX12_spreads_121 : decode cX12_spreads 121 = .ok (.iload 6, 2) := by decide +kernel
theorem dX12_spreads_123 : decode cX12_spreads 123 = .ok (.imul, 1) := by decide +kernel
theorem dX12_spreads_124 : decode cX12_spreads 124 = .ok (.iload 5, 2) := by decide +kernel
theorem dX12_spreads_126 : decode cX12_spreads 126 = .ok (.iadd, 1) := by decide +kernel
theorem dX12_spreads_127 : decode cX12_spreads 127 = .ok (.istore 7, 2) := by decide +kernel
theorem dX12_spreads_129 : decode cX12_spreads 129 = .ok (.aload_n 0, 1) := by decide +kernel
theorem dX12_spreads_130 : decode cX12_spreads 130 = .ok (.getfield 132, 3) := by decide +kernel
theorem dX12_spreads_133 : decode cX12_spreads 133 = .ok (.iload 7, 2) := by decide +kernel
theorem dX12_spreads_135 : decode cX12_spreads 135 = .ok (.baload, 1) := by decide +kernel
theorem dX12_spreads_136 : decode cX12_spreads 136 = .ok (.ifCond .ne 11, 3) := by decide +kernel
theorem dX12_spreads_139 : decode cX12_spreads 139 = .ok (.aload_n 0, 1) := by decide +kernel
theorem dX12_spreads_140 : decode cX12_spreads 140 = .ok (.getfield 141, 3) := by decide +kernel
theorem dX12_spreads_143 : decode cX12_spreads 143 = .ok (.iload 7, 2) := by decide +kernel
theorem dX12_spreads_145 : decode cX12_spreads 145 = .ok (.iconst 1, 1) := by decide +kernel
theorem dX12_spreads_146 : decode cX12_spreads 146 = .ok (.bastore, 1) := by decide +kernel
theorem dX12_spreads_147 : decode cX12_spreads 147 = .ok (.aload_n 0, 1) := by decide +kernel
theorem dX12_spreads_148 : decode cX12_spreads 148 = .ok (.getfield 132, 3) := by decide +kernel
theorem dX12_spreads_151 : decode cX12_spreads 151 = .ok (.iload 7, 2) := by decide +kernel
theorem dX12_spreads_153 : decode cX12_spreads 153 = .ok (.baload, 1) := by decide +kernel
theorem dX12_spreads_154 : decode cX12_spreads 154 = .ok (.ifCond .eq 36, 3) := by decide +kernel
theorem dX12_spreads_157 : decode cX12_spreads 157 = .ok (.aload_n 0, 1) := by decide +kernel
theorem dX12_spreads_158 : decode cX12_spreads 158 = .ok (.getfield 138, 3) := by decide +kernel
theorem dX12_spreads_161 : decode cX12_spreads 161 = .ok (.iload 7, 2) := by decide +kernel
theorem dX12_spreads_163 : decode cX12_spreads 163 = .ok (.baload, 1) := by decide +kernel
theorem dX12_spreads_164 : decode cX12_spreads 164 = .ok (.ifCond .eq 6, 3) := by decide +kernel
theorem dX12_spreads_167 : decode cX12_spreads 167 = .ok (.goto 23, 3) := by decide +kernel
theorem dX12_spreads_170 : decode cX12_spreads 170 = .ok (.aload_n 0, 1) := by decide +kernel
theorem dX12_spreads_171 : decode cX12_spreads 171 = .ok (.getfield 138, 3) := by decide +kernel
theorem dX12_spreads_174 : decode cX12_spreads 174 = .ok (.iload 7, 2) := by decide +kernel
theorem dX12_spreads_176 : decode cX12_spreads 176 = .ok (.iconst 1, 1) := by decide +kernel
theorem dX12_spreads_177 : decode cX12_spreads 177 = .ok (.bastore, 1) := by decide +kernel
theorem dX12_spreads_178 : decode cX12_spreads 178 = .ok (.aload_n 0, 1) := by decide +kernel
theorem dX12_spreads_179 : decode cX12_spreads 179 = .ok (.getfield 144, 3) := by decide +kernel
theorem dX12_spreads_182 : decode cX12_spreads 182 = .ok (.iload_n 2, 1) := by decide +kernel
theorem dX12_spreads_183 : decode cX12_spreads 183 = .ok (.iload 7, 2) := by decide +kernel
theorem dX12_spreads_185 : decode cX12_spreads 185 = .ok (.iastore, 1) := by decide +kernel
theorem dX12_spreads_186 : decode cX12_spreads 186 = .ok (.iload_n 2, 1) := by decide +kernel
theorem dX12_spreads_187 : decode cX12_spreads 187 = .ok (.iconst 1, 1) := by decide +kernel
theorem dX12_spreads_188 : decode cX12_spreads 188 = .ok (.iadd, 1) := by decide +kernel
theorem dX12_spreads_189 : decode cX12_spreads 189 = .ok (.istore_n 2, 1) := by decide +kernel
theorem dX12_spreads_190 : decode cX12_spreads 190 = .ok (.iinc 4 1, 3) := by decide +kernel
theorem dX12_spreads_193 : decode cX12_spreads 193 = .ok (.goto (-127), 3) := by decide +kernel
theorem dX12_spreads_196 : decode cX12_spreads 196 = .ok (.iinc 3 1, 3) := by decide +kernel
theorem dX12_spreads_199 : decode cX12_spreads 199 = .ok (.goto (-141), 3) := by decide +kernel
theorem dX12_spreads_202 : decode cX12_spreads 202 = .ok (.return_, 1) := by decide +kernel
theorem dX12_pool_0 : decode cX12_pool 0 = .ok (.iload_n 1, 1) := by decide +kernel
theorem dX12_pool_1 : decode cX12_pool 1 = .ok (.iload_n 2, 1) := by decide +kernel
theorem dX12_pool_2 : decode cX12_pool 2 = .ok (.invokestatic 190, 3) := by decide +kernel
theorem dX12_pool_5 : decode cX12_pool 5 = .ok (.ifCond .eq 12, 3) := by decide +kernel
theorem dX12_pool_8 : decode cX12_pool 8 = .ok (.iload_n 3, 1) := by decide +kernel
theorem dX12_pool_9 : decode cX12_pool 9 = .ok (.iconst 0, 1) := by decide +kernel
theorem dX12_pool_10 : decode cX12_pool 10 = .ok (.iconst 2, 1) := by decide +kernel
theorem dX12_pool_11 : decode cX12_pool 11 = .ok (.invokestatic 173, 3) := by decide +kernel
theorem dX12_pool_14 : decode cX12_pool 14 = .ok (.ifCond .ne 5, 3) := by decide +kernel
theorem dX12_pool_17 : decode cX12_pool 17 = .ok (.iconst (-1), 1) := by decide +kernel
theorem dX12_pool_18 : decode cX12_pool 18 = .ok (.ireturn, 1) := by decide +kernel
theorem dX12_pool_19 : decode cX12_pool 19 = .ok (.aload_n 0, 1) := by decide +kernel
theorem dX12_pool_20 : decode cX12_pool 20 = .ok (.invokevirtual 462, 3) := by decide +kernel
theorem dX12_pool_23 : decode cX12_pool 23 = .ok (.ifCond .ne 6, 3) := by decide +kernel
theorem dX12_pool_26 : decode cX12_pool 26 = .ok (.bipush (-2), 2) := by decide +kernel
theorem dX12_pool_28 : decode cX12_pool 28 = .ok (.ireturn, 1) := by decide +kernel
theorem dX12_pool_29 : decode cX12_pool 29 = .ok (.aload_n 0, 1) := by decide +kernel
theorem dX12_pool_30 : decode cX12_pool 30 = .ok (.bipush 32, 2) := by decide +kernel
theorem dX12_pool_32 : decode cX12_pool 32 = .ok (.iload_n 2, 1) := by decide +kernel
theorem dX12_pool_33 : decode cX12_pool 33 = .ok (.imul, 1) := by decide +kernel
theorem dX12_pool_34 : decode cX12_pool 34 = .ok (.iload_n 1, 1) := by decide +kernel
theorem dX12_pool_35 : decode cX12_pool 35 = .ok (.iadd, 1) := by decide +kernel
theorem dX12_pool_36 : decode cX12_pool 36 = .ok (.invokevirtual 471, 3) := by decide +kernel
theorem dX12_pool_39 : decode cX12_pool 39 = .ok (.iconst 0, 1) := by decide +kernel
theorem dX12_pool_40 : decode cX12_pool 40 = .ok (.istore 4, 2) := by decide +kernel
theorem dX12_pool_42 : decode cX12_pool 42 = .ok (.iconst 0, 1) := by decide +kernel
theorem dX12_pool_43 : decode cX12_pool 43 = .ok (.istore 5, 2) := by decide +kernel
theorem dX12_pool_45 : decode cX12_pool 45 = .ok (.iload 5, 2) := by decide +kernel
theorem dX12_pool_47 : decode cX12_pool 47 = .ok (.sipush 1024, 3) := by decide +kernel
theorem dX12_pool_50 : decode cX12_pool 50 = .ok (.if_icmp .ge 62, 3) := by decide +kernel
theorem dX12_pool_53 : decode cX12_pool 53 = .ok (.iload 4, 2) := by decide +kernel
theorem dX12_pool_55 : decode cX12_pool 55 = .ok (.iload_n 3, 1) := by decide +kernel
theorem dX12_pool_56 : decode cX12_pool 56 = .ok (.ifCond .ne 16, 3) := by decide +kernel
theorem dX12_pool_59 : decode cX12_pool 59 = .ok (.aload_n 0, 1) := by decide +kernel
theorem dX12_pool_60 : decode cX12_pool 60 = .ok (.getfield 138, 3) := by decide +kernel
theorem dX12_pool_63 : decode cX12_pool 63 = .ok (.iload 5, 2) := by decide +kernel
theorem dX12_pool_65 : decode cX12_pool 65 = .ok (.baload, 1) := by decide +kernel
theorem dX12_pool_66 : decode cX12_pool 66 = .ok (.ifCond .eq 36, 3) := by decide +kernel
theorem dX12_pool_69 : decode cX12_pool 69 = .ok (.goto 29, 3) := by decide +kernel
theorem dX12_pool_72 : decode cX12_pool 72 = .ok (.aload_n 0, 1) := by decide +kernel
theorem dX12_pool_73 : decode cX12_pool 73 = .ok (.getfield 141, 3) := by decide +kernel
theorem dX12_pool_76 : decode cX12_pool 76 = .ok (.iload 5, 2) := by decide +kernel
theorem dX12_pool_78 : decode cX12_pool 78 = .ok (.baload, 1) := by decide +kernel
theorem dX12_pool_79 : decode cX12_pool 79 = .ok (.ifCond .eq 23, 3) := by decide +kernel
theorem dX12_pool_82 : decode cX12_pool 82 = .ok (.iload_n 3, 1) := by decide +kernel
theorem dX12_pool_83 : decode cX12_pool 83 = .ok (.iconst 1, 1) := by decide +kernel
theorem dX12_pool_84 : decode cX12_pool 84 = .ok (.if_icmp .eq 14, 3) := by decide +kernel
theorem dX12_pool_87 : decode cX12_pool 87 = .ok (.aload_n 0, 1) := by decide +kernel
theorem dX12_pool_88 : decode cX12_pool 88 = .ok (.iload 5, 2) := by decide +kernel
theorem dX12_pool_90 : decode cX12_pool 90 = .ok (.iconst 0, 1) := by decide +kernel
theorem dX12_pool_91 : decode cX12_pool 91 = .ok (.invokevirtual 406, 3) := by decide +kernel
theorem dX12_pool_94 : decode cX12_pool 94 = .ok (.iconst (-1), 1) := by decide +kernel
theorem dX12_pool_95 : decode cX12_pool 95 = .ok (.if_icmp .eq 7, 3) := by decide +kernel
theorem dX12_pool_98 : decode cX12_pool 98 = .ok (.iconst 1, 1) := by decide +kernel
theorem dX12_pool_99 : decode cX12_pool 99 = .ok (.goto 4, 3) := by decide +kernel
theorem dX12_pool_102 : decode cX12_pool 102 = .ok (.iconst 0, 1) := by decide +kernel
theorem dX12_pool_103 : decode cX12_pool 103 = .ok (.iadd, 1) := by decide +kernel
theorem dX12_pool_104 : decode cX12_pool 104 = .ok (.istore 4, 2) := by decide +kernel
theorem dX12_pool_106 : decode cX12_pool 106 = .ok (.iinc 5 1, 3) := by decide +kernel
theorem dX12_pool_109 : decode cX12_pool 109 = .ok (.goto (-64), 3) := by decide +kernel
theorem dX12_pool_112 : decode cX12_pool 112 = .ok (.iload 4, 2) := by decide +kernel
theorem dX12_pool_114 : decode cX12_pool 114 = .ok (.ireturn, 1) := by decide +kernel
theorem dX12_tapeNumber_0 : decode cX12_tapeNumber 0 = .ok (.iconst 0, 1) := by decide +kernel
theorem dX12_tapeNumber_1 : decode cX12_tapeNumber 1 = .ok (.istore_n 2, 1) := by decide +kernel
theorem dX12_tapeNumber_2 : decode cX12_tapeNumber 2 = .ok (.iconst 4, 1) := by decide +kernel
theorem dX12_tapeNumber_3 : decode cX12_tapeNumber 3 = .ok (.iload_n 1, 1) := by decide +kernel
theorem dX12_tapeNumber_4 : decode cX12_tapeNumber 4 = .ok (.imul, 1) := by decide +kernel
theorem dX12_tapeNumber_5 : decode cX12_tapeNumber 5 = .ok (.istore_n 3, 1) := by decide +kernel
theorem dX12_tapeNumber_6 : decode cX12_tapeNumber 6 = .ok (.iload_n 3, 1) := by decide +kernel
theorem dX12_tapeNumber_7 : decode cX12_tapeNumber 7 = .ok (.iconst 4, 1) := by decide +kernel
theorem dX12_tapeNumber_8 : decode cX12_tapeNumber 8 = .ok (.iload_n 1, 1) := by decide +kernel
theorem dX12_tapeNumber_9 : decode cX12_tapeNumber 9 = .ok (.imul, 1) := by decide +kernel
theorem dX12_tapeNumber_10 : decode cX12_tapeNumber 10 = .ok (.iconst 4, 1) := by decide +kernel
theorem dX12_tapeNumber_11 : decode cX12_tapeNumber 11 = .ok (.iadd, 1) := by decide +kernel
theorem dX12_tapeNumber_12 : decode cX12_tapeNumber 12 = .ok (.if_icmp .ge 25, 3) := by decide +kernel
theorem dX12_tapeNumber_15 : decode cX12_tapeNumber 15 = .ok (.iload_n 2, 1) := by decide +kernel
theorem dX12_tapeNumber_16 : decode cX12_tapeNumber 16 = .ok (.bipush 8, 2) := by decide +kernel
theorem dX12_tapeNumber_18 : decode cX12_tapeNumber 18 = .ok (.ishl, 1) := by decide +kernel
theorem dX12_tapeNumber_19 : decode cX12_tapeNumber 19 = .ok (.aload_n 0, 1) := by decide +kernel
theorem dX12_tapeNumber_20 : decode cX12_tapeNumber 20 = .ok (.getfield 38, 3) := by decide +kernel
theorem dX12_tapeNumber_23 : decode cX12_tapeNumber 23 = .ok (.iload_n 3, 1) := by decide +kernel
theorem dX12_tapeNumber_24 : decode cX12_tapeNumber 24 = .ok (.baload, 1) := by decide +kernel
theorem dX12_tapeNumber_25 : decode cX12_tapeNumber 25 = .ok (.sipush 255, 3) := by decide +kernel
theorem dX12_tapeNumber_28 : decode cX12_tapeNumber 28 = .ok (.iand, 1) := by decide +kernel
theorem dX12_tapeNumber_29 : decode cX12_tapeNumber 29 = .ok (.ior, 1) := by decide +kernel
theorem dX12_tapeNumber_30 : decode cX12_tapeNumber 30 = .ok (.istore_n 2, 1) := by decide +kernel
theorem dX12_tapeNumber_31 : decode cX12_tapeNumber 31 = .ok (.iinc 3 1, 3) := by decide +kernel
theorem dX12_tapeNumber_34 : decode cX12_tapeNumber 34 = .ok (.goto (-28), 3) := by decide +kernel
theorem dX12_tapeNumber_37 : decode cX12_tapeNumber 37 = .ok (.iload_n 2, 1) := by decide +kernel
theorem dX12_tapeNumber_38 : decode cX12_tapeNumber 38 = .ok (.ireturn, 1) := by decide +kernel
theorem dX12_rowOf_0 : decode cX12_rowOf 0 = .ok (.iconst 0, 1) := by decide +kernel
theorem dX12_rowOf_1 : decode cX12_rowOf 1 = .ok (.istore_n 3, 1) := by decide +kernel
theorem dX12_rowOf_2 : decode cX12_rowOf 2 = .ok (.iconst 0, 1) := by decide +kernel
theorem dX12_rowOf_3 : decode cX12_rowOf 3 = .ok (.istore 4, 2) := by decide +kernel
theorem dX12_rowOf_5 : decode cX12_rowOf 5 = .ok (.iload 4, 2) := by decide +kernel
theorem dX12_rowOf_7 : decode cX12_rowOf 7 = .ok (.bipush 32, 2) := by decide +kernel
theorem dX12_rowOf_9 : decode cX12_rowOf 9 = .ok (.if_icmp .ge 31, 3) := by decide +kernel
theorem dX12_rowOf_12 : decode cX12_rowOf 12 = .ok (.aload_n 0, 1) := by decide +kernel
theorem dX12_rowOf_13 : decode cX12_rowOf 13 = .ok (.iload_n 1, 1) := by decide +kernel
theorem dX12_rowOf_14 : decode cX12_rowOf 14 = .ok (.iload 4, 2) := by decide +kernel
theorem dX12_rowOf_16 : decode cX12_rowOf 16 = .ok (.iload_n 2, 1) := by decide +kernel
theorem dX12_rowOf_17 : decode cX12_rowOf 17 = .ok (.invokevirtual 193, 3) := by decide +kernel
theorem dX12_rowOf_20 : decode cX12_rowOf 20 = .ok (.ifCond .eq 12, 3) := by decide +kernel
theorem dX12_rowOf_23 : decode cX12_rowOf 23 = .ok (.iload_n 3, 1) := by decide +kernel
theorem dX12_rowOf_24 : decode cX12_rowOf 24 = .ok (.iconst 1, 1) := by decide +kernel
theorem dX12_rowOf_25 : decode cX12_rowOf 25 = .ok (.iload 4, 2) := by decide +kernel
theorem dX12_rowOf_27 : decode cX12_rowOf 27 = .ok (.ishl, 1) := by decide +kernel
theorem dX12_rowOf_28 : decode cX12_rowOf 28 = .ok (.ior, 1) := by decide +kernel
theorem dX12_rowOf_29 : decode cX12_rowOf 29 = .ok (.goto 4, 3) := by decide +kernel
theorem dX12_rowOf_32 : decode cX12_rowOf 32 = .ok (.iload_n 3, 1) := by decide +kernel
theorem dX12_rowOf_33 : decode cX12_rowOf 33 = .ok (.istore_n 3, 1) := by decide +kernel
theorem dX12_rowOf_34 : decode cX12_rowOf 34 = .ok (.iinc 4 1, 3) := by decide +kernel
theorem dX12_rowOf_37 : decode cX12_rowOf 37 = .ok (.goto (-32), 3) := by decide +kernel
theorem dX12_rowOf_40 : decode cX12_rowOf 40 = .ok (.iload_n 3, 1) := by decide +kernel
theorem dX12_rowOf_41 : decode cX12_rowOf 41 = .ok (.ireturn, 1) := by decide +kernel
theorem dX12_check_0 : decode cX12_check 0 = .ok (.aload_n 0, 1) := by decide +kernel
theorem dX12_check_1 : decode cX12_check 1 = .ok (.iload_n 1, 1) := by decide +kernel
theorem dX12_check_2 : decode cX12_check 2 = .ok (.invokevirtual 187, 3) := by decide +kernel
theorem dX12_check_5 : decode cX12_check 5 = .ok (.ifCond .eq 23, 3) := by decide +kernel
theorem dX12_check_8 : decode cX12_check 8 = .ok (.iload_n 2, 1) := by decide +kernel
theorem dX12_check_9 : decode cX12_check 9 = .ok (.iconst 0, 1) := by decide +kernel
theorem dX12_check_10 : decode cX12_check 10 = .ok (.bipush 32, 2) := by decide +kernel
theorem dX12_check_12 : decode cX12_check 12 = .ok (.invokestatic 173, 3) := by decide +kernel
theorem dX12_check_15 : decode cX12_check 15 = .ok (.ifCond .eq 13, 3) := by decide +kernel
theorem dX12_check_18 : decode cX12_check 18 = .ok (.iload_n 2, 1) := by decide +kernel
theorem dX12_check_19 : decode cX12_check 19 = .ok (.aload_n 0, 1) := by decide +kernel
theorem dX12_check_20 : decode cX12_check 20 = .ok (.getfield 176, 3) := by decide +kernel
theorem dX12_check_23 : decode cX12_check 23 = .ok (.iconst 4, 1) := by decide +kernel
theorem dX12_check_24 : decode cX12_check 24 = .ok (.idiv, 1) := by decide +kernel
theorem dX12_check_25 : decode cX12_check 25 = .ok (.if_icmp .le 6, 3) := by decide +kernel
theorem dX12_check_28 : decode cX12_check 28 = .ok (.bipush (-2), 2) := by decide +kernel
theorem dX12_check_30 : decode cX12_check 30 = .ok (.ireturn, 1) := by decide +kernel
theorem dX12_check_31 : decode cX12_check 31 = .ok (.aload_n 0, 1) := by decide +kernel
theorem dX12_check_32 : decode cX12_check 32 = .ok (.iconst 0, 1) := by decide +kernel
theorem dX12_check_33 : decode cX12_check 33 = .ok (.putfield 176, 3) := by decide +kernel
theorem dX12_check_36 : decode cX12_check 36 = .ok (.iconst 0, 1) := by decide +kernel
theorem dX12_check_37 : decode cX12_check 37 = .ok (.istore_n 3, 1) := by decide +kernel
theorem dX12_check_38 : decode cX12_check 38 = .ok (.iload_n 3, 1) := by decide +kernel
theorem dX12_check_39 : decode cX12_check 39 = .ok (.bipush 32, 2) := by decide +kernel
theorem dX12_check_41 : decode cX12_check 41 = .ok (.if_icmp .ge 30, 3) := by decide +kernel
theorem dX12_check_44 : decode cX12_check 44 = .ok (.iload_n 3, 1) := by decide +kernel
theorem dX12_check_45 : decode cX12_check 45 = .ok (.iload_n 2, 1) := by decide +kernel
theorem dX12_check_46 : decode cX12_check 46 = .ok (.if_icmp .eq 17, 3) := by decide +kernel
theorem dX12_check_49 : decode cX12_check 49 = .ok (.aload_n 0, 1) := by decide +kernel
theorem dX12_check_50 : decode cX12_check 50 = .ok (.iload_n 3, 1) := by decide +kernel
theorem dX12_check_51 : decode cX12_check 51 = .ok (.invokevirtual 474, 3) := by decide +kernel
theorem dX12_check_54 : decode cX12_check 54 = .ok (.aload_n 0, 1) := by decide +kernel
theorem dX12_check_55 : decode cX12_check 55 = .ok (.iload_n 1, 1) := by decide +kernel
theorem dX12_check_56 : decode cX12_check 56 = .ok (.iload_n 3, 1) := by decide +kernel
theorem dX12_check_57 : decode cX12_check 57 = .ok (.invokevirtual 477, 3) := by decide +kernel
theorem dX12_check_60 : decode cX12_check 60 = .ok (.if_icmp .eq 5, 3) := by decide +kernel
theorem dX12_check_63 : decode cX12_check 63 = .ok (.iload_n 3, 1) := by decide +kernel
theorem dX12_check_64 : decode cX12_check 64 = .ok (.ireturn, 1) := by decide +kernel
theorem dX12_check_65 : decode cX12_check 65 = .ok (.iinc 3 1, 3) := by decide +kernel
theorem dX12_check_68 : decode cX12_check 68 = .ok (.goto (-30), 3) := by decide +kernel
theorem dX12_check_71 : decode cX12_check 71 = .ok (.iconst (-1), 1) := by decide +kernel
theorem dX12_check_72 : decode cX12_check 72 = .ok (.ireturn, 1) := by decide +kernel
theorem dX12_count_0 : decode cX12_count 0 = .ok (.iload_n 1, 1) := by decide +kernel
theorem dX12_count_1 : decode cX12_count 1 = .ok (.tableswitch 118 0 8 #[51, 56, 61, 66, 71, 76, 99, 104, 109], 51) := by decide +kernel
theorem dX12_count_52 : decode cX12_count 52 = .ok (.aload_n 0, 1) := by decide +kernel
theorem dX12_count_53 : decode cX12_count 53 = .ok (.getfield 154, 3) := by decide +kernel
theorem dX12_count_56 : decode cX12_count 56 = .ok (.ireturn, 1) := by decide +kernel
theorem dX12_count_57 : decode cX12_count 57 = .ok (.aload_n 0, 1) := by decide +kernel
theorem dX12_count_58 : decode cX12_count 58 = .ok (.getfield 218, 3) := by decide +kernel
theorem dX12_count_61 : decode cX12_count 61 = .ok (.ireturn, 1) := by decide +kernel
theorem dX12_count_62 : decode cX12_count 62 = .ok (.aload_n 0, 1) := by decide +kernel
theorem dX12_count_63 : decode cX12_count 63 = .ok (.getfield 313, 3) := by decide +kernel
theorem dX12_count_66 : decode cX12_count 66 = .ok (.ireturn, 1) := by decide +kernel
theorem dX12_count_67 : decode cX12_count 67 = .ok (.aload_n 0, 1) := by decide +kernel
theorem dX12_count_68 : decode cX12_count 68 = .ok (.getfield 176, 3) := by decide +kernel
theorem dX12_count_71 : decode cX12_count 71 = .ok (.ireturn, 1) := by decide +kernel
theorem dX12_count_72 : decode cX12_count 72 = .ok (.aload_n 0, 1) := by decide +kernel
theorem dX12_count_73 : decode cX12_count 73 = .ok (.getfield 340, 3) := by decide +kernel
theorem dX12_count_76 : decode cX12_count 76 = .ok (.ireturn, 1) := by decide +kernel
theorem dX12_count_77 : decode cX12_count 77 = .ok (.aload_n 0, 1) := by decide +kernel
theorem dX12_count_78 : decode cX12_count 78 = .ok (.getfield 340, 3) := by decide +kernel
theorem dX12_count_81 : decode cX12_count 81 = .ok (.ifCond .ne 7, 3) := by decide +kernel
theorem dX12_count_84 : decode cX12_count 84 = .ok (.iconst (-1), 1) := by decide +kernel
theorem dX12_count_85 : decode cX12_count 85 = .ok (.goto 14, 3) := by decide +kernel
theorem dX12_count_88 : decode cX12_count 88 = .ok (.aload_n 0, 1) := by decide +kernel
theorem dX12_count_89 : decode cX12_count 89 = .ok (.getfield 90, 3) := by decide +kernel
theorem dX12_count_92 : decode cX12_count 92 = .ok (.aload_n 0, 1) := by decide +kernel
theorem dX12_count_93 : decode cX12_count 93 = .ok (.getfield 340, 3) := by decide +kernel
theorem dX12_count_96 : decode cX12_count 96 = .ok (.iconst 1, 1) := by decide +kernel
theorem dX12_count_97 : decode cX12_count 97 = .ok (.isub, 1) := by decide +kernel
theorem dX12_count_98 : decode cX12_count 98 = .ok (.iaload, 1) := by decide +kernel
theorem dX12_count_99 : decode cX12_count 99 = .ok (.ireturn, 1) := by decide +kernel
theorem dX12_count_100 : decode cX12_count 100 = .ok (.aload_n 0, 1) := by decide +kernel
theorem dX12_count_101 : decode cX12_count 101 = .ok (.getfield 346, 3) := by decide +kernel
theorem dX12_count_104 : decode cX12_count 104 = .ok (.ireturn, 1) := by decide +kernel
theorem dX12_count_105 : decode cX12_count 105 = .ok (.aload_n 0, 1) := by decide +kernel
theorem dX12_count_106 : decode cX12_count 106 = .ok (.getfield 413, 3) := by decide +kernel
theorem dX12_count_109 : decode cX12_count 109 = .ok (.ireturn, 1) := by decide +kernel
theorem dX12_count_110 : decode cX12_count 110 = .ok (.aload_n 0, 1) := by decide +kernel
theorem dX12_count_111 : decode cX12_count 111 = .ok (.invokevirtual 410, 3) := by decide +kernel
theorem dX12_count_114 : decode cX12_count 114 = .ok (.aload_n 0, 1) := by decide +kernel
theorem dX12_count_115 : decode cX12_count 115 = .ok (.getfield 403, 3) := by decide +kernel
theorem dX12_count_118 : decode cX12_count 118 = .ok (.ireturn, 1) := by decide +kernel
theorem dX12_count_119 : decode cX12_count 119 = .ok (.iload_n 1, 1) := by decide +kernel
theorem dX12_count_120 : decode cX12_count 120 = .ok (.bipush 10, 2) := by decide +kernel
theorem dX12_count_122 : decode cX12_count 122 = .ok (.bipush 9, 2) := by decide +kernel
theorem dX12_count_124 : decode cX12_count 124 = .ok (.aload_n 0, 1) := by decide +kernel
theorem dX12_count_125 : decode cX12_count 125 = .ok (.getfield 154, 3) := by decide +kernel
theorem dX12_count_128 : decode cX12_count 128 = .ok (.iadd, 1) := by decide +kernel
theorem dX12_count_129 : decode cX12_count 129 = .ok (.invokestatic 173, 3) := by decide +kernel
theorem dX12_count_132 : decode cX12_count 132 = .ok (.ifCond .eq 15, 3) := by decide +kernel
theorem dX12_count_135 : decode cX12_count 135 = .ok (.aload_n 0, 1) := by decide +kernel
theorem dX12_count_136 : decode cX12_count 136 = .ok (.getfield 7, 3) := by decide +kernel
theorem dX12_count_139 : decode cX12_count 139 = .ok (.iload_n 1, 1) := by decide +kernel
theorem dX12_count_140 : decode cX12_count 140 = .ok (.bipush 10, 2) := by decide +kernel
theorem dX12_count_142 : decode cX12_count 142 = .ok (.isub, 1) := by decide +kernel
theorem dX12_count_143 : decode cX12_count 143 = .ok (.iaload, 1) := by decide +kernel
theorem dX12_count_144 : decode cX12_count 144 = .ok (.goto 4, 3) := by decide +kernel
theorem dX12_count_147 : decode cX12_count 147 = .ok (.iconst (-1), 1) := by decide +kernel
theorem dX12_count_148 : decode cX12_count 148 = .ok (.ireturn, 1) := by decide +kernel
