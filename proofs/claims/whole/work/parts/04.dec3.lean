theorem dX11_club_220 : decode cX11_club 220 = .ok (.iconst 0, 1) := by decide +kernel
theorem dX11_club_221 : decode cX11_club 221 = .ok (.aload_n 0, 1) := by decide +kernel
theorem dX11_club_222 : decode cX11_club 222 = .ok (.getfield 24, 3) := by decide +kernel
theorem dX11_club_225 : decode cX11_club 225 = .ok (.iload_n 3, 1) := by decide +kernel
theorem dX11_club_226 : decode cX11_club 226 = .ok (.iaload, 1) := by decide +kernel
theorem dX11_club_227 : decode cX11_club 227 = .ok (.invokestatic 86, 3) := by decide +kernel
theorem dX11_club_230 : decode cX11_club 230 = .ok (.iastore, 1) := by decide +kernel
theorem dX11_club_231 : decode cX11_club 231 = .ok (.iinc 3 1, 3) := by decide +kernel
theorem dX11_club_234 : decode cX11_club 234 = .ok (.goto (-30), 3) := by decide +kernel
theorem dX11_club_237 : decode cX11_club 237 = .ok (.iload_n 2, 1) := by decide +kernel
theorem dX11_club_238 : decode cX11_club 238 = .ok (.ireturn, 1) := by decide +kernel
theorem dX11_entryOf_0 : decode cX11_entryOf 0 = .ok (.iload_n 1, 1) := by decide +kernel
theorem dX11_entryOf_1 : decode cX11_entryOf 1 = .ok (.iload_n 3, 1) := by decide +kernel
theorem dX11_entryOf_2 : decode cX11_entryOf 2 = .ok (.iload_n 2, 1) := by decide +kernel
theorem dX11_entryOf_3 : decode cX11_entryOf 3 = .ok (.imul, 1) := by decide +kernel
theorem dX11_entryOf_4 : decode cX11_entryOf 4 = .ok (.iadd, 1) := by decide +kernel
theorem dX11_entryOf_5 : decode cX11_entryOf 5 = .ok (.istore 4, 2) := by decide +kernel
theorem dX11_entryOf_7 : decode cX11_entryOf 7 = .ok (.iload_n 0, 1) := by decide +kernel
theorem dX11_entryOf_8 : decode cX11_entryOf 8 = .ok (.ifCond .ne 9, 3) := by decide +kernel
theorem dX11_entryOf_11 : decode cX11_entryOf 11 = .ok (.iload 4, 2) := by decide +kernel
theorem dX11_entryOf_13 : decode cX11_entryOf 13 = .ok (.i2b, 1) := by decide +kernel
theorem dX11_entryOf_14 : decode cX11_entryOf 14 = .ok (.goto 16, 3) := by decide +kernel
theorem dX11_entryOf_17 : decode cX11_entryOf 17 = .ok (.iload_n 0, 1) := by decide +kernel
theorem dX11_entryOf_18 : decode cX11_entryOf 18 = .ok (.iconst 1, 1) := by decide +kernel
theorem dX11_entryOf_19 : decode cX11_entryOf 19 = .ok (.if_icmp .ne 9, 3) := by decide +kernel
theorem dX11_entryOf_22 : decode cX11_entryOf 22 = .ok (.iload 4, 2) := by decide +kernel
theorem dX11_entryOf_24 : decode cX11_entryOf 24 = .ok (.i2s, 1) := by decide +kernel
theorem dX11_entryOf_25 : decode cX11_entryOf 25 = .ok (.goto 5, 3) := by decide +kernel
theorem dX11_entryOf_28 : decode cX11_entryOf 28 = .ok (.iload 4, 2) := by decide +kernel
theorem dX11_entryOf_30 : decode cX11_entryOf 30 = .ok (.ireturn, 1) := by decide +kernel
theorem dX11_whyNot_0 : decode cX11_whyNot 0 = .ok (.aload_n 0, 1) := by decide +kernel
theorem dX11_whyNot_1 : decode cX11_whyNot 1 = .ok (.iload_n 2, 1) := by decide +kernel
theorem dX11_whyNot_2 : decode cX11_whyNot 2 = .ok (.invokevirtual 78, 3) := by decide +kernel
theorem dX11_whyNot_5 : decode cX11_whyNot 5 = .ok (.ifCond .ne 5, 3) := by decide +kernel
theorem dX11_whyNot_8 : decode cX11_whyNot 8 = .ok (.iconst 1, 1) := by decide +kernel
theorem dX11_whyNot_9 : decode cX11_whyNot 9 = .ok (.ireturn, 1) := by decide +kernel
theorem dX11_whyNot_10 : decode cX11_whyNot 10 = .ok (.iload_n 3, 1) := by decide +kernel
theorem dX11_whyNot_11 : decode cX11_whyNot 11 = .ok (.iconst 0, 1) := by decide +kernel
theorem dX11_whyNot_12 : decode cX11_whyNot 12 = .ok (.sipush 999, 3) := by decide +kernel
theorem dX11_whyNot_15 : decode cX11_whyNot 15 = .ok (.invokestatic 74, 3) := by decide +kernel
theorem dX11_whyNot_18 : decode cX11_whyNot 18 = .ok (.ifCond .ne 7, 3) := by decide +kernel
theorem dX11_whyNot_21 : decode cX11_whyNot 21 = .ok (.iconst 2, 1) := by decide +kernel
theorem dX11_whyNot_22 : decode cX11_whyNot 22 = .ok (.goto 18, 3) := by decide +kernel
theorem dX11_whyNot_25 : decode cX11_whyNot 25 = .ok (.iload_n 3, 1) := by decide +kernel
theorem dX11_whyNot_26 : decode cX11_whyNot 26 = .ok (.aload_n 0, 1) := by decide +kernel
theorem dX11_whyNot_27 : decode cX11_whyNot 27 = .ok (.iload_n 2, 1) := by decide +kernel
theorem dX11_whyNot_28 : decode cX11_whyNot 28 = .ok (.iload_n 1, 1) := by decide +kernel
theorem dX11_whyNot_29 : decode cX11_whyNot 29 = .ok (.invokevirtual 141, 3) := by decide +kernel
theorem dX11_whyNot_32 : decode cX11_whyNot 32 = .ok (.if_icmp .ge 7, 3) := by decide +kernel
theorem dX11_whyNot_35 : decode cX11_whyNot 35 = .ok (.iconst 3, 1) := by decide +kernel
theorem dX11_whyNot_36 : decode cX11_whyNot 36 = .ok (.goto 4, 3) := by decide +kernel
theorem dX11_whyNot_39 : decode cX11_whyNot 39 = .ok (.iconst 0, 1) := by decide +kernel
theorem dX11_whyNot_40 : decode cX11_whyNot 40 = .ok (.ireturn, 1) := by decide +kernel
theorem dX11_sheet_0 : decode cX11_sheet 0 = .ok (.aload_n 0, 1) := by decide +kernel
theorem dX11_sheet_1 : decode cX11_sheet 1 = .ok (.iconst 0, 1) := by decide +kernel
theorem dX11_sheet_2 : decode cX11_sheet 2 = .ok (.putfield 68, 3) := by decide +kernel
theorem dX11_sheet_5 : decode cX11_sheet 5 = .ok (.aload_n 0, 1) := by decide +kernel
theorem dX11_sheet_6 : decode cX11_sheet 6 = .ok (.iload_n 1, 1) := by decide +kernel
theorem dX11_sheet_7 : decode cX11_sheet 7 = .ok (.invokevirtual 78, 3) := by decide +kernel
theorem dX11_sheet_10 : decode cX11_sheet 10 = .ok (.ifCond .eq 18, 3) := by decide +kernel
theorem dX11_sheet_13 : decode cX11_sheet 13 = .ok (.iload_n 2, 1) := by decide +kernel
theorem dX11_sheet_14 : decode cX11_sheet 14 = .ok (.iconst 0, 1) := by decide +kernel
theorem dX11_sheet_15 : decode cX11_sheet 15 = .ok (.iconst 3, 1) := by decide +kernel
theorem dX11_sheet_16 : decode cX11_sheet 16 = .ok (.invokestatic 74, 3) := by decide +kernel
theorem dX11_sheet_19 : decode cX11_sheet 19 = .ok (.ifCond .eq 9, 3) := by decide +kernel
theorem dX11_sheet_22 : decode cX11_sheet 22 = .ok (.iload_n 3, 1) := by decide +kernel
theorem dX11_sheet_23 : decode cX11_sheet 23 = .ok (.bipush 20, 2) := by decide +kernel
theorem dX11_sheet_25 : decode cX11_sheet 25 = .ok (.if_icmp .le 5, 3) := by decide +kernel
theorem dX11_sheet_28 : decode cX11_sheet 28 = .ok (.iconst (-1), 1) := by decide +kernel
theorem dX11_sheet_29 : decode cX11_sheet 29 = .ok (.ireturn, 1) := by decide +kernel
theorem dX11_sheet_30 : decode cX11_sheet 30 = .ok (.aload_n 0, 1) := by decide +kernel
theorem dX11_sheet_31 : decode cX11_sheet 31 = .ok (.invokevirtual 144, 3) := by decide +kernel
theorem dX11_sheet_34 : decode cX11_sheet 34 = .ok (.ifCond .eq 6, 3) := by decide +kernel
theorem dX11_sheet_37 : decode cX11_sheet 37 = .ok (.bipush (-5), 2) := by decide +kernel
theorem dX11_sheet_39 : decode cX11_sheet 39 = .ok (.ireturn, 1) := by decide +kernel
theorem dX11_sheet_40 : decode cX11_sheet 40 = .ok (.iload_n 2, 1) := by decide +kernel
theorem dX11_sheet_41 : decode cX11_sheet 41 = .ok (.iconst 3, 1) := by decide +kernel
theorem dX11_sheet_42 : decode cX11_sheet 42 = .ok (.if_icmp .ne 6, 3) := by decide +kernel
theorem dX11_sheet_45 : decode cX11_sheet 45 = .ok (.bipush (-3), 2) := by decide +kernel
theorem dX11_sheet_47 : decode cX11_sheet 47 = .ok (.ireturn, 1) := by decide +kernel
theorem dX11_sheet_48 : decode cX11_sheet 48 = .ok (.iload_n 3, 1) := by decide +kernel
theorem dX11_sheet_49 : decode cX11_sheet 49 = .ok (.ifCond .ge 6, 3) := by decide +kernel
theorem dX11_sheet_52 : decode cX11_sheet 52 = .ok (.bipush (-2), 2) := by decide +kernel
theorem dX11_sheet_54 : decode cX11_sheet 54 = .ok (.ireturn, 1) := by decide +kernel
theorem dX11_sheet_55 : decode cX11_sheet 55 = .ok (.iconst 0, 1) := by decide +kernel
theorem dX11_sheet_56 : decode cX11_sheet 56 = .ok (.istore 6, 2) := by decide +kernel
theorem dX11_sheet_58 : decode cX11_sheet 58 = .ok (.iload 6, 2) := by decide +kernel
theorem dX11_sheet_60 : decode cX11_sheet 60 = .ok (.iload_n 3, 1) := by decide +kernel
theorem dX11_sheet_61 : decode cX11_sheet 61 = .ok (.if_icmp .ge 71, 3) := by decide +kernel
theorem dX11_sheet_64 : decode cX11_sheet 64 = .ok (.aload_n 0, 1) := by decide +kernel
theorem dX11_sheet_65 : decode cX11_sheet 65 = .ok (.iload_n 1, 1) := by decide +kernel
theorem dX11_sheet_66 : decode cX11_sheet 66 = .ok (.iload 6, 2) := by decide +kernel
theorem dX11_sheet_68 : decode cX11_sheet 68 = .ok (.iload_n 1, 1) := by decide +kernel
theorem dX11_sheet_69 : decode cX11_sheet 69 = .ok (.if_icmp .ge 8, 3) := by decide +kernel
theorem dX11_sheet_72 : decode cX11_sheet 72 = .ok (.iload 6, 2) := by decide +kernel
theorem dX11_sheet_74 : decode cX11_sheet 74 = .ok (.goto 7, 3) := by decide +kernel
theorem dX11_sheet_77 : decode cX11_sheet 77 = .ok (.iload 6, 2) := by decide +kernel
theorem dX11_sheet_79 : decode cX11_sheet 79 = .ok (.iconst 1, 1) := by decide +kernel
theorem dX11_sheet_80 : decode cX11_sheet 80 = .ok (.iadd, 1) := by decide +kernel
theorem dX11_sheet_81 : decode cX11_sheet 81 = .ok (.iload_n 2, 1) := by decide +kernel
theorem dX11_sheet_82 : decode cX11_sheet 82 = .ok (.iload 4, 2) := by decide +kernel
theorem dX11_sheet_84 : decode cX11_sheet 84 = .ok (.iload 5, 2) := by decide +kernel
theorem dX11_sheet_86 : decode cX11_sheet 86 = .ok (.iload 6, 2) := by decide +kernel
theorem dX11_sheet_88 : decode cX11_sheet 88 = .ok (.invokestatic 147, 3) := by decide +kernel
theorem dX11_sheet_91 : decode cX11_sheet 91 = .ok (.invokevirtual 151, 3) := by decide +kernel
theorem dX11_sheet_94 : decode cX11_sheet 94 = .ok (.istore 7, 2) := by decide +kernel
theorem dX11_sheet_96 : decode cX11_sheet 96 = .ok (.iload 7, 2) := by decide +kernel
theorem dX11_sheet_98 : decode cX11_sheet 98 = .ok (.ifCond .ne 6, 3) := by decide +kernel
theorem dX11_sheet_101 : decode cX11_sheet 101 = .ok (.goto 25, 3) := by decide +kernel
theorem dX11_sheet_104 : decode cX11_sheet 104 = .ok (.aload_n 0, 1) := by decide +kernel
theorem dX11_sheet_105 : decode cX11_sheet 105 = .ok (.iconst 0, 1) := by decide +kernel
theorem dX11_sheet_106 : decode cX11_sheet 106 = .ok (.putfield 71, 3) := by decide +kernel
theorem dX11_sheet_109 : decode cX11_sheet 109 = .ok (.aload_n 0, 1) := by decide +kernel
theorem dX11_sheet_110 : decode cX11_sheet 110 = .ok (.iload 6, 2) := by decide +kernel
theorem dX11_sheet_112 : decode cX11_sheet 112 = .ok (.i2l, 1) := by decide +kernel
theorem dX11_sheet_113 : decode cX11_sheet 113 = .ok (.invokevirtual 155, 3) := by decide +kernel
theorem dX11_sheet_116 : decode cX11_sheet 116 = .ok (.aload_n 0, 1) := by decide +kernel
theorem dX11_sheet_117 : decode cX11_sheet 117 = .ok (.iload 7, 2) := by decide +kernel
theorem dX11_sheet_119 : decode cX11_sheet 119 = .ok (.i2l, 1) := by decide +kernel
theorem dX11_sheet_120 : decode cX11_sheet 120 = .ok (.invokevirtual 155, 3) := by decide +kernel
theorem dX11_sheet_123 : decode cX11_sheet 123 = .ok (.bipush (-4), 2) := by decide +kernel
theorem dX11_sheet_125 : decode cX11_sheet 125 = .ok (.ireturn, 1) := by decide +kernel
theorem dX11_sheet_126 : decode cX11_sheet 126 = .ok (.iinc 6 1, 3) := by decide +kernel
theorem dX11_sheet_129 : decode cX11_sheet 129 = .ok (.goto (-71), 3) := by decide +kernel
theorem dX11_sheet_132 : decode cX11_sheet 132 = .ok (.iconst 0, 1) := by decide +kernel
theorem dX11_sheet_133 : decode cX11_sheet 133 = .ok (.istore 6, 2) := by decide +kernel
theorem dX11_sheet_135 : decode cX11_sheet 135 = .ok (.iconst 0, 1) := by decide +kernel
theorem dX11_sheet_136 : decode cX11_sheet 136 = .ok (.istore 7, 2) := by decide +kernel
theorem dX11_sheet_138 : decode cX11_sheet 138 = .ok (.iload 7, 2) := by decide +kernel
theorem dX11_sheet_140 : decode cX11_sheet 140 = .ok (.iload_n 3, 1) := by decide +kernel
theorem dX11_sheet_141 : decode cX11_sheet 141 = .ok (.if_icmp .ge 75, 3) := by decide +kernel
theorem dX11_sheet_144 : decode cX11_sheet 144 = .ok (.iconst 1, 1) := by decide +kernel
theorem dX11_sheet_145 : decode cX11_sheet 145 = .ok (.iload_n 1, 1) := by decide +kernel
theorem dX11_sheet_146 : decode cX11_sheet 146 = .ok (.iload 7, 2) := by decide +kernel
theorem dX11_sheet_148 : decode cX11_sheet 148 = .ok (.iload_n 1, 1) := by decide +kernel
theorem dX11_sheet_149 : decode cX11_sheet 149 = .ok (.if_icmp .ge 8, 3) := by decide +kernel
theorem dX11_sheet_152 : decode cX11_sheet 152 = .ok (.iload 7, 2) := by decide +kernel
theorem dX11_sheet_154 : decode cX11_sheet 154 = .ok (.goto 7, 3) := by decide +kernel
theorem dX11_sheet_157 : decode cX11_sheet 157 = .ok (.iload 7, 2) := by decide +kernel
theorem dX11_sheet_159 : decode cX11_sheet 159 = .ok (.iconst 1, 1) := by decide +kernel
theorem dX11_sheet_160 : decode cX11_sheet 160 = .ok (.iadd, 1) := by decide +kernel
theorem dX11_sheet_161 : decode cX11_sheet 161 = .ok (.invokestatic 82, 3) := by decide +kernel
theorem dX11_sheet_164 : decode cX11_sheet 164 = .ok (.iadd, 1) := by decide +kernel
theorem dX11_sheet_165 : decode cX11_sheet 165 = .ok (.istore 8, 2) := by decide +kernel
theorem dX11_sheet_167 : decode cX11_sheet 167 = .ok (.iload_n 2, 1) := by decide +kernel
theorem dX11_sheet_168 : decode cX11_sheet 168 = .ok (.iload 4, 2) := by decide +kernel
theorem dX11_sheet_170 : decode cX11_sheet 170 = .ok (.iload 5, 2) := by decide +kernel
theorem dX11_sheet_172 : decode cX11_sheet 172 = .ok (.iload 7, 2) := by decide +kernel
theorem dX11_sheet_174 : decode cX11_sheet 174 = .ok (.invokestatic 147, 3) := by decide +kernel
theorem dX11_sheet_177 : decode cX11_sheet 177 = .ok (.istore 9, 2) := by decide +kernel
theorem dX11_sheet_179 : decode cX11_sheet 179 = .ok (.iload 6, 2) := by decide +kernel
theorem dX11_sheet_181 : decode cX11_sheet 181 = .ok (.aload_n 0, 1) := by decide +kernel
theorem dX11_sheet_182 : decode cX11_sheet 182 = .ok (.getfield 9, 3) := by decide +kernel
theorem dX11_sheet_185 : decode cX11_sheet 185 = .ok (.iload 8, 2) := by decide +kernel
theorem dX11_sheet_187 : decode cX11_sheet 187 = .ok (.iaload, 1) := by decide +kernel
theorem dX11_sheet_188 : decode cX11_sheet 188 = .ok (.iload 9, 2) := by decide +kernel
theorem dX11_sheet_190 : decode cX11_sheet 190 = .ok (.if_icmp .eq 7, 3) := by decide +kernel
theorem dX11_sheet_193 : decode cX11_sheet 193 = .ok (.iconst 1, 1) := by decide +kernel
theorem dX11_sheet_194 : decode cX11_sheet 194 = .ok (.goto 4, 3) := by decide +kernel
theorem dX11_sheet_197 : decode cX11_sheet 197 = .ok (.iconst 0, 1) := by decide +kernel
theorem dX11_sheet_198 : decode cX11_sheet 198 = .ok (.iadd, 1) := by decide +kernel
theorem dX11_sheet_199 : decode cX11_sheet 199 = .ok (.istore 6, 2) := by decide +kernel
theorem dX11_sheet_201 : decode cX11_sheet 201 = .ok (.aload_n 0, 1) := by decide +kernel
theorem dX11_sheet_202 : decode cX11_sheet 202 = .ok (.getfield 9, 3) := by decide +kernel
theorem dX11_sheet_205 : decode cX11_sheet 205 = .ok (.iload 8, 2) := by decide +kernel
theorem dX11_sheet_207 : decode cX11_sheet 207 = .ok (.iload 9, 2) := by decide +kernel
theorem dX11_sheet_209 : decode cX11_sheet 209 = .ok (.iastore, 1) := by decide +kernel
theorem dX11_sheet_210 : decode cX11_sheet 210 = .ok (.iinc 7 1, 3) := by decide +kernel
theorem dX11_sheet_213 : decode cX11_sheet 213 = .ok (.goto (-75), 3) := by decide +kernel
theorem dX11_sheet_216 : decode cX11_sheet 216 = .ok (.iload 6, 2) := by decide +kernel
theorem dX11_sheet_218 : decode cX11_sheet 218 = .ok (.ireturn, 1) := by decide +kernel
theorem dX11_line_0 : decode cX11_line 0 = .ok (.aload_n 0, 1) := by decide +kernel
theorem dX11_line_1 : decode cX11_line 1 = .ok (.iconst 0, 1) := by decide +kernel
theorem dX11_line_2 : decode cX11_line 2 = .ok (.putfield 68, 3) := by decide +kernel
theorem dX11_line_5 : decode cX11_line 5 = .ok (.aload_n 0, 1) := by decide +kernel
theorem dX11_line_6 : decode cX11_line 6 = .ok (.iload_n 1, 1) := by decide +kernel
theorem dX11_line_7 : decode cX11_line 7 = .ok (.iload_n 2, 1) := by decide +kernel
theorem dX11_line_8 : decode cX11_line 8 = .ok (.invokevirtual 159, 3) := by decide +kernel
theorem dX11_line_11 : decode cX11_line 11 = .ok (.ifCond .ne 5, 3) := by decide +kernel
theorem dX11_line_14 : decode cX11_line 14 = .ok (.iconst (-1), 1) := by decide +kernel
theorem dX11_line_15 : decode cX11_line 15 = .ok (.ireturn, 1) := by decide +kernel
theorem dX11_line_16 : decode cX11_line 16 = .ok (.aload_n 0, 1) := by decide +kernel
theorem dX11_line_17 : decode cX11_line 17 = .ok (.iconst 0, 1) := by decide +kernel
theorem dX11_line_18 : decode cX11_line 18 = .ok (.putfield 71, 3) := by decide +kernel
theorem dX11_line_21 : decode cX11_line 21 = .ok (.aload_n 0, 1) := by decide +kernel
theorem dX11_line_22 : decode cX11_line 22 = .ok (.aload_n 0, 1) := by decide +kernel
theorem dX11_line_23 : decode cX11_line 23 = .ok (.iload_n 2, 1) := by decide +kernel
theorem dX11_line_24 : decode cX11_line 24 = .ok (.iload_n 1, 1) := by decide +kernel
theorem dX11_line_25 : decode cX11_line 25 = .ok (.invokevirtual 141, 3) := by decide +kernel
theorem dX11_line_28 : decode cX11_line 28 = .ok (.i2l, 1) := by decide +kernel
theorem dX11_line_29 : decode cX11_line 29 = .ok (.invokevirtual 155, 3) := by decide +kernel
theorem dX11_line_32 : decode cX11_line 32 = .ok (.aload_n 0, 1) := by decide +kernel
theorem dX11_line_33 : decode cX11_line 33 = .ok (.aload_n 0, 1) := by decide +kernel
theorem dX11_line_34 : decode cX11_line 34 = .ok (.iload_n 2, 1) := by decide +kernel
theorem dX11_line_35 : decode cX11_line 35 = .ok (.iload_n 1, 1) := by decide +kernel
theorem dX11_line_36 : decode cX11_line 36 = .ok (.invokevirtual 163, 3) := by decide +kernel
theorem dX11_line_39 : decode cX11_line 39 = .ok (.i2l, 1) := by decide +kernel
theorem dX11_line_40 : decode cX11_line 40 = .ok (.invokevirtual 155, 3) := by decide +kernel
theorem dX11_line_43 : decode cX11_line 43 = .ok (.aload_n 0, 1) := by decide +kernel
theorem dX11_line_44 : decode cX11_line 44 = .ok (.aload_n 0, 1) := by decide +kernel
theorem dX11_line_45 : decode cX11_line 45 = .ok (.iload_n 2, 1) := by decide +kernel
theorem dX11_line_46 : decode cX11_line 46 = .ok (.iload_n 1, 1) := by decide +kernel
theorem dX11_line_47 : decode cX11_line 47 = .ok (.invokevirtual 98, 3) := by decide +kernel
theorem dX11_line_50 : decode cX11_line 50 = .ok (.i2l, 1) := by decide +kernel
theorem dX11_line_51 : decode cX11_line 51 = .ok (.invokevirtual 155, 3) := by decide +kernel
theorem dX11_line_54 : decode cX11_line 54 = .ok (.aload_n 0, 1) := by decide +kernel
theorem dX11_line_55 : decode cX11_line 55 = .ok (.iload_n 1, 1) := by decide +kernel
theorem dX11_line_56 : decode cX11_line 56 = .ok (.iload_n 2, 1) := by decide +kernel
theorem dX11_line_57 : decode cX11_line 57 = .ok (.invokevirtual 95, 3) := by decide +kernel
theorem dX11_line_60 : decode cX11_line 60 = .ok (.ireturn, 1) := by decide +kernel
theorem dX11_net_0 : decode cX11_net 0 = .ok (.aload_n 0, 1) := by decide +kernel
theorem dX11_net_1 : decode cX11_net 1 = .ok (.iconst 0, 1) := by decide +kernel
theorem dX11_net_2 : decode cX11_net 2 = .ok (.putfield 68, 3) := by decide +kernel
theorem dX11_net_5 : decode cX11_net 5 = .ok (.aload_n 0, 1) := by decide +kernel
theorem dX11_net_6 : decode cX11_net 6 = .ok (.iload_n 1, 1) := by decide +kernel
theorem dX11_net_7 : decode cX11_net 7 = .ok (.invokevirtual 78, 3) := by decide +kernel
theorem dX11_net_10 : decode cX11_net 10 = .ok (.ifCond .ne 8, 3) := by decide +kernel
theorem dX11_net_13 : decode cX11_net 13 = .ok (.aload_n 0, 1) := by decide +kernel
theorem dX11_net_14 : decode cX11_net 14 = .ok (.invokevirtual 166, 3) := by decide +kernel
theorem dX11_net_17 : decode cX11_net 17 = .ok (.ireturn, 1) := by decide +kernel
theorem dX11_net_18 : decode cX11_net 18 = .ok (.iconst 0, 1) := by decide +kernel
theorem dX11_net_19 : decode cX11_net 19 = .ok (.istore_n 2, 1) := by decide +kernel
theorem dX11_net_20 : decode cX11_net 20 = .ok (.iconst 0, 1) := by decide +kernel
theorem dX11_net_21 : decode cX11_net 21 = .ok (.istore_n 3, 1) := by decide +kernel
theorem dX11_net_22 : decode cX11_net 22 = .ok (.iload_n 3, 1) := by decide +kernel
theorem dX11_net_23 : decode cX11_net 23 = .ok (.aload_n 0, 1) := by decide +kernel
theorem dX11_net_24 : decode cX11_net 24 = .ok (.getfield 9, 3) := by decide +kernel
theorem dX11_net_27 : decode cX11_net 27 = .ok (.iconst 0, 1) := by decide +kernel
theorem dX11_net_28 : decode cX11_net 28 = .ok (.iaload, 1) := by decide +kernel
theorem dX11_net_29 : decode cX11_net 29 = .ok (.if_icmp .ge 25, 3) := by decide +kernel
theorem dX11_net_32 : decode cX11_net 32 = .ok (.iload_n 2, 1) := by decide +kernel
theorem dX11_net_33 : decode cX11_net 33 = .ok (.aload_n 0, 1) := by decide +kernel
theorem dX11_net_34 : decode cX11_net 34 = .ok (.getfield 9, 3) := by decide +kernel
theorem dX11_net_37 : decode cX11_net 37 = .ok (.bipush 65, 2) := by decide +kernel
theorem dX11_net_39 : decode cX11_net 39 = .ok (.iload_n 3, 1) := by decide +kernel
theorem dX11_net_40 : decode cX11_net 40 = .ok (.iload_n 1, 1) := by decide +kernel
theorem dX11_net_41 : decode cX11_net 41 = .ok (.invokestatic 82, 3) := by decide +kernel
theorem dX11_net_44 : decode cX11_net 44 = .ok (.iadd, 1) := by decide +kernel
theorem dX11_net_45 : decode cX11_net 45 = .ok (.iaload, 1) := by decide +kernel
theorem dX11_net_46 : decode cX11_net 46 = .ok (.iadd, 1) := by decide +kernel
theorem dX11_net_47 : decode cX11_net 47 = .ok (.istore_n 2, 1) := by decide +kernel
theorem dX11_net_48 : decode cX11_net 48 = .ok (.iinc 3 1, 3) := by decide +kernel
theorem dX11_net_51 : decode cX11_net 51 = .ok (.goto (-29), 3) := by decide +kernel
theorem dX11_net_54 : decode cX11_net 54 = .ok (.iload_n 2, 1) := by decide +kernel
theorem dX11_net_55 : decode cX11_net 55 = .ok (.ireturn, 1) := by decide +kernel
theorem dX11_owesAll_0 : decode cX11_owesAll 0 = .ok (.iconst 0, 1) := by decide +kernel
theorem dX11_owesAll_1 : decode cX11_owesAll 1 = .ok (.istore_n 2, 1) := by decide +kernel
theorem dX11_owesAll_2 : decode cX11_owesAll 2 = .ok (.iconst 0, 1) := by decide +kernel
theorem dX11_owesAll_3 : decode cX11_owesAll 3 = .ok (.istore_n 3, 1) := by decide +kernel
theorem dX11_owesAll_4 : decode cX11_owesAll 4 = .ok (.iload_n 3, 1) := by decide +kernel
theorem dX11_owesAll_5 : decode cX11_owesAll 5 = .ok (.aload_n 0, 1) := by decide +kernel
theorem dX11_owesAll_6 : decode cX11_owesAll 6 = .ok (.getfield 9, 3) := by decide +kernel
theorem dX11_owesAll_9 : decode cX11_owesAll 9 = .ok (.iconst 0, 1) := by decide +kernel
theorem dX11_owesAll_10 : decode cX11_owesAll 10 = .ok (.iaload, 1) := by decide +kernel
theorem dX11_owesAll_11 : decode cX11_owesAll 11 = .ok (.if_icmp .ge 18, 3) := by decide +kernel
theorem dX11_owesAll_14 : decode cX11_owesAll 14 = .ok (.iload_n 2, 1) := by decide +kernel
theorem dX11_owesAll_15 : decode cX11_owesAll 15 = .ok (.aload_n 0, 1) := by decide +kernel
theorem dX11_owesAll_16 : decode cX11_owesAll 16 = .ok (.iload_n 1, 1) := by decide +kernel
theorem dX11_owesAll_17 : decode cX11_owesAll 17 = .ok (.iload_n 3, 1) := by decide +kernel
theorem dX11_owesAll_18 : decode cX11_owesAll 18 = .ok (.invokevirtual 141, 3) := by decide +kernel
theorem dX11_owesAll_21 : decode cX11_owesAll 21 = .ok (.iadd, 1) := by decide +kernel
theorem dX11_owesAll_22 : decode cX11_owesAll 22 = .ok (.istore_n 2, 1) := by decide +kernel
theorem dX11_owesAll_23 : decode cX11_owesAll 23 = .ok (.iinc 3 1, 3) := by decide +kernel
theorem dX11_owesAll_26 : decode cX11_owesAll 26 = .ok (.goto (-22), 3) := by decide +kernel
theorem dX11_owesAll_29 : decode cX11_owesAll 29 = .ok (.iload_n 2, 1) := by decide +kernel
theorem dX11_owesAll_30 : decode cX11_owesAll 30 = .ok (.ireturn, 1) := by decide +kernel
theorem dX11_allDebts_0 : decode cX11_allDebts 0 = .ok (.iconst 0, 1) := by decide +kernel
theorem dX11_allDebts_1 : decode cX11_allDebts 1 = .ok (.istore_n 1, 1) := by decide +kernel
theorem dX11_allDebts_2 : decode cX11_allDebts 2 = .ok (.iconst 0, 1) := by decide +kernel
theorem dX11_allDebts_3 : decode cX11_allDebts 3 = .ok (.istore_n 2, 1) := by decide +kernel
theorem dX11_allDebts_4 : decode cX11_allDebts 4 = .ok (.iload_n 2, 1) := by decide +kernel
theorem dX11_allDebts_5 : decode cX11_allDebts 5 = .ok (.aload_n 0, 1) := by decide +kernel
theorem dX11_allDebts_6 : decode cX11_allDebts 6 = .ok (.getfield 9, 3) := by decide +kernel
theorem dX11_allDebts_9 : decode cX11_allDebts 9 = .ok (.iconst 0, 1) := by decide +kernel
theorem dX11_allDebts_10 : decode cX11_allDebts 10 = .ok (.iaload, 1) := by decide +kernel
theorem dX11_allDebts_11 : decode cX11_allDebts 11 = .ok (.if_icmp .ge 17, 3) := by decide +kernel
theorem dX11_allDebts_14 : decode cX11_allDebts 14 = .ok (.iload_n 1, 1) := by decide +kernel
theorem dX11_allDebts_15 : decode cX11_allDebts 15 = .ok (.aload_n 0, 1) := by decide +kernel
theorem dX11_allDebts_16 : decode cX11_allDebts 16 = .ok (.iload_n 2, 1) := by decide +kernel
theorem dX11_allDebts_17 : decode cX11_allDebts 17 = .ok (.invokevirtual 169, 3) := by decide +kernel
theorem dX11_allDebts_20 : decode cX11_allDebts 20 = .ok (.iadd, 1) := by decide +kernel
theorem dX11_allDebts_21 : decode cX11_allDebts 21 = .ok (.istore_n 1, 1) := by decide +kernel
theorem dX11_allDebts_22 : decode cX11_allDebts 22 = .ok (.iinc 2 1, 3) := by decide +kernel
theorem dX11_allDebts_25 : decode cX11_allDebts 25 = .ok (.goto (-21), 3) := by decide +kernel
theorem dX11_allDebts_28 : decode cX11_allDebts 28 = .ok (.iload_n 1, 1) := by decide +kernel
theorem dX11_allDebts_29 : decode cX11_allDebts 29 = .ok (.ireturn, 1) := by decide +kernel
theorem dX11_debts_0 : decode cX11_debts 0 = .ok (.aload_n 0, 1) := by decide +kernel
theorem dX11_debts_1 : decode cX11_debts 1 = .ok (.iconst 0, 1) := by decide +kernel
theorem dX11_debts_2 : decode cX11_debts 2 = .ok (.putfield 68, 3) := by decide +kernel
theorem dX11_debts_5 : decode cX11_debts 5 = .ok (.iconst 0, 1) := by decide +kernel
theorem dX11_debts_6 : decode cX11_debts 6 = .ok (.istore_n 1, 1) := by decide +kernel
theorem dX11_debts_7 : decode cX11_debts 7 = .ok (.iconst (-1), 1) := by decide +kernel
theorem dX11_debts_8 : decode cX11_debts 8 = .ok (.istore_n 2, 1) := by decide +kernel
theorem dX11_debts_9 : decode cX11_debts 9 = .ok (.iconst 0, 1) := by decide +kernel
theorem dX11_debts_10 : decode cX11_debts 10 = .ok (.istore_n 3, 1) := by decide +kernel
theorem dX11_debts_11 : decode cX11_debts 11 = .ok (.iload_n 3, 1) := by decide +kernel
theorem dX11_debts_12 : decode cX11_debts 12 = .ok (.aload_n 0, 1) := by decide +kernel
theorem dX11_debts_13 : decode cX11_debts 13 = .ok (.getfield 9, 3) := by decide +kernel
theorem dX11_debts_16 : decode cX11_debts 16 = .ok (.iconst 0, 1) := by decide +kernel
theorem dX11_debts_17 : decode cX11_debts 17 = .ok (.iaload, 1) := by decide +kernel
theorem dX11_debts_18 : decode cX11_debts 18 = .ok (.if_icmp .ge 71, 3) := by decide +kernel
theorem dX11_debts_21 : decode cX11_debts 21 = .ok (.iconst 0, 1) := by decide +kernel
theorem dX11_debts_22 : decode cX11_debts 22 = .ok (.istore 4, 2) := by decide +kernel
theorem dX11_debts_24 : decode cX11_debts 24 = .ok (.iload 4, 2) := by decide +kernel
theorem dX11_debts_26 : decode cX11_debts 26 = .ok (.aload_n 0, 1) := by decide +kernel
theorem dX11_debts_27 : decode cX11_debts 27 = .ok (.getfield 9, 3) := by decide +kernel
theorem dX11_debts_30 : decode cX11_debts 30 = .ok (.iconst 0, 1) := by decide +kernel
theorem dX11_debts_31 : decode cX11_debts 31 = .ok (.iaload, 1) := by decide +kernel
theorem dX11_debts_32 : decode cX11_debts 32 = .ok (.if_icmp .ge 27, 3) := by decide +kernel
theorem dX11_debts_35 : decode cX11_debts 35 = .ok (.iload_n 1, 1) := by decide +kernel
theorem dX11_debts_36 : decode cX11_debts 36 = .ok (.aload_n 0, 1) := by decide +kernel
theorem dX11_debts_37 : decode cX11_debts 37 = .ok (.iload_n 3, 1) := by decide +kernel
theorem dX11_debts_38 : decode cX11_debts 38 = .ok (.iload 4, 2) := by decide +kernel
theorem dX11_debts_40 : decode cX11_debts 40 = .ok (.invokevirtual 141, 3) := by decide +kernel
theorem dX11_debts_43 : decode cX11_debts 43 = .ok (.ifCond .le 7, 3) := by decide +kernel
theorem dX11_debts_46 : decode cX11_debts 46 = .ok (.iconst 1, 1) := by decide +kernel
theorem dX11_debts_47 : decode cX11_debts 47 = .ok (.goto 4, 3) := by decide +kernel
theorem dX11_debts_50 : decode cX11_debts 50 = .ok (.iconst 0, 1) := by decide +kernel
theorem dX11_debts_51 : decode cX11_debts 51 = .ok (.iadd, 1) := by decide +kernel
theorem dX11_debts_52 : decode cX11_debts 52 = .ok (.istore_n 1, 1) := by decide +kernel
theorem dX11_debts_53 : decode cX11_debts 53 = .ok (.iinc 4 1, 3) := by decide +kernel
theorem dX11_debts_56 : decode cX11_debts 56 = .ok (.goto (-32), 3) := by decide +kernel
theorem dX11_debts_59 : decode cX11_debts 59 = .ok (.aload_n 0, 1) := by decide +kernel
theorem dX11_debts_60 : decode cX11_debts 60 = .ok (.iload_n 3, 1) := by decide +kernel
theorem dX11_debts_61 : decode cX11_debts 61 = .ok (.invokevirtual 169, 3) := by decide +kernel
theorem dX11_debts_64 : decode cX11_debts 64 = .ok (.iload_n 2, 1) := by decide +kernel
theorem dX11_debts_65 : decode cX11_debts 65 = .ok (.iconst (-1), 1) := by decide +kernel
theorem dX11_debts_66 : decode cX11_debts 66 = .ok (.if_icmp .ne 7, 3) := by decide +kernel
theorem dX11_debts_69 : decode cX11_debts 69 = .ok (.iconst 0, 1) := by decide +kernel
theorem dX11_debts_70 : decode cX11_debts 70 = .ok (.goto 8, 3) := by decide +kernel
theorem dX11_debts_73 : decode cX11_debts 73 = .ok (.aload_n 0, 1) := by decide +kernel
theorem dX11_debts_74 : decode cX11_debts 74 = .ok (.iload_n 2, 1) := by decide +kernel
theorem dX11_debts_75 : decode cX11_debts 75 = .ok (.invokevirtual 169, 3) := by decide +kernel
theorem dX11_debts_78 : decode cX11_debts 78 = .ok (.if_icmp .le 5, 3) := by decide +kernel
theorem dX11_debts_81 : decode cX11_debts 81 = .ok (.iload_n 3, 1) := by decide +kernel
theorem dX11_debts_82 : decode cX11_debts 82 = .ok (.istore_n 2, 1) := by decide +kernel
theorem dX11_debts_83 : decode cX11_debts 83 = .ok (.iinc 3 1, 3) := by decide +kernel
theorem dX11_debts_86 : decode cX11_debts 86 = .ok (.goto (-75), 3) := by decide +kernel
theorem dX11_debts_89 : decode cX11_debts 89 = .ok (.aload_n 0, 1) := by decide +kernel
theorem dX11_debts_90 : decode cX11_debts 90 = .ok (.iconst 0, 1) := by decide +kernel
theorem dX11_debts_91 : decode cX11_debts 91 = .ok (.putfield 71, 3) := by decide +kernel
theorem dX11_debts_94 : decode cX11_debts 94 = .ok (.aload_n 0, 1) := by decide +kernel
theorem dX11_debts_95 : decode cX11_debts 95 = .ok (.iload_n 1, 1) := by decide +kernel
theorem dX11_debts_96 : decode cX11_debts 96 = .ok (.i2l, 1) := by decide +kernel
theorem dX11_debts_97 : decode cX11_debts 97 = .ok (.invokevirtual 155, 3) := by decide +kernel
theorem dX11_debts_100 : decode cX11_debts 100 = .ok (.aload_n 0, 1) := by decide +kernel
theorem dX11_debts_101 : decode cX11_debts 101 = .ok (.iload_n 2, 1) := by decide +kernel
theorem dX11_debts_102 : decode cX11_debts 102 = .ok (.i2l, 1) := by decide +kernel
theorem dX11_debts_103 : decode cX11_debts 103 = .ok (.invokevirtual 155, 3) := by decide +kernel
theorem dX11_debts_106 : decode cX11_debts 106 = .ok (.aload_n 0, 1) := by decide +kernel
theorem dX11_debts_107 : decode cX11_debts 107 = .ok (.iload_n 2, 1) := by decide +kernel
theorem dX11_debts_108 : decode cX11_debts 108 = .ok (.iconst (-1), 1) := by decide +kernel
theorem dX11_debts_109 : decode cX11_debts 109 = .ok (.if_icmp .ne 7, 3) := by decide +kernel
theorem dX11_debts_112 : decode cX11_debts 112 = .ok (.lconst 0, 1) := by decide +kernel
theorem dX11_debts_113 : decode cX11_debts 113 = .ok (.goto 9, 3) := by decide +kernel
theorem dX11_debts_116 : decode cX11_debts 116 = .ok (.aload_n 0, 1) := by decide +kernel
theorem dX11_debts_117 : decode cX11_debts 117 = .ok (.iload_n 2, 1) := by decide +kernel
theorem dX11_debts_118 : decode cX11_debts 118 = .ok (.invokevirtual 169, 3) := by decide +kernel
theorem dX11_debts_121 : decode cX11_debts 121 = .ok (.i2l, 1) := by decide +kernel
theorem dX11_debts_122 : decode cX11_debts 122 = .ok (.invokevirtual 155, 3) := by decide +kernel
theorem dX11_debts_125 : decode cX11_debts 125 = .ok (.aload_n 0, 1) := by decide +kernel
theorem dX11_debts_126 : decode cX11_debts 126 = .ok (.invokevirtual 172, 3) := by decide +kernel
theorem dX11_debts_129 : decode cX11_debts 129 = .ok (.ireturn, 1) := by decide +kernel
theorem dX11_canGo_0 : decode cX11_canGo 0 = .ok (.iload_n 1, 1) := by decide +kernel
theorem dX11_canGo_1 : decode cX11_canGo 1 = .ok (.iload_n 2, 1) := by decide +kernel
theorem dX11_canGo_2 : decode cX11_canGo 2 = .ok (.if_icmp .eq 33, 3) := by decide +kernel
theorem dX11_canGo_5 : decode cX11_canGo 5 = .ok (.iload_n 1, 1) := by decide +kernel
theorem dX11_canGo_6 : decode cX11_canGo 6 = .ok (.aload_n 0, 1) := by decide +kernel
theorem dX11_canGo_7 : decode cX11_canGo 7 = .ok (.getfield 33, 3) := by decide +kernel
theorem dX11_canGo_10 : decode cX11_canGo 10 = .ok (.if_icmp .eq 25, 3) := by decide +kernel
theorem dX11_canGo_13 : decode cX11_canGo 13 = .ok (.iload_n 2, 1) := by decide +kernel
theorem dX11_canGo_14 : decode cX11_canGo 14 = .ok (.aload_n 0, 1) := by decide +kernel
theorem dX11_canGo_15 : decode cX11_canGo 15 = .ok (.getfield 33, 3) := by decide +kernel
theorem dX11_canGo_18 : decode cX11_canGo 18 = .ok (.if_icmp .eq 17, 3) := by decide +kernel
theorem dX11_canGo_21 : decode cX11_canGo 21 = .ok (.aload_n 0, 1) := by decide +kernel
theorem dX11_canGo_22 : decode cX11_canGo 22 = .ok (.iload_n 1, 1) := by decide +kernel
theorem dX11_canGo_23 : decode cX11_canGo 23 = .ok (.iload_n 2, 1) := by decide +kernel
theorem dX11_canGo_24 : decode cX11_canGo 24 = .ok (.invokevirtual 163, 3) := by decide +kernel
theorem dX11_canGo_27 : decode cX11_canGo 27 = .ok (.iload_n 3, 1) := by decide +kernel
theorem dX11_canGo_28 : decode cX11_canGo 28 = .ok (.if_icmp .lt 7, 3) := by decide +kernel
theorem dX11_canGo_31 : decode cX11_canGo 31 = .ok (.iconst 1, 1) := by decide +kernel
theorem dX11_canGo_32 : decode cX11_canGo 32 = .ok (.goto 4, 3) := by decide +kernel
theorem dX11_canGo_35 : decode cX11_canGo 35 = .ok (.iconst 0, 1) := by decide +kernel
theorem dX11_canGo_36 : decode cX11_canGo 36 = .ok (.ireturn, 1) := by decide +kernel
theorem dX11_layFar_0 : decode cX11_layFar 0 = .ok (.iconst 0, 1) := by decide +kernel
theorem dX11_layFar_1 : decode cX11_layFar 1 = .ok (.istore_n 3, 1) := by decide +kernel
theorem dX11_layFar_2 : decode cX11_layFar 2 = .ok (.iload_n 3, 1) := by decide +kernel
theorem dX11_layFar_3 : decode cX11_layFar 3 = .ok (.aload_n 0, 1) := by decide +kernel
theorem dX11_layFar_4 : decode cX11_layFar 4 = .ok (.getfield 9, 3) := by decide +kernel
theorem dX11_layFar_7 : decode cX11_layFar 7 = .ok (.iconst 0, 1) := by decide +kernel
theorem dX11_layFar_8 : decode cX11_layFar 8 = .ok (.iaload, 1) := by decide +kernel
theorem dX11_layFar_9 : decode cX11_layFar 9 = .ok (.if_icmp .ge 25, 3) := by decide +kernel
theorem dX11_layFar_12 : decode cX11_layFar 12 = .ok (.aload_n 0, 1) := by decide +kernel
theorem dX11_layFar_13 : decode cX11_layFar 13 = .ok (.getfield 27, 3) := by decide +kernel
theorem dX11_layFar_16 : decode cX11_layFar 16 = .ok (.iload_n 3, 1) := by decide +kernel
theorem dX11_layFar_17 : decode cX11_layFar 17 = .ok (.iload_n 3, 1) := by decide +kernel
theorem dX11_layFar_18 : decode cX11_layFar 18 = .ok (.iload_n 1, 1) := by decide +kernel
theorem dX11_layFar_19 : decode cX11_layFar 19 = .ok (.if_icmp .ne 7, 3) := by decide +kernel
theorem dX11_layFar_22 : decode cX11_layFar 22 = .ok (.iconst 0, 1) := by decide +kernel
theorem dX11_layFar_23 : decode cX11_layFar 23 = .ok (.goto 4, 3) := by decide +kernel
theorem dX11_layFar_26 : decode cX11_layFar 26 = .ok (.iconst (-1), 1) := by decide +kernel
theorem dX11_layFar_27 : decode cX11_layFar 27 = .ok (.iastore, 1) := by decide +kernel
theorem dX11_layFar_28 : decode cX11_layFar 28 = .ok (.iinc 3 1, 3) := by decide +kernel
theorem dX11_layFar_31 : decode cX11_layFar 31 = .ok (.goto (-29), 3) := by decide +kernel
theorem dX11_layFar_34 : decode cX11_layFar 34 = .ok (.iconst 0, 1) := by decide +kernel
theorem dX11_layFar_35 : decode cX11_layFar 35 = .ok (.istore_n 3, 1) := by decide +kernel
theorem dX11_layFar_36 : decode cX11_layFar 36 = .ok (.iload_n 3, 1) := by decide +kernel
theorem dX11_layFar_37 : decode cX11_layFar 37 = .ok (.aload_n 0, 1) := by decide +kernel
theorem dX11_layFar_38 : decode cX11_layFar 38 = .ok (.getfield 9, 3) := by decide +kernel
theorem dX11_layFar_41 : decode cX11_layFar 41 = .ok (.iconst 0, 1) := by decide +kernel
theorem dX11_layFar_42 : decode cX11_layFar 42 = .ok (.iaload, 1) := by decide +kernel
theorem dX11_layFar_43 : decode cX11_layFar 43 = .ok (.if_icmp .ge 96, 3) := by decide +kernel
theorem dX11_layFar_46 : decode cX11_layFar 46 = .ok (.iconst 0, 1) := by decide +kernel
theorem dX11_layFar_47 : decode cX11_layFar 47 = .ok (.istore 4, 2) := by decide +kernel
theorem dX11_layFar_49 : decode cX11_layFar 49 = .ok (.iload 4, 2) := by decide +kernel
theorem dX11_layFar_51 : decode cX11_layFar 51 = .ok (.aload_n 0, 1) := by decide +kernel
theorem dX11_layFar_52 : decode cX11_layFar 52 = .ok (.getfield 9, 3) := by decide +kernel
theorem dX11_layFar_55 : decode cX11_layFar 55 = .ok (.iconst 0, 1) := by decide +kernel
theorem dX11_layFar_56 : decode cX11_layFar 56 = .ok (.iaload, 1) := by decide +kernel
theorem dX11_layFar_57 : decode cX11_layFar 57 = .ok (.if_icmp .ge 76, 3) := by decide +kernel
theorem dX11_layFar_60 : decode cX11_layFar 60 = .ok (.aload_n 0, 1) := by decide +kernel
theorem dX11_layFar_61 : decode cX11_layFar 61 = .ok (.getfield 27, 3) := by decide +kernel
theorem dX11_layFar_64 : decode cX11_layFar 64 = .ok (.iload 4, 2) := by decide +kernel
theorem dX11_layFar_66 : decode cX11_layFar 66 = .ok (.iaload, 1) := by decide +kernel
theorem dX11_layFar_67 : decode cX11_layFar 67 = .ok (.iload_n 3, 1) := by decide +kernel
theorem dX11_layFar_68 : decode cX11_layFar 68 = .ok (.if_icmp .eq 6, 3) := by decide +kernel
theorem dX11_layFar_71 : decode cX11_layFar 71 = .ok (.goto 56, 3) := by decide +kernel
theorem dX11_layFar_74 : decode cX11_layFar 74 = .ok (.iconst 0, 1) := by decide +kernel
theorem dX11_layFar_75 : decode cX11_layFar 75 = .ok (.istore 5, 2) := by decide +kernel
theorem dX11_layFar_77 : decode cX11_layFar 77 = .ok (.iload 5, 2) := by decide +kernel
theorem dX11_layFar_79 : decode cX11_layFar 79 = .ok (.aload_n 0, 1) := by decide +kernel
theorem dX11_layFar_80 : decode cX11_layFar 80 = .ok (.getfield 9, 3) := by decide +kernel
theorem dX11_layFar_83 : decode cX11_layFar 83 = .ok (.iconst 0, 1) := by decide +kernel
theorem dX11_layFar_84 : decode cX11_layFar 84 = .ok (.iaload, 1) := by decide +kernel
theorem dX11_layFar_85 : decode cX11_layFar 85 = .ok (.if_icmp .ge 42, 3) := by decide +kernel
theorem dX11_layFar_88 : decode cX11_layFar 88 = .ok (.aload_n 0, 1) := by decide +kernel
theorem dX11_layFar_89 : decode cX11_layFar 89 = .ok (.getfield 27, 3) := by decide +kernel
theorem dX11_layFar_92 : decode cX11_layFar 92 = .ok (.iload 5, 2) := by decide +kernel
theorem dX11_layFar_94 : decode cX11_layFar 94 = .ok (.iaload, 1) := by decide +kernel
theorem dX11_layFar_95 : decode cX11_layFar 95 = .ok (.iconst (-1), 1) := by decide +kernel
theorem dX11_layFar_96 : decode cX11_layFar 96 = .ok (.if_icmp .ne 25, 3) := by decide +kernel
theorem dX11_layFar_99 : decode cX11_layFar 99 = .ok (.aload_n 0, 1) := by decide +kernel
theorem dX11_layFar_100 : decode cX11_layFar 100 = .ok (.iload 5, 2) := by decide +kernel
theorem dX11_layFar_102 : decode cX11_layFar 102 = .ok (.iload 4, 2) := by decide +kernel
theorem dX11_layFar_104 : decode cX11_layFar 104 = .ok (.iload_n 2, 1) := by decide +kernel
theorem dX11_layFar_105 : decode cX11_layFar 105 = .ok (.invokevirtual 175, 3) := by decide +kernel
theorem dX11_layFar_108 : decode cX11_layFar 108 = .ok (.ifCond .eq 13, 3) := by decide +kernel
theorem dX11_layFar_111 : decode cX11_layFar 111 = .ok (.aload_n 0, 1) := by decide +kernel
theorem dX11_layFar_112 : decode cX11_layFar 112 = .ok (.getfield 27, 3) := by decide +kernel
theorem dX11_layFar_115 : decode cX11_layFar 115 = .ok (.iload 5, 2) := by decide +kernel
theorem dX11_layFar_117 : decode cX11_layFar 117 = .ok (.iload_n 3, 1) := by decide +kernel
theorem dX11_layFar_118 : decode cX11_layFar 118 = .ok (.iconst 1, 1) := by decide +kernel
theorem dX11_layFar_119 : decode cX11_layFar 119 = .ok (.iadd, 1) := by decide +kernel
theorem dX11_layFar_120 : decode cX11_layFar 120 = .ok (.iastore, 1) := by decide +kernel
theorem dX11_layFar_121 : decode cX11_layFar 121 = .ok (.iinc 5 1, 3) := by decide +kernel
theorem dX11_layFar_124 : decode cX11_layFar 124 = .ok (.goto (-47), 3) := by decide +kernel
theorem dX11_layFar_127 : decode cX11_layFar 127 = .ok (.iinc 4 1, 3) := by decide +kernel
theorem dX11_layFar_130 : decode cX11_layFar 130 = .ok (.goto (-81), 3) := by decide +kernel
theorem dX11_layFar_133 : decode cX11_layFar 133 = .ok (.iinc 3 1, 3) := by decide +kernel
theorem dX11_layFar_136 : decode cX11_layFar 136 = .ok (.goto (-100), 3) := by decide +kernel
theorem dX11_layFar_139 : decode cX11_layFar 139 = .ok (.return_, 1) := by decide +kernel
theorem dX11_findWay_0 : decode cX11_findWay 0 = .ok (.aload_n 0, 1) := by decide +kernel
theorem dX11_findWay_1 : decode cX11_findWay 1 = .ok (.iload_n 2, 1) := by decide +kernel
theorem dX11_findWay_2 : decode cX11_findWay 2 = .ok (.iload_n 3, 1) := by decide +kernel
theorem dX11_findWay_3 : decode cX11_findWay 3 = .ok (.invokevirtual 178, 3) := by decide +kernel
theorem dX11_findWay_6 : decode cX11_findWay 6 = .ok (.aload_n 0, 1) := by decide +kernel
theorem dX11_findWay_7 : decode cX11_findWay 7 = .ok (.getfield 27, 3) := by decide +kernel
theorem dX11_findWay_10 : decode cX11_findWay 10 = .ok (.iload_n 1, 1) := by decide +kernel
theorem dX11_findWay_11 : decode cX11_findWay 11 = .ok (.iaload, 1) := by decide +kernel
theorem dX11_findWay_12 : decode cX11_findWay 12 = .ok (.iconst (-1), 1) := by decide +kernel
theorem dX11_findWay_13 : decode cX11_findWay 13 = .ok (.if_icmp .ne 5, 3) := by decide +kernel
theorem dX11_findWay_16 : decode cX11_findWay 16 = .ok (.iconst 0, 1) := by decide +kernel
theorem dX11_findWay_17 : decode cX11_findWay 17 = .ok (.ireturn, 1) := by decide +kernel
theorem dX11_findWay_18 : decode cX11_findWay 18 = .ok (.aload_n 0, 1) := by decide +kernel
theorem dX11_findWay_19 : decode cX11_findWay 19 = .ok (.iconst 0, 1) := by decide +kernel
theorem dX11_findWay_20 : decode cX11_findWay 20 = .ok (.putfield 182, 3) := by decide +kernel
theorem dX11_findWay_23 : decode cX11_findWay 23 = .ok (.iload_n 1, 1) := by decide +kernel
theorem dX11_findWay_24 : decode cX11_findWay 24 = .ok (.istore 4, 2) := by decide +kernel
theorem dX11_findWay_26 : decode cX11_findWay 26 = .ok (.iload 4, 2) := by decide +kernel
theorem dX11_findWay_28 : decode cX11_findWay 28 = .ok (.iload_n 2, 1) := by decide +kernel
theorem dX11_findWay_29 : decode cX11_findWay 29 = .ok (.if_icmp .eq 71, 3) := by decide +kernel
theorem dX11_findWay_32 : decode cX11_findWay 32 = .ok (.aload_n 0, 1) := by decide +kernel
theorem dX11_findWay_33 : decode cX11_findWay 33 = .ok (.getfield 30, 3) := by decide +kernel
theorem dX11_findWay_36 : decode cX11_findWay 36 = .ok (.aload_n 0, 1) := by decide +kernel
theorem dX11_findWay_37 : decode cX11_findWay 37 = .ok (.getfield 182, 3) := by decide +kernel
theorem dX11_findWay_40 : decode cX11_findWay 40 = .ok (.iload 4, 2) := by decide +kernel
theorem dX11_findWay_42 : decode cX11_findWay 42 = .ok (.iastore, 1) := by decide +kernel
theorem dX11_findWay_43 : decode cX11_findWay 43 = .ok (.aload_n 0, 1) := by decide +kernel
theorem dX11_findWay_44 : decode cX11_findWay 44 = .ok (.dup, 1) := by decide +kernel
theorem dX11_findWay_45 : decode cX11_findWay 45 = .ok (.getfield 182, 3) := by decide +kernel
theorem dX11_findWay_48 : decode cX11_findWay 48 = .ok (.iconst 1, 1) := by decide +kernel
theorem dX11_findWay_49 : decode cX11_findWay 49 = .ok (.iadd, 1) := by decide +kernel
theorem dX11_findWay_50 : decode cX11_findWay 50 = .ok (.putfield 182, 3) := by decide +kernel
theorem dX11_findWay_53 : decode cX11_findWay 53 = .ok (.iconst 0, 1) := by decide +kernel
theorem dX11_findWay_54 : decode cX11_findWay 54 = .ok (.istore 5, 2) := by decide +kernel
theorem dX11_findWay_56 : decode cX11_findWay 56 = .ok (.aload_n 0, 1) := by decide +kernel
theorem dX11_findWay_57 : decode cX11_findWay 57 = .ok (.getfield 27, 3) := by decide +kernel
theorem dX11_findWay_60 : decode cX11_findWay 60 = .ok (.iload 5, 2) := by decide +kernel
theorem dX11_findWay_62 : decode cX11_findWay 62 = .ok (.iaload, 1) := by decide +kernel
theorem dX11_findWay_63 : decode cX11_findWay 63 = .ok (.aload_n 0, 1) := by decide +kernel
theorem dX11_findWay_64 : decode cX11_findWay 64 = .ok (.getfield 27, 3) := by decide +kernel
theorem dX11_findWay_67 : decode cX11_findWay 67 = .ok (.iload 4, 2) := by decide +kernel
theorem dX11_findWay_69 : decode cX11_findWay 69 = .ok (.iaload, 1) := by decide +kernel
theorem dX11_findWay_70 : decode cX11_findWay 70 = .ok (.iconst 1, 1) := by decide +kernel
theorem dX11_findWay_71 : decode cX11_findWay 71 = .ok (.isub, 1) := by decide +kernel
theorem dX11_findWay_72 : decode cX11_findWay 72 = .ok (.if_icmp .ne 15, 3) := by decide +kernel
theorem dX11_findWay_75 : decode cX11_findWay 75 = .ok (.aload_n 0, 1) := by decide +kernel
theorem dX11_findWay_76 : decode cX11_findWay 76 = .ok (.iload 4, 2) := by decide +kernel
theorem dX11_findWay_78 : decode cX11_findWay 78 = .ok (.iload 5, 2) := by decide +kernel
theorem dX11_findWay_80 : decode cX11_findWay 80 = .ok (.iload_n 3, 1) := by decide +kernel
theorem dX11_findWay_81 : decode cX11_findWay 81 = .ok (.invokevirtual 175, 3) := by decide +kernel
theorem dX11_findWay_84 : decode cX11_findWay 84 = .ok (.ifCond .ne 9, 3) := by decide +kernel
theorem dX11_findWay_87 : decode cX11_findWay 87 = .ok (.iinc 5 1, 3) := by decide +kernel
theorem dX11_findWay_90 : decode cX11_findWay 90 = .ok (.goto (-34), 3) := by decide +kernel
theorem dX11_findWay_93 : decode cX11_findWay 93 = .ok (.iload 5, 2) := by decide +kernel
theorem dX11_findWay_95 : decode cX11_findWay 95 = .ok (.istore 4, 2) := by decide +kernel
theorem dX11_findWay_97 : decode cX11_findWay 97 = .ok (.goto (-71), 3) := by decide +kernel
theorem dX11_findWay_100 : decode cX11_findWay 100 = .ok (.aload_n 0, 1) := by decide +kernel
theorem dX11_findWay_101 : decode cX11_findWay 101 = .ok (.getfield 30, 3) := by decide +kernel
theorem dX11_findWay_104 : decode cX11_findWay 104 = .ok (.aload_n 0, 1) := by decide +kernel
theorem dX11_findWay_105 : decode cX11_findWay 105 = .ok (.getfield 182, 3) := by decide +kernel
theorem dX11_findWay_108 : decode cX11_findWay 108 = .ok (.iload_n 2, 1) := by decide +kernel
theorem dX11_findWay_109 : decode cX11_findWay 109 = .ok (.iastore, 1) := by decide +kernel
theorem dX11_findWay_110 : decode cX11_findWay 110 = .ok (.aload_n 0, 1) := by decide +kernel
theorem dX11_findWay_111 : decode cX11_findWay 111 = .ok (.dup, 1) := by decide +kernel
theorem dX11_findWay_112 : decode cX11_findWay 112 = .ok (.getfield 182, 3) := by decide +kernel
theorem dX11_findWay_115 : decode cX11_findWay 115 = .ok (.iconst 1, 1) := by decide +kernel
theorem dX11_findWay_116 : decode cX11_findWay 116 = .ok (.iadd, 1) := by decide +kernel
theorem dX11_findWay_117 : decode cX11_findWay 117 = .ok (.putfield 182, 3) := by decide +kernel
theorem dX11_findWay_120 : decode cX11_findWay 120 = .ok (.iconst 1, 1) := by decide +kernel
theorem dX11_findWay_121 : decode cX11_findWay 121 = .ok (.ireturn, 1) := by decide +kernel
theorem dX11_leastRoom_0 : decode cX11_leastRoom 0 = .ok (.sipush 9999, 3) := by decide +kernel
theorem dX11_leastRoom_3 : decode cX11_leastRoom 3 = .ok (.istore_n 1, 1) := by decide +kernel
theorem dX11_leastRoom_4 : decode cX11_leastRoom 4 = .ok (.iconst 1, 1) := by decide +kernel
theorem dX11_leastRoom_5 : decode cX11_leastRoom 5 = .ok (.istore_n 2, 1) := by decide +kernel
theorem dX11_leastRoom_6 : decode cX11_leastRoom 6 = .ok (.iload_n 2, 1) := by decide +kernel
theorem dX11_leastRoom_7 : decode cX11_leastRoom 7 = .ok (.aload_n 0, 1) := by decide +kernel
theorem dX11_leastRoom_8 : decode cX11_leastRoom 8 = .ok (.getfield 182, 3) := by decide +kernel
theorem dX11_leastRoom_11 : decode cX11_leastRoom 11 = .ok (.if_icmp .ge 32, 3) := by decide +kernel
theorem dX11_leastRoom_14 : decode cX11_leastRoom 14 = .ok (.iload_n 1, 1) := by decide +kernel
theorem dX11_leastRoom_15 : decode cX11_leastRoom 15 = .ok (.aload_n 0, 1) := by decide +kernel
theorem dX11_leastRoom_16 : decode cX11_leastRoom 16 = .ok (.aload_n 0, 1) := by decide +kernel
theorem dX11_leastRoom_17 : decode cX11_leastRoom 17 = .ok (.getfield 30, 3) := by decide +kernel
theorem dX11_leastRoom_20 : decode cX11_leastRoom 20 = .ok (.iload_n 2, 1) := by decide +kernel
theorem dX11_leastRoom_21 : decode cX11_leastRoom 21 = .ok (.iconst 1, 1) := by decide +kernel
theorem dX11_leastRoom_22 : decode cX11_leastRoom 22 = .ok (.isub, 1) := by decide +kernel
theorem dX11_leastRoom_23 : decode cX11_leastRoom 23 = .ok (.iaload, 1) := by decide +kernel
theorem dX11_leastRoom_24 : decode cX11_leastRoom 24 = .ok (.aload_n 0, 1) := by decide +kernel
theorem dX11_leastRoom_25 : decode cX11_leastRoom 25 = .ok (.getfield 30, 3) := by decide +kernel
theorem dX11_leastRoom_28 : decode cX11_leastRoom 28 = .ok (.iload_n 2, 1) := by decide +kernel
theorem dX11_leastRoom_29 : decode cX11_leastRoom 29 = .ok (.iaload, 1) := by decide +kernel
theorem dX11_leastRoom_30 : decode cX11_leastRoom 30 = .ok (.invokevirtual 163, 3) := by decide +kernel
theorem dX11_leastRoom_33 : decode cX11_leastRoom 33 = .ok (.invokestatic 185, 3) := by decide +kernel
theorem dX11_leastRoom_36 : decode cX11_leastRoom 36 = .ok (.istore_n 1, 1) := by decide +kernel
theorem dX11_leastRoom_37 : decode cX11_leastRoom 37 = .ok (.iinc 2 1, 3) := by decide +kernel
theorem dX11_leastRoom_40 : decode cX11_leastRoom 40 = .ok (.goto (-34), 3) := by decide +kernel
theorem dX11_leastRoom_43 : decode cX11_leastRoom 43 = .ok (.iload_n 1, 1) := by decide +kernel
theorem dX11_leastRoom_44 : decode cX11_leastRoom 44 = .ok (.ireturn, 1) := by decide +kernel
theorem dX11_goOnWay_0 : decode cX11_goOnWay 0 = .ok (.iconst 1, 1) := by decide +kernel
theorem dX11_goOnWay_1 : decode cX11_goOnWay 1 = .ok (.istore_n 2, 1) := by decide +kernel
theorem dX11_goOnWay_2 : decode cX11_goOnWay 2 = .ok (.iload_n 2, 1) := by decide +kernel
theorem dX11_goOnWay_3 : decode cX11_goOnWay 3 = .ok (.aload_n 0, 1) := by decide +kernel
theorem dX11_goOnWay_4 : decode cX11_goOnWay 4 = .ok (.getfield 182, 3) := by decide +kernel
theorem dX11_goOnWay_7 : decode cX11_goOnWay 7 = .ok (.if_icmp .ge 28, 3) := by decide +kernel
theorem dX11_goOnWay_10 : decode cX11_goOnWay 10 = .ok (.aload_n 0, 1) := by decide +kernel
theorem dX11_goOnWay_11 : decode cX11_goOnWay 11 = .ok (.aload_n 0, 1) := by decide +kernel
theorem dX11_goOnWay_12 : decode cX11_goOnWay 12 = .ok (.getfield 30, 3) := by decide +kernel
theorem dX11_goOnWay_15 : decode cX11_goOnWay 15 = .ok (.iload_n 2, 1) := by decide +kernel
theorem dX11_goOnWay_16 : decode cX11_goOnWay 16 = .ok (.iconst 1, 1) := by decide +kernel
theorem dX11_goOnWay_17 : decode cX11_goOnWay 17 = .ok (.isub, 1) := by decide +kernel
theorem dX11_goOnWay_18 : decode cX11_goOnWay 18 = .ok (.iaload, 1) := by decide +kernel
theorem dX11_goOnWay_19 : decode cX11_goOnWay 19 = .ok (.aload_n 0, 1) := by decide +kernel
theorem dX11_goOnWay_20 : decode cX11_goOnWay 20 = .ok (.getfield 30, 3) := by decide +kernel
theorem dX11_goOnWay_23 : decode cX11_goOnWay 23 = .ok (.iload_n 2, 1) := by decide +kernel
theorem dX11_goOnWay_24 : decode cX11_goOnWay 24 = .ok (.iaload, 1) := by decide +kernel
theorem dX11_goOnWay_25 : decode cX11_goOnWay 25 = .ok (.iload_n 1, 1) := by decide +kernel
theorem dX11_goOnWay_26 : decode cX11_goOnWay 26 = .ok (.invokevirtual 188, 3) := by decide +kernel
theorem dX11_goOnWay_29 : decode cX11_goOnWay 29 = .ok (.iinc 2 1, 3) := by decide +kernel
theorem dX11_goOnWay_32 : decode cX11_goOnWay 32 = .ok (.goto (-30), 3) := by decide +kernel
theorem dX11_goOnWay_35 : decode cX11_goOnWay 35 = .ok (.return_, 1) := by decide +kernel
theorem dX11_tellWay_0 : decode cX11_tellWay 0 = .ok (.iconst 0, 1) := by decide +kernel
theorem dX11_tellWay_1 : decode cX11_tellWay 1 = .ok (.istore_n 1, 1) := by decide +kernel
theorem dX11_tellWay_2 : decode cX11_tellWay 2 = .ok (.iload_n 1, 1) := by decide +kernel
theorem dX11_tellWay_3 : decode cX11_tellWay 3 = .ok (.aload_n 0, 1) := by decide +kernel
theorem dX11_tellWay_4 : decode cX11_tellWay 4 = .ok (.getfield 182, 3) := by decide +kernel
theorem dX11_tellWay_7 : decode cX11_tellWay 7 = .ok (.if_icmp .ge 20, 3) := by decide +kernel
theorem dX11_tellWay_10 : decode cX11_tellWay 10 = .ok (.aload_n 0, 1) := by decide +kernel
theorem dX11_tellWay_11 : decode cX11_tellWay 11 = .ok (.aload_n 0, 1) := by decide +kernel
theorem dX11_tellWay_12 : decode cX11_tellWay 12 = .ok (.getfield 30, 3) := by decide +kernel
theorem dX11_tellWay_15 : decode cX11_tellWay 15 = .ok (.iload_n 1, 1) := by decide +kernel
theorem dX11_tellWay_16 : decode cX11_tellWay 16 = .ok (.iaload, 1) := by decide +kernel
theorem dX11_tellWay_17 : decode cX11_tellWay 17 = .ok (.i2l, 1) := by decide +kernel
theorem dX11_tellWay_18 : decode cX11_tellWay 18 = .ok (.invokevirtual 155, 3) := by decide +kernel
theorem dX11_tellWay_21 : decode cX11_tellWay 21 = .ok (.iinc 1 1, 3) := by decide +kernel
theorem dX11_tellWay_24 : decode cX11_tellWay 24 = .ok (.goto (-22), 3) := by decide +kernel
theorem dX11_tellWay_27 : decode cX11_tellWay 27 = .ok (.return_, 1) := by decide +kernel
theorem dX11_isPayment_0 : decode cX11_isPayment 0 = .ok (.aload_n 0, 1) := by decide +kernel
theorem dX11_isPayment_1 : decode cX11_isPayment 1 = .ok (.iload_n 1, 1) := by decide +kernel
theorem dX11_isPayment_2 : decode cX11_isPayment 2 = .ok (.iload_n 2, 1) := by decide +kernel
theorem dX11_isPayment_3 : decode cX11_isPayment 3 = .ok (.invokevirtual 159, 3) := by decide +kernel
theorem dX11_isPayment_6 : decode cX11_isPayment 6 = .ok (.ifCond .eq 18, 3) := by decide +kernel
theorem dX11_isPayment_9 : decode cX11_isPayment 9 = .ok (.iload_n 3, 1) := by decide +kernel
theorem dX11_isPayment_10 : decode cX11_isPayment 10 = .ok (.iconst 1, 1) := by decide +kernel
theorem dX11_isPayment_11 : decode cX11_isPayment 11 = .ok (.sipush 9999, 3) := by decide +kernel
theorem dX11_isPayment_14 : decode cX11_isPayment 14 = .ok (.invokestatic 74, 3) := by decide +kernel
theorem dX11_isPayment_17 : decode cX11_isPayment 17 = .ok (.ifCond .eq 7, 3) := by decide +kernel
theorem dX11_isPayment_20 : decode cX11_isPayment 20 = .ok (.iconst 1, 1) := by decide +kernel
theorem dX11_isPayment_21 : decode cX11_isPayment 21 = .ok (.goto 4, 3) := by decide +kernel
theorem dX11_isPayment_24 : decode cX11_isPayment 24 = .ok (.iconst 0, 1) := by decide +kernel
theorem dX11_isPayment_25 : decode cX11_isPayment 25 = .ok (.ireturn, 1) := by decide +kernel
theorem dX11_way_0 : decode cX11_way 0 = .ok (.aload_n 0, 1) := by decide +kernel
theorem dX11_way_1 : decode cX11_way 1 = .ok (.iconst 0, 1) := by decide +kernel
theorem dX11_way_2 : decode cX11_way 2 = .ok (.putfield 68, 3) := by decide +kernel
theorem dX11_way_5 : decode cX11_way 5 = .ok (.aload_n 0, 1) := by decide +kernel
theorem dX11_way_6 : decode cX11_way 6 = .ok (.iload_n 1, 1) := by decide +kernel
theorem dX11_way_7 : decode cX11_way 7 = .ok (.iload_n 2, 1) := by decide +kernel
theorem dX11_way_8 : decode cX11_way 8 = .ok (.iload_n 3, 1) := by decide +kernel
theorem dX11_way_9 : decode cX11_way 9 = .ok (.invokevirtual 192, 3) := by decide +kernel
theorem dX11_way_12 : decode cX11_way 12 = .ok (.ifCond .ne 5, 3) := by decide +kernel
theorem dX11_way_15 : decode cX11_way 15 = .ok (.iconst (-1), 1) := by decide +kernel
theorem dX11_way_16 : decode cX11_way 16 = .ok (.ireturn, 1) := by decide +kernel
theorem dX11_way_17 : decode cX11_way 17 = .ok (.aload_n 0, 1) := by decide +kernel
theorem dX11_way_18 : decode cX11_way 18 = .ok (.iload_n 1, 1) := by decide +kernel
theorem dX11_way_19 : decode cX11_way 19 = .ok (.iload_n 2, 1) := by decide +kernel
theorem dX11_way_20 : decode cX11_way 20 = .ok (.iload_n 3, 1) := by decide +kernel
theorem dX11_way_21 : decode cX11_way 21 = .ok (.invokevirtual 195, 3) := by decide +kernel
theorem dX11_way_24 : decode cX11_way 24 = .ok (.ifCond .ne 6, 3) := by decide +kernel
theorem dX11_way_27 : decode cX11_way 27 = .ok (.bipush (-2), 2) := by decide +kernel
theorem dX11_way_29 : decode cX11_way 29 = .ok (.ireturn, 1) := by decide +kernel
theorem dX11_way_30 : decode cX11_way 30 = .ok (.aload_n 0, 1) := by decide +kernel
theorem dX11_way_31 : decode cX11_way 31 = .ok (.iconst 0, 1) := by decide +kernel
theorem dX11_way_32 : decode cX11_way 32 = .ok (.putfield 71, 3) := by decide +kernel
theorem dX11_way_35 : decode cX11_way 35 = .ok (.aload_n 0, 1) := by decide +kernel
theorem dX11_way_36 : decode cX11_way 36 = .ok (.invokevirtual 198, 3) := by decide +kernel
theorem dX11_way_39 : decode cX11_way 39 = .ok (.aload_n 0, 1) := by decide +kernel
theorem dX11_way_40 : decode cX11_way 40 = .ok (.getfield 182, 3) := by decide +kernel
theorem dX11_way_43 : decode cX11_way 43 = .ok (.ireturn, 1) := by decide +kernel
theorem dX11_reached_0 : decode cX11_reached 0 = .ok (.iconst 1, 1) := by decide +kernel
theorem dX11_reached_1 : decode cX11_reached 1 = .ok (.iload_n 1, 1) := by decide +kernel
theorem dX11_reached_2 : decode cX11_reached 2 = .ok (.ishl, 1) := by decide +kernel
theorem dX11_reached_3 : decode cX11_reached 3 = .ok (.istore_n 3, 1) := by decide +kernel
theorem dX11_reached_4 : decode cX11_reached 4 = .ok (.iconst 1, 1) := by decide +kernel
theorem dX11_reached_5 : decode cX11_reached 5 = .ok (.istore 4, 2) := by decide +kernel
theorem dX11_reached_7 : decode cX11_reached 7 = .ok (.iload 4, 2) := by decide +kernel
theorem dX11_reached_9 : decode cX11_reached 9 = .ok (.ifCond .eq 93, 3) := by decide +kernel
theorem dX11_reached_12 : decode cX11_reached 12 = .ok (.iconst 0, 1) := by decide +kernel
theorem dX11_reached_13 : decode cX11_reached 13 = .ok (.istore 4, 2) := by decide +kernel
theorem dX11_reached_15 : decode cX11_reached 15 = .ok (.iconst 0, 1) := by decide +kernel
theorem dX11_reached_16 : decode cX11_reached 16 = .ok (.istore 5, 2) := by decide +kernel
theorem dX11_reached_18 : decode cX11_reached 18 = .ok (.iload 5, 2) := by decide +kernel
theorem dX11_reached_20 : decode cX11_reached 20 = .ok (.aload_n 0, 1) := by decide +kernel
theorem dX11_reached_21 : decode cX11_reached 21 = .ok (.getfield 9, 3) := by decide +kernel
theorem dX11_reached_24 : decode cX11_reached 24 = .ok (.iconst 0, 1) := by decide +kernel
theorem dX11_reached_25 : decode cX11_reached 25 = .ok (.iaload, 1) := by decide +kernel
theorem dX11_reached_26 : decode cX11_reached 26 = .ok (.if_icmp .ge 73, 3) := by decide +kernel
theorem dX11_reached_29 : decode cX11_reached 29 = .ok (.iconst 0, 1) := by decide +kernel
theorem dX11_reached_30 : decode cX11_reached 30 = .ok (.istore 6, 2) := by decide +kernel
theorem dX11_reached_32 : decode cX11_reached 32 = .ok (.iload 6, 2) := by decide +kernel
theorem dX11_reached_34 : decode cX11_reached 34 = .ok (.aload_n 0, 1) := by decide +kernel
theorem dX11_reached_35 : decode cX11_reached 35 = .ok (.getfield 9, 3) := by decide +kernel
theorem dX11_reached_38 : decode cX11_reached 38 = .ok (.iconst 0, 1) := by decide +kernel
theorem dX11_reached_39 : decode cX11_reached 39 = .ok (.iaload, 1) := by decide +kernel
theorem dX11_reached_40 : decode cX11_reached 40 = .ok (.if_icmp .ge 53, 3) := by decide +kernel
theorem dX11_reached_43 : decode cX11_reached 43 = .ok (.iload_n 3, 1) := by decide +kernel
theorem dX11_reached_44 : decode cX11_reached 44 = .ok (.iload 5, 2) := by decide +kernel
theorem dX11_reached_46 : decode cX11_reached 46 = .ok (.ishr, 1) := by decide +kernel
theorem dX11_reached_47 : decode cX11_reached 47 = .ok (.iconst 1, 1) := by decide +kernel
theorem dX11_reached_48 : decode cX11_reached 48 = .ok (.iand, 1) := by decide +kernel
theorem dX11_reached_49 : decode cX11_reached 49 = .ok (.ifCond .eq 38, 3) := by decide +kernel
theorem dX11_reached_52 : decode cX11_reached 52 = .ok (.iload_n 3, 1) := by decide +kernel
theorem dX11_reached_53 : decode cX11_reached 53 = .ok (.iload 6, 2) := by decide +kernel
theorem dX11_reached_55 : decode cX11_reached 55 = .ok (.ishr, 1) := by decide +kernel
theorem dX11_reached_56 : decode cX11_reached 56 = .ok (.iconst 1, 1) := by decide +kernel
theorem dX11_reached_57 : decode cX11_reached 57 = .ok (.iand, 1) := by decide +kernel
theorem dX11_reached_58 : decode cX11_reached 58 = .ok (.iconst 1, 1) := by decide +kernel
theorem dX11_reached_59 : decode cX11_reached 59 = .ok (.if_icmp .eq 28, 3) := by decide +kernel
theorem dX11_reached_62 : decode cX11_reached 62 = .ok (.aload_n 0, 1) := by decide +kernel
theorem dX11_reached_63 : decode cX11_reached 63 = .ok (.iload 5, 2) := by decide +kernel
theorem dX11_reached_65 : decode cX11_reached 65 = .ok (.iload 6, 2) := by decide +kernel
theorem dX11_reached_67 : decode cX11_reached 67 = .ok (.iload_n 2, 1) := by decide +kernel
theorem dX11_reached_68 : decode cX11_reached 68 = .ok (.invokevirtual 175, 3) := by decide +kernel
theorem dX11_reached_71 : decode cX11_reached 71 = .ok (.ifCond .ne 6, 3) := by decide +kernel
theorem dX11_reached_74 : decode cX11_reached 74 = .ok (.goto 13, 3) := by decide +kernel
theorem dX11_reached_77 : decode cX11_reached 77 = .ok (.iload_n 3, 1) := by decide +kernel
theorem dX11_reached_78 : decode cX11_reached 78 = .ok (.iconst 1, 1) := by decide +kernel
theorem dX11_reached_79 : decode cX11_reached 79 = .ok (.iload 6, 2) := by decide +kernel
theorem dX11_reached_81 : decode cX11_reached 81 = .ok (.ishl, 1) := by decide +kernel
theorem dX11_reached_82 : decode cX11_reached 82 = .ok (.ior, 1) := by decide +kernel
theorem dX11_reached_83 : decode cX11_reached 83 = .ok (.istore_n 3, 1) := by decide +kernel
theorem dX11_reached_84 : decode cX11_reached 84 = .ok (.iconst 1, 1) := by decide +kernel
theorem dX11_reached_85 : decode cX11_reached 85 = .ok (.istore 4, 2) := by decide +kernel
theorem dX11_reached_87 : decode cX11_reached 87 = .ok (.iinc 6 1, 3) := by decide +kernel
theorem dX11_reached_90 : decode cX11_reached 90 = .ok (.goto (-58), 3) := by decide +kernel
theorem dX11_reached_93 : decode cX11_reached 93 = .ok (.iinc 5 1, 3) := by decide +kernel
theorem dX11_reached_96 : decode cX11_reached 96 = .ok (.goto (-78), 3) := by decide +kernel
theorem dX11_reached_99 : decode cX11_reached 99 = .ok (.goto (-92), 3) := by decide +kernel
theorem dX11_reached_102 : decode cX11_reached 102 = .ok (.iload_n 3, 1) := by decide +kernel
theorem dX11_reached_103 : decode cX11_reached 103 = .ok (.ireturn, 1) := by decide +kernel
theorem dX11_countBits_0 : decode cX11_countBits 0 = .ok (.iconst 0, 1) := by decide +kernel
theorem dX11_countBits_1 : decode cX11_countBits 1 = .ok (.istore_n 1, 1) := by decide +kernel
theorem dX11_countBits_2 : decode cX11_countBits 2 = .ok (.iload_n 0, 1) := by decide +kernel
theorem dX11_countBits_3 : decode cX11_countBits 3 = .ok (.istore_n 2, 1) := by decide +kernel
theorem dX11_countBits_4 : decode cX11_countBits 4 = .ok (.iload_n 2, 1) := by decide +kernel
theorem dX11_countBits_5 : decode cX11_countBits 5 = .ok (.ifCond .eq 15, 3) := by decide +kernel
theorem dX11_countBits_8 : decode cX11_countBits 8 = .ok (.iinc 1 1, 3) := by decide +kernel
theorem dX11_countBits_11 : decode cX11_countBits 11 = .ok (.iload_n 2, 1) := by decide +kernel
theorem dX11_countBits_12 : decode cX11_countBits 12 = .ok (.iload_n 2, 1) := by decide +kernel
theorem dX11_countBits_13 : decode cX11_countBits 13 = .ok (.iconst 1, 1) := by decide +kernel
theorem dX11_countBits_14 : decode cX11_countBits 14 = .ok (.isub, 1) := by decide +kernel
theorem dX11_countBits_15 : decode cX11_countBits 15 = .ok (.iand, 1) := by decide +kernel
theorem dX11_countBits_16 : decode cX11_countBits 16 = .ok (.istore_n 2, 1) := by decide +kernel
theorem dX11_countBits_17 : decode cX11_countBits 17 = .ok (.goto (-13), 3) := by decide +kernel
theorem dX11_countBits_20 : decode cX11_countBits 20 = .ok (.iload_n 1, 1) := by decide +kernel
theorem dX11_countBits_21 : decode cX11_countBits 21 = .ok (.ireturn, 1) := by decide +kernel
theorem dX11_reach_0 : decode cX11_reach 0 = .ok (.aload_n 0, 1) := by decide +kernel
theorem dX11_reach_1 : decode cX11_reach 1 = .ok (.iconst 0, 1) := by decide +kernel
theorem dX11_reach_2 : decode cX11_reach 2 = .ok (.putfield 68, 3) := by decide +kernel
theorem dX11_reach_5 : decode cX11_reach 5 = .ok (.aload_n 0, 1) := by decide +kernel
theorem dX11_reach_6 : decode cX11_reach 6 = .ok (.iload_n 1, 1) := by decide +kernel
theorem dX11_reach_7 : decode cX11_reach 7 = .ok (.invokevirtual 78, 3) := by decide +kernel
theorem dX11_reach_10 : decode cX11_reach 10 = .ok (.ifCond .eq 14, 3) := by decide +kernel
theorem dX11_reach_13 : decode cX11_reach 13 = .ok (.iload_n 2, 1) := by decide +kernel
theorem dX11_reach_14 : decode cX11_reach 14 = .ok (.iconst 1, 1) := by decide +kernel
theorem dX11_reach_15 : decode cX11_reach 15 = .ok (.sipush 9999, 3) := by decide +kernel
theorem dX11_reach_18 : decode cX11_reach 18 = .ok (.invokestatic 74, 3) := by decide +kernel
theorem dX11_reach_21 : decode cX11_reach 21 = .ok (.ifCond .ne 5, 3) := by decide +kernel
theorem dX11_reach_24 : decode cX11_reach 24 = .ok (.iconst (-1), 1) := by decide +kernel
theorem dX11_reach_25 : decode cX11_reach 25 = .ok (.ireturn, 1) := by decide +kernel
theorem dX11_reach_26 : decode cX11_reach 26 = .ok (.aload_n 0, 1) := by decide +kernel
theorem dX11_reach_27 : decode cX11_reach 27 = .ok (.iload_n 1, 1) := by decide +kernel
theorem dX11_reach_28 : decode cX11_reach 28 = .ok (.iload_n 2, 1) := by decide +kernel
theorem dX11_reach_29 : decode cX11_reach 29 = .ok (.invokevirtual 201, 3) := by decide +kernel
theorem dX11_reach_32 : decode cX11_reach 32 = .ok (.iconst 1, 1) := by decide +kernel
theorem dX11_reach_33 : decode cX11_reach 33 = .ok (.iload_n 1, 1) := by decide +kernel
theorem dX11_reach_34 : decode cX11_reach 34 = .ok (.ishl, 1) := by decide +kernel
theorem dX11_reach_35 : decode cX11_reach 35 = .ok (.iconst (-1), 1) := by decide +kernel
theorem dX11_reach_36 : decode cX11_reach 36 = .ok (.ixor, 1) := by decide +kernel
theorem dX11_reach_37 : decode cX11_reach 37 = .ok (.iand, 1) := by decide +kernel
theorem dX11_reach_38 : decode cX11_reach 38 = .ok (.istore_n 3, 1) := by decide +kernel
theorem dX11_reach_39 : decode cX11_reach 39 = .ok (.aload_n 0, 1) := by decide +kernel
theorem dX11_reach_40 : decode cX11_reach 40 = .ok (.iconst 0, 1) := by decide +kernel
theorem dX11_reach_41 : decode cX11_reach 41 = .ok (.putfield 71, 3) := by decide +kernel
theorem dX11_reach_44 : decode cX11_reach 44 = .ok (.aload_n 0, 1) := by decide +kernel
theorem dX11_reach_45 : decode cX11_reach 45 = .ok (.iload_n 3, 1) := by decide +kernel
theorem dX11_reach_46 : decode cX11_reach 46 = .ok (.invokestatic 204, 3) := by decide +kernel
theorem dX11_reach_49 : decode cX11_reach 49 = .ok (.i2l, 1) := by decide +kernel
theorem dX11_reach_50 : decode cX11_reach 50 = .ok (.invokevirtual 155, 3) := by decide +kernel
theorem dX11_reach_53 : decode cX11_reach 53 = .ok (.iload_n 3, 1) := by decide +kernel
theorem dX11_reach_54 : decode cX11_reach 54 = .ok (.ireturn, 1) := by decide +kernel
theorem dX11_layAside_0 : decode cX11_layAside 0 = .ok (.iconst 0, 1) := by decide +kernel
theorem dX11_layAside_1 : decode cX11_layAside 1 = .ok (.istore_n 2, 1) := by decide +kernel
theorem dX11_layAside_2 : decode cX11_layAside 2 = .ok (.iload_n 2, 1) := by decide +kernel
theorem dX11_layAside_3 : decode cX11_layAside 3 = .ok (.sipush 405, 3) := by decide +kernel
theorem dX11_layAside_6 : decode cX11_layAside 6 = .ok (.if_icmp .ge 27, 3) := by decide +kernel
theorem dX11_layAside_9 : decode cX11_layAside 9 = .ok (.aload_n 0, 1) := by decide +kernel
theorem dX11_layAside_10 : decode cX11_layAside 10 = .ok (.getfield 37, 3) := by decide +kernel
theorem dX11_layAside_13 : decode cX11_layAside 13 = .ok (.sipush 405, 3) := by decide +kernel
theorem dX11_layAside_16 : decode cX11_layAside 16 = .ok (.iload_n 1, 1) := by decide +kernel
theorem dX11_layAside_17 : decode cX11_layAside 17 = .ok (.imul, 1) := by decide +kernel
theorem dX11_layAside_18 : decode cX11_layAside 18 = .ok (.iload_n 2, 1) := by decide +kernel
theorem dX11_layAside_19 : decode cX11_layAside 19 = .ok (.iadd, 1) := by decide +kernel
theorem dX11_layAside_20 : decode cX11_layAside 20 = .ok (.aload_n 0, 1) := by decide +kernel
theorem dX11_layAside_21 : decode cX11_layAside 21 = .ok (.getfield 9, 3) := by decide +kernel
theorem dX11_layAside_24 : decode cX11_layAside 24 = .ok (.iload_n 2, 1) := by decide +kernel
theorem dX11_layAside_25 : decode cX11_layAside 25 = .ok (.iaload, 1) := by decide +kernel
theorem dX11_layAside_26 : decode cX11_layAside 26 = .ok (.iastore, 1) := by decide +kernel
theorem dX11_layAside_27 : decode cX11_layAside 27 = .ok (.iinc 2 1, 3) := by decide +kernel
theorem dX11_layAside_30 : decode cX11_layAside 30 = .ok (.goto (-28), 3) := by decide +kernel
theorem dX11_layAside_33 : decode cX11_layAside 33 = .ok (.return_, 1) := by decide +kernel
theorem dX11_comesBack_0 : decode cX11_comesBack 0 = .ok (.iconst 0, 1) := by decide +kernel
theorem dX11_comesBack_1 : decode cX11_comesBack 1 = .ok (.istore_n 2, 1) := by decide +kernel
theorem dX11_comesBack_2 : decode cX11_comesBack 2 = .ok (.iload_n 2, 1) := by decide +kernel
theorem dX11_comesBack_3 : decode cX11_comesBack 3 = .ok (.sipush 405, 3) := by decide +kernel
theorem dX11_comesBack_6 : decode cX11_comesBack 6 = .ok (.if_icmp .ge 27, 3) := by decide +kernel
theorem dX11_comesBack_9 : decode cX11_comesBack 9 = .ok (.aload_n 0, 1) := by decide +kernel
theorem dX11_comesBack_10 : decode cX11_comesBack 10 = .ok (.getfield 9, 3) := by decide +kernel
theorem dX11_comesBack_13 : decode cX11_comesBack 13 = .ok (.iload_n 2, 1) := by decide +kernel
theorem dX11_comesBack_14 : decode cX11_comesBack 14 = .ok (.aload_n 0, 1) := by decide +kernel
theorem dX11_comesBack_15 : decode cX11_comesBack 15 = .ok (.getfield 37, 3) := by decide +kernel
theorem dX11_comesBack_18 : decode cX11_comesBack 18 = .ok (.sipush 405, 3) := by decide +kernel
theorem dX11_comesBack_21 : decode cX11_comesBack 21 = .ok (.iload_n 1, 1) := by decide +kernel
theorem dX11_comesBack_22 : decode cX11_comesBack 22 = .ok (.imul, 1) := by decide +kernel
theorem dX11_comesBack_23 : decode cX11_comesBack 23 = .ok (.iload_n 2, 1) := by decide +kernel
theorem dX11_comesBack_24 : decode cX11_comesBack 24 = .ok (.iadd, 1) := by decide +kernel
theorem dX11_comesBack_25 : decode cX11_comesBack 25 = .ok (.iaload, 1) := by decide +kernel
theorem dX11_comesBack_26 : decode cX11_comesBack 26 = .ok (.iastore, 1) := by decide +kernel
theorem dX11_comesBack_27 : decode cX11_comesBack 27 = .ok (.iinc 2 1, 3) := by decide +kernel
theorem dX11_comesBack_30 : decode cX11_comesBack 30 = .ok (.goto (-28), 3) := by decide +kernel
theorem dX11_comesBack_33 : decode cX11_comesBack 33 = .ok (.return_, 1) := by decide +kernel
theorem dX11_goParts_0 : decode cX11_goParts 0 = .ok (.aload_n 0, 1) := by decide +kernel
theorem dX11_goParts_1 : decode cX11_goParts 1 = .ok (.iconst 0, 1) := by decide +kernel
theorem dX11_goParts_2 : decode cX11_goParts 2 = .ok (.putfield 207, 3) := by decide +kernel
theorem dX11_goParts_5 : decode cX11_goParts 5 = .ok (.aload_n 0, 1) := by decide +kernel
theorem dX11_goParts_6 : decode cX11_goParts 6 = .ok (.iconst 0, 1) := by decide +kernel
theorem dX11_goParts_7 : decode cX11_goParts 7 = .ok (.putfield 210, 3) := by decide +kernel
theorem dX11_goParts_10 : decode cX11_goParts 10 = .ok (.iload_n 3, 1) := by decide +kernel
theorem dX11_goParts_11 : decode cX11_goParts 11 = .ok (.istore 5, 2) := by decide +kernel
theorem dX11_goParts_13 : decode cX11_goParts 13 = .ok (.iload 5, 2) := by decide +kernel
theorem dX11_goParts_15 : decode cX11_goParts 15 = .ok (.ifCond .le 86, 3) := by decide +kernel
theorem dX11_goParts_18 : decode cX11_goParts 18 = .ok (.aload_n 0, 1) := by decide +kernel
theorem dX11_goParts_19 : decode cX11_goParts 19 = .ok (.iload_n 1, 1) := by decide +kernel
theorem dX11_goParts_20 : decode cX11_goParts 20 = .ok (.iload_n 2, 1) := by decide +kernel
theorem dX11_goParts_21 : decode cX11_goParts 21 = .ok (.iconst 1, 1) := by decide +kernel
theorem dX11_goParts_22 : decode cX11_goParts 22 = .ok (.invokevirtual 195, 3) := by decide +kernel
theorem dX11_goParts_25 : decode cX11_goParts 25 = .ok (.ifCond .eq 76, 3) := by decide +kernel
theorem dX11_goParts_28 : decode cX11_goParts 28 = .ok (.iload 5, 2) := by decide +kernel
theorem dX11_goParts_30 : decode cX11_goParts 30 = .ok (.aload_n 0, 1) := by decide +kernel
theorem dX11_goParts_31 : decode cX11_goParts 31 = .ok (.invokevirtual 213, 3) := by decide +kernel
theorem dX11_goParts_34 : decode cX11_goParts 34 = .ok (.invokestatic 185, 3) := by decide +kernel
theorem dX11_goParts_37 : decode cX11_goParts 37 = .ok (.istore 6, 2) := by decide +kernel
theorem dX11_goParts_39 : decode cX11_goParts 39 = .ok (.iload 4, 2) := by decide +kernel
theorem dX11_goParts_41 : decode cX11_goParts 41 = .ok (.ifCond .eq 19, 3) := by decide +kernel
theorem dX11_goParts_44 : decode cX11_goParts 44 = .ok (.aload_n 0, 1) := by decide +kernel
theorem dX11_goParts_45 : decode cX11_goParts 45 = .ok (.aload_n 0, 1) := by decide +kernel
theorem dX11_goParts_46 : decode cX11_goParts 46 = .ok (.getfield 182, 3) := by decide +kernel
theorem dX11_goParts_49 : decode cX11_goParts 49 = .ok (.i2l, 1) := by decide +kernel
theorem dX11_goParts_50 : decode cX11_goParts 50 = .ok (.invokevirtual 155, 3) := by decide +kernel
theorem dX11_goParts_53 : decode cX11_goParts 53 = .ok (.aload_n 0, 1) := by decide +kernel
theorem dX11_goParts_54 : decode cX11_goParts 54 = .ok (.iload 6, 2) := by decide +kernel
theorem dX11_goParts_56 : decode cX11_goParts 56 = .ok (.i2l, 1) := by decide +kernel
theorem dX11_goParts_57 : decode cX11_goParts 57 = .ok (.invokevirtual 155, 3) := by decide +kernel
theorem dX11_goParts_60 : decode cX11_goParts 60 = .ok (.aload_n 0, 1) := by decide +kernel
theorem dX11_goParts_61 : decode cX11_goParts 61 = .ok (.aload_n 0, 1) := by decide +kernel
theorem dX11_goParts_62 : decode cX11_goParts 62 = .ok (.getfield 210, 3) := by decide +kernel
theorem dX11_goParts_65 : decode cX11_goParts 65 = .ok (.aload_n 0, 1) := by decide +kernel
theorem dX11_goParts_66 : decode cX11_goParts 66 = .ok (.getfield 182, 3) := by decide +kernel
theorem dX11_goParts_69 : decode cX11_goParts 69 = .ok (.invokestatic 86, 3) := by decide +kernel
theorem dX11_goParts_72 : decode cX11_goParts 72 = .ok (.putfield 210, 3) := by decide +kernel
theorem dX11_goParts_75 : decode cX11_goParts 75 = .ok (.aload_n 0, 1) := by decide +kernel
theorem dX11_goParts_76 : decode cX11_goParts 76 = .ok (.iload 6, 2) := by decide +kernel
theorem dX11_goParts_78 : decode cX11_goParts 78 = .ok (.invokevirtual 216, 3) := by decide +kernel
theorem dX11_goParts_81 : decode cX11_goParts 81 = .ok (.iload 5, 2) := by decide +kernel
theorem dX11_goParts_83 : decode cX11_goParts 83 = .ok (.iload 6, 2) := by decide +kernel
theorem dX11_goParts_85 : decode cX11_goParts 85 = .ok (.isub, 1) := by decide +kernel
theorem dX11_goParts_86 : decode cX11_goParts 86 = .ok (.istore 5, 2) := by decide +kernel
theorem dX11_goParts_88 : decode cX11_goParts 88 = .ok (.aload_n 0, 1) := by decide +kernel
theorem dX11_goParts_89 : decode cX11_goParts 89 = .ok (.dup, 1) := by decide +kernel
theorem dX11_goParts_90 : decode cX11_goParts 90 = .ok (.getfield 207, 3) := by decide +kernel
theorem dX11_goParts_93 : decode cX11_goParts 93 = .ok (.iconst 1, 1) := by decide +kernel
theorem dX11_goParts_94 : decode cX11_goParts 94 = .ok (.iadd, 1) := by decide +kernel
theorem dX11_goParts_95 : decode cX11_goParts 95 = .ok (.putfield 207, 3) := by decide +kernel
theorem dX11_goParts_98 : decode cX11_goParts 98 = .ok (.goto (-85), 3) := by decide +kernel
theorem dX11_goParts_101 : decode cX11_goParts 101 = .ok (.iload_n 3, 1) := by decide +kernel
theorem dX11_goParts_102 : decode cX11_goParts 102 = .ok (.iload 5, 2) := by decide +kernel
theorem dX11_goParts_104 : decode cX11_goParts 104 = .ok (.isub, 1) := by decide +kernel
theorem dX11_goParts_105 : decode cX11_goParts 105 = .ok (.ireturn, 1) := by decide +kernel
theorem dX11_mostOf_0 : decode cX11_mostOf 0 = .ok (.aload_n 0, 1) := by decide +kernel
theorem dX11_mostOf_1 : decode cX11_mostOf 1 = .ok (.iconst 0, 1) := by decide +kernel
theorem dX11_mostOf_2 : decode cX11_mostOf 2 = .ok (.invokevirtual 219, 3) := by decide +kernel
theorem dX11_mostOf_5 : decode cX11_mostOf 5 = .ok (.aload_n 0, 1) := by decide +kernel
theorem dX11_mostOf_6 : decode cX11_mostOf 6 = .ok (.iload_n 1, 1) := by decide +kernel
theorem dX11_mostOf_7 : decode cX11_mostOf 7 = .ok (.iload_n 2, 1) := by decide +kernel
theorem dX11_mostOf_8 : decode cX11_mostOf 8 = .ok (.ldc 224, 2) := by decide +kernel
theorem dX11_mostOf_10 : decode cX11_mostOf 10 = .ok (.iconst 0, 1) := by decide +kernel
theorem dX11_mostOf_11 : decode cX11_mostOf 11 = .ok (.invokevirtual 225, 3) := by decide +kernel
theorem dX11_mostOf_14 : decode cX11_mostOf 14 = .ok (.istore_n 3, 1) := by decide +kernel
theorem dX11_mostOf_15 : decode cX11_mostOf 15 = .ok (.aload_n 0, 1) := by decide +kernel
theorem dX11_mostOf_16 : decode cX11_mostOf 16 = .ok (.aload_n 0, 1) := by decide +kernel
theorem dX11_mostOf_17 : decode cX11_mostOf 17 = .ok (.iload_n 1, 1) := by decide +kernel
theorem dX11_mostOf_18 : decode cX11_mostOf 18 = .ok (.iconst 1, 1) := by decide +kernel
theorem dX11_mostOf_19 : decode cX11_mostOf 19 = .ok (.invokevirtual 201, 3) := by decide +kernel
theorem dX11_mostOf_22 : decode cX11_mostOf 22 = .ok (.putfield 229, 3) := by decide +kernel
theorem dX11_mostOf_25 : decode cX11_mostOf 25 = .ok (.aload_n 0, 1) := by decide +kernel
theorem dX11_mostOf_26 : decode cX11_mostOf 26 = .ok (.iconst 0, 1) := by decide +kernel
theorem dX11_mostOf_27 : decode cX11_mostOf 27 = .ok (.invokevirtual 232, 3) := by decide +kernel
theorem dX11_mostOf_30 : decode cX11_mostOf 30 = .ok (.iload_n 3, 1) := by decide +kernel
theorem dX11_mostOf_31 : decode cX11_mostOf 31 = .ok (.ireturn, 1) := by decide +kernel
theorem dX11_most_0 : decode cX11_most 0 = .ok (.aload_n 0, 1) := by decide +kernel
theorem dX11_most_1 : decode cX11_most 1 = .ok (.iconst 0, 1) := by decide +kernel
theorem dX11_most_2 : decode cX11_most 2 = .ok (.putfield 68, 3) := by decide +kernel
theorem dX11_most_5 : decode cX11_most 5 = .ok (.aload_n 0, 1) := by decide +kernel
theorem dX11_most_6 : decode cX11_most 6 = .ok (.iload_n 1, 1) := by decide +kernel
theorem dX11_most_7 : decode cX11_most 7 = .ok (.iload_n 2, 1) := by decide +kernel
theorem dX11_most_8 : decode cX11_most 8 = .ok (.invokevirtual 159, 3) := by decide +kernel
theorem dX11_most_11 : decode cX11_most 11 = .ok (.ifCond .ne 5, 3) := by decide +kernel
theorem dX11_most_14 : decode cX11_most 14 = .ok (.iconst (-1), 1) := by decide +kernel
theorem dX11_most_15 : decode cX11_most 15 = .ok (.ireturn, 1) := by decide +kernel
theorem dX11_most_16 : decode cX11_most 16 = .ok (.aload_n 0, 1) := by decide +kernel
theorem dX11_most_17 : decode cX11_most 17 = .ok (.iload_n 1, 1) := by decide +kernel
theorem dX11_most_18 : decode cX11_most 18 = .ok (.iload_n 2, 1) := by decide +kernel
theorem dX11_most_19 : decode cX11_most 19 = .ok (.invokevirtual 235, 3) := by decide +kernel
theorem dX11_most_22 : decode cX11_most 22 = .ok (.istore_n 3, 1) := by decide +kernel
theorem dX11_most_23 : decode cX11_most 23 = .ok (.aload_n 0, 1) := by decide +kernel
theorem dX11_most_24 : decode cX11_most 24 = .ok (.iconst 0, 1) := by decide +kernel
theorem dX11_most_25 : decode cX11_most 25 = .ok (.putfield 71, 3) := by decide +kernel
theorem dX11_most_28 : decode cX11_most 28 = .ok (.aload_n 0, 1) := by decide +kernel
theorem dX11_most_29 : decode cX11_most 29 = .ok (.aload_n 0, 1) := by decide +kernel
theorem dX11_most_30 : decode cX11_most 30 = .ok (.getfield 229, 3) := by decide +kernel
theorem dX11_most_33 : decode cX11_most 33 = .ok (.i2l, 1) := by decide +kernel
theorem dX11_most_34 : decode cX11_most 34 = .ok (.invokevirtual 155, 3) := by decide +kernel
theorem dX11_most_37 : decode cX11_most 37 = .ok (.aload_n 0, 1) := by decide +kernel
theorem dX11_most_38 : decode cX11_most 38 = .ok (.aload_n 0, 1) := by decide +kernel
theorem dX11_most_39 : decode cX11_most 39 = .ok (.getfield 207, 3) := by decide +kernel
theorem dX11_most_42 : decode cX11_most 42 = .ok (.i2l, 1) := by decide +kernel
theorem dX11_most_43 : decode cX11_most 43 = .ok (.invokevirtual 155, 3) := by decide +kernel
theorem dX11_most_46 : decode cX11_most 46 = .ok (.aload_n 0, 1) := by decide +kernel
theorem dX11_most_47 : decode cX11_most 47 = .ok (.aload_n 0, 1) := by decide +kernel
theorem dX11_most_48 : decode cX11_most 48 = .ok (.getfield 210, 3) := by decide +kernel
theorem dX11_most_51 : decode cX11_most 51 = .ok (.i2l, 1) := by decide +kernel
theorem dX11_most_52 : decode cX11_most 52 = .ok (.invokevirtual 155, 3) := by decide +kernel
theorem dX11_most_55 : decode cX11_most 55 = .ok (.iload_n 3, 1) := by decide +kernel
theorem dX11_most_56 : decode cX11_most 56 = .ok (.ireturn, 1) := by decide +kernel
theorem dX11_isRing_0 : decode cX11_isRing 0 = .ok (.iload_n 1, 1) := by decide +kernel
theorem dX11_isRing_1 : decode cX11_isRing 1 = .ok (.iload_n 2, 1) := by decide +kernel
theorem dX11_isRing_2 : decode cX11_isRing 2 = .ok (.if_icmp .ne 30, 3) := by decide +kernel
theorem dX11_isRing_5 : decode cX11_isRing 5 = .ok (.aload_n 0, 1) := by decide +kernel
theorem dX11_isRing_6 : decode cX11_isRing 6 = .ok (.aload_n 0, 1) := by decide +kernel
theorem dX11_isRing_7 : decode cX11_isRing 7 = .ok (.getfield 40, 3) := by decide +kernel
theorem dX11_isRing_10 : decode cX11_isRing 10 = .ok (.iload_n 2, 1) := by decide +kernel
theorem dX11_isRing_11 : decode cX11_isRing 11 = .ok (.iconst 1, 1) := by decide +kernel
theorem dX11_isRing_12 : decode cX11_isRing 12 = .ok (.isub, 1) := by decide +kernel
theorem dX11_isRing_13 : decode cX11_isRing 13 = .ok (.iaload, 1) := by decide +kernel
theorem dX11_isRing_14 : decode cX11_isRing 14 = .ok (.aload_n 0, 1) := by decide +kernel
theorem dX11_isRing_15 : decode cX11_isRing 15 = .ok (.getfield 40, 3) := by decide +kernel
theorem dX11_isRing_18 : decode cX11_isRing 18 = .ok (.iconst 0, 1) := by decide +kernel
theorem dX11_isRing_19 : decode cX11_isRing 19 = .ok (.iaload, 1) := by decide +kernel
theorem dX11_isRing_20 : decode cX11_isRing 20 = .ok (.invokevirtual 141, 3) := by decide +kernel
theorem dX11_isRing_23 : decode cX11_isRing 23 = .ok (.ifCond .le 7, 3) := by decide +kernel
theorem dX11_isRing_26 : decode cX11_isRing 26 = .ok (.iconst 1, 1) := by decide +kernel
theorem dX11_isRing_27 : decode cX11_isRing 27 = .ok (.goto 4, 3) := by decide +kernel
theorem dX11_isRing_30 : decode cX11_isRing 30 = .ok (.iconst 0, 1) := by decide +kernel
theorem dX11_isRing_31 : decode cX11_isRing 31 = .ok (.ireturn, 1) := by decide +kernel
theorem dX11_isRing_32 : decode cX11_isRing 32 = .ok (.aload_n 0, 1) := by decide +kernel
theorem dX11_isRing_33 : decode cX11_isRing 33 = .ok (.getfield 40, 3) := by decide +kernel
theorem dX11_isRing_36 : decode cX11_isRing 36 = .ok (.iconst 0, 1) := by decide +kernel
theorem dX11_isRing_37 : decode cX11_isRing 37 = .ok (.iaload, 1) := by decide +kernel
theorem dX11_isRing_38 : decode cX11_isRing 38 = .ok (.iconst 1, 1) := by decide +kernel
theorem dX11_isRing_39 : decode cX11_isRing 39 = .ok (.iadd, 1) := by decide +kernel
theorem dX11_isRing_40 : decode cX11_isRing 40 = .ok (.istore_n 3, 1) := by decide +kernel
theorem dX11_isRing_41 : decode cX11_isRing 41 = .ok (.iload_n 3, 1) := by decide +kernel
theorem dX11_isRing_42 : decode cX11_isRing 42 = .ok (.aload_n 0, 1) := by decide +kernel
theorem dX11_isRing_43 : decode cX11_isRing 43 = .ok (.getfield 9, 3) := by decide +kernel
theorem dX11_isRing_46 : decode cX11_isRing 46 = .ok (.iconst 0, 1) := by decide +kernel
theorem dX11_isRing_47 : decode cX11_isRing 47 = .ok (.iaload, 1) := by decide +kernel
theorem dX11_isRing_48 : decode cX11_isRing 48 = .ok (.if_icmp .ge 57, 3) := by decide +kernel
theorem dX11_isRing_51 : decode cX11_isRing 51 = .ok (.aload_n 0, 1) := by decide +kernel
theorem dX11_isRing_52 : decode cX11_isRing 52 = .ok (.aload_n 0, 1) := by decide +kernel
theorem dX11_isRing_53 : decode cX11_isRing 53 = .ok (.getfield 40, 3) := by decide +kernel
theorem dX11_isRing_56 : decode cX11_isRing 56 = .ok (.iload_n 1, 1) := by decide +kernel
theorem dX11_isRing_57 : decode cX11_isRing 57 = .ok (.iconst 1, 1) := by decide +kernel
theorem dX11_isRing_58 : decode cX11_isRing 58 = .ok (.isub, 1) := by decide +kernel
theorem dX11_isRing_59 : decode cX11_isRing 59 = .ok (.iaload, 1) := by decide +kernel
theorem dX11_isRing_60 : decode cX11_isRing 60 = .ok (.iload_n 3, 1) := by decide +kernel
theorem dX11_isRing_61 : decode cX11_isRing 61 = .ok (.invokevirtual 141, 3) := by decide +kernel
theorem dX11_isRing_64 : decode cX11_isRing 64 = .ok (.ifCond .eq 35, 3) := by decide +kernel
theorem dX11_isRing_67 : decode cX11_isRing 67 = .ok (.aload_n 0, 1) := by decide +kernel
theorem dX11_isRing_68 : decode cX11_isRing 68 = .ok (.iload_n 3, 1) := by decide +kernel
theorem dX11_isRing_69 : decode cX11_isRing 69 = .ok (.iload_n 1, 1) := by decide +kernel
theorem dX11_isRing_70 : decode cX11_isRing 70 = .ok (.invokevirtual 238, 3) := by decide +kernel
theorem dX11_isRing_73 : decode cX11_isRing 73 = .ok (.ifCond .eq 6, 3) := by decide +kernel
theorem dX11_isRing_76 : decode cX11_isRing 76 = .ok (.goto 23, 3) := by decide +kernel
theorem dX11_isRing_79 : decode cX11_isRing 79 = .ok (.aload_n 0, 1) := by decide +kernel
theorem dX11_isRing_80 : decode cX11_isRing 80 = .ok (.getfield 40, 3) := by decide +kernel
theorem dX11_isRing_83 : decode cX11_isRing 83 = .ok (.iload_n 1, 1) := by decide +kernel
theorem dX11_isRing_84 : decode cX11_isRing 84 = .ok (.iload_n 3, 1) := by decide +kernel
theorem dX11_isRing_85 : decode cX11_isRing 85 = .ok (.iastore, 1) := by decide +kernel
theorem dX11_isRing_86 : decode cX11_isRing 86 = .ok (.aload_n 0, 1) := by decide +kernel
theorem dX11_isRing_87 : decode cX11_isRing 87 = .ok (.iload_n 1, 1) := by decide +kernel
theorem dX11_isRing_88 : decode cX11_isRing 88 = .ok (.iconst 1, 1) := by decide +kernel
theorem dX11_isRing_89 : decode cX11_isRing 89 = .ok (.iadd, 1) := by decide +kernel
theorem dX11_isRing_90 : decode cX11_isRing 90 = .ok (.iload_n 2, 1) := by decide +kernel
theorem dX11_isRing_91 : decode cX11_isRing 91 = .ok (.invokevirtual 241, 3) := by decide +kernel
theorem dX11_isRing_94 : decode cX11_isRing 94 = .ok (.ifCond .eq 5, 3) := by decide +kernel
theorem dX11_isRing_97 : decode cX11_isRing 97 = .ok (.iconst 1, 1) := by decide +kernel
theorem dX11_isRing_98 : decode cX11_isRing 98 = .ok (.ireturn, 1) := by decide +kernel
theorem dX11_isRing_99 : decode cX11_isRing 99 = .ok (.iinc 3 1, 3) := by decide +kernel
theorem dX11_isRing_102 : decode cX11_isRing 102 = .ok (.goto (-61), 3) := by decide +kernel
theorem dX11_isRing_105 : decode cX11_isRing 105 = .ok (.iconst 0, 1) := by decide +kernel
theorem dX11_isRing_106 : decode cX11_isRing 106 = .ok (.ireturn, 1) := by decide +kernel
theorem dX11_isOnRing_0 : decode cX11_isOnRing 0 = .ok (.iconst 0, 1) := by decide +kernel
theorem dX11_isOnRing_1 : decode cX11_isOnRing 1 = .ok (.istore_n 3, 1) := by decide +kernel
theorem dX11_isOnRing_2 : decode cX11_isOnRing 2 = .ok (.iload_n 3, 1) := by decide +kernel
theorem dX11_isOnRing_3 : decode cX11_isOnRing 3 = .ok (.iload_n 2, 1) := by decide +kernel
theorem dX11_isOnRing_4 : decode cX11_isOnRing 4 = .ok (.if_icmp .ge 21, 3) := by decide +kernel
theorem dX11_isOnRing_7 : decode cX11_isOnRing 7 = .ok (.aload_n 0, 1) := by decide +kernel
theorem dX11_isOnRing_8 : decode cX11_isOnRing 8 = .ok (.getfield 40, 3) := by decide +kernel
theorem dX11_isOnRing_11 : decode cX11_isOnRing 11 = .ok (.iload_n 3, 1) := by decide +kernel
theorem dX11_isOnRing_12 : decode cX11_isOnRing 12 = .ok (.iaload, 1) := by decide +kernel
theorem dX11_isOnRing_13 : decode cX11_isOnRing 13 = .ok (.iload_n 1, 1) := by decide +kernel
theorem dX11_isOnRing_14 : decode cX11_isOnRing 14 = .ok (.if_icmp .ne 5, 3) := by decide +kernel
theorem dX11_isOnRing_17 : decode cX11_isOnRing 17 = .ok (.iconst 1, 1) := by decide +kernel
theorem dX11_isOnRing_18 : decode cX11_isOnRing 18 = .ok (.ireturn, 1) := by decide +kernel
theorem dX11_isOnRing_19 : decode cX11_isOnRing 19 = .ok (.iinc 3 1, 3) := by decide +kernel
theorem dX11_isOnRing_22 : decode cX11_isOnRing 22 = .ok (.goto (-20), 3) := by decide +kernel
theorem dX11_isOnRing_25 : decode cX11_isOnRing 25 = .ok (.iconst 0, 1) := by decide +kernel
theorem dX11_isOnRing_26 : decode cX11_isOnRing 26 = .ok (.ireturn, 1) := by decide +kernel
theorem dX11_findRing_0 : decode cX11_findRing 0 = .ok (.iconst 3, 1) := by decide +kernel
theorem dX11_findRing_1 : decode cX11_findRing 1 = .ok (.istore_n 1, 1) := by decide +kernel
theorem dX11_findRing_2 : decode cX11_findRing 2 = .ok (.iload_n 1, 1) := by decide +kernel
theorem dX11_findRing_3 : decode cX11_findRing 3 = .ok (.aload_n 0, 1) := by decide +kernel
theorem dX11_findRing_4 : decode cX11_findRing 4 = .ok (.getfield 9, 3) := by decide +kernel
theorem dX11_findRing_7 : decode cX11_findRing 7 = .ok (.iconst 0, 1) := by decide +kernel
theorem dX11_findRing_8 : decode cX11_findRing 8 = .ok (.iaload, 1) := by decide +kernel
theorem dX11_findRing_9 : decode cX11_findRing 9 = .ok (.if_icmp .gt 45, 3) := by decide +kernel
theorem dX11_findRing_12 : decode cX11_findRing 12 = .ok (.iconst 0, 1) := by decide +kernel
theorem dX11_findRing_13 : decode cX11_findRing 13 = .ok (.istore_n 2, 1) := by decide +kernel
theorem dX11_findRing_14 : decode cX11_findRing 14 = .ok (.iload_n 2, 1) := by decide +kernel
theorem dX11_findRing_15 : decode cX11_findRing 15 = .ok (.aload_n 0, 1) := by decide +kernel
theorem dX11_findRing_16 : decode cX11_findRing 16 = .ok (.getfield 9, 3) := by decide +kernel
theorem dX11_findRing_19 : decode cX11_findRing 19 = .ok (.iconst 0, 1) := by decide +kernel
theorem dX11_findRing_20 : decode cX11_findRing 20 = .ok (.iaload, 1) := by decide +kernel
theorem dX11_findRing_21 : decode cX11_findRing 21 = .ok (.if_icmp .ge 27, 3) := by decide +kernel
theorem dX11_findRing_24 : decode cX11_findRing 24 = .ok (.aload_n 0, 1) := by decide +kernel
theorem dX11_findRing_25 : decode cX11_findRing 25 = .ok (.getfield 40, 3) := by decide +kernel
theorem dX11_findRing_28 : decode cX11_findRing 28 = .ok (.iconst 0, 1) := by decide +kernel
theorem dX11_findRing_29 : decode cX11_findRing 29 = .ok (.iload_n 2, 1) := by decide +kernel
theorem dX11_findRing_30 : decode cX11_findRing 30 = .ok (.iastore, 1) := by decide +kernel
theorem dX11_findRing_31 : decode cX11_findRing 31 = .ok (.aload_n 0, 1) := by decide +kernel
theorem dX11_findRing_32 : decode cX11_findRing 32 = .ok (.iconst 1, 1) := by decide +kernel
theorem dX11_findRing_33 : decode cX11_findRing 33 = .ok (.iload_n 1, 1) := by decide +kernel
theorem dX11_findRing_34 : decode cX11_findRing 34 = .ok (.invokevirtual 241, 3) := by decide +kernel
theorem dX11_findRing_37 : decode cX11_findRing 37 = .ok (.ifCond .eq 5, 3) := by decide +kernel
theorem dX11_findRing_40 : decode cX11_findRing 40 = .ok (.iload_n 1, 1) := by decide +kernel
theorem dX11_findRing_41 : decode cX11_findRing 41 = .ok (.ireturn, 1) := by decide +kernel
theorem dX11_findRing_42 : decode cX11_findRing 42 = .ok (.iinc 2 1, 3) := by decide +kernel
theorem dX11_findRing_45 : decode cX11_findRing 45 = .ok (.goto (-31), 3) := by decide +kernel
theorem dX11_findRing_48 : decode cX11_findRing 48 = .ok (.iinc 1 1, 3) := by decide +kernel
theorem dX11_findRing_51 : decode cX11_findRing 51 = .ok (.goto (-49), 3) := by decide +kernel
theorem dX11_findRing_54 : decode cX11_findRing 54 = .ok (.iconst 0, 1) := by decide +kernel
theorem dX11_findRing_55 : decode cX11_findRing 55 = .ok (.ireturn, 1) := by decide +kernel
theorem dX11_leastDebt_0 : decode cX11_leastDebt 0 = .ok (.ldc 224, 2) := by decide +kernel
theorem dX11_leastDebt_2 : decode cX11_leastDebt 2 = .ok (.istore_n 2, 1) := by decide +kernel
theorem dX11_leastDebt_3 : decode cX11_leastDebt 3 = .ok (.iconst 0, 1) := by decide +kernel
theorem dX11_leastDebt_4 : decode cX11_leastDebt 4 = .ok (.istore_n 3, 1) := by decide +kernel
theorem dX11_leastDebt_5 : decode cX11_leastDebt 5 = .ok (.iload_n 3, 1) := by decide +kernel
theorem dX11_leastDebt_6 : decode cX11_leastDebt 6 = .ok (.iload_n 1, 1) := by decide +kernel
theorem dX11_leastDebt_7 : decode cX11_leastDebt 7 = .ok (.if_icmp .ge 34, 3) := by decide +kernel
theorem dX11_leastDebt_10 : decode cX11_leastDebt 10 = .ok (.iload_n 2, 1) := by decide +kernel
theorem dX11_leastDebt_11 : decode cX11_leastDebt 11 = .ok (.aload_n 0, 1) := by decide +kernel
theorem dX11_leastDebt_12 : decode cX11_leastDebt 12 = .ok (.aload_n 0, 1) := by decide +kernel
theorem dX11_leastDebt_13 : decode cX11_leastDebt 13 = .ok (.getfield 40, 3) := by decide +kernel
theorem dX11_leastDebt_16 : decode cX11_leastDebt 16 = .ok (.iload_n 3, 1) := by decide +kernel
theorem dX11_leastDebt_17 : decode cX11_leastDebt 17 = .ok (.iaload, 1) := by decide +kernel
theorem dX11_leastDebt_18 : decode cX11_leastDebt 18 = .ok (.aload_n 0, 1) := by decide +kernel
theorem dX11_leastDebt_19 : decode cX11_leastDebt 19 = .ok (.getfield 40, 3) := by decide +kernel
theorem dX11_leastDebt_22 : decode cX11_leastDebt 22 = .ok (.iload_n 3, 1) := by decide +kernel
theorem dX11_leastDebt_23 : decode cX11_leastDebt 23 = .ok (.iconst 1, 1) := by decide +kernel
theorem dX11_leastDebt_24 : decode cX11_leastDebt 24 = .ok (.iadd, 1) := by decide +kernel
theorem dX11_leastDebt_25 : decode cX11_leastDebt 25 = .ok (.iload_n 1, 1) := by decide +kernel
theorem dX11_leastDebt_26 : decode cX11_leastDebt 26 = .ok (.irem, 1) := by decide +kernel
theorem dX11_leastDebt_27 : decode cX11_leastDebt 27 = .ok (.iaload, 1) := by decide +kernel
theorem dX11_leastDebt_28 : decode cX11_leastDebt 28 = .ok (.invokevirtual 141, 3) := by decide +kernel
theorem dX11_leastDebt_31 : decode cX11_leastDebt 31 = .ok (.invokestatic 185, 3) := by decide +kernel
theorem dX11_leastDebt_34 : decode cX11_leastDebt 34 = .ok (.istore_n 2, 1) := by decide +kernel
theorem dX11_leastDebt_35 : decode cX11_leastDebt 35 = .ok (.iinc 3 1, 3) := by decide +kernel
theorem dX11_leastDebt_38 : decode cX11_leastDebt 38 = .ok (.goto (-33), 3) := by decide +kernel
theorem dX11_leastDebt_41 : decode cX11_leastDebt 41 = .ok (.iload_n 2, 1) := by decide +kernel
theorem dX11_leastDebt_42 : decode cX11_leastDebt 42 = .ok (.ireturn, 1) := by decide +kernel
theorem dX11_ring_0 : decode cX11_ring 0 = .ok (.aload_n 0, 1) := by decide +kernel
theorem dX11_ring_1 : decode cX11_ring 1 = .ok (.iconst 0, 1) := by decide +kernel
theorem dX11_ring_2 : decode cX11_ring 2 = .ok (.putfield 68, 3) := by decide +kernel
theorem dX11_ring_5 : decode cX11_ring 5 = .ok (.aload_n 0, 1) := by decide +kernel
theorem dX11_ring_6 : decode cX11_ring 6 = .ok (.invokevirtual 244, 3) := by decide +kernel
theorem dX11_ring_9 : decode cX11_ring 9 = .ok (.istore_n 1, 1) := by decide +kernel
theorem dX11_ring_10 : decode cX11_ring 10 = .ok (.iload_n 1, 1) := by decide +kernel
theorem dX11_ring_11 : decode cX11_ring 11 = .ok (.ifCond .ne 6, 3) := by decide +kernel
theorem dX11_ring_14 : decode cX11_ring 14 = .ok (.bipush (-2), 2) := by decide +kernel
theorem dX11_ring_16 : decode cX11_ring 16 = .ok (.ireturn, 1) := by decide +kernel
theorem dX11_ring_17 : decode cX11_ring 17 = .ok (.aload_n 0, 1) := by decide +kernel
theorem dX11_ring_18 : decode cX11_ring 18 = .ok (.iconst 0, 1) := by decide +kernel
theorem dX11_ring_19 : decode cX11_ring 19 = .ok (.putfield 71, 3) := by decide +kernel
theorem dX11_ring_22 : decode cX11_ring 22 = .ok (.iconst 0, 1) := by decide +kernel
theorem dX11_ring_23 : decode cX11_ring 23 = .ok (.istore_n 2, 1) := by decide +kernel
theorem dX11_ring_24 : decode cX11_ring 24 = .ok (.iload_n 2, 1) := by decide +kernel
theorem dX11_ring_25 : decode cX11_ring 25 = .ok (.iload_n 1, 1) := by decide +kernel
theorem dX11_ring_26 : decode cX11_ring 26 = .ok (.if_icmp .ge 20, 3) := by decide +kernel
theorem dX11_ring_29 : decode cX11_ring 29 = .ok (.aload_n 0, 1) := by decide +kernel
theorem dX11_ring_30 : decode cX11_ring 30 = .ok (.aload_n 0, 1) := by decide +kernel
theorem dX11_ring_31 : decode cX11_ring 31 = .ok (.getfield 40, 3) := by decide +kernel
theorem dX11_ring_34 : decode cX11_ring 34 = .ok (.iload_n 2, 1) := by decide +kernel
theorem dX11_ring_35 : decode cX11_ring 35 = .ok (.iaload, 1) := by decide +kernel
theorem dX11_ring_36 : decode cX11_ring 36 = .ok (.i2l, 1) := by decide +kernel
theorem dX11_ring_37 : decode cX11_ring 37 = .ok (.invokevirtual 155, 3) := by decide +kernel
theorem dX11_ring_40 : decode cX11_ring 40 = .ok (.iinc 2 1, 3) := by decide +kernel
theorem dX11_ring_43 : decode cX11_ring 43 = .ok (.goto (-19), 3) := by decide +kernel
theorem dX11_ring_46 : decode cX11_ring 46 = .ok (.aload_n 0, 1) := by decide +kernel
theorem dX11_ring_47 : decode cX11_ring 47 = .ok (.aload_n 0, 1) := by decide +kernel
theorem dX11_ring_48 : decode cX11_ring 48 = .ok (.iload_n 1, 1) := by decide +kernel
theorem dX11_ring_49 : decode cX11_ring 49 = .ok (.invokevirtual 247, 3) := by decide +kernel
theorem dX11_ring_52 : decode cX11_ring 52 = .ok (.i2l, 1) := by decide +kernel
theorem dX11_ring_53 : decode cX11_ring 53 = .ok (.invokevirtual 155, 3) := by decide +kernel
theorem dX11_ring_56 : decode cX11_ring 56 = .ok (.iload_n 1, 1) := by decide +kernel
theorem dX11_ring_57 : decode cX11_ring 57 = .ok (.ireturn, 1) := by decide +kernel
theorem dX11_goSettle_0 : decode cX11_goSettle 0 = .ok (.iconst 0, 1) := by decide +kernel
theorem dX11_goSettle_1 : decode cX11_goSettle 1 = .ok (.istore_n 1, 1) := by decide +kernel
theorem dX11_goSettle_2 : decode cX11_goSettle 2 = .ok (.aload_n 0, 1) := by decide +kernel
theorem dX11_goSettle_3 : decode cX11_goSettle 3 = .ok (.invokevirtual 244, 3) := by decide +kernel
theorem dX11_goSettle_6 : decode cX11_goSettle 6 = .ok (.istore_n 2, 1) := by decide +kernel
theorem dX11_goSettle_7 : decode cX11_goSettle 7 = .ok (.iload_n 2, 1) := by decide +kernel
theorem dX11_goSettle_8 : decode cX11_goSettle 8 = .ok (.ifCond .le 58, 3) := by decide +kernel
theorem dX11_goSettle_11 : decode cX11_goSettle 11 = .ok (.aload_n 0, 1) := by decide +kernel
theorem dX11_goSettle_12 : decode cX11_goSettle 12 = .ok (.iload_n 2, 1) := by decide +kernel
theorem dX11_goSettle_13 : decode cX11_goSettle 13 = .ok (.invokevirtual 247, 3) := by decide +kernel
theorem dX11_goSettle_16 : decode cX11_goSettle 16 = .ok (.istore_n 3, 1) := by decide +kernel
theorem dX11_goSettle_17 : decode cX11_goSettle 17 = .ok (.iconst 0, 1) := by decide +kernel
theorem dX11_goSettle_18 : decode cX11_goSettle 18 = .ok (.istore 4, 2) := by decide +kernel
theorem dX11_goSettle_20 : decode cX11_goSettle 20 = .ok (.iload 4, 2) := by decide +kernel
theorem dX11_goSettle_22 : decode cX11_goSettle 22 = .ok (.iload_n 2, 1) := by decide +kernel
theorem dX11_goSettle_23 : decode cX11_goSettle 23 = .ok (.if_icmp .ge 32, 3) := by decide +kernel
theorem dX11_goSettle_26 : decode cX11_goSettle 26 = .ok (.aload_n 0, 1) := by decide +kernel
theorem dX11_goSettle_27 : decode cX11_goSettle 27 = .ok (.aload_n 0, 1) := by decide +kernel
theorem dX11_goSettle_28 : decode cX11_goSettle 28 = .ok (.getfield 40, 3) := by decide +kernel
theorem dX11_goSettle_31 : decode cX11_goSettle 31 = .ok (.iload 4, 2) := by decide +kernel
theorem dX11_goSettle_33 : decode cX11_goSettle 33 = .ok (.iconst 1, 1) := by decide +kernel
theorem dX11_goSettle_34 : decode cX11_goSettle 34 = .ok (.iadd, 1) := by decide +kernel
theorem dX11_goSettle_35 : decode cX11_goSettle 35 = .ok (.iload_n 2, 1) := by decide +kernel
theorem dX11_goSettle_36 : decode cX11_goSettle 36 = .ok (.irem, 1) := by decide +kernel
theorem dX11_goSettle_37 : decode cX11_goSettle 37 = .ok (.iaload, 1) := by decide +kernel
theorem dX11_goSettle_38 : decode cX11_goSettle 38 = .ok (.aload_n 0, 1) := by decide +kernel
theorem dX11_goSettle_39 : decode cX11_goSettle 39 = .ok (.getfield 40, 3) := by decide +kernel
theorem dX11_goSettle_42 : decode cX11_goSettle 42 = .ok (.iload 4, 2) := by decide +kernel
theorem dX11_goSettle_44 : decode cX11_goSettle 44 = .ok (.iaload, 1) := by decide +kernel
theorem dX11_goSettle_45 : decode cX11_goSettle 45 = .ok (.iload_n 3, 1) := by decide +kernel
theorem dX11_goSettle_46 : decode cX11_goSettle 46 = .ok (.invokevirtual 188, 3) := by decide +kernel
theorem dX11_goSettle_49 : decode cX11_goSettle 49 = .ok (.iinc 4 1, 3) := by decide +kernel
theorem dX11_goSettle_52 : decode cX11_goSettle 52 = .ok (.goto (-32), 3) := by decide +kernel
theorem dX11_goSettle_55 : decode cX11_goSettle 55 = .ok (.iinc 1 1, 3) := by decide +kernel
theorem dX11_goSettle_58 : decode cX11_goSettle 58 = .ok (.aload_n 0, 1) := by decide +kernel
theorem dX11_goSettle_59 : decode cX11_goSettle 59 = .ok (.invokevirtual 244, 3) := by decide +kernel
theorem dX11_goSettle_62 : decode cX11_goSettle 62 = .ok (.istore_n 2, 1) := by decide +kernel
theorem dX11_goSettle_63 : decode cX11_goSettle 63 = .ok (.goto (-56), 3) := by decide +kernel
theorem dX11_goSettle_66 : decode cX11_goSettle 66 = .ok (.iload_n 1, 1) := by decide +kernel
theorem dX11_goSettle_67 : decode cX11_goSettle 67 = .ok (.ireturn, 1) := by decide +kernel
theorem dX11_rings_0 : decode cX11_rings 0 = .ok (.aload_n 0, 1) := by decide +kernel
theorem dX11_rings_1 : decode cX11_rings 1 = .ok (.iconst 0, 1) := by decide +kernel
theorem dX11_rings_2 : decode cX11_rings 2 = .ok (.putfield 68, 3) := by decide +kernel
theorem dX11_rings_5 : decode cX11_rings 5 = .ok (.aload_n 0, 1) := by decide +kernel
theorem dX11_rings_6 : decode cX11_rings 6 = .ok (.iconst 0, 1) := by decide +kernel
theorem dX11_rings_7 : decode cX11_rings 7 = .ok (.invokevirtual 219, 3) := by decide +kernel
theorem dX11_rings_10 : decode cX11_rings 10 = .ok (.aload_n 0, 1) := by decide +kernel
theorem dX11_rings_11 : decode cX11_rings 11 = .ok (.invokevirtual 250, 3) := by decide +kernel
theorem dX11_rings_14 : decode cX11_rings 14 = .ok (.istore_n 1, 1) := by decide +kernel
theorem dX11_rings_15 : decode cX11_rings 15 = .ok (.aload_n 0, 1) := by decide +kernel
theorem dX11_rings_16 : decode cX11_rings 16 = .ok (.iconst 0, 1) := by decide +kernel
theorem dX11_rings_17 : decode cX11_rings 17 = .ok (.putfield 71, 3) := by decide +kernel
theorem dX11_rings_20 : decode cX11_rings 20 = .ok (.aload_n 0, 1) := by decide +kernel
theorem dX11_rings_21 : decode cX11_rings 21 = .ok (.aload_n 0, 1) := by decide +kernel
theorem dX11_rings_22 : decode cX11_rings 22 = .ok (.invokevirtual 172, 3) := by decide +kernel
theorem dX11_rings_25 : decode cX11_rings 25 = .ok (.i2l, 1) := by decide +kernel
theorem dX11_rings_26 : decode cX11_rings 26 = .ok (.invokevirtual 155, 3) := by decide +kernel
theorem dX11_rings_29 : decode cX11_rings 29 = .ok (.aload_n 0, 1) := by decide +kernel
theorem dX11_rings_30 : decode cX11_rings 30 = .ok (.iconst 0, 1) := by decide +kernel
theorem dX11_rings_31 : decode cX11_rings 31 = .ok (.invokevirtual 232, 3) := by decide +kernel
theorem dX11_rings_34 : decode cX11_rings 34 = .ok (.iload_n 1, 1) := by decide +kernel
theorem dX11_rings_35 : decode cX11_rings 35 = .ok (.ireturn, 1) := by decide +kernel
theorem dX11_goPay_0 : decode cX11_goPay 0 = .ok (.aload_n 0, 1) := by decide +kernel
theorem dX11_goPay_1 : decode cX11_goPay 1 = .ok (.iconst 1, 1) := by decide +kernel
theorem dX11_goPay_2 : decode cX11_goPay 2 = .ok (.invokevirtual 219, 3) := by decide +kernel
theorem dX11_goPay_5 : decode cX11_goPay 5 = .ok (.aload_n 0, 1) := by decide +kernel
theorem dX11_goPay_6 : decode cX11_goPay 6 = .ok (.iload_n 1, 1) := by decide +kernel
theorem dX11_goPay_7 : decode cX11_goPay 7 = .ok (.iload_n 2, 1) := by decide +kernel
theorem dX11_goPay_8 : decode cX11_goPay 8 = .ok (.iload_n 3, 1) := by decide +kernel
theorem dX11_goPay_9 : decode cX11_goPay 9 = .ok (.iconst 0, 1) := by decide +kernel
theorem dX11_goPay_10 : decode cX11_goPay 10 = .ok (.invokevirtual 225, 3) := by decide +kernel
theorem dX11_goPay_13 : decode cX11_goPay 13 = .ok (.iload_n 3, 1) := by decide +kernel
theorem dX11_goPay_14 : decode cX11_goPay 14 = .ok (.if_icmp .ne 5, 3) := by decide +kernel
theorem dX11_goPay_17 : decode cX11_goPay 17 = .ok (.iconst 1, 1) := by decide +kernel
theorem dX11_goPay_18 : decode cX11_goPay 18 = .ok (.ireturn, 1) := by decide +kernel
theorem dX11_goPay_19 : decode cX11_goPay 19 = .ok (.aload_n 0, 1) := by decide +kernel
theorem dX11_goPay_20 : decode cX11_goPay 20 = .ok (.iconst 1, 1) := by decide +kernel
theorem dX11_goPay_21 : decode cX11_goPay 21 = .ok (.invokevirtual 232, 3) := by decide +kernel
theorem dX11_goPay_24 : decode cX11_goPay 24 = .ok (.iconst 0, 1) := by decide +kernel
theorem dX11_goPay_25 : decode cX11_goPay 25 = .ok (.ireturn, 1) := by decide +kernel
theorem dX11_pays_0 : decode cX11_pays 0 = .ok (.aload_n 0, 1) := by decide +kernel
theorem dX11_pays_1 : decode cX11_pays 1 = .ok (.iconst 0, 1) := by decide +kernel
theorem dX11_pays_2 : decode cX11_pays 2 = .ok (.putfield 68, 3) := by decide +kernel
theorem dX11_pays_5 : decode cX11_pays 5 = .ok (.aload_n 0, 1) := by decide +kernel
theorem dX11_pays_6 : decode cX11_pays 6 = .ok (.iload_n 1, 1) := by decide +kernel
theorem dX11_pays_7 : decode cX11_pays 7 = .ok (.iload_n 2, 1) := by decide +kernel
theorem dX11_pays_8 : decode cX11_pays 8 = .ok (.iload_n 3, 1) := by decide +kernel
theorem dX11_pays_9 : decode cX11_pays 9 = .ok (.invokevirtual 192, 3) := by decide +kernel
theorem dX11_pays_12 : decode cX11_pays 12 = .ok (.ifCond .ne 5, 3) := by decide +kernel
theorem dX11_pays_15 : decode cX11_pays 15 = .ok (.iconst (-1), 1) := by decide +kernel
theorem dX11_pays_16 : decode cX11_pays 16 = .ok (.ireturn, 1) := by decide +kernel
theorem dX11_pays_17 : decode cX11_pays 17 = .ok (.aload_n 0, 1) := by decide +kernel
theorem dX11_pays_18 : decode cX11_pays 18 = .ok (.iload_n 1, 1) := by decide +kernel
theorem dX11_pays_19 : decode cX11_pays 19 = .ok (.iload_n 2, 1) := by decide +kernel
theorem dX11_pays_20 : decode cX11_pays 20 = .ok (.invokevirtual 235, 3) := by decide +kernel
theorem dX11_pays_23 : decode cX11_pays 23 = .ok (.istore 4, 2) := by decide +kernel
theorem dX11_pays_25 : decode cX11_pays 25 = .ok (.aload_n 0, 1) := by decide +kernel
theorem dX11_pays_26 : decode cX11_pays 26 = .ok (.iconst 0, 1) := by decide +kernel
theorem dX11_pays_27 : decode cX11_pays 27 = .ok (.putfield 71, 3) := by decide +kernel
theorem dX11_pays_30 : decode cX11_pays 30 = .ok (.iload 4, 2) := by decide +kernel
theorem dX11_pays_32 : decode cX11_pays 32 = .ok (.iload_n 3, 1) := by decide +kernel
theorem dX11_pays_33 : decode cX11_pays 33 = .ok (.if_icmp .ge 13, 3) := by decide +kernel
theorem dX11_pays_36 : decode cX11_pays 36 = .ok (.aload_n 0, 1) := by decide +kernel
theorem dX11_pays_37 : decode cX11_pays 37 = .ok (.iload 4, 2) := by decide +kernel
theorem dX11_pays_39 : decode cX11_pays 39 = .ok (.i2l, 1) := by decide +kernel
theorem dX11_pays_40 : decode cX11_pays 40 = .ok (.invokevirtual 155, 3) := by decide +kernel
theorem dX11_pays_43 : decode cX11_pays 43 = .ok (.bipush (-4), 2) := by decide +kernel
theorem dX11_pays_45 : decode cX11_pays 45 = .ok (.ireturn, 1) := by decide +kernel
theorem dX11_pays_46 : decode cX11_pays 46 = .ok (.aload_n 0, 1) := by decide +kernel
theorem dX11_pays_47 : decode cX11_pays 47 = .ok (.invokevirtual 138, 3) := by decide +kernel
theorem dX11_pays_50 : decode cX11_pays 50 = .ok (.aload_n 0, 1) := by decide +kernel
theorem dX11_pays_51 : decode cX11_pays 51 = .ok (.iload_n 1, 1) := by decide +kernel
theorem dX11_pays_52 : decode cX11_pays 52 = .ok (.iload_n 2, 1) := by decide +kernel
theorem dX11_pays_53 : decode cX11_pays 53 = .ok (.iload_n 3, 1) := by decide +kernel
theorem dX11_pays_54 : decode cX11_pays 54 = .ok (.iconst 1, 1) := by decide +kernel
theorem dX11_pays_55 : decode cX11_pays 55 = .ok (.invokevirtual 225, 3) := by decide +kernel
theorem dX11_pays_58 : decode cX11_pays 58 = .ok (.istore 5, 2) := by decide +kernel
theorem dX11_pays_60 : decode cX11_pays 60 = .ok (.iload 5, 2) := by decide +kernel
theorem dX11_pays_62 : decode cX11_pays 62 = .ok (.iload_n 3, 1) := by decide +kernel
theorem dX11_pays_63 : decode cX11_pays 63 = .ok (.if_icmp .ne 10, 3) := by decide +kernel
theorem dX11_pays_66 : decode cX11_pays 66 = .ok (.aload_n 0, 1) := by decide +kernel
theorem dX11_pays_67 : decode cX11_pays 67 = .ok (.getfield 207, 3) := by decide +kernel
theorem dX11_pays_70 : decode cX11_pays 70 = .ok (.goto 4, 3) := by decide +kernel
theorem dX11_pays_73 : decode cX11_pays 73 = .ok (.iconst 0, 1) := by decide +kernel
theorem dX11_pays_74 : decode cX11_pays 74 = .ok (.ireturn, 1) := by decide +kernel
theorem dX11_widest_0 : decode cX11_widest 0 = .ok (.iconst 0, 1) := by decide +kernel
theorem dX11_widest_1 : decode cX11_widest 1 = .ok (.istore_n 3, 1) := by decide +kernel
theorem dX11_widest_2 : decode cX11_widest 2 = .ok (.sipush 9999, 3) := by decide +kernel
theorem dX11_widest_5 : decode cX11_widest 5 = .ok (.istore 4, 2) := by decide +kernel
theorem dX11_widest_7 : decode cX11_widest 7 = .ok (.iload_n 3, 1) := by decide +kernel
theorem dX11_widest_8 : decode cX11_widest 8 = .ok (.iload 4, 2) := by decide +kernel
theorem dX11_widest_10 : decode cX11_widest 10 = .ok (.if_icmp .ge 39, 3) := by decide +kernel
theorem dX11_widest_13 : decode cX11_widest 13 = .ok (.iload_n 3, 1) := by decide +kernel
theorem dX11_widest_14 : decode cX11_widest 14 = .ok (.iload 4, 2) := by decide +kernel
theorem dX11_widest_16 : decode cX11_widest 16 = .ok (.iadd, 1) := by decide +kernel
theorem dX11_widest_17 : decode cX11_widest 17 = .ok (.iconst 1, 1) := by decide +kernel
theorem dX11_widest_18 : decode cX11_widest 18 = .ok (.iadd, 1) := by decide +kernel
theorem dX11_widest_19 : decode cX11_widest 19 = .ok (.iconst 2, 1) := by decide +kernel
theorem dX11_widest_20 : decode cX11_widest 20 = .ok (.idiv, 1) := by decide +kernel
theorem dX11_widest_21 : decode cX11_widest 21 = .ok (.istore 5, 2) := by decide +kernel
theorem dX11_widest_23 : decode cX11_widest 23 = .ok (.aload_n 0, 1) := by decide +kernel
theorem dX11_widest_24 : decode cX11_widest 24 = .ok (.iload_n 1, 1) := by decide +kernel
theorem dX11_widest_25 : decode cX11_widest 25 = .ok (.iload_n 2, 1) := by decide +kernel
theorem dX11_widest_26 : decode cX11_widest 26 = .ok (.iload 5, 2) := by decide +kernel
theorem dX11_widest_28 : decode cX11_widest 28 = .ok (.invokevirtual 195, 3) := by decide +kernel
theorem dX11_widest_31 : decode cX11_widest 31 = .ok (.ifCond .eq 9, 3) := by decide +kernel
theorem dX11_widest_34 : decode cX11_widest 34 = .ok (.iload 5, 2) := by decide +kernel
theorem dX11_widest_36 : decode cX11_widest 36 = .ok (.istore_n 3, 1) := by decide +kernel
theorem dX11_widest_37 : decode cX11_widest 37 = .ok (.goto 9, 3) := by decide +kernel
theorem dX11_widest_40 : decode cX11_widest 40 = .ok (.iload 5, 2) := by decide +kernel
theorem dX11_widest_42 : decode cX11_widest 42 = .ok (.iconst 1, 1) := by decide +kernel
theorem dX11_widest_43 : decode cX11_widest 43 = .ok (.isub, 1) := by decide +kernel
theorem dX11_widest_44 : decode cX11_widest 44 = .ok (.istore 4, 2) := by decide +kernel
theorem dX11_widest_46 : decode cX11_widest 46 = .ok (.goto (-39), 3) := by decide +kernel
theorem dX11_widest_49 : decode cX11_widest 49 = .ok (.iload_n 3, 1) := by decide +kernel
theorem dX11_widest_50 : decode cX11_widest 50 = .ok (.ireturn, 1) := by decide +kernel
theorem dX11_whole_0 : decode cX11_whole 0 = .ok (.aload_n 0, 1) := by decide +kernel
theorem dX11_whole_1 : decode cX11_whole 1 = .ok (.iconst 0, 1) := by decide +kernel
theorem dX11_whole_2 : decode cX11_whole 2 = .ok (.putfield 68, 3) := by decide +kernel
theorem dX11_whole_5 : decode cX11_whole 5 = .ok (.aload_n 0, 1) := by decide +kernel
theorem dX11_whole_6 : decode cX11_whole 6 = .ok (.iload_n 1, 1) := by decide +kernel
theorem dX11_whole_7 : decode cX11_whole 7 = .ok (.iload_n 2, 1) := by decide +kernel
theorem dX11_whole_8 : decode cX11_whole 8 = .ok (.iload_n 3, 1) := by decide +kernel
theorem dX11_whole_9 : decode cX11_whole 9 = .ok (.invokevirtual 192, 3) := by decide +kernel
theorem dX11_whole_12 : decode cX11_whole 12 = .ok (.ifCond .ne 5, 3) := by decide +kernel
theorem dX11_whole_15 : decode cX11_whole 15 = .ok (.iconst (-1), 1) := by decide +kernel
theorem dX11_whole_16 : decode cX11_whole 16 = .ok (.ireturn, 1) := by decide +kernel
theorem dX11_whole_17 : decode cX11_whole 17 = .ok (.aload_n 0, 1) := by decide +kernel
theorem dX11_whole_18 : decode cX11_whole 18 = .ok (.iconst 0, 1) := by decide +kernel
theorem dX11_whole_19 : decode cX11_whole 19 = .ok (.putfield 71, 3) := by decide +kernel
theorem dX11_whole_22 : decode cX11_whole 22 = .ok (.aload_n 0, 1) := by decide +kernel
theorem dX11_whole_23 : decode cX11_whole 23 = .ok (.iload_n 1, 1) := by decide +kernel
theorem dX11_whole_24 : decode cX11_whole 24 = .ok (.iload_n 2, 1) := by decide +kernel
theorem dX11_whole_25 : decode cX11_whole 25 = .ok (.iload_n 3, 1) := by decide +kernel
theorem dX11_whole_26 : decode cX11_whole 26 = .ok (.invokevirtual 195, 3) := by decide +kernel
theorem dX11_whole_29 : decode cX11_whole 29 = .ok (.ifCond .ne 17, 3) := by decide +kernel
theorem dX11_whole_32 : decode cX11_whole 32 = .ok (.aload_n 0, 1) := by decide +kernel
theorem dX11_whole_33 : decode cX11_whole 33 = .ok (.aload_n 0, 1) := by decide +kernel
theorem dX11_whole_34 : decode cX11_whole 34 = .ok (.iload_n 1, 1) := by decide +kernel
theorem dX11_whole_35 : decode cX11_whole 35 = .ok (.iload_n 2, 1) := by decide +kernel
theorem dX11_whole_36 : decode cX11_whole 36 = .ok (.invokevirtual 253, 3) := by decide +kernel
theorem dX11_whole_39 : decode cX11_whole 39 = .ok (.i2l, 1) := by decide +kernel
theorem dX11_whole_40 : decode cX11_whole 40 = .ok (.invokevirtual 155, 3) := by decide +kernel
theorem dX11_whole_43 : decode cX11_whole 43 = .ok (.bipush (-4), 2) := by decide +kernel
theorem dX11_whole_45 : decode cX11_whole 45 = .ok (.ireturn, 1) := by decide +kernel
theorem dX11_whole_46 : decode cX11_whole 46 = .ok (.aload_n 0, 1) := by decide +kernel
theorem dX11_whole_47 : decode cX11_whole 47 = .ok (.invokevirtual 138, 3) := by decide +kernel
theorem dX11_whole_50 : decode cX11_whole 50 = .ok (.aload_n 0, 1) := by decide +kernel
theorem dX11_whole_51 : decode cX11_whole 51 = .ok (.iload_n 3, 1) := by decide +kernel
theorem dX11_whole_52 : decode cX11_whole 52 = .ok (.invokevirtual 216, 3) := by decide +kernel
theorem dX11_whole_55 : decode cX11_whole 55 = .ok (.aload_n 0, 1) := by decide +kernel
theorem dX11_whole_56 : decode cX11_whole 56 = .ok (.invokevirtual 198, 3) := by decide +kernel
theorem dX11_whole_59 : decode cX11_whole 59 = .ok (.aload_n 0, 1) := by decide +kernel
theorem dX11_whole_60 : decode cX11_whole 60 = .ok (.getfield 182, 3) := by decide +kernel
theorem dX11_whole_63 : decode cX11_whole 63 = .ok (.ireturn, 1) := by decide +kernel
theorem dX11_readPayments_0 : decode cX11_readPayments 0 = .ok (.aload_n 0, 1) := by decide +kernel
theorem dX11_readPayments_1 : decode cX11_readPayments 1 = .ok (.invokevirtual 129, 3) := by decide +kernel
theorem dX11_readPayments_4 : decode cX11_readPayments 4 = .ok (.iconst 0, 1) := by decide +kernel
theorem dX11_readPayments_5 : decode cX11_readPayments 5 = .ok (.istore_n 2, 1) := by decide +kernel
theorem dX11_readPayments_6 : decode cX11_readPayments 6 = .ok (.aload_n 0, 1) := by decide +kernel
theorem dX11_readPayments_7 : decode cX11_readPayments 7 = .ok (.invokevirtual 113, 3) := by decide +kernel
theorem dX11_readPayments_10 : decode cX11_readPayments 10 = .ok (.ifCond .eq 148, 3) := by decide +kernel
theorem dX11_readPayments_13 : decode cX11_readPayments 13 = .ok (.aload_n 0, 1) := by decide +kernel
theorem dX11_readPayments_14 : decode cX11_readPayments 14 = .ok (.getfield 107, 3) := by decide +kernel
theorem dX11_readPayments_17 : decode cX11_readPayments 17 = .ok (.aload_n 0, 1) := by decide +kernel
theorem dX11_readPayments_18 : decode cX11_readPayments 18 = .ok (.getfield 104, 3) := by decide +kernel
theorem dX11_readPayments_21 : decode cX11_readPayments 21 = .ok (.if_icmp .ge 137, 3) := by decide +kernel
theorem dX11_readPayments_24 : decode cX11_readPayments 24 = .ok (.iload_n 2, 1) := by decide +kernel
theorem dX11_readPayments_25 : decode cX11_readPayments 25 = .ok (.iload_n 1, 1) := by decide +kernel
theorem dX11_readPayments_26 : decode cX11_readPayments 26 = .ok (.if_icmp .ne 14, 3) := by decide +kernel
theorem dX11_readPayments_29 : decode cX11_readPayments 29 = .ok (.aload_n 0, 1) := by decide +kernel
theorem dX11_readPayments_30 : decode cX11_readPayments 30 = .ok (.aload_n 0, 1) := by decide +kernel
theorem dX11_readPayments_31 : decode cX11_readPayments 31 = .ok (.getfield 107, 3) := by decide +kernel
theorem dX11_readPayments_34 : decode cX11_readPayments 34 = .ok (.invokevirtual 121, 3) := by decide +kernel
theorem dX11_readPayments_37 : decode cX11_readPayments 37 = .ok (.goto (-31), 3) := by decide +kernel
theorem dX11_readPayments_40 : decode cX11_readPayments 40 = .ok (.aload_n 0, 1) := by decide +kernel
theorem dX11_readPayments_41 : decode cX11_readPayments 41 = .ok (.bipush 97, 2) := by decide +kernel
theorem dX11_readPayments_43 : decode cX11_readPayments 43 = .ok (.aload_n 0, 1) := by decide +kernel
theorem dX11_readPayments_44 : decode cX11_readPayments 44 = .ok (.getfield 9, 3) := by decide +kernel
theorem dX11_readPayments_47 : decode cX11_readPayments 47 = .ok (.iconst 0, 1) := by decide +kernel
theorem dX11_readPayments_48 : decode cX11_readPayments 48 = .ok (.iaload, 1) := by decide +kernel
theorem dX11_readPayments_49 : decode cX11_readPayments 49 = .ok (.invokevirtual 125, 3) := by decide +kernel
theorem dX11_readPayments_52 : decode cX11_readPayments 52 = .ok (.istore_n 3, 1) := by decide +kernel
theorem dX11_readPayments_53 : decode cX11_readPayments 53 = .ok (.aload_n 0, 1) := by decide +kernel
theorem dX11_readPayments_54 : decode cX11_readPayments 54 = .ok (.bipush 97, 2) := by decide +kernel
theorem dX11_readPayments_56 : decode cX11_readPayments 56 = .ok (.aload_n 0, 1) := by decide +kernel
theorem dX11_readPayments_57 : decode cX11_readPayments 57 = .ok (.getfield 9, 3) := by decide +kernel
theorem dX11_readPayments_60 : decode cX11_readPayments 60 = .ok (.iconst 0, 1) := by decide +kernel
theorem dX11_readPayments_61 : decode cX11_readPayments 61 = .ok (.iaload, 1) := by decide +kernel
theorem dX11_readPayments_62 : decode cX11_readPayments 62 = .ok (.invokevirtual 125, 3) := by decide +kernel
theorem dX11_readPayments_65 : decode cX11_readPayments 65 = .ok (.istore 4, 2) := by decide +kernel
theorem dX11_readPayments_67 : decode cX11_readPayments 67 = .ok (.aload_n 0, 1) := by decide +kernel
theorem dX11_readPayments_68 : decode cX11_readPayments 68 = .ok (.invokevirtual 113, 3) := by decide +kernel
theorem dX11_readPayments_71 : decode cX11_readPayments 71 = .ok (.ifCond .eq 19, 3) := by decide +kernel
theorem dX11_readPayments_74 : decode cX11_readPayments 74 = .ok (.iload_n 3, 1) := by decide +kernel
theorem dX11_readPayments_75 : decode cX11_readPayments 75 = .ok (.iload 4, 2) := by decide +kernel
theorem dX11_readPayments_77 : decode cX11_readPayments 77 = .ok (.if_icmp .ne 13, 3) := by decide +kernel
theorem dX11_readPayments_80 : decode cX11_readPayments 80 = .ok (.aload_n 0, 1) := by decide +kernel
theorem dX11_readPayments_81 : decode cX11_readPayments 81 = .ok (.aload_n 0, 1) := by decide +kernel
theorem dX11_readPayments_82 : decode cX11_readPayments 82 = .ok (.getfield 107, 3) := by decide +kernel
theorem dX11_readPayments_85 : decode cX11_readPayments 85 = .ok (.iconst 1, 1) := by decide +kernel
theorem dX11_readPayments_86 : decode cX11_readPayments 86 = .ok (.isub, 1) := by decide +kernel
theorem dX11_readPayments_87 : decode cX11_readPayments 87 = .ok (.invokevirtual 121, 3) := by decide +kernel
theorem dX11_readPayments_90 : decode cX11_readPayments 90 = .ok (.aload_n 0, 1) := by decide +kernel
theorem dX11_readPayments_91 : decode cX11_readPayments 91 = .ok (.iconst 4, 1) := by decide +kernel
theorem dX11_readPayments_92 : decode cX11_readPayments 92 = .ok (.invokevirtual 132, 3) := by decide +kernel
theorem dX11_readPayments_95 : decode cX11_readPayments 95 = .ok (.istore 5, 2) := by decide +kernel
theorem dX11_readPayments_97 : decode cX11_readPayments 97 = .ok (.aload_n 0, 1) := by decide +kernel
theorem dX11_readPayments_98 : decode cX11_readPayments 98 = .ok (.invokevirtual 113, 3) := by decide +kernel
theorem dX11_readPayments_101 : decode cX11_readPayments 101 = .ok (.ifCond .eq 18, 3) := by decide +kernel
theorem dX11_readPayments_104 : decode cX11_readPayments 104 = .ok (.iload 5, 2) := by decide +kernel
theorem dX11_readPayments_106 : decode cX11_readPayments 106 = .ok (.ifCond .ne 13, 3) := by decide +kernel
theorem dX11_readPayments_109 : decode cX11_readPayments 109 = .ok (.aload_n 0, 1) := by decide +kernel
theorem dX11_readPayments_110 : decode cX11_readPayments 110 = .ok (.aload_n 0, 1) := by decide +kernel
theorem dX11_readPayments_111 : decode cX11_readPayments 111 = .ok (.getfield 107, 3) := by decide +kernel
theorem dX11_readPayments_114 : decode cX11_readPayments 114 = .ok (.iconst 1, 1) := by decide +kernel
theorem dX11_readPayments_115 : decode cX11_readPayments 115 = .ok (.isub, 1) := by decide +kernel
theorem dX11_readPayments_116 : decode cX11_readPayments 116 = .ok (.invokevirtual 121, 3) := by decide +kernel
theorem dX11_readPayments_119 : decode cX11_readPayments 119 = .ok (.aload_n 0, 1) := by decide +kernel
theorem dX11_readPayments_120 : decode cX11_readPayments 120 = .ok (.getfield 21, 3) := by decide +kernel
theorem dX11_readPayments_123 : decode cX11_readPayments 123 = .ok (.iconst 3, 1) := by decide +kernel
theorem dX11_readPayments_124 : decode cX11_readPayments 124 = .ok (.iload_n 2, 1) := by decide +kernel
theorem dX11_readPayments_125 : decode cX11_readPayments 125 = .ok (.imul, 1) := by decide +kernel
theorem dX11_readPayments_126 : decode cX11_readPayments 126 = .ok (.iload_n 3, 1) := by decide +kernel
theorem dX11_readPayments_127 : decode cX11_readPayments 127 = .ok (.iastore, 1) := by decide +kernel
theorem dX11_readPayments_128 : decode cX11_readPayments 128 = .ok (.aload_n 0, 1) := by decide +kernel
theorem dX11_readPayments_129 : decode cX11_readPayments 129 = .ok (.getfield 21, 3) := by decide +kernel
theorem dX11_readPayments_132 : decode cX11_readPayments 132 = .ok (.iconst 3, 1) := by decide +kernel
theorem dX11_readPayments_133 : decode cX11_readPayments 133 = .ok (.iload_n 2, 1) := by decide +kernel
theorem dX11_readPayments_134 : decode cX11_readPayments 134 = .ok (.imul, 1) := by decide +kernel
theorem dX11_readPayments_135 : decode cX11_readPayments 135 = .ok (.iconst 1, 1) := by decide +kernel
theorem dX11_readPayments_136 : decode cX11_readPayments 136 = .ok (.iadd, 1) := by decide +kernel
theorem dX11_readPayments_137 : decode cX11_readPayments 137 = .ok (.iload 4, 2) := by decide +kernel
theorem dX11_readPayments_139 : decode cX11_readPayments 139 = .ok (.iastore, 1) := by decide +kernel
theorem dX11_readPayments_140 : decode cX11_readPayments 140 = .ok (.aload_n 0, 1) := by decide +kernel
theorem dX11_readPayments_141 : decode cX11_readPayments 141 = .ok (.getfield 21, 3) := by decide +kernel
theorem dX11_readPayments_144 : decode cX11_readPayments 144 = .ok (.iconst 3, 1) := by decide +kernel
theorem dX11_readPayments_145 : decode cX11_readPayments 145 = .ok (.iload_n 2, 1) := by decide +kernel
theorem dX11_readPayments_146 : decode cX11_readPayments 146 = .ok (.imul, 1) := by decide +kernel
theorem dX11_readPayments_147 : decode cX11_readPayments 147 = .ok (.iconst 2, 1) := by decide +kernel
theorem dX11_readPayments_148 : decode cX11_readPayments 148 = .ok (.iadd, 1) := by decide +kernel
theorem dX11_readPayments_149 : decode cX11_readPayments 149 = .ok (.iload 5, 2) := by decide +kernel
theorem dX11_readPayments_151 : decode cX11_readPayments 151 = .ok (.iastore, 1) := by decide +kernel
theorem dX11_readPayments_152 : decode cX11_readPayments 152 = .ok (.iinc 2 1, 3) := by decide +kernel
theorem dX11_readPayments_155 : decode cX11_readPayments 155 = .ok (.goto (-149), 3) := by decide +kernel
theorem dX11_readPayments_158 : decode cX11_readPayments 158 = .ok (.aload_n 0, 1) := by decide +kernel
theorem dX11_readPayments_159 : decode cX11_readPayments 159 = .ok (.invokevirtual 135, 3) := by decide +kernel
theorem dX11_readPayments_162 : decode cX11_readPayments 162 = .ok (.ifCond .eq 7, 3) := by decide +kernel
theorem dX11_readPayments_165 : decode cX11_readPayments 165 = .ok (.iload_n 2, 1) := by decide +kernel
theorem dX11_readPayments_166 : decode cX11_readPayments 166 = .ok (.goto 4, 3) := by decide +kernel
theorem dX11_readPayments_169 : decode cX11_readPayments 169 = .ok (.iconst (-1), 1) := by decide +kernel
theorem dX11_readPayments_170 : decode cX11_readPayments 170 = .ok (.ireturn, 1) := by decide +kernel
theorem dX11_goRead_0 : decode cX11_goRead 0 = .ok (.aload_n 0, 1) := by decide +kernel
theorem dX11_goRead_1 : decode cX11_goRead 1 = .ok (.aload_n 0, 1) := by decide +kernel
theorem dX11_goRead_2 : decode cX11_goRead 2 = .ok (.getfield 21, 3) := by decide +kernel
theorem dX11_goRead_5 : decode cX11_goRead 5 = .ok (.iconst 3, 1) := by decide +kernel
theorem dX11_goRead_6 : decode cX11_goRead 6 = .ok (.iload_n 1, 1) := by decide +kernel
theorem dX11_goRead_7 : decode cX11_goRead 7 = .ok (.imul, 1) := by decide +kernel
theorem dX11_goRead_8 : decode cX11_goRead 8 = .ok (.iaload, 1) := by decide +kernel
theorem dX11_goRead_9 : decode cX11_goRead 9 = .ok (.aload_n 0, 1) := by decide +kernel
theorem dX11_goRead_10 : decode cX11_goRead 10 = .ok (.getfield 21, 3) := by decide +kernel
theorem dX11_goRead_13 : decode cX11_goRead 13 = .ok (.iconst 3, 1) := by decide +kernel
theorem dX11_goRead_14 : decode cX11_goRead 14 = .ok (.iload_n 1, 1) := by decide +kernel
theorem dX11_goRead_15 : decode cX11_goRead 15 = .ok (.imul, 1) := by decide +kernel
theorem dX11_goRead_16 : decode cX11_goRead 16 = .ok (.iconst 1, 1) := by decide +kernel
theorem dX11_goRead_17 : decode cX11_goRead 17 = .ok (.iadd, 1) := by decide +kernel
theorem dX11_goRead_18 : decode cX11_goRead 18 = .ok (.iaload, 1) := by decide +kernel
theorem dX11_goRead_19 : decode cX11_goRead 19 = .ok (.aload_n 0, 1) := by decide +kernel
theorem dX11_goRead_20 : decode cX11_goRead 20 = .ok (.getfield 21, 3) := by decide +kernel
theorem dX11_goRead_23 : decode cX11_goRead 23 = .ok (.iconst 3, 1) := by decide +kernel
theorem dX11_goRead_24 : decode cX11_goRead 24 = .ok (.iload_n 1, 1) := by decide +kernel
theorem dX11_goRead_25 : decode cX11_goRead 25 = .ok (.imul, 1) := by decide +kernel
theorem dX11_goRead_26 : decode cX11_goRead 26 = .ok (.iconst 2, 1) := by decide +kernel
theorem dX11_goRead_27 : decode cX11_goRead 27 = .ok (.iadd, 1) := by decide +kernel
theorem dX11_goRead_28 : decode cX11_goRead 28 = .ok (.iaload, 1) := by decide +kernel
theorem dX11_goRead_29 : decode cX11_goRead 29 = .ok (.invokevirtual 256, 3) := by decide +kernel
theorem dX11_goRead_32 : decode cX11_goRead 32 = .ok (.ireturn, 1) := by decide +kernel
theorem dX11_batch_0 : decode cX11_batch 0 = .ok (.aload_n 0, 1) := by decide +kernel
theorem dX11_batch_1 : decode cX11_batch 1 = .ok (.iconst 0, 1) := by decide +kernel
theorem dX11_batch_2 : decode cX11_batch 2 = .ok (.putfield 68, 3) := by decide +kernel
theorem dX11_batch_5 : decode cX11_batch 5 = .ok (.aload_n 0, 1) := by decide +kernel
theorem dX11_batch_6 : decode cX11_batch 6 = .ok (.bipush 8, 2) := by decide +kernel
theorem dX11_batch_8 : decode cX11_batch 8 = .ok (.invokevirtual 259, 3) := by decide +kernel
theorem dX11_batch_11 : decode cX11_batch 11 = .ok (.istore_n 1, 1) := by decide +kernel
theorem dX11_batch_12 : decode cX11_batch 12 = .ok (.iload_n 1, 1) := by decide +kernel
theorem dX11_batch_13 : decode cX11_batch 13 = .ok (.iconst (-1), 1) := by decide +kernel
theorem dX11_batch_14 : decode cX11_batch 14 = .ok (.if_icmp .ne 10, 3) := by decide +kernel
theorem dX11_batch_17 : decode cX11_batch 17 = .ok (.iconst (-1), 1) := by decide +kernel
theorem dX11_batch_18 : decode cX11_batch 18 = .ok (.aload_n 0, 1) := by decide +kernel
theorem dX11_batch_19 : decode cX11_batch 19 = .ok (.getfield 110, 3) := by decide +kernel
theorem dX11_batch_22 : decode cX11_batch 22 = .ok (.isub, 1) := by decide +kernel
theorem dX11_batch_23 : decode cX11_batch 23 = .ok (.ireturn, 1) := by decide +kernel
theorem dX11_batch_24 : decode cX11_batch 24 = .ok (.aload_n 0, 1) := by decide +kernel
theorem dX11_batch_25 : decode cX11_batch 25 = .ok (.invokevirtual 262, 3) := by decide +kernel
theorem dX11_batch_28 : decode cX11_batch 28 = .ok (.iconst 0, 1) := by decide +kernel
theorem dX11_batch_29 : decode cX11_batch 29 = .ok (.istore_n 2, 1) := by decide +kernel
theorem dX11_batch_30 : decode cX11_batch 30 = .ok (.iload_n 2, 1) := by decide +kernel
theorem dX11_batch_31 : decode cX11_batch 31 = .ok (.iload_n 1, 1) := by decide +kernel
theorem dX11_batch_32 : decode cX11_batch 32 = .ok (.if_icmp .ge 17, 3) := by decide +kernel
theorem dX11_batch_35 : decode cX11_batch 35 = .ok (.aload_n 0, 1) := by decide +kernel
theorem dX11_batch_36 : decode cX11_batch 36 = .ok (.iload_n 2, 1) := by decide +kernel
theorem dX11_batch_37 : decode cX11_batch 37 = .ok (.invokevirtual 265, 3) := by decide +kernel
theorem dX11_batch_40 : decode cX11_batch 40 = .ok (.ifCond .eq 9, 3) := by decide +kernel
theorem dX11_batch_43 : decode cX11_batch 43 = .ok (.iinc 2 1, 3) := by decide +kernel
theorem dX11_batch_46 : decode cX11_batch 46 = .ok (.goto (-16), 3) := by decide +kernel
theorem dX11_batch_49 : decode cX11_batch 49 = .ok (.iload_n 2, 1) := by decide +kernel
theorem dX11_batch_50 : decode cX11_batch 50 = .ok (.iload_n 1, 1) := by decide +kernel
theorem dX11_batch_51 : decode cX11_batch 51 = .ok (.if_icmp .ge 73, 3) := by decide +kernel
theorem dX11_batch_54 : decode cX11_batch 54 = .ok (.aload_n 0, 1) := by decide +kernel
theorem dX11_batch_55 : decode cX11_batch 55 = .ok (.aload_n 0, 1) := by decide +kernel
theorem dX11_batch_56 : decode cX11_batch 56 = .ok (.getfield 21, 3) := by decide +kernel
theorem dX11_batch_59 : decode cX11_batch 59 = .ok (.iconst 3, 1) := by decide +kernel
theorem dX11_batch_60 : decode cX11_batch 60 = .ok (.iload_n 2, 1) := by decide +kernel
theorem dX11_batch_61 : decode cX11_batch 61 = .ok (.imul, 1) := by decide +kernel
theorem dX11_batch_62 : decode cX11_batch 62 = .ok (.iaload, 1) := by decide +kernel
theorem dX11_batch_63 : decode cX11_batch 63 = .ok (.aload_n 0, 1) := by decide +kernel
theorem dX11_batch_64 : decode cX11_batch 64 = .ok (.getfield 21, 3) := by decide +kernel
theorem dX11_batch_67 : decode cX11_batch 67 = .ok (.iconst 3, 1) := by decide +kernel
theorem dX11_batch_68 : decode cX11_batch 68 = .ok (.iload_n 2, 1) := by decide +kernel
theorem dX11_batch_69 : decode cX11_batch 69 = .ok (.imul, 1) := by decide +kernel
theorem dX11_batch_70 : decode cX11_batch 70 = .ok (.iconst 1, 1) := by decide +kernel
theorem dX11_batch_71 : decode cX11_batch 71 = .ok (.iadd, 1) := by decide +kernel
theorem dX11_batch_72 : decode cX11_batch 72 = .ok (.iaload, 1) := by decide +kernel
theorem dX11_batch_73 : decode cX11_batch 73 = .ok (.invokevirtual 235, 3) := by decide +kernel
theorem dX11_batch_76 : decode cX11_batch 76 = .ok (.istore_n 3, 1) := by decide +kernel
theorem dX11_batch_77 : decode cX11_batch 77 = .ok (.iconst 0, 1) := by decide +kernel
theorem dX11_batch_78 : decode cX11_batch 78 = .ok (.istore 4, 2) := by decide +kernel
theorem dX11_batch_80 : decode cX11_batch 80 = .ok (.iload 4, 2) := by decide +kernel
theorem dX11_batch_82 : decode cX11_batch 82 = .ok (.sipush 405, 3) := by decide +kernel
theorem dX11_batch_85 : decode cX11_batch 85 = .ok (.if_icmp .ge 23, 3) := by decide +kernel
theorem dX11_batch_88 : decode cX11_batch 88 = .ok (.aload_n 0, 1) := by decide +kernel
theorem dX11_batch_89 : decode cX11_batch 89 = .ok (.getfield 9, 3) := by decide +kernel
theorem dX11_batch_92 : decode cX11_batch 92 = .ok (.iload 4, 2) := by decide +kernel
theorem dX11_batch_94 : decode cX11_batch 94 = .ok (.aload_n 0, 1) := by decide +kernel
theorem dX11_batch_95 : decode cX11_batch 95 = .ok (.getfield 58, 3) := by decide +kernel
theorem dX11_batch_98 : decode cX11_batch 98 = .ok (.iload 4, 2) := by decide +kernel
theorem dX11_batch_100 : decode cX11_batch 100 = .ok (.iaload, 1) := by decide +kernel
theorem dX11_batch_101 : decode cX11_batch 101 = .ok (.iastore, 1) := by decide +kernel
theorem dX11_batch_102 : decode cX11_batch 102 = .ok (.iinc 4 1, 3) := by decide +kernel
theorem dX11_batch_105 : decode cX11_batch 105 = .ok (.goto (-25), 3) := by decide +kernel
theorem dX11_batch_108 : decode cX11_batch 108 = .ok (.aload_n 0, 1) := by decide +kernel
theorem dX11_batch_109 : decode cX11_batch 109 = .ok (.iconst 0, 1) := by decide +kernel
theorem dX11_batch_110 : decode cX11_batch 110 = .ok (.putfield 71, 3) := by decide +kernel
theorem dX11_batch_113 : decode cX11_batch 113 = .ok (.aload_n 0, 1) := by decide +kernel
theorem dX11_batch_114 : decode cX11_batch 114 = .ok (.iload_n 3, 1) := by decide +kernel
theorem dX11_batch_115 : decode cX11_batch 115 = .ok (.i2l, 1) := by decide +kernel
theorem dX11_batch_116 : decode cX11_batch 116 = .ok (.invokevirtual 155, 3) := by decide +kernel
theorem dX11_batch_119 : decode cX11_batch 119 = .ok (.bipush (-100), 2) := by decide +kernel
theorem dX11_batch_121 : decode cX11_batch 121 = .ok (.iload_n 2, 1) := by decide +kernel
theorem dX11_batch_122 : decode cX11_batch 122 = .ok (.isub, 1) := by decide +kernel
theorem dX11_batch_123 : decode cX11_batch 123 = .ok (.ireturn, 1) := by decide +kernel
theorem dX11_batch_124 : decode cX11_batch 124 = .ok (.iload_n 1, 1) := by decide +kernel
theorem dX11_batch_125 : decode cX11_batch 125 = .ok (.ifCond .le 7, 3) := by decide +kernel
theorem dX11_batch_128 : decode cX11_batch 128 = .ok (.aload_n 0, 1) := by decide +kernel
theorem dX11_batch_129 : decode cX11_batch 129 = .ok (.invokevirtual 268, 3) := by decide +kernel
theorem dX11_batch_132 : decode cX11_batch 132 = .ok (.iload_n 1, 1) := by decide +kernel
theorem dX11_batch_133 : decode cX11_batch 133 = .ok (.ireturn, 1) := by decide +kernel
theorem dX11_tryOrders_0 : decode cX11_tryOrders 0 = .ok (.iload_n 1, 1) := by decide +kernel
theorem dX11_tryOrders_1 : decode cX11_tryOrders 1 = .ok (.iload_n 3, 1) := by decide +kernel
theorem dX11_tryOrders_2 : decode cX11_tryOrders 2 = .ok (.if_icmp .ne 50, 3) := by decide +kernel
theorem dX11_tryOrders_5 : decode cX11_tryOrders 5 = .ok (.iconst 0, 1) := by decide +kernel
theorem dX11_tryOrders_6 : decode cX11_tryOrders 6 = .ok (.istore 4, 2) := by decide +kernel
theorem dX11_tryOrders_8 : decode cX11_tryOrders 8 = .ok (.iload 4, 2) := by decide +kernel
theorem dX11_tryOrders_10 : decode cX11_tryOrders 10 = .ok (.iload_n 3, 1) := by decide +kernel
theorem dX11_tryOrders_11 : decode cX11_tryOrders 11 = .ok (.if_icmp .ge 30, 3) := by decide +kernel
theorem dX11_tryOrders_14 : decode cX11_tryOrders 14 = .ok (.aload_n 0, 1) := by decide +kernel
theorem dX11_tryOrders_15 : decode cX11_tryOrders 15 = .ok (.getfield 271, 3) := by decide +kernel
theorem dX11_tryOrders_18 : decode cX11_tryOrders 18 = .ok (.ifCond .ne 23, 3) := by decide +kernel
theorem dX11_tryOrders_21 : decode cX11_tryOrders 21 = .ok (.aload_n 0, 1) := by decide +kernel
theorem dX11_tryOrders_22 : decode cX11_tryOrders 22 = .ok (.getfield 46, 3) := by decide +kernel
theorem dX11_tryOrders_25 : decode cX11_tryOrders 25 = .ok (.iload 4, 2) := by decide +kernel
theorem dX11_tryOrders_27 : decode cX11_tryOrders 27 = .ok (.aload_n 0, 1) := by decide +kernel
theorem dX11_tryOrders_28 : decode cX11_tryOrders 28 = .ok (.getfield 43, 3) := by decide +kernel
theorem dX11_tryOrders_31 : decode cX11_tryOrders 31 = .ok (.iload 4, 2) := by decide +kernel
theorem dX11_tryOrders_33 : decode cX11_tryOrders 33 = .ok (.iaload, 1) := by decide +kernel
theorem dX11_tryOrders_34 : decode cX11_tryOrders 34 = .ok (.iastore, 1) := by decide +kernel
theorem dX11_tryOrders_35 : decode cX11_tryOrders 35 = .ok (.iinc 4 1, 3) := by decide +kernel
theorem dX11_tryOrders_38 : decode cX11_tryOrders 38 = .ok (.goto (-30), 3) := by decide +kernel
theorem dX11_tryOrders_41 : decode cX11_tryOrders 41 = .ok (.aload_n 0, 1) := by decide +kernel
theorem dX11_tryOrders_42 : decode cX11_tryOrders 42 = .ok (.dup, 1) := by decide +kernel
theorem dX11_tryOrders_43 : decode cX11_tryOrders 43 = .ok (.getfield 271, 3) := by decide +kernel
theorem dX11_tryOrders_46 : decode cX11_tryOrders 46 = .ok (.iconst 1, 1) := by decide +kernel
theorem dX11_tryOrders_47 : decode cX11_tryOrders 47 = .ok (.iadd, 1) := by decide +kernel
theorem dX11_tryOrders_48 : decode cX11_tryOrders 48 = .ok (.putfield 271, 3) := by decide +kernel
theorem dX11_tryOrders_51 : decode cX11_tryOrders 51 = .ok (.return_, 1) := by decide +kernel
theorem dX11_tryOrders_52 : decode cX11_tryOrders 52 = .ok (.iconst 0, 1) := by decide +kernel
theorem dX11_tryOrders_53 : decode cX11_tryOrders 53 = .ok (.istore 4, 2) := by decide +kernel
theorem dX11_tryOrders_55 : decode cX11_tryOrders 55 = .ok (.iload 4, 2) := by decide +kernel
theorem dX11_tryOrders_57 : decode cX11_tryOrders 57 = .ok (.sipush 405, 3) := by decide +kernel
theorem dX11_tryOrders_60 : decode cX11_tryOrders 60 = .ok (.if_icmp .ge 29, 3) := by decide +kernel
theorem dX11_tryOrders_63 : decode cX11_tryOrders 63 = .ok (.aload_n 0, 1) := by decide +kernel
theorem dX11_tryOrders_64 : decode cX11_tryOrders 64 = .ok (.getfield 49, 3) := by decide +kernel
theorem dX11_tryOrders_67 : decode cX11_tryOrders 67 = .ok (.sipush 405, 3) := by decide +kernel
theorem dX11_tryOrders_70 : decode cX11_tryOrders 70 = .ok (.iload_n 1, 1) := by decide +kernel
theorem dX11_tryOrders_71 : decode cX11_tryOrders 71 = .ok (.imul, 1) := by decide +kernel
theorem dX11_tryOrders_72 : decode cX11_tryOrders 72 = .ok (.iload 4, 2) := by decide +kernel
theorem dX11_tryOrders_74 : decode cX11_tryOrders 74 = .ok (.iadd, 1) := by decide +kernel
theorem dX11_tryOrders_75 : decode cX11_tryOrders 75 = .ok (.aload_n 0, 1) := by decide +kernel
theorem dX11_tryOrders_76 : decode cX11_tryOrders 76 = .ok (.getfield 9, 3) := by decide +kernel
theorem dX11_tryOrders_79 : decode cX11_tryOrders 79 = .ok (.iload 4, 2) := by decide +kernel
theorem dX11_tryOrders_81 : decode cX11_tryOrders 81 = .ok (.iaload, 1) := by decide +kernel
theorem dX11_tryOrders_82 : decode cX11_tryOrders 82 = .ok (.iastore, 1) := by decide +kernel
theorem dX11_tryOrders_83 : decode cX11_tryOrders 83 = .ok (.iinc 4 1, 3) := by decide +kernel
theorem dX11_tryOrders_86 : decode cX11_tryOrders 86 = .ok (.goto (-31), 3) := by decide +kernel
theorem dX11_tryOrders_89 : decode cX11_tryOrders 89 = .ok (.iconst 0, 1) := by decide +kernel
theorem dX11_tryOrders_90 : decode cX11_tryOrders 90 = .ok (.istore 4, 2) := by decide +kernel
theorem dX11_tryOrders_92 : decode cX11_tryOrders 92 = .ok (.iload 4, 2) := by decide +kernel
theorem dX11_tryOrders_94 : decode cX11_tryOrders 94 = .ok (.iload_n 3, 1) := by decide +kernel
theorem dX11_tryOrders_95 : decode cX11_tryOrders 95 = .ok (.if_icmp .ge 90, 3) := by decide +kernel
theorem dX11_tryOrders_98 : decode cX11_tryOrders 98 = .ok (.iload_n 2, 1) := by decide +kernel
theorem dX11_tryOrders_99 : decode cX11_tryOrders 99 = .ok (.iload 4, 2) := by decide +kernel
theorem dX11_tryOrders_101 : decode cX11_tryOrders 101 = .ok (.ishr, 1) := by decide +kernel
theorem dX11_tryOrders_102 : decode cX11_tryOrders 102 = .ok (.iconst 1, 1) := by decide +kernel
theorem dX11_tryOrders_103 : decode cX11_tryOrders 103 = .ok (.iand, 1) := by decide +kernel
theorem dX11_tryOrders_104 : decode cX11_tryOrders 104 = .ok (.iconst 1, 1) := by decide +kernel
theorem dX11_tryOrders_105 : decode cX11_tryOrders 105 = .ok (.if_icmp .ne 6, 3) := by decide +kernel
theorem dX11_tryOrders_108 : decode cX11_tryOrders 108 = .ok (.goto 71, 3) := by decide +kernel
theorem dX11_tryOrders_111 : decode cX11_tryOrders 111 = .ok (.aload_n 0, 1) := by decide +kernel
theorem dX11_tryOrders_112 : decode cX11_tryOrders 112 = .ok (.getfield 43, 3) := by decide +kernel
theorem dX11_tryOrders_115 : decode cX11_tryOrders 115 = .ok (.iload_n 1, 1) := by decide +kernel
theorem dX11_tryOrders_116 : decode cX11_tryOrders 116 = .ok (.iload 4, 2) := by decide +kernel
theorem dX11_tryOrders_118 : decode cX11_tryOrders 118 = .ok (.iastore, 1) := by decide +kernel
theorem dX11_tryOrders_119 : decode cX11_tryOrders 119 = .ok (.aload_n 0, 1) := by decide +kernel
theorem dX11_tryOrders_120 : decode cX11_tryOrders 120 = .ok (.iload 4, 2) := by decide +kernel
theorem dX11_tryOrders_122 : decode cX11_tryOrders 122 = .ok (.invokevirtual 265, 3) := by decide +kernel
theorem dX11_tryOrders_125 : decode cX11_tryOrders 125 = .ok (.ifCond .eq 17, 3) := by decide +kernel
theorem dX11_tryOrders_128 : decode cX11_tryOrders 128 = .ok (.aload_n 0, 1) := by decide +kernel
theorem dX11_tryOrders_129 : decode cX11_tryOrders 129 = .ok (.iload_n 1, 1) := by decide +kernel
theorem dX11_tryOrders_130 : decode cX11_tryOrders 130 = .ok (.iconst 1, 1) := by decide +kernel
theorem dX11_tryOrders_131 : decode cX11_tryOrders 131 = .ok (.iadd, 1) := by decide +kernel
theorem dX11_tryOrders_132 : decode cX11_tryOrders 132 = .ok (.iload_n 2, 1) := by decide +kernel
theorem dX11_tryOrders_133 : decode cX11_tryOrders 133 = .ok (.iconst 1, 1) := by decide +kernel
theorem dX11_tryOrders_134 : decode cX11_tryOrders 134 = .ok (.iload 4, 2) := by decide +kernel
theorem dX11_tryOrders_136 : decode cX11_tryOrders 136 = .ok (.ishl, 1) := by decide +kernel
theorem dX11_tryOrders_137 : decode cX11_tryOrders 137 = .ok (.ior, 1) := by decide +kernel
theorem dX11_tryOrders_138 : decode cX11_tryOrders 138 = .ok (.iload_n 3, 1) := by decide +kernel
theorem dX11_tryOrders_139 : decode cX11_tryOrders 139 = .ok (.invokevirtual 274, 3) := by decide +kernel
theorem dX11_tryOrders_142 : decode cX11_tryOrders 142 = .ok (.iconst 0, 1) := by decide +kernel
theorem dX11_tryOrders_143 : decode cX11_tryOrders 143 = .ok (.istore 5, 2) := by decide +kernel
theorem dX11_tryOrders_145 : decode cX11_tryOrders 145 = .ok (.iload 5, 2) := by decide +kernel
theorem dX11_tryOrders_147 : decode cX11_tryOrders 147 = .ok (.sipush 405, 3) := by decide +kernel
theorem dX11_tryOrders_150 : decode cX11_tryOrders 150 = .ok (.if_icmp .ge 29, 3) := by decide +kernel
theorem dX11_tryOrders_153 : decode cX11_tryOrders 153 = .ok (.aload_n 0, 1) := by decide +kernel
theorem dX11_tryOrders_154 : decode cX11_tryOrders 154 = .ok (.getfield 9, 3) := by decide +kernel
theorem dX11_tryOrders_157 : decode cX11_tryOrders 157 = .ok (.iload 5, 2) := by decide +kernel
theorem dX11_tryOrders_159 : decode cX11_tryOrders 159 = .ok (.aload_n 0, 1) := by decide +kernel
theorem dX11_tryOrders_160 : decode cX11_tryOrders 160 = .ok (.getfield 49, 3) := by decide +kernel
theorem dX11_tryOrders_163 : decode cX11_tryOrders 163 = .ok (.sipush 405, 3) := by decide +kernel
theorem dX11_tryOrders_166 : decode cX11_tryOrders 166 = .ok (.iload_n 1, 1) := by decide +kernel
theorem dX11_tryOrders_167 : decode cX11_tryOrders 167 = .ok (.imul, 1) := by decide +kernel
theorem dX11_tryOrders_168 : decode cX11_tryOrders 168 = .ok (.iload 5, 2) := by decide +kernel
theorem dX11_tryOrders_170 : decode cX11_tryOrders 170 = .ok (.iadd, 1) := by decide +kernel
theorem dX11_tryOrders_171 : decode cX11_tryOrders 171 = .ok (.iaload, 1) := by decide +kernel
theorem dX11_tryOrders_172 : decode cX11_tryOrders 172 = .ok (.iastore, 1) := by decide +kernel
theorem dX11_tryOrders_173 : decode cX11_tryOrders 173 = .ok (.iinc 5 1, 3) := by decide +kernel
theorem dX11_tryOrders_176 : decode cX11_tryOrders 176 = .ok (.goto (-31), 3) := by decide +kernel
theorem dX11_tryOrders_179 : decode cX11_tryOrders 179 = .ok (.iinc 4 1, 3) := by decide +kernel
theorem dX11_tryOrders_182 : decode cX11_tryOrders 182 = .ok (.goto (-90), 3) := by decide +kernel
theorem dX11_tryOrders_185 : decode cX11_tryOrders 185 = .ok (.return_, 1) := by decide +kernel
theorem dX11_orders_0 : decode cX11_orders 0 = .ok (.aload_n 0, 1) := by decide +kernel
theorem dX11_orders_1 : decode cX11_orders 1 = .ok (.iconst 0, 1) := by decide +kernel
theorem dX11_orders_2 : decode cX11_orders 2 = .ok (.putfield 68, 3) := by decide +kernel
theorem dX11_orders_5 : decode cX11_orders 5 = .ok (.aload_n 0, 1) := by decide +kernel
theorem dX11_orders_6 : decode cX11_orders 6 = .ok (.iconst 5, 1) := by decide +kernel
theorem dX11_orders_7 : decode cX11_orders 7 = .ok (.invokevirtual 259, 3) := by decide +kernel
theorem dX11_orders_10 : decode cX11_orders 10 = .ok (.istore_n 1, 1) := by decide +kernel
theorem dX11_orders_11 : decode cX11_orders 11 = .ok (.iload_n 1, 1) := by decide +kernel
theorem dX11_orders_12 : decode cX11_orders 12 = .ok (.iconst (-1), 1) := by decide +kernel
theorem dX11_orders_13 : decode cX11_orders 13 = .ok (.if_icmp .ne 10, 3) := by decide +kernel
theorem dX11_orders_16 : decode cX11_orders 16 = .ok (.iconst (-1), 1) := by decide +kernel
theorem dX11_orders_17 : decode cX11_orders 17 = .ok (.aload_n 0, 1) := by decide +kernel
theorem dX11_orders_18 : decode cX11_orders 18 = .ok (.getfield 110, 3) := by decide +kernel
theorem dX11_orders_21 : decode cX11_orders 21 = .ok (.isub, 1) := by decide +kernel
theorem dX11_orders_22 : decode cX11_orders 22 = .ok (.ireturn, 1) := by decide +kernel
theorem dX11_orders_23 : decode cX11_orders 23 = .ok (.aload_n 0, 1) := by decide +kernel
theorem dX11_orders_24 : decode cX11_orders 24 = .ok (.iconst 0, 1) := by decide +kernel
theorem dX11_orders_25 : decode cX11_orders 25 = .ok (.putfield 271, 3) := by decide +kernel
theorem dX11_orders_28 : decode cX11_orders 28 = .ok (.aload_n 0, 1) := by decide +kernel
theorem dX11_orders_29 : decode cX11_orders 29 = .ok (.iconst 0, 1) := by decide +kernel
theorem dX11_orders_30 : decode cX11_orders 30 = .ok (.iconst 0, 1) := by decide +kernel
theorem dX11_orders_31 : decode cX11_orders 31 = .ok (.iload_n 1, 1) := by decide +kernel
theorem dX11_orders_32 : decode cX11_orders 32 = .ok (.invokevirtual 274, 3) := by decide +kernel
theorem dX11_orders_35 : decode cX11_orders 35 = .ok (.aload_n 0, 1) := by decide +kernel
theorem dX11_orders_36 : decode cX11_orders 36 = .ok (.getfield 271, 3) := by decide +kernel
theorem dX11_orders_39 : decode cX11_orders 39 = .ok (.ifCond .ne 7, 3) := by decide +kernel
theorem dX11_orders_42 : decode cX11_orders 42 = .ok (.sipush (-200), 3) := by decide +kernel
theorem dX11_orders_45 : decode cX11_orders 45 = .ok (.ireturn, 1) := by decide +kernel
theorem dX11_orders_46 : decode cX11_orders 46 = .ok (.aload_n 0, 1) := by decide +kernel
theorem dX11_orders_47 : decode cX11_orders 47 = .ok (.iconst 0, 1) := by decide +kernel
theorem dX11_orders_48 : decode cX11_orders 48 = .ok (.putfield 71, 3) := by decide +kernel
theorem dX11_orders_51 : decode cX11_orders 51 = .ok (.iconst 0, 1) := by decide +kernel
theorem dX11_orders_52 : decode cX11_orders 52 = .ok (.istore_n 2, 1) := by decide +kernel
theorem dX11_orders_53 : decode cX11_orders 53 = .ok (.iload_n 2, 1) := by decide +kernel
theorem dX11_orders_54 : decode cX11_orders 54 = .ok (.iload_n 1, 1) := by decide +kernel
theorem dX11_orders_55 : decode cX11_orders 55 = .ok (.if_icmp .ge 20, 3) := by decide +kernel
theorem dX11_orders_58 : decode cX11_orders 58 = .ok (.aload_n 0, 1) := by decide +kernel
theorem dX11_orders_59 : decode cX11_orders 59 = .ok (.aload_n 0, 1) := by decide +kernel
theorem dX11_orders_60 : decode cX11_orders 60 = .ok (.getfield 46, 3) := by decide +kernel
theorem dX11_orders_63 : decode cX11_orders 63 = .ok (.iload_n 2, 1) := by decide +kernel
theorem dX11_orders_64 : decode cX11_orders 64 = .ok (.iaload, 1) := by decide +kernel
theorem dX11_orders_65 : decode cX11_orders 65 = .ok (.i2l, 1) := by decide +kernel
theorem dX11_orders_66 : decode cX11_orders 66 = .ok (.invokevirtual 155, 3) := by decide +kernel
theorem dX11_orders_69 : decode cX11_orders 69 = .ok (.iinc 2 1, 3) := by decide +kernel
theorem dX11_orders_72 : decode cX11_orders 72 = .ok (.goto (-19), 3) := by decide +kernel
theorem dX11_orders_75 : decode cX11_orders 75 = .ok (.aload_n 0, 1) := by decide +kernel
theorem dX11_orders_76 : decode cX11_orders 76 = .ok (.aload_n 0, 1) := by decide +kernel
theorem dX11_orders_77 : decode cX11_orders 77 = .ok (.getfield 271, 3) := by decide +kernel
theorem dX11_orders_80 : decode cX11_orders 80 = .ok (.i2l, 1) := by decide +kernel
theorem dX11_orders_81 : decode cX11_orders 81 = .ok (.invokevirtual 155, 3) := by decide +kernel
theorem dX11_orders_84 : decode cX11_orders 84 = .ok (.iload_n 1, 1) := by decide +kernel
theorem dX11_orders_85 : decode cX11_orders 85 = .ok (.ireturn, 1) := by decide +kernel
theorem dX11_settles_0 : decode cX11_settles 0 = .ok (.aload_n 0, 1) := by decide +kernel
theorem dX11_settles_1 : decode cX11_settles 1 = .ok (.iconst 0, 1) := by decide +kernel
theorem dX11_settles_2 : decode cX11_settles 2 = .ok (.putfield 68, 3) := by decide +kernel
theorem dX11_settles_5 : decode cX11_settles 5 = .ok (.aload_n 0, 1) := by decide +kernel
theorem dX11_settles_6 : decode cX11_settles 6 = .ok (.invokevirtual 144, 3) := by decide +kernel
theorem dX11_settles_9 : decode cX11_settles 9 = .ok (.ifCond .eq 6, 3) := by decide +kernel
theorem dX11_settles_12 : decode cX11_settles 12 = .ok (.bipush (-5), 2) := by decide +kernel
theorem dX11_settles_14 : decode cX11_settles 14 = .ok (.ireturn, 1) := by decide +kernel
theorem dX11_settles_15 : decode cX11_settles 15 = .ok (.aload_n 0, 1) := by decide +kernel
theorem dX11_settles_16 : decode cX11_settles 16 = .ok (.invokevirtual 244, 3) := by decide +kernel
theorem dX11_settles_19 : decode cX11_settles 19 = .ok (.ifCond .ne 6, 3) := by decide +kernel
theorem dX11_settles_22 : decode cX11_settles 22 = .ok (.bipush (-2), 2) := by decide +kernel
theorem dX11_settles_24 : decode cX11_settles 24 = .ok (.ireturn, 1) := by decide +kernel
theorem dX11_settles_25 : decode cX11_settles 25 = .ok (.aload_n 0, 1) := by decide +kernel
theorem dX11_settles_26 : decode cX11_settles 26 = .ok (.invokevirtual 138, 3) := by decide +kernel
theorem dX11_settles_29 : decode cX11_settles 29 = .ok (.aload_n 0, 1) := by decide +kernel
theorem dX11_settles_30 : decode cX11_settles 30 = .ok (.invokevirtual 172, 3) := by decide +kernel
theorem dX11_settles_33 : decode cX11_settles 33 = .ok (.istore_n 1, 1) := by decide +kernel
theorem dX11_settles_34 : decode cX11_settles 34 = .ok (.aload_n 0, 1) := by decide +kernel
theorem dX11_settles_35 : decode cX11_settles 35 = .ok (.invokevirtual 250, 3) := by decide +kernel
theorem dX11_settles_38 : decode cX11_settles 38 = .ok (.istore_n 2, 1) := by decide +kernel
theorem dX11_settles_39 : decode cX11_settles 39 = .ok (.aload_n 0, 1) := by decide +kernel
theorem dX11_settles_40 : decode cX11_settles 40 = .ok (.iconst 0, 1) := by decide +kernel
theorem dX11_settles_41 : decode cX11_settles 41 = .ok (.putfield 71, 3) := by decide +kernel
theorem dX11_settles_44 : decode cX11_settles 44 = .ok (.aload_n 0, 1) := by decide +kernel
theorem dX11_settles_45 : decode cX11_settles 45 = .ok (.iload_n 1, 1) := by decide +kernel
theorem dX11_settles_46 : decode cX11_settles 46 = .ok (.aload_n 0, 1) := by decide +kernel
theorem dX11_settles_47 : decode cX11_settles 47 = .ok (.invokevirtual 172, 3) := by decide +kernel
theorem dX11_settles_50 : decode cX11_settles 50 = .ok (.isub, 1) := by decide +kernel
theorem dX11_settles_51 : decode cX11_settles 51 = .ok (.i2l, 1) := by decide +kernel
theorem dX11_settles_52 : decode cX11_settles 52 = .ok (.invokevirtual 155, 3) := by decide +kernel
theorem dX11_settles_55 : decode cX11_settles 55 = .ok (.iload_n 2, 1) := by decide +kernel
theorem dX11_settles_56 : decode cX11_settles 56 = .ok (.ireturn, 1) := by decide +kernel
theorem dX11_freePlace_0 : decode cX11_freePlace 0 = .ok (.iconst 0, 1) := by decide +kernel
theorem dX11_freePlace_1 : decode cX11_freePlace 1 = .ok (.istore_n 1, 1) := by decide +kernel
theorem dX11_freePlace_2 : decode cX11_freePlace 2 = .ok (.iload_n 1, 1) := by decide +kernel
theorem dX11_freePlace_3 : decode cX11_freePlace 3 = .ok (.iconst 4, 1) := by decide +kernel
theorem dX11_freePlace_4 : decode cX11_freePlace 4 = .ok (.if_icmp .ge 23, 3) := by decide +kernel
theorem dX11_freePlace_7 : decode cX11_freePlace 7 = .ok (.aload_n 0, 1) := by decide +kernel
theorem dX11_freePlace_8 : decode cX11_freePlace 8 = .ok (.getfield 9, 3) := by decide +kernel
theorem dX11_freePlace_11 : decode cX11_freePlace 11 = .ok (.iload_n 1, 1) := by decide +kernel
theorem dX11_freePlace_12 : decode cX11_freePlace 12 = .ok (.invokestatic 91, 3) := by decide +kernel
theorem dX11_freePlace_15 : decode cX11_freePlace 15 = .ok (.iconst 2, 1) := by decide +kernel
theorem dX11_freePlace_16 : decode cX11_freePlace 16 = .ok (.iadd, 1) := by decide +kernel
theorem dX11_freePlace_17 : decode cX11_freePlace 17 = .ok (.iaload, 1) := by decide +kernel
theorem dX11_freePlace_18 : decode cX11_freePlace 18 = .ok (.ifCond .le 9, 3) := by decide +kernel
theorem dX11_freePlace_21 : decode cX11_freePlace 21 = .ok (.iinc 1 1, 3) := by decide +kernel
theorem dX11_freePlace_24 : decode cX11_freePlace 24 = .ok (.goto (-22), 3) := by decide +kernel
theorem dX11_freePlace_27 : decode cX11_freePlace 27 = .ok (.iload_n 1, 1) := by decide +kernel
theorem dX11_freePlace_28 : decode cX11_freePlace 28 = .ok (.ireturn, 1) := by decide +kernel
theorem dX11_hold_0 : decode cX11_hold 0 = .ok (.aload_n 0, 1) := by decide +kernel
theorem dX11_hold_1 : decode cX11_hold 1 = .ok (.iconst 1, 1) := by decide +kernel
theorem dX11_hold_2 : decode cX11_hold 2 = .ok (.invokevirtual 219, 3) := by decide +kernel
theorem dX11_hold_5 : decode cX11_hold 5 = .ok (.aload_n 0, 1) := by decide +kernel
theorem dX11_hold_6 : decode cX11_hold 6 = .ok (.iload_n 2, 1) := by decide +kernel
theorem dX11_hold_7 : decode cX11_hold 7 = .ok (.iload_n 3, 1) := by decide +kernel
theorem dX11_hold_8 : decode cX11_hold 8 = .ok (.iload 4, 2) := by decide +kernel
theorem dX11_hold_10 : decode cX11_hold 10 = .ok (.iconst 0, 1) := by decide +kernel
theorem dX11_hold_11 : decode cX11_hold 11 = .ok (.invokevirtual 225, 3) := by decide +kernel
theorem dX11_hold_14 : decode cX11_hold 14 = .ok (.istore 5, 2) := by decide +kernel
theorem dX11_hold_16 : decode cX11_hold 16 = .ok (.iload_n 1, 1) := by decide +kernel
theorem dX11_hold_17 : decode cX11_hold 17 = .ok (.invokestatic 91, 3) := by decide +kernel
theorem dX11_hold_20 : decode cX11_hold 20 = .ok (.istore 6, 2) := by decide +kernel
theorem dX11_hold_22 : decode cX11_hold 22 = .ok (.iconst 0, 1) := by decide +kernel
theorem dX11_hold_23 : decode cX11_hold 23 = .ok (.istore 7, 2) := by decide +kernel
theorem dX11_hold_25 : decode cX11_hold 25 = .ok (.iload 7, 2) := by decide +kernel
theorem dX11_hold_27 : decode cX11_hold 27 = .ok (.bipush 64, 2) := by decide +kernel
theorem dX11_hold_29 : decode cX11_hold 29 = .ok (.if_icmp .ge 38, 3) := by decide +kernel
theorem dX11_hold_32 : decode cX11_hold 32 = .ok (.aload_n 0, 1) := by decide +kernel
theorem dX11_hold_33 : decode cX11_hold 33 = .ok (.getfield 52, 3) := by decide +kernel
theorem dX11_hold_36 : decode cX11_hold 36 = .ok (.iload 7, 2) := by decide +kernel
theorem dX11_hold_38 : decode cX11_hold 38 = .ok (.aload_n 0, 1) := by decide +kernel
theorem dX11_hold_39 : decode cX11_hold 39 = .ok (.getfield 9, 3) := by decide +kernel
theorem dX11_hold_42 : decode cX11_hold 42 = .ok (.bipush 65, 2) := by decide +kernel
theorem dX11_hold_44 : decode cX11_hold 44 = .ok (.iload 7, 2) := by decide +kernel
theorem dX11_hold_46 : decode cX11_hold 46 = .ok (.iadd, 1) := by decide +kernel
theorem dX11_hold_47 : decode cX11_hold 47 = .ok (.iaload, 1) := by decide +kernel
theorem dX11_hold_48 : decode cX11_hold 48 = .ok (.aload_n 0, 1) := by decide +kernel
theorem dX11_hold_49 : decode cX11_hold 49 = .ok (.getfield 37, 3) := by decide +kernel
theorem dX11_hold_52 : decode cX11_hold 52 = .ok (.sipush 470, 3) := by decide +kernel
theorem dX11_hold_55 : decode cX11_hold 55 = .ok (.iload 7, 2) := by decide +kernel
theorem dX11_hold_57 : decode cX11_hold 57 = .ok (.iadd, 1) := by decide +kernel
theorem dX11_hold_58 : decode cX11_hold 58 = .ok (.iaload, 1) := by decide +kernel
theorem dX11_hold_59 : decode cX11_hold 59 = .ok (.isub, 1) := by decide +kernel
theorem dX11_hold_60 : decode cX11_hold 60 = .ok (.iastore, 1) := by decide +kernel
theorem dX11_hold_61 : decode cX11_hold 61 = .ok (.iinc 7 1, 3) := by decide +kernel
theorem dX11_hold_64 : decode cX11_hold 64 = .ok (.goto (-39), 3) := by decide +kernel
theorem dX11_hold_67 : decode cX11_hold 67 = .ok (.aload_n 0, 1) := by decide +kernel
theorem dX11_hold_68 : decode cX11_hold 68 = .ok (.iconst 1, 1) := by decide +kernel
theorem dX11_hold_69 : decode cX11_hold 69 = .ok (.invokevirtual 232, 3) := by decide +kernel
theorem dX11_hold_72 : decode cX11_hold 72 = .ok (.aload_n 0, 1) := by decide +kernel
theorem dX11_hold_73 : decode cX11_hold 73 = .ok (.getfield 9, 3) := by decide +kernel
theorem dX11_hold_76 : decode cX11_hold 76 = .ok (.iload 6, 2) := by decide +kernel
theorem dX11_hold_78 : decode cX11_hold 78 = .ok (.iload_n 2, 1) := by decide +kernel
theorem dX11_hold_79 : decode cX11_hold 79 = .ok (.iastore, 1) := by decide +kernel
theorem dX11_hold_80 : decode cX11_hold 80 = .ok (.aload_n 0, 1) := by decide +kernel
theorem dX11_hold_81 : decode cX11_hold 81 = .ok (.getfield 9, 3) := by decide +kernel
theorem dX11_hold_84 : decode cX11_hold 84 = .ok (.iload 6, 2) := by decide +kernel
theorem dX11_hold_86 : decode cX11_hold 86 = .ok (.iconst 1, 1) := by decide +kernel
theorem dX11_hold_87 : decode cX11_hold 87 = .ok (.iadd, 1) := by decide +kernel
theorem dX11_hold_88 : decode cX11_hold 88 = .ok (.iload_n 3, 1) := by decide +kernel
theorem dX11_hold_89 : decode cX11_hold 89 = .ok (.iastore, 1) := by decide +kernel
theorem dX11_hold_90 : decode cX11_hold 90 = .ok (.aload_n 0, 1) := by decide +kernel
theorem dX11_hold_91 : decode cX11_hold 91 = .ok (.getfield 9, 3) := by decide +kernel
theorem dX11_hold_94 : decode cX11_hold 94 = .ok (.iload 6, 2) := by decide +kernel
theorem dX11_hold_96 : decode cX11_hold 96 = .ok (.iconst 2, 1) := by decide +kernel
theorem dX11_hold_97 : decode cX11_hold 97 = .ok (.iadd, 1) := by decide +kernel
theorem dX11_hold_98 : decode cX11_hold 98 = .ok (.iload 5, 2) := by decide +kernel
theorem dX11_hold_100 : decode cX11_hold 100 = .ok (.iastore, 1) := by decide +kernel
theorem dX11_hold_101 : decode cX11_hold 101 = .ok (.iconst 0, 1) := by decide +kernel
theorem dX11_hold_102 : decode cX11_hold 102 = .ok (.istore 7, 2) := by decide +kernel
theorem dX11_hold_104 : decode cX11_hold 104 = .ok (.iload 7, 2) := by decide +kernel
theorem dX11_hold_106 : decode cX11_hold 106 = .ok (.bipush 64, 2) := by decide +kernel
theorem dX11_hold_108 : decode cX11_hold 108 = .ok (.if_icmp .ge 28, 3) := by decide +kernel
theorem dX11_hold_111 : decode cX11_hold 111 = .ok (.aload_n 0, 1) := by decide +kernel
theorem dX11_hold_112 : decode cX11_hold 112 = .ok (.getfield 9, 3) := by decide +kernel
theorem dX11_hold_115 : decode cX11_hold 115 = .ok (.iload 6, 2) := by decide +kernel
theorem dX11_hold_117 : decode cX11_hold 117 = .ok (.iconst 3, 1) := by decide +kernel
theorem dX11_hold_118 : decode cX11_hold 118 = .ok (.iadd, 1) := by decide +kernel
theorem dX11_hold_119 : decode cX11_hold 119 = .ok (.iload 7, 2) := by decide +kernel
theorem dX11_hold_121 : decode cX11_hold 121 = .ok (.iadd, 1) := by decide +kernel
theorem dX11_hold_122 : decode cX11_hold 122 = .ok (.aload_n 0, 1) := by decide +kernel
theorem dX11_hold_123 : decode cX11_hold 123 = .ok (.getfield 52, 3) := by decide +kernel
theorem dX11_hold_126 : decode cX11_hold 126 = .ok (.iload 7, 2) := by decide +kernel
theorem dX11_hold_128 : decode cX11_hold 128 = .ok (.iaload, 1) := by decide +kernel
theorem dX11_hold_129 : decode cX11_hold 129 = .ok (.iastore, 1) := by decide +kernel
theorem dX11_hold_130 : decode cX11_hold 130 = .ok (.iinc 7 1, 3) := by decide +kernel
theorem dX11_hold_133 : decode cX11_hold 133 = .ok (.goto (-29), 3) := by decide +kernel
theorem dX11_hold_136 : decode cX11_hold 136 = .ok (.return_, 1) := by decide +kernel
theorem dX11_holds_0 : decode cX11_holds 0 = .ok (.aload_n 0, 1) := by decide +kernel
theorem dX11_holds_1 : decode cX11_holds 1 = .ok (.iconst 0, 1) := by decide +kernel
theorem dX11_holds_2 : decode cX11_holds 2 = .ok (.putfield 68, 3) := by decide +kernel
theorem dX11_holds_5 : decode cX11_holds 5 = .ok (.aload_n 0, 1) := by decide +kernel
theorem dX11_holds_6 : decode cX11_holds 6 = .ok (.iload_n 1, 1) := by decide +kernel
theorem dX11_holds_7 : decode cX11_holds 7 = .ok (.iload_n 2, 1) := by decide +kernel
theorem dX11_holds_8 : decode cX11_holds 8 = .ok (.iload_n 3, 1) := by decide +kernel
theorem dX11_holds_9 : decode cX11_holds 9 = .ok (.invokevirtual 192, 3) := by decide +kernel
theorem dX11_holds_12 : decode cX11_holds 12 = .ok (.ifCond .ne 5, 3) := by decide +kernel
theorem dX11_holds_15 : decode cX11_holds 15 = .ok (.iconst (-1), 1) := by decide +kernel
theorem dX11_holds_16 : decode cX11_holds 16 = .ok (.ireturn, 1) := by decide +kernel
theorem dX11_holds_17 : decode cX11_holds 17 = .ok (.aload_n 0, 1) := by decide +kernel
theorem dX11_holds_18 : decode cX11_holds 18 = .ok (.invokevirtual 277, 3) := by decide +kernel
theorem dX11_holds_21 : decode cX11_holds 21 = .ok (.istore 4, 2) := by decide +kernel
theorem dX11_holds_23 : decode cX11_holds 23 = .ok (.iload 4, 2) := by decide +kernel
theorem dX11_holds_25 : decode cX11_holds 25 = .ok (.iconst 4, 1) := by decide +kernel
theorem dX11_holds_26 : decode cX11_holds 26 = .ok (.if_icmp .ne 6, 3) := by decide +kernel
theorem dX11_holds_29 : decode cX11_holds 29 = .ok (.bipush (-3), 2) := by decide +kernel
theorem dX11_holds_31 : decode cX11_holds 31 = .ok (.ireturn, 1) := by decide +kernel
theorem dX11_holds_32 : decode cX11_holds 32 = .ok (.aload_n 0, 1) := by decide +kernel
theorem dX11_holds_33 : decode cX11_holds 33 = .ok (.iload_n 1, 1) := by decide +kernel
theorem dX11_holds_34 : decode cX11_holds 34 = .ok (.iload_n 2, 1) := by decide +kernel
theorem dX11_holds_35 : decode cX11_holds 35 = .ok (.invokevirtual 235, 3) := by decide +kernel
theorem dX11_holds_38 : decode cX11_holds 38 = .ok (.istore 5, 2) := by decide +kernel
theorem dX11_holds_40 : decode cX11_holds 40 = .ok (.aload_n 0, 1) := by decide +kernel
theorem dX11_holds_41 : decode cX11_holds 41 = .ok (.iconst 0, 1) := by decide +kernel
theorem dX11_holds_42 : decode cX11_holds 42 = .ok (.putfield 71, 3) := by decide +kernel
theorem dX11_holds_45 : decode cX11_holds 45 = .ok (.iload 5, 2) := by decide +kernel
theorem dX11_holds_47 : decode cX11_holds 47 = .ok (.iload_n 3, 1) := by decide +kernel
theorem dX11_holds_48 : decode cX11_holds 48 = .ok (.if_icmp .ge 13, 3) := by decide +kernel
theorem dX11_holds_51 : decode cX11_holds 51 = .ok (.aload_n 0, 1) := by decide +kernel
theorem dX11_holds_52 : decode cX11_holds 52 = .ok (.iload 5, 2) := by decide +kernel
theorem dX11_holds_54 : decode cX11_holds 54 = .ok (.i2l, 1) := by decide +kernel
theorem dX11_holds_55 : decode cX11_holds 55 = .ok (.invokevirtual 155, 3) := by decide +kernel
theorem dX11_holds_58 : decode cX11_holds 58 = .ok (.bipush (-4), 2) := by decide +kernel
theorem dX11_holds_60 : decode cX11_holds 60 = .ok (.ireturn, 1) := by decide +kernel
theorem dX11_holds_61 : decode cX11_holds 61 = .ok (.aload_n 0, 1) := by decide +kernel
theorem dX11_holds_62 : decode cX11_holds 62 = .ok (.invokevirtual 138, 3) := by decide +kernel
theorem dX11_holds_65 : decode cX11_holds 65 = .ok (.aload_n 0, 1) := by decide +kernel
theorem dX11_holds_66 : decode cX11_holds 66 = .ok (.iload 4, 2) := by decide +kernel
theorem dX11_holds_68 : decode cX11_holds 68 = .ok (.iload_n 1, 1) := by decide +kernel
theorem dX11_holds_69 : decode cX11_holds 69 = .ok (.iload_n 2, 1) := by decide +kernel
theorem dX11_holds_70 : decode cX11_holds 70 = .ok (.iload_n 3, 1) := by decide +kernel
theorem dX11_holds_71 : decode cX11_holds 71 = .ok (.invokevirtual 280, 3) := by decide +kernel
theorem dX11_holds_74 : decode cX11_holds 74 = .ok (.aload_n 0, 1) := by decide +kernel
theorem dX11_holds_75 : decode cX11_holds 75 = .ok (.aload_n 0, 1) := by decide +kernel
theorem dX11_holds_76 : decode cX11_holds 76 = .ok (.getfield 207, 3) := by decide +kernel
theorem dX11_holds_79 : decode cX11_holds 79 = .ok (.i2l, 1) := by decide +kernel
theorem dX11_holds_80 : decode cX11_holds 80 = .ok (.invokevirtual 155, 3) := by decide +kernel
theorem dX11_holds_83 : decode cX11_holds 83 = .ok (.iload 4, 2) := by decide +kernel
theorem dX11_holds_85 : decode cX11_holds 85 = .ok (.ireturn, 1) := by decide +kernel
theorem dX11_isHeld_0 : decode cX11_isHeld 0 = .ok (.iload_n 1, 1) := by decide +kernel
theorem dX11_isHeld_1 : decode cX11_isHeld 1 = .ok (.iconst 0, 1) := by decide +kernel
theorem dX11_isHeld_2 : decode cX11_isHeld 2 = .ok (.iconst 3, 1) := by decide +kernel
theorem dX11_isHeld_3 : decode cX11_isHeld 3 = .ok (.invokestatic 74, 3) := by decide +kernel
theorem dX11_isHeld_6 : decode cX11_isHeld 6 = .ok (.ifCond .eq 21, 3) := by decide +kernel
theorem dX11_isHeld_9 : decode cX11_isHeld 9 = .ok (.aload_n 0, 1) := by decide +kernel
theorem dX11_isHeld_10 : decode cX11_isHeld 10 = .ok (.getfield 9, 3) := by decide +kernel
theorem dX11_isHeld_13 : decode cX11_isHeld 13 = .ok (.iload_n 1, 1) := by decide +kernel
theorem dX11_isHeld_14 : decode cX11_isHeld 14 = .ok (.invokestatic 91, 3) := by decide +kernel
theorem dX11_isHeld_17 : decode cX11_isHeld 17 = .ok (.iconst 2, 1) := by decide +kernel
theorem dX11_isHeld_18 : decode cX11_isHeld 18 = .ok (.iadd, 1) := by decide +kernel
theorem dX11_isHeld_19 : decode cX11_isHeld 19 = .ok (.iaload, 1) := by decide +kernel
theorem dX11_isHeld_20 : decode cX11_isHeld 20 = .ok (.ifCond .le 7, 3) := by decide +kernel
theorem dX11_isHeld_23 : decode cX11_isHeld 23 = .ok (.iconst 1, 1) := by decide +kernel
theorem dX11_isHeld_24 : decode cX11_isHeld 24 = .ok (.goto 4, 3) := by decide +kernel
theorem dX11_isHeld_27 : decode cX11_isHeld 27 = .ok (.iconst 0, 1) := by decide +kernel
theorem dX11_isHeld_28 : decode cX11_isHeld 28 = .ok (.ireturn, 1) := by decide +kernel
theorem dX11_free_0 : decode cX11_free 0 = .ok (.iload_n 1, 1) := by decide +kernel
theorem dX11_free_1 : decode cX11_free 1 = .ok (.invokestatic 91, 3) := by decide +kernel
theorem dX11_free_4 : decode cX11_free 4 = .ok (.istore_n 3, 1) := by decide +kernel
theorem dX11_free_5 : decode cX11_free 5 = .ok (.iconst 0, 1) := by decide +kernel
theorem dX11_free_6 : decode cX11_free 6 = .ok (.istore 4, 2) := by decide +kernel
theorem dX11_free_8 : decode cX11_free 8 = .ok (.iload 4, 2) := by decide +kernel
theorem dX11_free_10 : decode cX11_free 10 = .ok (.bipush 64, 2) := by decide +kernel
theorem dX11_free_12 : decode cX11_free 12 = .ok (.if_icmp .ge 41, 3) := by decide +kernel
theorem dX11_free_15 : decode cX11_free 15 = .ok (.aload_n 0, 1) := by decide +kernel
theorem dX11_free_16 : decode cX11_free 16 = .ok (.getfield 9, 3) := by decide +kernel
theorem dX11_free_19 : decode cX11_free 19 = .ok (.bipush 65, 2) := by decide +kernel
theorem dX11_free_21 : decode cX11_free 21 = .ok (.iload 4, 2) := by decide +kernel
theorem dX11_free_23 : decode cX11_free 23 = .ok (.iadd, 1) := by decide +kernel
theorem dX11_free_24 : decode cX11_free 24 = .ok (.dup2, 1) := by decide +kernel
theorem dX11_free_25 : decode cX11_free 25 = .ok (.iaload, 1) := by decide +kernel
theorem dX11_free_26 : decode cX11_free 26 = .ok (.iload_n 2, 1) := by decide +kernel
theorem dX11_free_27 : decode cX11_free 27 = .ok (.ifCond .eq 17, 3) := by decide +kernel
theorem dX11_free_30 : decode cX11_free 30 = .ok (.aload_n 0, 1) := by decide +kernel
theorem dX11_free_31 : decode cX11_free 31 = .ok (.getfield 9, 3) := by decide +kernel
theorem dX11_free_34 : decode cX11_free 34 = .ok (.iload_n 3, 1) := by decide +kernel
theorem dX11_free_35 : decode cX11_free 35 = .ok (.iconst 3, 1) := by decide +kernel
theorem dX11_free_36 : decode cX11_free 36 = .ok (.iadd, 1) := by decide +kernel
theorem dX11_free_37 : decode cX11_free 37 = .ok (.iload 4, 2) := by decide +kernel
theorem dX11_free_39 : decode cX11_free 39 = .ok (.iadd, 1) := by decide +kernel
theorem dX11_free_40 : decode cX11_free 40 = .ok (.iaload, 1) := by decide +kernel
theorem dX11_free_41 : decode cX11_free 41 = .ok (.goto 4, 3) := by decide +kernel
theorem dX11_free_44 : decode cX11_free 44 = .ok (.iconst 0, 1) := by decide +kernel
theorem dX11_free_45 : decode cX11_free 45 = .ok (.iadd, 1) := by decide +kernel
theorem dX11_free_46 : decode cX11_free 46 = .ok (.iastore, 1) := by decide +kernel
theorem dX11_free_47 : decode cX11_free 47 = .ok (.iinc 4 1, 3) := by decide +kernel
theorem dX11_free_50 : decode cX11_free 50 = .ok (.goto (-42), 3) := by decide +kernel
theorem dX11_free_53 : decode cX11_free 53 = .ok (.iconst 0, 1) := by decide +kernel
theorem dX11_free_54 : decode cX11_free 54 = .ok (.istore 4, 2) := by decide +kernel
theorem dX11_free_56 : decode cX11_free 56 = .ok (.iload 4, 2) := by decide +kernel
theorem dX11_free_58 : decode cX11_free 58 = .ok (.bipush 67, 2) := by decide +kernel
theorem dX11_free_60 : decode cX11_free 60 = .ok (.if_icmp .ge 19, 3) := by decide +kernel
theorem dX11_free_63 : decode cX11_free 63 = .ok (.aload_n 0, 1) := by decide +kernel
theorem dX11_free_64 : decode cX11_free 64 = .ok (.getfield 9, 3) := by decide +kernel
theorem dX11_free_67 : decode cX11_free 67 = .ok (.iload_n 3, 1) := by decide +kernel
theorem dX11_free_68 : decode cX11_free 68 = .ok (.iload 4, 2) := by decide +kernel
theorem dX11_free_70 : decode cX11_free 70 = .ok (.iadd, 1) := by decide +kernel
theorem dX11_free_71 : decode cX11_free 71 = .ok (.iconst 0, 1) := by decide +kernel
theorem dX11_free_72 : decode cX11_free 72 = .ok (.iastore, 1) := by decide +kernel
theorem dX11_free_73 : decode cX11_free 73 = .ok (.iinc 4 1, 3) := by decide +kernel
theorem dX11_free_76 : decode cX11_free 76 = .ok (.goto (-20), 3) := by decide +kernel
theorem dX11_free_79 : decode cX11_free 79 = .ok (.return_, 1) := by decide +kernel
theorem dX11_frees_0 : decode cX11_frees 0 = .ok (.aload_n 0, 1) := by decide +kernel
theorem dX11_frees_1 : decode cX11_frees 1 = .ok (.iload_n 1, 1) := by decide +kernel
theorem dX11_frees_2 : decode cX11_frees 2 = .ok (.invokevirtual 284, 3) := by decide +kernel
theorem dX11_frees_5 : decode cX11_frees 5 = .ok (.ifCond .ne 5, 3) := by decide +kernel
theorem dX11_frees_8 : decode cX11_frees 8 = .ok (.iconst (-1), 1) := by decide +kernel
theorem dX11_frees_9 : decode cX11_frees 9 = .ok (.ireturn, 1) := by decide +kernel
theorem dX11_frees_10 : decode cX11_frees 10 = .ok (.aload_n 0, 1) := by decide +kernel
theorem dX11_frees_11 : decode cX11_frees 11 = .ok (.invokevirtual 138, 3) := by decide +kernel
theorem dX11_frees_14 : decode cX11_frees 14 = .ok (.aload_n 0, 1) := by decide +kernel
theorem dX11_frees_15 : decode cX11_frees 15 = .ok (.getfield 9, 3) := by decide +kernel
theorem dX11_frees_18 : decode cX11_frees 18 = .ok (.iload_n 1, 1) := by decide +kernel
theorem dX11_frees_19 : decode cX11_frees 19 = .ok (.invokestatic 91, 3) := by decide +kernel
theorem dX11_frees_22 : decode cX11_frees 22 = .ok (.iconst 2, 1) := by decide +kernel
theorem dX11_frees_23 : decode cX11_frees 23 = .ok (.iadd, 1) := by decide +kernel
theorem dX11_frees_24 : decode cX11_frees 24 = .ok (.iaload, 1) := by decide +kernel
theorem dX11_frees_25 : decode cX11_frees 25 = .ok (.istore_n 3, 1) := by decide +kernel
theorem dX11_frees_26 : decode cX11_frees 26 = .ok (.aload_n 0, 1) := by decide +kernel
theorem dX11_frees_27 : decode cX11_frees 27 = .ok (.iload_n 1, 1) := by decide +kernel
theorem dX11_frees_28 : decode cX11_frees 28 = .ok (.iload_n 2, 1) := by decide +kernel
theorem dX11_frees_29 : decode cX11_frees 29 = .ok (.invokevirtual 287, 3) := by decide +kernel
theorem dX11_frees_32 : decode cX11_frees 32 = .ok (.iload_n 3, 1) := by decide +kernel
theorem dX11_frees_33 : decode cX11_frees 33 = .ok (.ireturn, 1) := by decide +kernel
theorem dX11_makes_0 : decode cX11_makes 0 = .ok (.aload_n 0, 1) := by decide +kernel
theorem dX11_makes_1 : decode cX11_makes 1 = .ok (.iconst 0, 1) := by decide +kernel
theorem dX11_makes_2 : decode cX11_makes 2 = .ok (.putfield 68, 3) := by decide +kernel
theorem dX11_makes_5 : decode cX11_makes 5 = .ok (.aload_n 0, 1) := by decide +kernel
theorem dX11_makes_6 : decode cX11_makes 6 = .ok (.iload_n 1, 1) := by decide +kernel
theorem dX11_makes_7 : decode cX11_makes 7 = .ok (.iconst 1, 1) := by decide +kernel
theorem dX11_makes_8 : decode cX11_makes 8 = .ok (.invokevirtual 291, 3) := by decide +kernel
theorem dX11_makes_11 : decode cX11_makes 11 = .ok (.ireturn, 1) := by decide +kernel
theorem dX11_letsGo_0 : decode cX11_letsGo 0 = .ok (.aload_n 0, 1) := by decide +kernel
theorem dX11_letsGo_1 : decode cX11_letsGo 1 = .ok (.iconst 0, 1) := by decide +kernel
theorem dX11_letsGo_2 : decode cX11_letsGo 2 = .ok (.putfield 68, 3) := by decide +kernel
theorem dX11_letsGo_5 : decode cX11_letsGo 5 = .ok (.aload_n 0, 1) := by decide +kernel
theorem dX11_letsGo_6 : decode cX11_letsGo 6 = .ok (.iload_n 1, 1) := by decide +kernel
theorem dX11_letsGo_7 : decode cX11_letsGo 7 = .ok (.iconst 0, 1) := by decide +kernel
theorem dX11_letsGo_8 : decode cX11_letsGo 8 = .ok (.invokevirtual 291, 3) := by decide +kernel
theorem dX11_letsGo_11 : decode cX11_letsGo 11 = .ok (.ireturn, 1) := by decide +kernel
theorem dX11_held_0 : decode cX11_held 0 = .ok (.aload_n 0, 1) := by decide +kernel
theorem dX11_held_1 : decode cX11_held 1 = .ok (.iconst 0, 1) := by decide +kernel
theorem dX11_held_2 : decode cX11_held 2 = .ok (.putfield 68, 3) := by decide +kernel
theorem dX11_held_5 : decode cX11_held 5 = .ok (.aload_n 0, 1) := by decide +kernel
theorem dX11_held_6 : decode cX11_held 6 = .ok (.iload_n 1, 1) := by decide +kernel
theorem dX11_held_7 : decode cX11_held 7 = .ok (.invokevirtual 284, 3) := by decide +kernel
theorem dX11_held_10 : decode cX11_held 10 = .ok (.ifCond .eq 12, 3) := by decide +kernel
theorem dX11_held_13 : decode cX11_held 13 = .ok (.iload_n 2, 1) := by decide +kernel
theorem dX11_held_14 : decode cX11_held 14 = .ok (.iconst 0, 1) := by decide +kernel
theorem dX11_held_15 : decode cX11_held 15 = .ok (.iconst 3, 1) := by decide +kernel
theorem dX11_held_16 : decode cX11_held 16 = .ok (.invokestatic 74, 3) := by decide +kernel
theorem dX11_held_19 : decode cX11_held 19 = .ok (.ifCond .ne 8, 3) := by decide +kernel
theorem dX11_held_22 : decode cX11_held 22 = .ok (.aload_n 0, 1) := by decide +kernel
theorem dX11_held_23 : decode cX11_held 23 = .ok (.invokevirtual 166, 3) := by decide +kernel
theorem dX11_held_26 : decode cX11_held 26 = .ok (.ireturn, 1) := by decide +kernel
theorem dX11_held_27 : decode cX11_held 27 = .ok (.iload_n 2, 1) := by decide +kernel
theorem dX11_held_28 : decode cX11_held 28 = .ok (.iconst 3, 1) := by decide +kernel
theorem dX11_held_29 : decode cX11_held 29 = .ok (.if_icmp .ge 15, 3) := by decide +kernel
theorem dX11_held_32 : decode cX11_held 32 = .ok (.aload_n 0, 1) := by decide +kernel
theorem dX11_held_33 : decode cX11_held 33 = .ok (.getfield 9, 3) := by decide +kernel
theorem dX11_held_36 : decode cX11_held 36 = .ok (.iload_n 1, 1) := by decide +kernel
theorem dX11_held_37 : decode cX11_held 37 = .ok (.invokestatic 91, 3) := by decide +kernel
theorem dX11_held_40 : decode cX11_held 40 = .ok (.iload_n 2, 1) := by decide +kernel
theorem dX11_held_41 : decode cX11_held 41 = .ok (.iadd, 1) := by decide +kernel
theorem dX11_held_42 : decode cX11_held 42 = .ok (.iaload, 1) := by decide +kernel
theorem dX11_held_43 : decode cX11_held 43 = .ok (.ireturn, 1) := by decide +kernel
theorem dX11_held_44 : decode cX11_held 44 = .ok (.iconst 0, 1) := by decide +kernel
theorem dX11_held_45 : decode cX11_held 45 = .ok (.istore_n 3, 1) := by decide +kernel
theorem dX11_held_46 : decode cX11_held 46 = .ok (.iconst 0, 1) := by decide +kernel
theorem dX11_held_47 : decode cX11_held 47 = .ok (.istore 4, 2) := by decide +kernel
theorem dX11_held_49 : decode cX11_held 49 = .ok (.iload 4, 2) := by decide +kernel
theorem dX11_held_51 : decode cX11_held 51 = .ok (.bipush 64, 2) := by decide +kernel
theorem dX11_held_53 : decode cX11_held 53 = .ok (.if_icmp .ge 34, 3) := by decide +kernel
theorem dX11_held_56 : decode cX11_held 56 = .ok (.iload_n 3, 1) := by decide +kernel
theorem dX11_held_57 : decode cX11_held 57 = .ok (.aload_n 0, 1) := by decide +kernel
theorem dX11_held_58 : decode cX11_held 58 = .ok (.getfield 9, 3) := by decide +kernel
theorem dX11_held_61 : decode cX11_held 61 = .ok (.iload_n 1, 1) := by decide +kernel
theorem dX11_held_62 : decode cX11_held 62 = .ok (.invokestatic 91, 3) := by decide +kernel
theorem dX11_held_65 : decode cX11_held 65 = .ok (.iconst 3, 1) := by decide +kernel
theorem dX11_held_66 : decode cX11_held 66 = .ok (.iadd, 1) := by decide +kernel
theorem dX11_held_67 : decode cX11_held 67 = .ok (.iload 4, 2) := by decide +kernel
theorem dX11_held_69 : decode cX11_held 69 = .ok (.iadd, 1) := by decide +kernel
theorem dX11_held_70 : decode cX11_held 70 = .ok (.iaload, 1) := by decide +kernel
theorem dX11_held_71 : decode cX11_held 71 = .ok (.ifCond .le 7, 3) := by decide +kernel
theorem dX11_held_74 : decode cX11_held 74 = .ok (.iconst 1, 1) := by decide +kernel
theorem dX11_held_75 : decode cX11_held 75 = .ok (.goto 4, 3) := by decide +kernel
theorem dX11_held_78 : decode cX11_held 78 = .ok (.iconst 0, 1) := by decide +kernel
theorem dX11_held_79 : decode cX11_held 79 = .ok (.iadd, 1) := by decide +kernel
theorem dX11_held_80 : decode cX11_held 80 = .ok (.istore_n 3, 1) := by decide +kernel
theorem dX11_held_81 : decode cX11_held 81 = .ok (.iinc 4 1, 3) := by decide +kernel
theorem dX11_held_84 : decode cX11_held 84 = .ok (.goto (-35), 3) := by decide +kernel
theorem dX11_held_87 : decode cX11_held 87 = .ok (.iload_n 3, 1) := by decide +kernel
theorem dX11_held_88 : decode cX11_held 88 = .ok (.ireturn, 1) := by decide +kernel
theorem dX11_mostThen_0 : decode cX11_mostThen 0 = .ok (.aload_n 0, 1) := by decide +kernel
theorem dX11_mostThen_1 : decode cX11_mostThen 1 = .ok (.iconst 0, 1) := by decide +kernel
theorem dX11_mostThen_2 : decode cX11_mostThen 2 = .ok (.putfield 68, 3) := by decide +kernel
theorem dX11_mostThen_5 : decode cX11_mostThen 5 = .ok (.aload_n 0, 1) := by decide +kernel
theorem dX11_mostThen_6 : decode cX11_mostThen 6 = .ok (.iload_n 1, 1) := by decide +kernel
theorem dX11_mostThen_7 : decode cX11_mostThen 7 = .ok (.iload_n 2, 1) := by decide +kernel
theorem dX11_mostThen_8 : decode cX11_mostThen 8 = .ok (.invokevirtual 159, 3) := by decide +kernel
theorem dX11_mostThen_11 : decode cX11_mostThen 11 = .ok (.ifCond .eq 12, 3) := by decide +kernel
theorem dX11_mostThen_14 : decode cX11_mostThen 14 = .ok (.iload_n 3, 1) := by decide +kernel
theorem dX11_mostThen_15 : decode cX11_mostThen 15 = .ok (.iconst 0, 1) := by decide +kernel
theorem dX11_mostThen_16 : decode cX11_mostThen 16 = .ok (.iconst 1, 1) := by decide +kernel
theorem dX11_mostThen_17 : decode cX11_mostThen 17 = .ok (.invokestatic 74, 3) := by decide +kernel
theorem dX11_mostThen_20 : decode cX11_mostThen 20 = .ok (.ifCond .ne 5, 3) := by decide +kernel
theorem dX11_mostThen_23 : decode cX11_mostThen 23 = .ok (.iconst (-1), 1) := by decide +kernel
theorem dX11_mostThen_24 : decode cX11_mostThen 24 = .ok (.ireturn, 1) := by decide +kernel
theorem dX11_mostThen_25 : decode cX11_mostThen 25 = .ok (.aload_n 0, 1) := by decide +kernel
theorem dX11_mostThen_26 : decode cX11_mostThen 26 = .ok (.iconst 2, 1) := by decide +kernel
theorem dX11_mostThen_27 : decode cX11_mostThen 27 = .ok (.invokevirtual 219, 3) := by decide +kernel
theorem dX11_mostThen_30 : decode cX11_mostThen 30 = .ok (.iconst 0, 1) := by decide +kernel
theorem dX11_mostThen_31 : decode cX11_mostThen 31 = .ok (.istore 4, 2) := by decide +kernel
theorem dX11_mostThen_33 : decode cX11_mostThen 33 = .ok (.iload 4, 2) := by decide +kernel
theorem dX11_mostThen_35 : decode cX11_mostThen 35 = .ok (.iconst 4, 1) := by decide +kernel
theorem dX11_mostThen_36 : decode cX11_mostThen 36 = .ok (.if_icmp .ge 33, 3) := by decide +kernel
theorem dX11_mostThen_39 : decode cX11_mostThen 39 = .ok (.aload_n 0, 1) := by decide +kernel
theorem dX11_mostThen_40 : decode cX11_mostThen 40 = .ok (.iload 4, 2) := by decide +kernel
theorem dX11_mostThen_42 : decode cX11_mostThen 42 = .ok (.invokevirtual 284, 3) := by decide +kernel
theorem dX11_mostThen_45 : decode cX11_mostThen 45 = .ok (.ifCond .eq 18, 3) := by decide +kernel
theorem dX11_mostThen_48 : decode cX11_mostThen 48 = .ok (.aload_n 0, 1) := by decide +kernel
theorem dX11_mostThen_49 : decode cX11_mostThen 49 = .ok (.iload 4, 2) := by decide +kernel
theorem dX11_mostThen_51 : decode cX11_mostThen 51 = .ok (.iload_n 3, 1) := by decide +kernel
theorem dX11_mostThen_52 : decode cX11_mostThen 52 = .ok (.ifCond .ne 7, 3) := by decide +kernel
theorem dX11_mostThen_55 : decode cX11_mostThen 55 = .ok (.iconst 1, 1) := by decide +kernel
theorem dX11_mostThen_56 : decode cX11_mostThen 56 = .ok (.goto 4, 3) := by decide +kernel
theorem dX11_mostThen_59 : decode cX11_mostThen 59 = .ok (.iconst 0, 1) := by decide +kernel
theorem dX11_mostThen_60 : decode cX11_mostThen 60 = .ok (.invokevirtual 287, 3) := by decide +kernel
theorem dX11_mostThen_63 : decode cX11_mostThen 63 = .ok (.iinc 4 1, 3) := by decide +kernel
theorem dX11_mostThen_66 : decode cX11_mostThen 66 = .ok (.goto (-33), 3) := by decide +kernel
theorem dX11_mostThen_69 : decode cX11_mostThen 69 = .ok (.aload_n 0, 1) := by decide +kernel
theorem dX11_mostThen_70 : decode cX11_mostThen 70 = .ok (.iload_n 1, 1) := by decide +kernel
theorem dX11_mostThen_71 : decode cX11_mostThen 71 = .ok (.iload_n 2, 1) := by decide +kernel
theorem dX11_mostThen_72 : decode cX11_mostThen 72 = .ok (.invokevirtual 235, 3) := by decide +kernel
theorem dX11_mostThen_75 : decode cX11_mostThen 75 = .ok (.istore 4, 2) := by decide +kernel
theorem dX11_mostThen_77 : decode cX11_mostThen 77 = .ok (.aload_n 0, 1) := by decide +kernel
theorem dX11_mostThen_78 : decode cX11_mostThen 78 = .ok (.iconst 2, 1) := by decide +kernel
theorem dX11_mostThen_79 : decode cX11_mostThen 79 = .ok (.invokevirtual 232, 3) := by decide +kernel
theorem dX11_mostThen_82 : decode cX11_mostThen 82 = .ok (.iload 4, 2) := by decide +kernel
theorem dX11_mostThen_84 : decode cX11_mostThen 84 = .ok (.ireturn, 1) := by decide +kernel
theorem dX11_stocks_0 : decode cX11_stocks 0 = .ok (.aload_n 0, 1) := by decide +kernel
theorem dX11_stocks_1 : decode cX11_stocks 1 = .ok (.iconst 0, 1) := by decide +kernel
theorem dX11_stocks_2 : decode cX11_stocks 2 = .ok (.putfield 68, 3) := by decide +kernel
theorem dX11_stocks_5 : decode cX11_stocks 5 = .ok (.aload_n 0, 1) := by decide +kernel
theorem dX11_stocks_6 : decode cX11_stocks 6 = .ok (.iload_n 1, 1) := by decide +kernel
theorem dX11_stocks_7 : decode cX11_stocks 7 = .ok (.iload_n 2, 1) := by decide +kernel
theorem dX11_stocks_8 : decode cX11_stocks 8 = .ok (.invokevirtual 295, 3) := by decide +kernel
theorem dX11_stocks_11 : decode cX11_stocks 11 = .ok (.istore_n 3, 1) := by decide +kernel
theorem dX11_stocks_12 : decode cX11_stocks 12 = .ok (.iload_n 3, 1) := by decide +kernel
theorem dX11_stocks_13 : decode cX11_stocks 13 = .ok (.ifCond .ge 5, 3) := by decide +kernel
theorem dX11_stocks_16 : decode cX11_stocks 16 = .ok (.iload_n 3, 1) := by decide +kernel
theorem dX11_stocks_17 : decode cX11_stocks 17 = .ok (.ireturn, 1) := by decide +kernel
theorem dX11_stocks_18 : decode cX11_stocks 18 = .ok (.aload_n 0, 1) := by decide +kernel
theorem dX11_stocks_19 : decode cX11_stocks 19 = .ok (.invokevirtual 138, 3) := by decide +kernel
theorem dX11_stocks_22 : decode cX11_stocks 22 = .ok (.aload_n 0, 1) := by decide +kernel
theorem dX11_stocks_23 : decode cX11_stocks 23 = .ok (.getfield 9, 3) := by decide +kernel
theorem dX11_stocks_26 : decode cX11_stocks 26 = .ok (.sipush 129, 3) := by decide +kernel
theorem dX11_stocks_29 : decode cX11_stocks 29 = .ok (.iload_n 1, 1) := by decide +kernel
theorem dX11_stocks_30 : decode cX11_stocks 30 = .ok (.iadd, 1) := by decide +kernel
theorem dX11_stocks_31 : decode cX11_stocks 31 = .ok (.iaload, 1) := by decide +kernel
theorem dX11_stocks_32 : decode cX11_stocks 32 = .ok (.istore 4, 2) := by decide +kernel
theorem dX11_stocks_34 : decode cX11_stocks 34 = .ok (.aload_n 0, 1) := by decide +kernel
theorem dX11_stocks_35 : decode cX11_stocks 35 = .ok (.getfield 9, 3) := by decide +kernel
theorem dX11_stocks_38 : decode cX11_stocks 38 = .ok (.sipush 129, 3) := by decide +kernel
theorem dX11_stocks_41 : decode cX11_stocks 41 = .ok (.iload_n 1, 1) := by decide +kernel
theorem dX11_stocks_42 : decode cX11_stocks 42 = .ok (.iadd, 1) := by decide +kernel
theorem dX11_stocks_43 : decode cX11_stocks 43 = .ok (.iload_n 2, 1) := by decide +kernel
theorem dX11_stocks_44 : decode cX11_stocks 44 = .ok (.iastore, 1) := by decide +kernel
theorem dX11_stocks_45 : decode cX11_stocks 45 = .ok (.iload 4, 2) := by decide +kernel
theorem dX11_stocks_47 : decode cX11_stocks 47 = .ok (.ireturn, 1) := by decide +kernel
theorem dX11_refusesStock_0 : decode cX11_refusesStock 0 = .ok (.aload_n 0, 1) := by decide +kernel
theorem dX11_refusesStock_1 : decode cX11_refusesStock 1 = .ok (.iload_n 1, 1) := by decide +kernel
theorem dX11_refusesStock_2 : decode cX11_refusesStock 2 = .ok (.invokevirtual 78, 3) := by decide +kernel
theorem dX11_refusesStock_5 : decode cX11_refusesStock 5 = .ok (.ifCond .eq 14, 3) := by decide +kernel
theorem dX11_refusesStock_8 : decode cX11_refusesStock 8 = .ok (.iload_n 2, 1) := by decide +kernel
theorem dX11_refusesStock_9 : decode cX11_refusesStock 9 = .ok (.iconst 0, 1) := by decide +kernel
theorem dX11_refusesStock_10 : decode cX11_refusesStock 10 = .ok (.sipush 999, 3) := by decide +kernel
theorem dX11_refusesStock_13 : decode cX11_refusesStock 13 = .ok (.invokestatic 74, 3) := by decide +kernel
theorem dX11_refusesStock_16 : decode cX11_refusesStock 16 = .ok (.ifCond .ne 7, 3) := by decide +kernel
theorem dX11_refusesStock_19 : decode cX11_refusesStock 19 = .ok (.iconst (-1), 1) := by decide +kernel
theorem dX11_refusesStock_20 : decode cX11_refusesStock 20 = .ok (.goto 23, 3) := by decide +kernel
theorem dX11_refusesStock_23 : decode cX11_refusesStock 23 = .ok (.aload_n 0, 1) := by decide +kernel
theorem dX11_refusesStock_24 : decode cX11_refusesStock 24 = .ok (.getfield 9, 3) := by decide +kernel
theorem dX11_refusesStock_27 : decode cX11_refusesStock 27 = .ok (.sipush 129, 3) := by decide +kernel
theorem dX11_refusesStock_30 : decode cX11_refusesStock 30 = .ok (.iload_n 1, 1) := by decide +kernel
theorem dX11_refusesStock_31 : decode cX11_refusesStock 31 = .ok (.iadd, 1) := by decide +kernel
theorem dX11_refusesStock_32 : decode cX11_refusesStock 32 = .ok (.iaload, 1) := by decide +kernel
theorem dX11_refusesStock_33 : decode cX11_refusesStock 33 = .ok (.iload_n 2, 1) := by decide +kernel
theorem dX11_refusesStock_34 : decode cX11_refusesStock 34 = .ok (.if_icmp .ne 8, 3) := by decide +kernel
theorem dX11_refusesStock_37 : decode cX11_refusesStock 37 = .ok (.bipush (-2), 2) := by decide +kernel
theorem dX11_refusesStock_39 : decode cX11_refusesStock 39 = .ok (.goto 4, 3) := by decide +kernel
theorem dX11_refusesStock_42 : decode cX11_refusesStock 42 = .ok (.iconst 0, 1) := by decide +kernel
theorem dX11_refusesStock_43 : decode cX11_refusesStock 43 = .ok (.ireturn, 1) := by decide +kernel
theorem dX11_lossOf_0 : decode cX11_lossOf 0 = .ok (.iconst 0, 1) := by decide +kernel
theorem dX11_lossOf_1 : decode cX11_lossOf 1 = .ok (.istore_n 3, 1) := by decide +kernel
theorem dX11_lossOf_2 : decode cX11_lossOf 2 = .ok (.iconst 0, 1) := by decide +kernel
theorem dX11_lossOf_3 : decode cX11_lossOf 3 = .ok (.istore 4, 2) := by decide +kernel
theorem dX11_lossOf_5 : decode cX11_lossOf 5 = .ok (.iload 4, 2) := by decide +kernel
theorem dX11_lossOf_7 : decode cX11_lossOf 7 = .ok (.aload_n 0, 1) := by decide +kernel
theorem dX11_lossOf_8 : decode cX11_lossOf 8 = .ok (.getfield 9, 3) := by decide +kernel
theorem dX11_lossOf_11 : decode cX11_lossOf 11 = .ok (.iconst 0, 1) := by decide +kernel
theorem dX11_lossOf_12 : decode cX11_lossOf 12 = .ok (.iaload, 1) := by decide +kernel
theorem dX11_lossOf_13 : decode cX11_lossOf 13 = .ok (.if_icmp .ge 33, 3) := by decide +kernel
theorem dX11_lossOf_16 : decode cX11_lossOf 16 = .ok (.iload_n 3, 1) := by decide +kernel
theorem dX11_lossOf_17 : decode cX11_lossOf 17 = .ok (.iload_n 2, 1) := by decide +kernel
theorem dX11_lossOf_18 : decode cX11_lossOf 18 = .ok (.iload 4, 2) := by decide +kernel
theorem dX11_lossOf_20 : decode cX11_lossOf 20 = .ok (.ishr, 1) := by decide +kernel
theorem dX11_lossOf_21 : decode cX11_lossOf 21 = .ok (.iconst 1, 1) := by decide +kernel
theorem dX11_lossOf_22 : decode cX11_lossOf 22 = .ok (.iand, 1) := by decide +kernel
theorem dX11_lossOf_23 : decode cX11_lossOf 23 = .ok (.iconst 1, 1) := by decide +kernel
theorem dX11_lossOf_24 : decode cX11_lossOf 24 = .ok (.if_icmp .ne 13, 3) := by decide +kernel
theorem dX11_lossOf_27 : decode cX11_lossOf 27 = .ok (.aload_n 0, 1) := by decide +kernel
theorem dX11_lossOf_28 : decode cX11_lossOf 28 = .ok (.iload 4, 2) := by decide +kernel
theorem dX11_lossOf_30 : decode cX11_lossOf 30 = .ok (.iload_n 1, 1) := by decide +kernel
theorem dX11_lossOf_31 : decode cX11_lossOf 31 = .ok (.invokevirtual 141, 3) := by decide +kernel
theorem dX11_lossOf_34 : decode cX11_lossOf 34 = .ok (.goto 4, 3) := by decide +kernel
theorem dX11_lossOf_37 : decode cX11_lossOf 37 = .ok (.iconst 0, 1) := by decide +kernel
theorem dX11_lossOf_38 : decode cX11_lossOf 38 = .ok (.iadd, 1) := by decide +kernel
theorem dX11_lossOf_39 : decode cX11_lossOf 39 = .ok (.istore_n 3, 1) := by decide +kernel
theorem dX11_lossOf_40 : decode cX11_lossOf 40 = .ok (.iinc 4 1, 3) := by decide +kernel
theorem dX11_lossOf_43 : decode cX11_lossOf 43 = .ok (.goto (-38), 3) := by decide +kernel
theorem dX11_lossOf_46 : decode cX11_lossOf 46 = .ok (.iload_n 3, 1) := by decide +kernel
theorem dX11_lossOf_47 : decode cX11_lossOf 47 = .ok (.ireturn, 1) := by decide +kernel
theorem dX11_lossAll_0 : decode cX11_lossAll 0 = .ok (.iconst 0, 1) := by decide +kernel
theorem dX11_lossAll_1 : decode cX11_lossAll 1 = .ok (.istore_n 3, 1) := by decide +kernel
theorem dX11_lossAll_2 : decode cX11_lossAll 2 = .ok (.iconst 0, 1) := by decide +kernel
theorem dX11_lossAll_3 : decode cX11_lossAll 3 = .ok (.istore 4, 2) := by decide +kernel
theorem dX11_lossAll_5 : decode cX11_lossAll 5 = .ok (.iload 4, 2) := by decide +kernel
theorem dX11_lossAll_7 : decode cX11_lossAll 7 = .ok (.aload_n 0, 1) := by decide +kernel
theorem dX11_lossAll_8 : decode cX11_lossAll 8 = .ok (.getfield 9, 3) := by decide +kernel
theorem dX11_lossAll_11 : decode cX11_lossAll 11 = .ok (.iconst 0, 1) := by decide +kernel
theorem dX11_lossAll_12 : decode cX11_lossAll 12 = .ok (.iaload, 1) := by decide +kernel
theorem dX11_lossAll_13 : decode cX11_lossAll 13 = .ok (.if_icmp .ge 33, 3) := by decide +kernel
theorem dX11_lossAll_16 : decode cX11_lossAll 16 = .ok (.iload_n 3, 1) := by decide +kernel
theorem dX11_lossAll_17 : decode cX11_lossAll 17 = .ok (.iload_n 2, 1) := by decide +kernel
theorem dX11_lossAll_18 : decode cX11_lossAll 18 = .ok (.iload 4, 2) := by decide +kernel
theorem dX11_lossAll_20 : decode cX11_lossAll 20 = .ok (.ishr, 1) := by decide +kernel
theorem dX11_lossAll_21 : decode cX11_lossAll 21 = .ok (.iconst 1, 1) := by decide +kernel
theorem dX11_lossAll_22 : decode cX11_lossAll 22 = .ok (.iand, 1) := by decide +kernel
theorem dX11_lossAll_23 : decode cX11_lossAll 23 = .ok (.iconst 1, 1) := by decide +kernel
theorem dX11_lossAll_24 : decode cX11_lossAll 24 = .ok (.if_icmp .ne 13, 3) := by decide +kernel
theorem dX11_lossAll_27 : decode cX11_lossAll 27 = .ok (.aload_n 0, 1) := by decide +kernel
theorem dX11_lossAll_28 : decode cX11_lossAll 28 = .ok (.iload 4, 2) := by decide +kernel
theorem dX11_lossAll_30 : decode cX11_lossAll 30 = .ok (.iload_n 1, 1) := by decide +kernel
theorem dX11_lossAll_31 : decode cX11_lossAll 31 = .ok (.invokevirtual 298, 3) := by decide +kernel
theorem dX11_lossAll_34 : decode cX11_lossAll 34 = .ok (.goto 4, 3) := by decide +kernel
theorem dX11_lossAll_37 : decode cX11_lossAll 37 = .ok (.iconst 0, 1) := by decide +kernel
theorem dX11_lossAll_38 : decode cX11_lossAll 38 = .ok (.iadd, 1) := by decide +kernel
theorem dX11_lossAll_39 : decode cX11_lossAll 39 = .ok (.istore_n 3, 1) := by decide +kernel
theorem dX11_lossAll_40 : decode cX11_lossAll 40 = .ok (.iinc 4 1, 3) := by decide +kernel
theorem dX11_lossAll_43 : decode cX11_lossAll 43 = .ok (.goto (-38), 3) := by decide +kernel
theorem dX11_lossAll_46 : decode cX11_lossAll 46 = .ok (.iload_n 3, 1) := by decide +kernel
theorem dX11_lossAll_47 : decode cX11_lossAll 47 = .ok (.ireturn, 1) := by decide +kernel
theorem dX11_nextFailing_0 : decode cX11_nextFailing 0 = .ok (.iconst 0, 1) := by decide +kernel
theorem dX11_nextFailing_1 : decode cX11_nextFailing 1 = .ok (.istore_n 2, 1) := by decide +kernel
theorem dX11_nextFailing_2 : decode cX11_nextFailing 2 = .ok (.iconst 0, 1) := by decide +kernel
theorem dX11_nextFailing_3 : decode cX11_nextFailing 3 = .ok (.istore_n 3, 1) := by decide +kernel
theorem dX11_nextFailing_4 : decode cX11_nextFailing 4 = .ok (.iload_n 3, 1) := by decide +kernel
theorem dX11_nextFailing_5 : decode cX11_nextFailing 5 = .ok (.aload_n 0, 1) := by decide +kernel
theorem dX11_nextFailing_6 : decode cX11_nextFailing 6 = .ok (.getfield 9, 3) := by decide +kernel
theorem dX11_nextFailing_9 : decode cX11_nextFailing 9 = .ok (.iconst 0, 1) := by decide +kernel
theorem dX11_nextFailing_10 : decode cX11_nextFailing 10 = .ok (.iaload, 1) := by decide +kernel
theorem dX11_nextFailing_11 : decode cX11_nextFailing 11 = .ok (.if_icmp .ge 46, 3) := by decide +kernel
theorem dX11_nextFailing_14 : decode cX11_nextFailing 14 = .ok (.iload_n 2, 1) := by decide +kernel
theorem dX11_nextFailing_15 : decode cX11_nextFailing 15 = .ok (.iload_n 1, 1) := by decide +kernel
theorem dX11_nextFailing_16 : decode cX11_nextFailing 16 = .ok (.iload_n 3, 1) := by decide +kernel
theorem dX11_nextFailing_17 : decode cX11_nextFailing 17 = .ok (.ishr, 1) := by decide +kernel
theorem dX11_nextFailing_18 : decode cX11_nextFailing 18 = .ok (.iconst 1, 1) := by decide +kernel
theorem dX11_nextFailing_19 : decode cX11_nextFailing 19 = .ok (.iand, 1) := by decide +kernel
theorem dX11_nextFailing_20 : decode cX11_nextFailing 20 = .ok (.ifCond .ne 28, 3) := by decide +kernel
theorem dX11_nextFailing_23 : decode cX11_nextFailing 23 = .ok (.aload_n 0, 1) := by decide +kernel
theorem dX11_nextFailing_24 : decode cX11_nextFailing 24 = .ok (.iload_n 3, 1) := by decide +kernel
theorem dX11_nextFailing_25 : decode cX11_nextFailing 25 = .ok (.iload_n 1, 1) := by decide +kernel
theorem dX11_nextFailing_26 : decode cX11_nextFailing 26 = .ok (.invokevirtual 298, 3) := by decide +kernel
theorem dX11_nextFailing_29 : decode cX11_nextFailing 29 = .ok (.aload_n 0, 1) := by decide +kernel
theorem dX11_nextFailing_30 : decode cX11_nextFailing 30 = .ok (.getfield 9, 3) := by decide +kernel
theorem dX11_nextFailing_33 : decode cX11_nextFailing 33 = .ok (.sipush 129, 3) := by decide +kernel
theorem dX11_nextFailing_36 : decode cX11_nextFailing 36 = .ok (.iload_n 3, 1) := by decide +kernel
theorem dX11_nextFailing_37 : decode cX11_nextFailing 37 = .ok (.iadd, 1) := by decide +kernel
theorem dX11_nextFailing_38 : decode cX11_nextFailing 38 = .ok (.iaload, 1) := by decide +kernel
theorem dX11_nextFailing_39 : decode cX11_nextFailing 39 = .ok (.if_icmp .le 9, 3) := by decide +kernel
theorem dX11_nextFailing_42 : decode cX11_nextFailing 42 = .ok (.iconst 1, 1) := by decide +kernel
theorem dX11_nextFailing_43 : decode cX11_nextFailing 43 = .ok (.iload_n 3, 1) := by decide +kernel
theorem dX11_nextFailing_44 : decode cX11_nextFailing 44 = .ok (.ishl, 1) := by decide +kernel
theorem dX11_nextFailing_45 : decode cX11_nextFailing 45 = .ok (.goto 4, 3) := by decide +kernel
theorem dX11_nextFailing_48 : decode cX11_nextFailing 48 = .ok (.iconst 0, 1) := by decide +kernel
theorem dX11_nextFailing_49 : decode cX11_nextFailing 49 = .ok (.ior, 1) := by decide +kernel
theorem dX11_nextFailing_50 : decode cX11_nextFailing 50 = .ok (.istore_n 2, 1) := by decide +kernel
theorem dX11_nextFailing_51 : decode cX11_nextFailing 51 = .ok (.iinc 3 1, 3) := by decide +kernel
theorem dX11_nextFailing_54 : decode cX11_nextFailing 54 = .ok (.goto (-50), 3) := by decide +kernel
theorem dX11_nextFailing_57 : decode cX11_nextFailing 57 = .ok (.iload_n 2, 1) := by decide +kernel
theorem dX11_nextFailing_58 : decode cX11_nextFailing 58 = .ok (.ireturn, 1) := by decide +kernel
theorem dX11_failing_0 : decode cX11_failing 0 = .ok (.aload_n 0, 1) := by decide +kernel
theorem dX11_failing_1 : decode cX11_failing 1 = .ok (.iconst 0, 1) := by decide +kernel
theorem dX11_failing_2 : decode cX11_failing 2 = .ok (.putfield 301, 3) := by decide +kernel
theorem dX11_failing_5 : decode cX11_failing 5 = .ok (.iconst 1, 1) := by decide +kernel
theorem dX11_failing_6 : decode cX11_failing 6 = .ok (.iload_n 1, 1) := by decide +kernel
theorem dX11_failing_7 : decode cX11_failing 7 = .ok (.ishl, 1) := by decide +kernel
theorem dX11_failing_8 : decode cX11_failing 8 = .ok (.istore_n 2, 1) := by decide +kernel
theorem dX11_failing_9 : decode cX11_failing 9 = .ok (.aload_n 0, 1) := by decide +kernel
theorem dX11_failing_10 : decode cX11_failing 10 = .ok (.iload_n 2, 1) := by decide +kernel
theorem dX11_failing_11 : decode cX11_failing 11 = .ok (.invokevirtual 304, 3) := by decide +kernel
theorem dX11_failing_14 : decode cX11_failing 14 = .ok (.istore_n 3, 1) := by decide +kernel
theorem dX11_failing_15 : decode cX11_failing 15 = .ok (.iload_n 3, 1) := by decide +kernel
theorem dX11_failing_16 : decode cX11_failing 16 = .ok (.ifCond .eq 26, 3) := by decide +kernel
theorem dX11_failing_19 : decode cX11_failing 19 = .ok (.iload_n 2, 1) := by decide +kernel
theorem dX11_failing_20 : decode cX11_failing 20 = .ok (.iload_n 3, 1) := by decide +kernel
theorem dX11_failing_21 : decode cX11_failing 21 = .ok (.ior, 1) := by decide +kernel
theorem dX11_failing_22 : decode cX11_failing 22 = .ok (.istore_n 2, 1) := by decide +kernel
theorem dX11_failing_23 : decode cX11_failing 23 = .ok (.aload_n 0, 1) := by decide +kernel
theorem dX11_failing_24 : decode cX11_failing 24 = .ok (.dup, 1) := by decide +kernel
theorem dX11_failing_25 : decode cX11_failing 25 = .ok (.getfield 301, 3) := by decide +kernel
theorem dX11_failing_28 : decode cX11_failing 28 = .ok (.iconst 1, 1) := by decide +kernel
theorem dX11_failing_29 : decode cX11_failing 29 = .ok (.iadd, 1) := by decide +kernel
theorem dX11_failing_30 : decode cX11_failing 30 = .ok (.putfield 301, 3) := by decide +kernel
theorem dX11_failing_33 : decode cX11_failing 33 = .ok (.aload_n 0, 1) := by decide +kernel
theorem dX11_failing_34 : decode cX11_failing 34 = .ok (.iload_n 2, 1) := by decide +kernel
theorem dX11_failing_35 : decode cX11_failing 35 = .ok (.invokevirtual 304, 3) := by decide +kernel
theorem dX11_failing_38 : decode cX11_failing 38 = .ok (.istore_n 3, 1) := by decide +kernel
theorem dX11_failing_39 : decode cX11_failing 39 = .ok (.goto (-24), 3) := by decide +kernel
theorem dX11_failing_42 : decode cX11_failing 42 = .ok (.iload_n 2, 1) := by decide +kernel
theorem dX11_failing_43 : decode cX11_failing 43 = .ok (.ireturn, 1) := by decide +kernel
theorem dX11_fails_0 : decode cX11_fails 0 = .ok (.aload_n 0, 1) := by decide +kernel
theorem dX11_fails_1 : decode cX11_fails 1 = .ok (.iconst 0, 1) := by decide +kernel
theorem dX11_fails_2 : decode cX11_fails 2 = .ok (.putfield 68, 3) := by decide +kernel
theorem dX11_fails_5 : decode cX11_fails 5 = .ok (.aload_n 0, 1) := by decide +kernel
theorem dX11_fails_6 : decode cX11_fails 6 = .ok (.iload_n 1, 1) := by decide +kernel
theorem dX11_fails_7 : decode cX11_fails 7 = .ok (.invokevirtual 78, 3) := by decide +kernel
theorem dX11_fails_10 : decode cX11_fails 10 = .ok (.ifCond .ne 5, 3) := by decide +kernel
theorem dX11_fails_13 : decode cX11_fails 13 = .ok (.iconst (-1), 1) := by decide +kernel
theorem dX11_fails_14 : decode cX11_fails 14 = .ok (.ireturn, 1) := by decide +kernel
theorem dX11_fails_15 : decode cX11_fails 15 = .ok (.aload_n 0, 1) := by decide +kernel
theorem dX11_fails_16 : decode cX11_fails 16 = .ok (.iload_n 1, 1) := by decide +kernel
theorem dX11_fails_17 : decode cX11_fails 17 = .ok (.invokevirtual 307, 3) := by decide +kernel
theorem dX11_fails_20 : decode cX11_fails 20 = .ok (.istore_n 2, 1) := by decide +kernel
theorem dX11_fails_21 : decode cX11_fails 21 = .ok (.aload_n 0, 1) := by decide +kernel
theorem dX11_fails_22 : decode cX11_fails 22 = .ok (.iconst 0, 1) := by decide +kernel
theorem dX11_fails_23 : decode cX11_fails 23 = .ok (.putfield 71, 3) := by decide +kernel
theorem dX11_fails_26 : decode cX11_fails 26 = .ok (.aload_n 0, 1) := by decide +kernel
theorem dX11_fails_27 : decode cX11_fails 27 = .ok (.iload_n 2, 1) := by decide +kernel
theorem dX11_fails_28 : decode cX11_fails 28 = .ok (.i2l, 1) := by decide +kernel
theorem dX11_fails_29 : decode cX11_fails 29 = .ok (.invokevirtual 155, 3) := by decide +kernel
theorem dX11_fails_32 : decode cX11_fails 32 = .ok (.aload_n 0, 1) := by decide +kernel
theorem dX11_fails_33 : decode cX11_fails 33 = .ok (.aload_n 0, 1) := by decide +kernel
theorem dX11_fails_34 : decode cX11_fails 34 = .ok (.iload_n 2, 1) := by decide +kernel
theorem dX11_fails_35 : decode cX11_fails 35 = .ok (.sipush 255, 3) := by decide +kernel
theorem dX11_fails_38 : decode cX11_fails 38 = .ok (.invokevirtual 310, 3) := by decide +kernel
theorem dX11_fails_41 : decode cX11_fails 41 = .ok (.i2l, 1) := by decide +kernel
theorem dX11_fails_42 : decode cX11_fails 42 = .ok (.invokevirtual 155, 3) := by decide +kernel
theorem dX11_fails_45 : decode cX11_fails 45 = .ok (.aload_n 0, 1) := by decide +kernel
theorem dX11_fails_46 : decode cX11_fails 46 = .ok (.aload_n 0, 1) := by decide +kernel
theorem dX11_fails_47 : decode cX11_fails 47 = .ok (.iload_n 2, 1) := by decide +kernel
theorem dX11_fails_48 : decode cX11_fails 48 = .ok (.sipush 255, 3) := by decide +kernel
theorem dX11_fails_51 : decode cX11_fails 51 = .ok (.iload_n 2, 1) := by decide +kernel
theorem dX11_fails_52 : decode cX11_fails 52 = .ok (.iconst (-1), 1) := by decide +kernel
theorem dX11_fails_53 : decode cX11_fails 53 = .ok (.ixor, 1) := by decide +kernel
theorem dX11_fails_54 : decode cX11_fails 54 = .ok (.iand, 1) := by decide +kernel
theorem dX11_fails_55 : decode cX11_fails 55 = .ok (.invokevirtual 310, 3) := by decide +kernel
theorem dX11_fails_58 : decode cX11_fails 58 = .ok (.i2l, 1) := by decide +kernel
theorem dX11_fails_59 : decode cX11_fails 59 = .ok (.invokevirtual 155, 3) := by decide +kernel
theorem dX11_fails_62 : decode cX11_fails 62 = .ok (.aload_n 0, 1) := by decide +kernel
theorem dX11_fails_63 : decode cX11_fails 63 = .ok (.getfield 301, 3) := by decide +kernel
theorem dX11_fails_66 : decode cX11_fails 66 = .ok (.ireturn, 1) := by decide +kernel
theorem dX11_worst_0 : decode cX11_worst 0 = .ok (.aload_n 0, 1) := by decide +kernel
theorem dX11_worst_1 : decode cX11_worst 1 = .ok (.iconst 0, 1) := by decide +kernel
theorem dX11_worst_2 : decode cX11_worst 2 = .ok (.putfield 68, 3) := by decide +kernel
theorem dX11_worst_5 : decode cX11_worst 5 = .ok (.iconst (-1), 1) := by decide +kernel
theorem dX11_worst_6 : decode cX11_worst 6 = .ok (.istore_n 1, 1) := by decide +kernel
theorem dX11_worst_7 : decode cX11_worst 7 = .ok (.iconst 0, 1) := by decide +kernel
theorem dX11_worst_8 : decode cX11_worst 8 = .ok (.istore_n 2, 1) := by decide +kernel
theorem dX11_worst_9 : decode cX11_worst 9 = .ok (.iconst 0, 1) := by decide +kernel
theorem dX11_worst_10 : decode cX11_worst 10 = .ok (.istore_n 3, 1) := by decide +kernel
theorem dX11_worst_11 : decode cX11_worst 11 = .ok (.iload_n 3, 1) := by decide +kernel
theorem dX11_worst_12 : decode cX11_worst 12 = .ok (.aload_n 0, 1) := by decide +kernel
theorem dX11_worst_13 : decode cX11_worst 13 = .ok (.getfield 9, 3) := by decide +kernel
theorem dX11_worst_16 : decode cX11_worst 16 = .ok (.iconst 0, 1) := by decide +kernel
theorem dX11_worst_17 : decode cX11_worst 17 = .ok (.iaload, 1) := by decide +kernel
theorem dX11_worst_18 : decode cX11_worst 18 = .ok (.if_icmp .ge 37, 3) := by decide +kernel
theorem dX11_worst_21 : decode cX11_worst 21 = .ok (.aload_n 0, 1) := by decide +kernel
theorem dX11_worst_22 : decode cX11_worst 22 = .ok (.aload_n 0, 1) := by decide +kernel
theorem dX11_worst_23 : decode cX11_worst 23 = .ok (.iload_n 3, 1) := by decide +kernel
theorem dX11_worst_24 : decode cX11_worst 24 = .ok (.invokevirtual 307, 3) := by decide +kernel
theorem dX11_worst_27 : decode cX11_worst 27 = .ok (.sipush 255, 3) := by decide +kernel
theorem dX11_worst_30 : decode cX11_worst 30 = .ok (.invokevirtual 310, 3) := by decide +kernel
theorem dX11_worst_33 : decode cX11_worst 33 = .ok (.istore 4, 2) := by decide +kernel
theorem dX11_worst_35 : decode cX11_worst 35 = .ok (.iload 4, 2) := by decide +kernel
theorem dX11_worst_37 : decode cX11_worst 37 = .ok (.iload_n 2, 1) := by decide +kernel
theorem dX11_worst_38 : decode cX11_worst 38 = .ok (.if_icmp .gt 6, 3) := by decide +kernel
theorem dX11_worst_41 : decode cX11_worst 41 = .ok (.goto 8, 3) := by decide +kernel
theorem dX11_worst_44 : decode cX11_worst 44 = .ok (.iload_n 3, 1) := by decide +kernel
theorem dX11_worst_45 : decode cX11_worst 45 = .ok (.istore_n 1, 1) := by decide +kernel
theorem dX11_worst_46 : decode cX11_worst 46 = .ok (.iload 4, 2) := by decide +kernel
theorem dX11_worst_48 : decode cX11_worst 48 = .ok (.istore_n 2, 1) := by decide +kernel
theorem dX11_worst_49 : decode cX11_worst 49 = .ok (.iinc 3 1, 3) := by decide +kernel
theorem dX11_worst_52 : decode cX11_worst 52 = .ok (.goto (-41), 3) := by decide +kernel
theorem dX11_worst_55 : decode cX11_worst 55 = .ok (.iload_n 1, 1) := by decide +kernel
theorem dX11_worst_56 : decode cX11_worst 56 = .ok (.iconst (-1), 1) := by decide +kernel
theorem dX11_worst_57 : decode cX11_worst 57 = .ok (.if_icmp .ne 6, 3) := by decide +kernel
theorem dX11_worst_60 : decode cX11_worst 60 = .ok (.bipush (-2), 2) := by decide +kernel
theorem dX11_worst_62 : decode cX11_worst 62 = .ok (.ireturn, 1) := by decide +kernel
theorem dX11_worst_63 : decode cX11_worst 63 = .ok (.aload_n 0, 1) := by decide +kernel
theorem dX11_worst_64 : decode cX11_worst 64 = .ok (.iconst 0, 1) := by decide +kernel
theorem dX11_worst_65 : decode cX11_worst 65 = .ok (.putfield 71, 3) := by decide +kernel
theorem dX11_worst_68 : decode cX11_worst 68 = .ok (.aload_n 0, 1) := by decide +kernel
theorem dX11_worst_69 : decode cX11_worst 69 = .ok (.iload_n 2, 1) := by decide +kernel
theorem dX11_worst_70 : decode cX11_worst 70 = .ok (.i2l, 1) := by decide +kernel
theorem dX11_worst_71 : decode cX11_worst 71 = .ok (.invokevirtual 155, 3) := by decide +kernel
theorem dX11_worst_74 : decode cX11_worst 74 = .ok (.aload_n 0, 1) := by decide +kernel
theorem dX11_worst_75 : decode cX11_worst 75 = .ok (.aload_n 0, 1) := by decide +kernel
theorem dX11_worst_76 : decode cX11_worst 76 = .ok (.iload_n 1, 1) := by decide +kernel
theorem dX11_worst_77 : decode cX11_worst 77 = .ok (.invokevirtual 307, 3) := by decide +kernel
theorem dX11_worst_80 : decode cX11_worst 80 = .ok (.invokestatic 204, 3) := by decide +kernel
theorem dX11_worst_83 : decode cX11_worst 83 = .ok (.iconst 1, 1) := by decide +kernel
theorem dX11_worst_84 : decode cX11_worst 84 = .ok (.isub, 1) := by decide +kernel
theorem dX11_worst_85 : decode cX11_worst 85 = .ok (.i2l, 1) := by decide +kernel
theorem dX11_worst_86 : decode cX11_worst 86 = .ok (.invokevirtual 155, 3) := by decide +kernel
theorem dX11_worst_89 : decode cX11_worst 89 = .ok (.iload_n 1, 1) := by decide +kernel
theorem dX11_worst_90 : decode cX11_worst 90 = .ok (.ireturn, 1) := by decide +kernel
theorem dX11_enough_0 : decode cX11_enough 0 = .ok (.aload_n 0, 1) := by decide +kernel
theorem dX11_enough_1 : decode cX11_enough 1 = .ok (.iconst 0, 1) := by decide +kernel
theorem dX11_enough_2 : decode cX11_enough 2 = .ok (.putfield 68, 3) := by decide +kernel
theorem dX11_enough_5 : decode cX11_enough 5 = .ok (.aload_n 0, 1) := by decide +kernel
theorem dX11_enough_6 : decode cX11_enough 6 = .ok (.iload_n 1, 1) := by decide +kernel
theorem dX11_enough_7 : decode cX11_enough 7 = .ok (.invokevirtual 78, 3) := by decide +kernel
theorem dX11_enough_10 : decode cX11_enough 10 = .ok (.ifCond .ne 5, 3) := by decide +kernel
theorem dX11_enough_13 : decode cX11_enough 13 = .ok (.iconst (-1), 1) := by decide +kernel
theorem dX11_enough_14 : decode cX11_enough 14 = .ok (.ireturn, 1) := by decide +kernel
theorem dX11_enough_15 : decode cX11_enough 15 = .ok (.aload_n 0, 1) := by decide +kernel
theorem dX11_enough_16 : decode cX11_enough 16 = .ok (.iconst 1, 1) := by decide +kernel
theorem dX11_enough_17 : decode cX11_enough 17 = .ok (.iload_n 1, 1) := by decide +kernel
theorem dX11_enough_18 : decode cX11_enough 18 = .ok (.ishl, 1) := by decide +kernel
theorem dX11_enough_19 : decode cX11_enough 19 = .ok (.invokevirtual 304, 3) := by decide +kernel
theorem dX11_enough_22 : decode cX11_enough 22 = .ok (.istore_n 2, 1) := by decide +kernel
theorem dX11_enough_23 : decode cX11_enough 23 = .ok (.iload_n 2, 1) := by decide +kernel
theorem dX11_enough_24 : decode cX11_enough 24 = .ok (.ifCond .ne 6, 3) := by decide +kernel
theorem dX11_enough_27 : decode cX11_enough 27 = .ok (.bipush (-2), 2) := by decide +kernel
theorem dX11_enough_29 : decode cX11_enough 29 = .ok (.ireturn, 1) := by decide +kernel
theorem dX11_enough_30 : decode cX11_enough 30 = .ok (.iload_n 2, 1) := by decide +kernel
theorem dX11_enough_31 : decode cX11_enough 31 = .ok (.invokestatic 204, 3) := by decide +kernel
theorem dX11_enough_34 : decode cX11_enough 34 = .ok (.iconst 1, 1) := by decide +kernel
theorem dX11_enough_35 : decode cX11_enough 35 = .ok (.if_icmp .le 6, 3) := by decide +kernel
theorem dX11_enough_38 : decode cX11_enough 38 = .ok (.bipush (-3), 2) := by decide +kernel
theorem dX11_enough_40 : decode cX11_enough 40 = .ok (.ireturn, 1) := by decide +kernel
theorem dX11_enough_41 : decode cX11_enough 41 = .ok (.iconst 0, 1) := by decide +kernel
theorem dX11_enough_42 : decode cX11_enough 42 = .ok (.istore_n 3, 1) := by decide +kernel
theorem dX11_enough_43 : decode cX11_enough 43 = .ok (.iload_n 2, 1) := by decide +kernel
theorem dX11_enough_44 : decode cX11_enough 44 = .ok (.iload_n 3, 1) := by decide +kernel
theorem dX11_enough_45 : decode cX11_enough 45 = .ok (.ishr, 1) := by decide +kernel
theorem dX11_enough_46 : decode cX11_enough 46 = .ok (.iconst 1, 1) := by decide +kernel
theorem dX11_enough_47 : decode cX11_enough 47 = .ok (.iand, 1) := by decide +kernel
theorem dX11_enough_48 : decode cX11_enough 48 = .ok (.ifCond .ne 9, 3) := by decide +kernel
theorem dX11_enough_51 : decode cX11_enough 51 = .ok (.iinc 3 1, 3) := by decide +kernel
theorem dX11_enough_54 : decode cX11_enough 54 = .ok (.goto (-11), 3) := by decide +kernel
theorem dX11_enough_57 : decode cX11_enough 57 = .ok (.aload_n 0, 1) := by decide +kernel
theorem dX11_enough_58 : decode cX11_enough 58 = .ok (.iconst 0, 1) := by decide +kernel
theorem dX11_enough_59 : decode cX11_enough 59 = .ok (.putfield 71, 3) := by decide +kernel
theorem dX11_enough_62 : decode cX11_enough 62 = .ok (.aload_n 0, 1) := by decide +kernel
theorem dX11_enough_63 : decode cX11_enough 63 = .ok (.aload_n 0, 1) := by decide +kernel
theorem dX11_enough_64 : decode cX11_enough 64 = .ok (.iload_n 3, 1) := by decide +kernel
theorem dX11_enough_65 : decode cX11_enough 65 = .ok (.iconst 1, 1) := by decide +kernel
theorem dX11_enough_66 : decode cX11_enough 66 = .ok (.iload_n 1, 1) := by decide +kernel
theorem dX11_enough_67 : decode cX11_enough 67 = .ok (.ishl, 1) := by decide +kernel
theorem dX11_enough_68 : decode cX11_enough 68 = .ok (.invokevirtual 298, 3) := by decide +kernel
theorem dX11_enough_71 : decode cX11_enough 71 = .ok (.aload_n 0, 1) := by decide +kernel
theorem dX11_enough_72 : decode cX11_enough 72 = .ok (.getfield 9, 3) := by decide +kernel
theorem dX11_enough_75 : decode cX11_enough 75 = .ok (.sipush 129, 3) := by decide +kernel
theorem dX11_enough_78 : decode cX11_enough 78 = .ok (.iload_n 3, 1) := by decide +kernel
theorem dX11_enough_79 : decode cX11_enough 79 = .ok (.iadd, 1) := by decide +kernel
theorem dX11_enough_80 : decode cX11_enough 80 = .ok (.iaload, 1) := by decide +kernel
theorem dX11_enough_81 : decode cX11_enough 81 = .ok (.isub, 1) := by decide +kernel
theorem dX11_enough_82 : decode cX11_enough 82 = .ok (.i2l, 1) := by decide +kernel
theorem dX11_enough_83 : decode cX11_enough 83 = .ok (.invokevirtual 155, 3) := by decide +kernel
theorem dX11_enough_86 : decode cX11_enough 86 = .ok (.iload_n 3, 1) := by decide +kernel
theorem dX11_enough_87 : decode cX11_enough 87 = .ok (.ireturn, 1) := by decide +kernel
theorem dX11_raiseOf_0 : decode cX11_raiseOf 0 = .ok (.aload_n 0, 1) := by decide +kernel
theorem dX11_raiseOf_1 : decode cX11_raiseOf 1 = .ok (.iload_n 1, 1) := by decide +kernel
theorem dX11_raiseOf_2 : decode cX11_raiseOf 2 = .ok (.iload_n 2, 1) := by decide +kernel
theorem dX11_raiseOf_3 : decode cX11_raiseOf 3 = .ok (.invokevirtual 95, 3) := by decide +kernel
theorem dX11_raiseOf_6 : decode cX11_raiseOf 6 = .ok (.istore 6, 2) := by decide +kernel
theorem dX11_raiseOf_8 : decode cX11_raiseOf 8 = .ok (.iload 6, 2) := by decide +kernel
theorem dX11_raiseOf_10 : decode cX11_raiseOf 10 = .ok (.istore 7, 2) := by decide +kernel
theorem dX11_raiseOf_12 : decode cX11_raiseOf 12 = .ok (.sipush 1000, 3) := by decide +kernel
theorem dX11_raiseOf_15 : decode cX11_raiseOf 15 = .ok (.istore 8, 2) := by decide +kernel
theorem dX11_raiseOf_17 : decode cX11_raiseOf 17 = .ok (.iload 7, 2) := by decide +kernel
theorem dX11_raiseOf_19 : decode cX11_raiseOf 19 = .ok (.iconst 1, 1) := by decide +kernel
theorem dX11_raiseOf_20 : decode cX11_raiseOf 20 = .ok (.iadd, 1) := by decide +kernel
theorem dX11_raiseOf_21 : decode cX11_raiseOf 21 = .ok (.iload 8, 2) := by decide +kernel
theorem dX11_raiseOf_23 : decode cX11_raiseOf 23 = .ok (.if_icmp .ge 52, 3) := by decide +kernel
theorem dX11_raiseOf_26 : decode cX11_raiseOf 26 = .ok (.iload 7, 2) := by decide +kernel
theorem dX11_raiseOf_28 : decode cX11_raiseOf 28 = .ok (.iload 8, 2) := by decide +kernel
theorem dX11_raiseOf_30 : decode cX11_raiseOf 30 = .ok (.iadd, 1) := by decide +kernel
theorem dX11_raiseOf_31 : decode cX11_raiseOf 31 = .ok (.iconst 2, 1) := by decide +kernel
theorem dX11_raiseOf_32 : decode cX11_raiseOf 32 = .ok (.idiv, 1) := by decide +kernel
theorem dX11_raiseOf_33 : decode cX11_raiseOf 33 = .ok (.istore 9, 2) := by decide +kernel
theorem dX11_raiseOf_35 : decode cX11_raiseOf 35 = .ok (.aload_n 0, 1) := by decide +kernel
theorem dX11_raiseOf_36 : decode cX11_raiseOf 36 = .ok (.getfield 9, 3) := by decide +kernel
theorem dX11_raiseOf_39 : decode cX11_raiseOf 39 = .ok (.iconst 1, 1) := by decide +kernel
theorem dX11_raiseOf_40 : decode cX11_raiseOf 40 = .ok (.iload_n 1, 1) := by decide +kernel
theorem dX11_raiseOf_41 : decode cX11_raiseOf 41 = .ok (.iload_n 2, 1) := by decide +kernel
theorem dX11_raiseOf_42 : decode cX11_raiseOf 42 = .ok (.invokestatic 82, 3) := by decide +kernel
theorem dX11_raiseOf_45 : decode cX11_raiseOf 45 = .ok (.iadd, 1) := by decide +kernel
theorem dX11_raiseOf_46 : decode cX11_raiseOf 46 = .ok (.iload 9, 2) := by decide +kernel
theorem dX11_raiseOf_48 : decode cX11_raiseOf 48 = .ok (.iastore, 1) := by decide +kernel
theorem dX11_raiseOf_49 : decode cX11_raiseOf 49 = .ok (.aload_n 0, 1) := by decide +kernel
theorem dX11_raiseOf_50 : decode cX11_raiseOf 50 = .ok (.iload_n 3, 1) := by decide +kernel
theorem dX11_raiseOf_51 : decode cX11_raiseOf 51 = .ok (.iload 4, 2) := by decide +kernel
theorem dX11_raiseOf_53 : decode cX11_raiseOf 53 = .ok (.invokevirtual 235, 3) := by decide +kernel
theorem dX11_raiseOf_56 : decode cX11_raiseOf 56 = .ok (.iload 5, 2) := by decide +kernel
theorem dX11_raiseOf_58 : decode cX11_raiseOf 58 = .ok (.if_icmp .lt 10, 3) := by decide +kernel
theorem dX11_raiseOf_61 : decode cX11_raiseOf 61 = .ok (.iload 9, 2) := by decide +kernel
theorem dX11_raiseOf_63 : decode cX11_raiseOf 63 = .ok (.istore 8, 2) := by decide +kernel
theorem dX11_raiseOf_65 : decode cX11_raiseOf 65 = .ok (.goto 7, 3) := by decide +kernel
theorem dX11_raiseOf_68 : decode cX11_raiseOf 68 = .ok (.iload 9, 2) := by decide +kernel
theorem dX11_raiseOf_70 : decode cX11_raiseOf 70 = .ok (.istore 7, 2) := by decide +kernel
theorem dX11_raiseOf_72 : decode cX11_raiseOf 72 = .ok (.goto (-55), 3) := by decide +kernel
theorem dX11_raiseOf_75 : decode cX11_raiseOf 75 = .ok (.aload_n 0, 1) := by decide +kernel
theorem dX11_raiseOf_76 : decode cX11_raiseOf 76 = .ok (.getfield 9, 3) := by decide +kernel
theorem dX11_raiseOf_79 : decode cX11_raiseOf 79 = .ok (.iconst 1, 1) := by decide +kernel
theorem dX11_raiseOf_80 : decode cX11_raiseOf 80 = .ok (.iload_n 1, 1) := by decide +kernel
theorem dX11_raiseOf_81 : decode cX11_raiseOf 81 = .ok (.iload_n 2, 1) := by decide +kernel
theorem dX11_raiseOf_82 : decode cX11_raiseOf 82 = .ok (.invokestatic 82, 3) := by decide +kernel
theorem dX11_raiseOf_85 : decode cX11_raiseOf 85 = .ok (.iadd, 1) := by decide +kernel
theorem dX11_raiseOf_86 : decode cX11_raiseOf 86 = .ok (.iload 6, 2) := by decide +kernel
theorem dX11_raiseOf_88 : decode cX11_raiseOf 88 = .ok (.iastore, 1) := by decide +kernel
theorem dX11_raiseOf_89 : decode cX11_raiseOf 89 = .ok (.iload 8, 2) := by decide +kernel
theorem dX11_raiseOf_91 : decode cX11_raiseOf 91 = .ok (.sipush 999, 3) := by decide +kernel
theorem dX11_raiseOf_94 : decode cX11_raiseOf 94 = .ok (.if_icmp .le 7, 3) := by decide +kernel
theorem dX11_raiseOf_97 : decode cX11_raiseOf 97 = .ok (.iconst (-1), 1) := by decide +kernel
theorem dX11_raiseOf_98 : decode cX11_raiseOf 98 = .ok (.goto 8, 3) := by decide +kernel
theorem dX11_raiseOf_101 : decode cX11_raiseOf 101 = .ok (.iload 8, 2) := by decide +kernel
theorem dX11_raiseOf_103 : decode cX11_raiseOf 103 = .ok (.iload 6, 2) := by decide +kernel
theorem dX11_raiseOf_105 : decode cX11_raiseOf 105 = .ok (.isub, 1) := by decide +kernel
theorem dX11_raiseOf_106 : decode cX11_raiseOf 106 = .ok (.ireturn, 1) := by decide +kernel
theorem dX11_raise_0 : decode cX11_raise 0 = .ok (.aload_n 0, 1) := by decide +kernel
theorem dX11_raise_1 : decode cX11_raise 1 = .ok (.iconst 0, 1) := by decide +kernel
theorem dX11_raise_2 : decode cX11_raise 2 = .ok (.putfield 68, 3) := by decide +kernel
theorem dX11_raise_5 : decode cX11_raise 5 = .ok (.aload_n 0, 1) := by decide +kernel
theorem dX11_raise_6 : decode cX11_raise 6 = .ok (.iload_n 1, 1) := by decide +kernel
theorem dX11_raise_7 : decode cX11_raise 7 = .ok (.iload_n 2, 1) := by decide +kernel
theorem dX11_raise_8 : decode cX11_raise 8 = .ok (.iload_n 3, 1) := by decide +kernel
theorem dX11_raise_9 : decode cX11_raise 9 = .ok (.invokevirtual 192, 3) := by decide +kernel
theorem dX11_raise_12 : decode cX11_raise 12 = .ok (.ifCond .ne 5, 3) := by decide +kernel
theorem dX11_raise_15 : decode cX11_raise 15 = .ok (.iconst (-1), 1) := by decide +kernel
theorem dX11_raise_16 : decode cX11_raise 16 = .ok (.ireturn, 1) := by decide +kernel
theorem dX11_raise_17 : decode cX11_raise 17 = .ok (.aload_n 0, 1) := by decide +kernel
theorem dX11_raise_18 : decode cX11_raise 18 = .ok (.iload_n 1, 1) := by decide +kernel
theorem dX11_raise_19 : decode cX11_raise 19 = .ok (.iload_n 2, 1) := by decide +kernel
theorem dX11_raise_20 : decode cX11_raise 20 = .ok (.invokevirtual 235, 3) := by decide +kernel
theorem dX11_raise_23 : decode cX11_raise 23 = .ok (.iload_n 3, 1) := by decide +kernel
theorem dX11_raise_24 : decode cX11_raise 24 = .ok (.if_icmp .lt 6, 3) := by decide +kernel
theorem dX11_raise_27 : decode cX11_raise 27 = .ok (.bipush (-2), 2) := by decide +kernel
theorem dX11_raise_29 : decode cX11_raise 29 = .ok (.ireturn, 1) := by decide +kernel
theorem dX11_raise_30 : decode cX11_raise 30 = .ok (.iconst (-1), 1) := by decide +kernel
theorem dX11_raise_31 : decode cX11_raise 31 = .ok (.istore 4, 2) := by decide +kernel
theorem dX11_raise_33 : decode cX11_raise 33 = .ok (.iconst 0, 1) := by decide +kernel
theorem dX11_raise_34 : decode cX11_raise 34 = .ok (.istore 5, 2) := by decide +kernel
theorem dX11_raise_36 : decode cX11_raise 36 = .ok (.iconst 0, 1) := by decide +kernel
theorem dX11_raise_37 : decode cX11_raise 37 = .ok (.istore 6, 2) := by decide +kernel
theorem dX11_raise_39 : decode cX11_raise 39 = .ok (.iload 6, 2) := by decide +kernel
theorem dX11_raise_41 : decode cX11_raise 41 = .ok (.aload_n 0, 1) := by decide +kernel
theorem dX11_raise_42 : decode cX11_raise 42 = .ok (.getfield 9, 3) := by decide +kernel
theorem dX11_raise_45 : decode cX11_raise 45 = .ok (.iconst 0, 1) := by decide +kernel
theorem dX11_raise_46 : decode cX11_raise 46 = .ok (.iaload, 1) := by decide +kernel
theorem dX11_raise_47 : decode cX11_raise 47 = .ok (.if_icmp .ge 89, 3) := by decide +kernel
theorem dX11_raise_50 : decode cX11_raise 50 = .ok (.iconst 0, 1) := by decide +kernel
theorem dX11_raise_51 : decode cX11_raise 51 = .ok (.istore 7, 2) := by decide +kernel
theorem dX11_raise_53 : decode cX11_raise 53 = .ok (.iload 7, 2) := by decide +kernel
theorem dX11_raise_55 : decode cX11_raise 55 = .ok (.aload_n 0, 1) := by decide +kernel
theorem dX11_raise_56 : decode cX11_raise 56 = .ok (.getfield 9, 3) := by decide +kernel
theorem dX11_raise_59 : decode cX11_raise 59 = .ok (.iconst 0, 1) := by decide +kernel
theorem dX11_raise_60 : decode cX11_raise 60 = .ok (.iaload, 1) := by decide +kernel
theorem dX11_raise_61 : decode cX11_raise 61 = .ok (.if_icmp .ge 69, 3) := by decide +kernel
theorem dX11_raise_64 : decode cX11_raise 64 = .ok (.iload 6, 2) := by decide +kernel
theorem dX11_raise_66 : decode cX11_raise 66 = .ok (.iload 7, 2) := by decide +kernel
theorem dX11_raise_68 : decode cX11_raise 68 = .ok (.if_icmp .ne 7, 3) := by decide +kernel
theorem dX11_raise_71 : decode cX11_raise 71 = .ok (.iconst (-1), 1) := by decide +kernel
theorem dX11_raise_72 : decode cX11_raise 72 = .ok (.goto 14, 3) := by decide +kernel
theorem dX11_raise_75 : decode cX11_raise 75 = .ok (.aload_n 0, 1) := by decide +kernel
theorem dX11_raise_76 : decode cX11_raise 76 = .ok (.iload 6, 2) := by decide +kernel
theorem dX11_raise_78 : decode cX11_raise 78 = .ok (.iload 7, 2) := by decide +kernel
theorem dX11_raise_80 : decode cX11_raise 80 = .ok (.iload_n 1, 1) := by decide +kernel
theorem dX11_raise_81 : decode cX11_raise 81 = .ok (.iload_n 2, 1) := by decide +kernel
theorem dX11_raise_82 : decode cX11_raise 82 = .ok (.iload_n 3, 1) := by decide +kernel
theorem dX11_raise_83 : decode cX11_raise 83 = .ok (.invokevirtual 313, 3) := by decide +kernel
theorem dX11_raise_86 : decode cX11_raise 86 = .ok (.istore 8, 2) := by decide +kernel
theorem dX11_raise_88 : decode cX11_raise 88 = .ok (.iload 8, 2) := by decide +kernel
theorem dX11_raise_90 : decode cX11_raise 90 = .ok (.iconst (-1), 1) := by decide +kernel
theorem dX11_raise_91 : decode cX11_raise 91 = .ok (.if_icmp .eq 33, 3) := by decide +kernel
theorem dX11_raise_94 : decode cX11_raise 94 = .ok (.iload 4, 2) := by decide +kernel
theorem dX11_raise_96 : decode cX11_raise 96 = .ok (.iconst (-1), 1) := by decide +kernel
theorem dX11_raise_97 : decode cX11_raise 97 = .ok (.if_icmp .eq 13, 3) := by decide +kernel
theorem dX11_raise_100 : decode cX11_raise 100 = .ok (.iload 8, 2) := by decide +kernel
theorem dX11_raise_102 : decode cX11_raise 102 = .ok (.iload 5, 2) := by decide +kernel
theorem dX11_raise_104 : decode cX11_raise 104 = .ok (.if_icmp .lt 6, 3) := by decide +kernel
theorem dX11_raise_107 : decode cX11_raise 107 = .ok (.goto 17, 3) := by decide +kernel
theorem dX11_raise_110 : decode cX11_raise 110 = .ok (.bipush 10, 2) := by decide +kernel
theorem dX11_raise_112 : decode cX11_raise 112 = .ok (.iload 6, 2) := by decide +kernel
theorem dX11_raise_114 : decode cX11_raise 114 = .ok (.imul, 1) := by decide +kernel
theorem dX11_raise_115 : decode cX11_raise 115 = .ok (.iload 7, 2) := by decide +kernel
theorem dX11_raise_117 : decode cX11_raise 117 = .ok (.iadd, 1) := by decide +kernel
theorem dX11_raise_118 : decode cX11_raise 118 = .ok (.istore 4, 2) := by decide +kernel
theorem dX11_raise_120 : decode cX11_raise 120 = .ok (.iload 8, 2) := by decide +kernel
theorem dX11_raise_122 : decode cX11_raise 122 = .ok (.istore 5, 2) := by decide +kernel
theorem dX11_raise_124 : decode cX11_raise 124 = .ok (.iinc 7 1, 3) := by decide +kernel
theorem dX11_raise_127 : decode cX11_raise 127 = .ok (.goto (-74), 3) := by decide +kernel
theorem dX11_raise_130 : decode cX11_raise 130 = .ok (.iinc 6 1, 3) := by decide +kernel
theorem dX11_raise_133 : decode cX11_raise 133 = .ok (.goto (-94), 3) := by decide +kernel
theorem dX11_raise_136 : decode cX11_raise 136 = .ok (.iload 4, 2) := by decide +kernel
theorem dX11_raise_138 : decode cX11_raise 138 = .ok (.iconst (-1), 1) := by decide +kernel
theorem dX11_raise_139 : decode cX11_raise 139 = .ok (.if_icmp .ne 6, 3) := by decide +kernel
theorem dX11_raise_142 : decode cX11_raise 142 = .ok (.bipush (-3), 2) := by decide +kernel
theorem dX11_raise_144 : decode cX11_raise 144 = .ok (.ireturn, 1) := by decide +kernel
theorem dX11_raise_145 : decode cX11_raise 145 = .ok (.aload_n 0, 1) := by decide +kernel
theorem dX11_raise_146 : decode cX11_raise 146 = .ok (.iconst 0, 1) := by decide +kernel
theorem dX11_raise_147 : decode cX11_raise 147 = .ok (.putfield 71, 3) := by decide +kernel
theorem dX11_raise_150 : decode cX11_raise 150 = .ok (.aload_n 0, 1) := by decide +kernel
theorem dX11_raise_151 : decode cX11_raise 151 = .ok (.iload 5, 2) := by decide +kernel
theorem dX11_raise_153 : decode cX11_raise 153 = .ok (.i2l, 1) := by decide +kernel
theorem dX11_raise_154 : decode cX11_raise 154 = .ok (.invokevirtual 155, 3) := by decide +kernel
theorem dX11_raise_157 : decode cX11_raise 157 = .ok (.iload 4, 2) := by decide +kernel
theorem dX11_raise_159 : decode cX11_raise 159 = .ok (.ireturn, 1) := by decide +kernel
theorem dX11_mostWithout_0 : decode cX11_mostWithout 0 = .ok (.aload_n 0, 1) := by decide +kernel
theorem dX11_mostWithout_1 : decode cX11_mostWithout 1 = .ok (.iload_n 3, 1) := by decide +kernel
theorem dX11_mostWithout_2 : decode cX11_mostWithout 2 = .ok (.putfield 33, 3) := by decide +kernel
theorem dX11_mostWithout_5 : decode cX11_mostWithout 5 = .ok (.aload_n 0, 1) := by decide +kernel
theorem dX11_mostWithout_6 : decode cX11_mostWithout 6 = .ok (.iload_n 1, 1) := by decide +kernel
theorem dX11_mostWithout_7 : decode cX11_mostWithout 7 = .ok (.iload_n 2, 1) := by decide +kernel
theorem dX11_mostWithout_8 : decode cX11_mostWithout 8 = .ok (.invokevirtual 235, 3) := by decide +kernel
theorem dX11_mostWithout_11 : decode cX11_mostWithout 11 = .ok (.istore 4, 2) := by decide +kernel
theorem dX11_mostWithout_13 : decode cX11_mostWithout 13 = .ok (.aload_n 0, 1) := by decide +kernel
theorem dX11_mostWithout_14 : decode cX11_mostWithout 14 = .ok (.iconst (-1), 1) := by decide +kernel
theorem dX11_mostWithout_15 : decode cX11_mostWithout 15 = .ok (.putfield 33, 3) := by decide +kernel
theorem dX11_mostWithout_18 : decode cX11_mostWithout 18 = .ok (.iload 4, 2) := by decide +kernel
theorem dX11_mostWithout_20 : decode cX11_mostWithout 20 = .ok (.ireturn, 1) := by decide +kernel
theorem dX11_without_0 : decode cX11_without 0 = .ok (.aload_n 0, 1) := by decide +kernel
theorem dX11_without_1 : decode cX11_without 1 = .ok (.iconst 0, 1) := by decide +kernel
theorem dX11_without_2 : decode cX11_without 2 = .ok (.putfield 68, 3) := by decide +kernel
theorem dX11_without_5 : decode cX11_without 5 = .ok (.aload_n 0, 1) := by decide +kernel
theorem dX11_without_6 : decode cX11_without 6 = .ok (.iload_n 1, 1) := by decide +kernel
theorem dX11_without_7 : decode cX11_without 7 = .ok (.iload_n 2, 1) := by decide +kernel
theorem dX11_without_8 : decode cX11_without 8 = .ok (.invokevirtual 159, 3) := by decide +kernel
theorem dX11_without_11 : decode cX11_without 11 = .ok (.ifCond .eq 21, 3) := by decide +kernel
theorem dX11_without_14 : decode cX11_without 14 = .ok (.aload_n 0, 1) := by decide +kernel
theorem dX11_without_15 : decode cX11_without 15 = .ok (.iload_n 3, 1) := by decide +kernel
theorem dX11_without_16 : decode cX11_without 16 = .ok (.invokevirtual 78, 3) := by decide +kernel
theorem dX11_without_19 : decode cX11_without 19 = .ok (.ifCond .eq 13, 3) := by decide +kernel
theorem dX11_without_22 : decode cX11_without 22 = .ok (.iload_n 3, 1) := by decide +kernel
theorem dX11_without_23 : decode cX11_without 23 = .ok (.iload_n 1, 1) := by decide +kernel
theorem dX11_without_24 : decode cX11_without 24 = .ok (.if_icmp .eq 8, 3) := by decide +kernel
theorem dX11_without_27 : decode cX11_without 27 = .ok (.iload_n 3, 1) := by decide +kernel
theorem dX11_without_28 : decode cX11_without 28 = .ok (.iload_n 2, 1) := by decide +kernel
theorem dX11_without_29 : decode cX11_without 29 = .ok (.if_icmp .ne 5, 3) := by decide +kernel
theorem dX11_without_32 : decode cX11_without 32 = .ok (.iconst (-1), 1) := by decide +kernel
theorem dX11_without_33 : decode cX11_without 33 = .ok (.ireturn, 1) := by decide +kernel
theorem dX11_without_34 : decode cX11_without 34 = .ok (.aload_n 0, 1) := by decide +kernel
theorem dX11_without_35 : decode cX11_without 35 = .ok (.iload_n 1, 1) := by decide +kernel
theorem dX11_without_36 : decode cX11_without 36 = .ok (.iload_n 2, 1) := by decide +kernel
theorem dX11_without_37 : decode cX11_without 37 = .ok (.iload_n 3, 1) := by decide +kernel
theorem dX11_without_38 : decode cX11_without 38 = .ok (.invokevirtual 317, 3) := by decide +kernel
theorem dX11_without_41 : decode cX11_without 41 = .ok (.istore 4, 2) := by decide +kernel
theorem dX11_without_43 : decode cX11_without 43 = .ok (.aload_n 0, 1) := by decide +kernel
theorem dX11_without_44 : decode cX11_without 44 = .ok (.iconst 0, 1) := by decide +kernel
theorem dX11_without_45 : decode cX11_without 45 = .ok (.putfield 71, 3) := by decide +kernel
theorem dX11_without_48 : decode cX11_without 48 = .ok (.aload_n 0, 1) := by decide +kernel
theorem dX11_without_49 : decode cX11_without 49 = .ok (.aload_n 0, 1) := by decide +kernel
theorem dX11_without_50 : decode cX11_without 50 = .ok (.iload_n 1, 1) := by decide +kernel
theorem dX11_without_51 : decode cX11_without 51 = .ok (.iload_n 2, 1) := by decide +kernel
theorem dX11_without_52 : decode cX11_without 52 = .ok (.invokevirtual 235, 3) := by decide +kernel
theorem dX11_without_55 : decode cX11_without 55 = .ok (.iload 4, 2) := by decide +kernel
theorem dX11_without_57 : decode cX11_without 57 = .ok (.isub, 1) := by decide +kernel
theorem dX11_without_58 : decode cX11_without 58 = .ok (.i2l, 1) := by decide +kernel
theorem dX11_without_59 : decode cX11_without 59 = .ok (.invokevirtual 155, 3) := by decide +kernel
theorem dX11_without_62 : decode cX11_without 62 = .ok (.iload 4, 2) := by decide +kernel
theorem dX11_without_64 : decode cX11_without 64 = .ok (.ireturn, 1) := by decide +kernel
theorem dX11_key_0 : decode cX11_key 0 = .ok (.aload_n 0, 1) := by decide +kernel
theorem dX11_key_1 : decode cX11_key 1 = .ok (.iconst 0, 1) := by decide +kernel
theorem dX11_key_2 : decode cX11_key 2 = .ok (.putfield 68, 3) := by decide +kernel
theorem dX11_key_5 : decode cX11_key 5 = .ok (.aload_n 0, 1) := by decide +kernel
theorem dX11_key_6 : decode cX11_key 6 = .ok (.iload_n 1, 1) := by decide +kernel
theorem dX11_key_7 : decode cX11_key 7 = .ok (.iload_n 2, 1) := by decide +kernel
theorem dX11_key_8 : decode cX11_key 8 = .ok (.invokevirtual 159, 3) := by decide +kernel
theorem dX11_key_11 : decode cX11_key 11 = .ok (.ifCond .ne 5, 3) := by decide +kernel
theorem dX11_key_14 : decode cX11_key 14 = .ok (.iconst (-1), 1) := by decide +kernel
theorem dX11_key_15 : decode cX11_key 15 = .ok (.ireturn, 1) := by decide +kernel
theorem dX11_key_16 : decode cX11_key 16 = .ok (.iconst (-1), 1) := by decide +kernel
theorem dX11_key_17 : decode cX11_key 17 = .ok (.istore_n 3, 1) := by decide +kernel
theorem dX11_key_18 : decode cX11_key 18 = .ok (.iconst 0, 1) := by decide +kernel
theorem dX11_key_19 : decode cX11_key 19 = .ok (.istore 4, 2) := by decide +kernel
theorem dX11_key_21 : decode cX11_key 21 = .ok (.iconst 0, 1) := by decide +kernel
theorem dX11_key_22 : decode cX11_key 22 = .ok (.istore 5, 2) := by decide +kernel
theorem dX11_key_24 : decode cX11_key 24 = .ok (.iload 5, 2) := by decide +kernel
theorem dX11_key_26 : decode cX11_key 26 = .ok (.aload_n 0, 1) := by decide +kernel
theorem dX11_key_27 : decode cX11_key 27 = .ok (.getfield 9, 3) := by decide +kernel
theorem dX11_key_30 : decode cX11_key 30 = .ok (.iconst 0, 1) := by decide +kernel
theorem dX11_key_31 : decode cX11_key 31 = .ok (.iaload, 1) := by decide +kernel
theorem dX11_key_32 : decode cX11_key 32 = .ok (.if_icmp .ge 56, 3) := by decide +kernel
theorem dX11_key_35 : decode cX11_key 35 = .ok (.iload 5, 2) := by decide +kernel
theorem dX11_key_37 : decode cX11_key 37 = .ok (.iload_n 1, 1) := by decide +kernel
theorem dX11_key_38 : decode cX11_key 38 = .ok (.if_icmp .eq 44, 3) := by decide +kernel
theorem dX11_key_41 : decode cX11_key 41 = .ok (.iload 5, 2) := by decide +kernel
theorem dX11_key_43 : decode cX11_key 43 = .ok (.iload_n 2, 1) := by decide +kernel
theorem dX11_key_44 : decode cX11_key 44 = .ok (.if_icmp .ne 6, 3) := by decide +kernel
theorem dX11_key_47 : decode cX11_key 47 = .ok (.goto 35, 3) := by decide +kernel
theorem dX11_key_50 : decode cX11_key 50 = .ok (.aload_n 0, 1) := by decide +kernel
theorem dX11_key_51 : decode cX11_key 51 = .ok (.iload_n 1, 1) := by decide +kernel
theorem dX11_key_52 : decode cX11_key 52 = .ok (.iload_n 2, 1) := by decide +kernel
theorem dX11_key_53 : decode cX11_key 53 = .ok (.iload 5, 2) := by decide +kernel
theorem dX11_key_55 : decode cX11_key 55 = .ok (.invokevirtual 317, 3) := by decide +kernel
theorem dX11_key_58 : decode cX11_key 58 = .ok (.istore 6, 2) := by decide +kernel
theorem dX11_key_60 : decode cX11_key 60 = .ok (.iload_n 3, 1) := by decide +kernel
theorem dX11_key_61 : decode cX11_key 61 = .ok (.iconst (-1), 1) := by decide +kernel
theorem dX11_key_62 : decode cX11_key 62 = .ok (.if_icmp .eq 13, 3) := by decide +kernel
theorem dX11_key_65 : decode cX11_key 65 = .ok (.iload 6, 2) := by decide +kernel
theorem dX11_key_67 : decode cX11_key 67 = .ok (.iload 4, 2) := by decide +kernel
theorem dX11_key_69 : decode cX11_key 69 = .ok (.if_icmp .lt 6, 3) := by decide +kernel
theorem dX11_key_72 : decode cX11_key 72 = .ok (.goto 10, 3) := by decide +kernel
theorem dX11_key_75 : decode cX11_key 75 = .ok (.iload 5, 2) := by decide +kernel
theorem dX11_key_77 : decode cX11_key 77 = .ok (.istore_n 3, 1) := by decide +kernel
theorem dX11_key_78 : decode cX11_key 78 = .ok (.iload 6, 2) := by decide +kernel
theorem dX11_key_80 : decode cX11_key 80 = .ok (.istore 4, 2) := by decide +kernel
theorem dX11_key_82 : decode cX11_key 82 = .ok (.iinc 5 1, 3) := by decide +kernel
theorem dX11_key_85 : decode cX11_key 85 = .ok (.goto (-61), 3) := by decide +kernel
theorem dX11_key_88 : decode cX11_key 88 = .ok (.iload_n 3, 1) := by decide +kernel
theorem dX11_key_89 : decode cX11_key 89 = .ok (.iconst (-1), 1) := by decide +kernel
theorem dX11_key_90 : decode cX11_key 90 = .ok (.if_icmp .ne 6, 3) := by decide +kernel
