theorem dX10_sheet_77 : decode cX10_sheet 77 = .ok (.iadd, 1) := by decide +kernel
theorem dX10_sheet_78 : decode cX10_sheet 78 = .ok (.invokestatic 118, 3) := by decide +kernel
theorem dX10_sheet_81 : decode cX10_sheet 81 = .ok (.invokevirtual 122, 3) := by decide +kernel
theorem dX10_sheet_84 : decode cX10_sheet 84 = .ok (.istore 7, 2) := by decide +kernel
theorem dX10_sheet_86 : decode cX10_sheet 86 = .ok (.iload 7, 2) := by decide +kernel
theorem dX10_sheet_88 : decode cX10_sheet 88 = .ok (.ifCond .eq 19, 3) := by decide +kernel
theorem dX10_sheet_91 : decode cX10_sheet 91 = .ok (.aload_n 0, 1) := by decide +kernel
theorem dX10_sheet_92 : decode cX10_sheet 92 = .ok (.getfield 54, 3) := by decide +kernel
theorem dX10_sheet_95 : decode cX10_sheet 95 = .ok (.iload 6, 2) := by decide +kernel
theorem dX10_sheet_97 : decode cX10_sheet 97 = .ok (.i2l, 1) := by decide +kernel
theorem dX10_sheet_98 : decode cX10_sheet 98 = .ok (.iload 7, 2) := by decide +kernel
theorem dX10_sheet_100 : decode cX10_sheet 100 = .ok (.i2l, 1) := by decide +kernel
theorem dX10_sheet_101 : decode cX10_sheet 101 = .ok (.invokevirtual 126, 3) := by decide +kernel
theorem dX10_sheet_104 : decode cX10_sheet 104 = .ok (.bipush (-4), 2) := by decide +kernel
theorem dX10_sheet_106 : decode cX10_sheet 106 = .ok (.ireturn, 1) := by decide +kernel
theorem dX10_sheet_107 : decode cX10_sheet 107 = .ok (.iinc 6 1, 3) := by decide +kernel
theorem dX10_sheet_110 : decode cX10_sheet 110 = .ok (.goto (-51), 3) := by decide +kernel
theorem dX10_sheet_113 : decode cX10_sheet 113 = .ok (.iconst 0, 1) := by decide +kernel
theorem dX10_sheet_114 : decode cX10_sheet 114 = .ok (.istore 6, 2) := by decide +kernel
theorem dX10_sheet_116 : decode cX10_sheet 116 = .ok (.iconst 0, 1) := by decide +kernel
theorem dX10_sheet_117 : decode cX10_sheet 117 = .ok (.istore 7, 2) := by decide +kernel
theorem dX10_sheet_119 : decode cX10_sheet 119 = .ok (.iload 7, 2) := by decide +kernel
theorem dX10_sheet_121 : decode cX10_sheet 121 = .ok (.iload_n 3, 1) := by decide +kernel
theorem dX10_sheet_122 : decode cX10_sheet 122 = .ok (.if_icmp .ge 65, 3) := by decide +kernel
theorem dX10_sheet_125 : decode cX10_sheet 125 = .ok (.iload_n 1, 1) := by decide +kernel
theorem dX10_sheet_126 : decode cX10_sheet 126 = .ok (.iload_n 1, 1) := by decide +kernel
theorem dX10_sheet_127 : decode cX10_sheet 127 = .ok (.iload 7, 2) := by decide +kernel
theorem dX10_sheet_129 : decode cX10_sheet 129 = .ok (.invokestatic 130, 3) := by decide +kernel
theorem dX10_sheet_132 : decode cX10_sheet 132 = .ok (.invokestatic 133, 3) := by decide +kernel
theorem dX10_sheet_135 : decode cX10_sheet 135 = .ok (.istore 8, 2) := by decide +kernel
theorem dX10_sheet_137 : decode cX10_sheet 137 = .ok (.iload_n 2, 1) := by decide +kernel
theorem dX10_sheet_138 : decode cX10_sheet 138 = .ok (.iload 4, 2) := by decide +kernel
theorem dX10_sheet_140 : decode cX10_sheet 140 = .ok (.iload 7, 2) := by decide +kernel
theorem dX10_sheet_142 : decode cX10_sheet 142 = .ok (.iload 5, 2) := by decide +kernel
theorem dX10_sheet_144 : decode cX10_sheet 144 = .ok (.imul, 1) := by decide +kernel
theorem dX10_sheet_145 : decode cX10_sheet 145 = .ok (.iadd, 1) := by decide +kernel
theorem dX10_sheet_146 : decode cX10_sheet 146 = .ok (.invokestatic 118, 3) := by decide +kernel
theorem dX10_sheet_149 : decode cX10_sheet 149 = .ok (.istore 9, 2) := by decide +kernel
theorem dX10_sheet_151 : decode cX10_sheet 151 = .ok (.aload_n 0, 1) := by decide +kernel
theorem dX10_sheet_152 : decode cX10_sheet 152 = .ok (.getfield 12, 3) := by decide +kernel
theorem dX10_sheet_155 : decode cX10_sheet 155 = .ok (.getfield 136, 3) := by decide +kernel
theorem dX10_sheet_158 : decode cX10_sheet 158 = .ok (.iload 8, 2) := by decide +kernel
theorem dX10_sheet_160 : decode cX10_sheet 160 = .ok (.iaload, 1) := by decide +kernel
theorem dX10_sheet_161 : decode cX10_sheet 161 = .ok (.iload 9, 2) := by decide +kernel
theorem dX10_sheet_163 : decode cX10_sheet 163 = .ok (.if_icmp .eq 18, 3) := by decide +kernel
theorem dX10_sheet_166 : decode cX10_sheet 166 = .ok (.aload_n 0, 1) := by decide +kernel
theorem dX10_sheet_167 : decode cX10_sheet 167 = .ok (.getfield 12, 3) := by decide +kernel
theorem dX10_sheet_170 : decode cX10_sheet 170 = .ok (.getfield 136, 3) := by decide +kernel
theorem dX10_sheet_173 : decode cX10_sheet 173 = .ok (.iload 8, 2) := by decide +kernel
theorem dX10_sheet_175 : decode cX10_sheet 175 = .ok (.iload 9, 2) := by decide +kernel
theorem dX10_sheet_177 : decode cX10_sheet 177 = .ok (.iastore, 1) := by decide +kernel
theorem dX10_sheet_178 : decode cX10_sheet 178 = .ok (.iinc 6 1, 3) := by decide +kernel
theorem dX10_sheet_181 : decode cX10_sheet 181 = .ok (.iinc 7 1, 3) := by decide +kernel
theorem dX10_sheet_184 : decode cX10_sheet 184 = .ok (.goto (-65), 3) := by decide +kernel
theorem dX10_sheet_187 : decode cX10_sheet 187 = .ok (.iload 6, 2) := by decide +kernel
theorem dX10_sheet_189 : decode cX10_sheet 189 = .ok (.ireturn, 1) := by decide +kernel
theorem dX10_entryOf_0 : decode cX10_entryOf 0 = .ok (.iload_n 0, 1) := by decide +kernel
theorem dX10_entryOf_1 : decode cX10_entryOf 1 = .ok (.ifCond .ne 6, 3) := by decide +kernel
theorem dX10_entryOf_4 : decode cX10_entryOf 4 = .ok (.iload_n 1, 1) := by decide +kernel
theorem dX10_entryOf_5 : decode cX10_entryOf 5 = .ok (.i2b, 1) := by decide +kernel
theorem dX10_entryOf_6 : decode cX10_entryOf 6 = .ok (.ireturn, 1) := by decide +kernel
theorem dX10_entryOf_7 : decode cX10_entryOf 7 = .ok (.iload_n 0, 1) := by decide +kernel
theorem dX10_entryOf_8 : decode cX10_entryOf 8 = .ok (.iconst 1, 1) := by decide +kernel
theorem dX10_entryOf_9 : decode cX10_entryOf 9 = .ok (.if_icmp .ne 8, 3) := by decide +kernel
theorem dX10_entryOf_12 : decode cX10_entryOf 12 = .ok (.iload_n 1, 1) := by decide +kernel
theorem dX10_entryOf_13 : decode cX10_entryOf 13 = .ok (.i2s, 1) := by decide +kernel
theorem dX10_entryOf_14 : decode cX10_entryOf 14 = .ok (.goto 4, 3) := by decide +kernel
theorem dX10_entryOf_17 : decode cX10_entryOf 17 = .ok (.iload_n 1, 1) := by decide +kernel
theorem dX10_entryOf_18 : decode cX10_entryOf 18 = .ok (.ireturn, 1) := by decide +kernel
theorem dX10_memberOfEntry_0 : decode cX10_memberOfEntry 0 = .ok (.iload_n 1, 1) := by decide +kernel
theorem dX10_memberOfEntry_1 : decode cX10_memberOfEntry 1 = .ok (.iload_n 0, 1) := by decide +kernel
theorem dX10_memberOfEntry_2 : decode cX10_memberOfEntry 2 = .ok (.if_icmp .ge 7, 3) := by decide +kernel
theorem dX10_memberOfEntry_5 : decode cX10_memberOfEntry 5 = .ok (.iload_n 1, 1) := by decide +kernel
theorem dX10_memberOfEntry_6 : decode cX10_memberOfEntry 6 = .ok (.goto 6, 3) := by decide +kernel
theorem dX10_memberOfEntry_9 : decode cX10_memberOfEntry 9 = .ok (.iload_n 1, 1) := by decide +kernel
theorem dX10_memberOfEntry_10 : decode cX10_memberOfEntry 10 = .ok (.iconst 1, 1) := by decide +kernel
theorem dX10_memberOfEntry_11 : decode cX10_memberOfEntry 11 = .ok (.iadd, 1) := by decide +kernel
theorem dX10_memberOfEntry_12 : decode cX10_memberOfEntry 12 = .ok (.ireturn, 1) := by decide +kernel
theorem dX10_entryFault_0 : decode cX10_entryFault 0 = .ok (.iload_n 1, 1) := by decide +kernel
theorem dX10_entryFault_1 : decode cX10_entryFault 1 = .ok (.iload_n 2, 1) := by decide +kernel
theorem dX10_entryFault_2 : decode cX10_entryFault 2 = .ok (.invokestatic 130, 3) := by decide +kernel
theorem dX10_entryFault_5 : decode cX10_entryFault 5 = .ok (.istore 4, 2) := by decide +kernel
theorem dX10_entryFault_7 : decode cX10_entryFault 7 = .ok (.aload_n 0, 1) := by decide +kernel
theorem dX10_entryFault_8 : decode cX10_entryFault 8 = .ok (.getfield 12, 3) := by decide +kernel
theorem dX10_entryFault_11 : decode cX10_entryFault 11 = .ok (.iload 4, 2) := by decide +kernel
theorem dX10_entryFault_13 : decode cX10_entryFault 13 = .ok (.invokevirtual 111, 3) := by decide +kernel
theorem dX10_entryFault_16 : decode cX10_entryFault 16 = .ok (.ifCond .ne 5, 3) := by decide +kernel
theorem dX10_entryFault_19 : decode cX10_entryFault 19 = .ok (.iconst 1, 1) := by decide +kernel
theorem dX10_entryFault_20 : decode cX10_entryFault 20 = .ok (.ireturn, 1) := by decide +kernel
theorem dX10_entryFault_21 : decode cX10_entryFault 21 = .ok (.iload_n 3, 1) := by decide +kernel
theorem dX10_entryFault_22 : decode cX10_entryFault 22 = .ok (.ifCond .lt 10, 3) := by decide +kernel
theorem dX10_entryFault_25 : decode cX10_entryFault 25 = .ok (.iload_n 3, 1) := by decide +kernel
theorem dX10_entryFault_26 : decode cX10_entryFault 26 = .ok (.sipush 999, 3) := by decide +kernel
theorem dX10_entryFault_29 : decode cX10_entryFault 29 = .ok (.if_icmp .le 5, 3) := by decide +kernel
theorem dX10_entryFault_32 : decode cX10_entryFault 32 = .ok (.iconst 2, 1) := by decide +kernel
theorem dX10_entryFault_33 : decode cX10_entryFault 33 = .ok (.ireturn, 1) := by decide +kernel
theorem dX10_entryFault_34 : decode cX10_entryFault 34 = .ok (.iload_n 3, 1) := by decide +kernel
theorem dX10_entryFault_35 : decode cX10_entryFault 35 = .ok (.aload_n 0, 1) := by decide +kernel
theorem dX10_entryFault_36 : decode cX10_entryFault 36 = .ok (.getfield 12, 3) := by decide +kernel
theorem dX10_entryFault_39 : decode cX10_entryFault 39 = .ok (.iload 4, 2) := by decide +kernel
theorem dX10_entryFault_41 : decode cX10_entryFault 41 = .ok (.iload_n 1, 1) := by decide +kernel
theorem dX10_entryFault_42 : decode cX10_entryFault 42 = .ok (.invokevirtual 140, 3) := by decide +kernel
theorem dX10_entryFault_45 : decode cX10_entryFault 45 = .ok (.if_icmp .ge 7, 3) := by decide +kernel
theorem dX10_entryFault_48 : decode cX10_entryFault 48 = .ok (.iconst 3, 1) := by decide +kernel
theorem dX10_entryFault_49 : decode cX10_entryFault 49 = .ok (.goto 4, 3) := by decide +kernel
theorem dX10_entryFault_52 : decode cX10_entryFault 52 = .ok (.iconst 0, 1) := by decide +kernel
theorem dX10_entryFault_53 : decode cX10_entryFault 53 = .ok (.ireturn, 1) := by decide +kernel
theorem dX10_line_0 : decode cX10_line 0 = .ok (.aload_n 0, 1) := by decide +kernel
theorem dX10_line_1 : decode cX10_line 1 = .ok (.getfield 12, 3) := by decide +kernel
theorem dX10_line_4 : decode cX10_line 4 = .ok (.iload_n 1, 1) := by decide +kernel
theorem dX10_line_5 : decode cX10_line 5 = .ok (.iload_n 2, 1) := by decide +kernel
theorem dX10_line_6 : decode cX10_line 6 = .ok (.invokevirtual 143, 3) := by decide +kernel
theorem dX10_line_9 : decode cX10_line 9 = .ok (.ifCond .ne 5, 3) := by decide +kernel
theorem dX10_line_12 : decode cX10_line 12 = .ok (.iconst (-1), 1) := by decide +kernel
theorem dX10_line_13 : decode cX10_line 13 = .ok (.ireturn, 1) := by decide +kernel
theorem dX10_line_14 : decode cX10_line 14 = .ok (.aload_n 0, 1) := by decide +kernel
theorem dX10_line_15 : decode cX10_line 15 = .ok (.getfield 54, 3) := by decide +kernel
theorem dX10_line_18 : decode cX10_line 18 = .ok (.aload_n 0, 1) := by decide +kernel
theorem dX10_line_19 : decode cX10_line 19 = .ok (.getfield 12, 3) := by decide +kernel
theorem dX10_line_22 : decode cX10_line 22 = .ok (.iload_n 2, 1) := by decide +kernel
theorem dX10_line_23 : decode cX10_line 23 = .ok (.iload_n 1, 1) := by decide +kernel
theorem dX10_line_24 : decode cX10_line 24 = .ok (.invokevirtual 140, 3) := by decide +kernel
theorem dX10_line_27 : decode cX10_line 27 = .ok (.i2l, 1) := by decide +kernel
theorem dX10_line_28 : decode cX10_line 28 = .ok (.aload_n 0, 1) := by decide +kernel
theorem dX10_line_29 : decode cX10_line 29 = .ok (.getfield 12, 3) := by decide +kernel
theorem dX10_line_32 : decode cX10_line 32 = .ok (.iload_n 2, 1) := by decide +kernel
theorem dX10_line_33 : decode cX10_line 33 = .ok (.iload_n 1, 1) := by decide +kernel
theorem dX10_line_34 : decode cX10_line 34 = .ok (.invokevirtual 147, 3) := by decide +kernel
theorem dX10_line_37 : decode cX10_line 37 = .ok (.i2l, 1) := by decide +kernel
theorem dX10_line_38 : decode cX10_line 38 = .ok (.aload_n 0, 1) := by decide +kernel
theorem dX10_line_39 : decode cX10_line 39 = .ok (.getfield 12, 3) := by decide +kernel
theorem dX10_line_42 : decode cX10_line 42 = .ok (.iload_n 2, 1) := by decide +kernel
theorem dX10_line_43 : decode cX10_line 43 = .ok (.iload_n 1, 1) := by decide +kernel
theorem dX10_line_44 : decode cX10_line 44 = .ok (.invokevirtual 150, 3) := by decide +kernel
theorem dX10_line_47 : decode cX10_line 47 = .ok (.i2l, 1) := by decide +kernel
theorem dX10_line_48 : decode cX10_line 48 = .ok (.invokevirtual 153, 3) := by decide +kernel
theorem dX10_line_51 : decode cX10_line 51 = .ok (.aload_n 0, 1) := by decide +kernel
theorem dX10_line_52 : decode cX10_line 52 = .ok (.getfield 12, 3) := by decide +kernel
theorem dX10_line_55 : decode cX10_line 55 = .ok (.getfield 136, 3) := by decide +kernel
theorem dX10_line_58 : decode cX10_line 58 = .ok (.iload_n 1, 1) := by decide +kernel
theorem dX10_line_59 : decode cX10_line 59 = .ok (.iload_n 2, 1) := by decide +kernel
theorem dX10_line_60 : decode cX10_line 60 = .ok (.invokestatic 133, 3) := by decide +kernel
theorem dX10_line_63 : decode cX10_line 63 = .ok (.iaload, 1) := by decide +kernel
theorem dX10_line_64 : decode cX10_line 64 = .ok (.ireturn, 1) := by decide +kernel
theorem dX10_net_0 : decode cX10_net 0 = .ok (.aload_n 0, 1) := by decide +kernel
theorem dX10_net_1 : decode cX10_net 1 = .ok (.getfield 12, 3) := by decide +kernel
theorem dX10_net_4 : decode cX10_net 4 = .ok (.iload_n 1, 1) := by decide +kernel
theorem dX10_net_5 : decode cX10_net 5 = .ok (.invokevirtual 111, 3) := by decide +kernel
theorem dX10_net_8 : decode cX10_net 8 = .ok (.ifCond .ne 13, 3) := by decide +kernel
theorem dX10_net_11 : decode cX10_net 11 = .ok (.new 157, 3) := by decide +kernel
theorem dX10_net_14 : decode cX10_net 14 = .ok (.dup, 1) := by decide +kernel
theorem dX10_net_15 : decode cX10_net 15 = .ok (.ldc 159, 2) := by decide +kernel
theorem dX10_net_17 : decode cX10_net 17 = .ok (.invokespecial 161, 3) := by decide +kernel
theorem dX10_net_20 : decode cX10_net 20 = .ok (.athrow, 1) := by decide +kernel
theorem dX10_net_21 : decode cX10_net 21 = .ok (.iconst 0, 1) := by decide +kernel
theorem dX10_net_22 : decode cX10_net 22 = .ok (.istore_n 2, 1) := by decide +kernel
theorem dX10_net_23 : decode cX10_net 23 = .ok (.iconst 0, 1) := by decide +kernel
theorem dX10_net_24 : decode cX10_net 24 = .ok (.istore_n 3, 1) := by decide +kernel
theorem dX10_net_25 : decode cX10_net 25 = .ok (.iload_n 3, 1) := by decide +kernel
theorem dX10_net_26 : decode cX10_net 26 = .ok (.aload_n 0, 1) := by decide +kernel
theorem dX10_net_27 : decode cX10_net 27 = .ok (.getfield 12, 3) := by decide +kernel
theorem dX10_net_30 : decode cX10_net 30 = .ok (.getfield 164, 3) := by decide +kernel
theorem dX10_net_33 : decode cX10_net 33 = .ok (.if_icmp .ge 25, 3) := by decide +kernel
theorem dX10_net_36 : decode cX10_net 36 = .ok (.iload_n 2, 1) := by decide +kernel
theorem dX10_net_37 : decode cX10_net 37 = .ok (.aload_n 0, 1) := by decide +kernel
theorem dX10_net_38 : decode cX10_net 38 = .ok (.getfield 12, 3) := by decide +kernel
theorem dX10_net_41 : decode cX10_net 41 = .ok (.getfield 167, 3) := by decide +kernel
theorem dX10_net_44 : decode cX10_net 44 = .ok (.iload_n 3, 1) := by decide +kernel
theorem dX10_net_45 : decode cX10_net 45 = .ok (.iload_n 1, 1) := by decide +kernel
theorem dX10_net_46 : decode cX10_net 46 = .ok (.invokestatic 133, 3) := by decide +kernel
theorem dX10_net_49 : decode cX10_net 49 = .ok (.iaload, 1) := by decide +kernel
theorem dX10_net_50 : decode cX10_net 50 = .ok (.iadd, 1) := by decide +kernel
theorem dX10_net_51 : decode cX10_net 51 = .ok (.istore_n 2, 1) := by decide +kernel
theorem dX10_net_52 : decode cX10_net 52 = .ok (.iinc 3 1, 3) := by decide +kernel
theorem dX10_net_55 : decode cX10_net 55 = .ok (.goto (-30), 3) := by decide +kernel
theorem dX10_net_58 : decode cX10_net 58 = .ok (.iload_n 2, 1) := by decide +kernel
theorem dX10_net_59 : decode cX10_net 59 = .ok (.ireturn, 1) := by decide +kernel
theorem dX10_debts_0 : decode cX10_debts 0 = .ok (.iconst 0, 1) := by decide +kernel
theorem dX10_debts_1 : decode cX10_debts 1 = .ok (.istore_n 1, 1) := by decide +kernel
theorem dX10_debts_2 : decode cX10_debts 2 = .ok (.iconst 0, 1) := by decide +kernel
theorem dX10_debts_3 : decode cX10_debts 3 = .ok (.istore_n 2, 1) := by decide +kernel
theorem dX10_debts_4 : decode cX10_debts 4 = .ok (.iconst (-1), 1) := by decide +kernel
theorem dX10_debts_5 : decode cX10_debts 5 = .ok (.istore_n 3, 1) := by decide +kernel
theorem dX10_debts_6 : decode cX10_debts 6 = .ok (.iconst 0, 1) := by decide +kernel
theorem dX10_debts_7 : decode cX10_debts 7 = .ok (.istore 4, 2) := by decide +kernel
theorem dX10_debts_9 : decode cX10_debts 9 = .ok (.iload 4, 2) := by decide +kernel
theorem dX10_debts_11 : decode cX10_debts 11 = .ok (.aload_n 0, 1) := by decide +kernel
theorem dX10_debts_12 : decode cX10_debts 12 = .ok (.getfield 12, 3) := by decide +kernel
theorem dX10_debts_15 : decode cX10_debts 15 = .ok (.getfield 164, 3) := by decide +kernel
theorem dX10_debts_18 : decode cX10_debts 18 = .ok (.if_icmp .ge 78, 3) := by decide +kernel
theorem dX10_debts_21 : decode cX10_debts 21 = .ok (.iconst 0, 1) := by decide +kernel
theorem dX10_debts_22 : decode cX10_debts 22 = .ok (.istore 5, 2) := by decide +kernel
theorem dX10_debts_24 : decode cX10_debts 24 = .ok (.iconst 0, 1) := by decide +kernel
theorem dX10_debts_25 : decode cX10_debts 25 = .ok (.istore 6, 2) := by decide +kernel
theorem dX10_debts_27 : decode cX10_debts 27 = .ok (.iload 6, 2) := by decide +kernel
theorem dX10_debts_29 : decode cX10_debts 29 = .ok (.aload_n 0, 1) := by decide +kernel
theorem dX10_debts_30 : decode cX10_debts 30 = .ok (.getfield 12, 3) := by decide +kernel
theorem dX10_debts_33 : decode cX10_debts 33 = .ok (.getfield 164, 3) := by decide +kernel
theorem dX10_debts_36 : decode cX10_debts 36 = .ok (.if_icmp .ge 42, 3) := by decide +kernel
theorem dX10_debts_39 : decode cX10_debts 39 = .ok (.aload_n 0, 1) := by decide +kernel
theorem dX10_debts_40 : decode cX10_debts 40 = .ok (.getfield 12, 3) := by decide +kernel
theorem dX10_debts_43 : decode cX10_debts 43 = .ok (.iload 4, 2) := by decide +kernel
theorem dX10_debts_45 : decode cX10_debts 45 = .ok (.iload 6, 2) := by decide +kernel
theorem dX10_debts_47 : decode cX10_debts 47 = .ok (.invokevirtual 140, 3) := by decide +kernel
theorem dX10_debts_50 : decode cX10_debts 50 = .ok (.istore 7, 2) := by decide +kernel
theorem dX10_debts_52 : decode cX10_debts 52 = .ok (.iload 5, 2) := by decide +kernel
theorem dX10_debts_54 : decode cX10_debts 54 = .ok (.iload 7, 2) := by decide +kernel
theorem dX10_debts_56 : decode cX10_debts 56 = .ok (.iadd, 1) := by decide +kernel
theorem dX10_debts_57 : decode cX10_debts 57 = .ok (.istore 5, 2) := by decide +kernel
theorem dX10_debts_59 : decode cX10_debts 59 = .ok (.iload_n 1, 1) := by decide +kernel
theorem dX10_debts_60 : decode cX10_debts 60 = .ok (.iload 7, 2) := by decide +kernel
theorem dX10_debts_62 : decode cX10_debts 62 = .ok (.ifCond .le 7, 3) := by decide +kernel
theorem dX10_debts_65 : decode cX10_debts 65 = .ok (.iconst 1, 1) := by decide +kernel
theorem dX10_debts_66 : decode cX10_debts 66 = .ok (.goto 4, 3) := by decide +kernel
theorem dX10_debts_69 : decode cX10_debts 69 = .ok (.iconst 0, 1) := by decide +kernel
theorem dX10_debts_70 : decode cX10_debts 70 = .ok (.iadd, 1) := by decide +kernel
theorem dX10_debts_71 : decode cX10_debts 71 = .ok (.istore_n 1, 1) := by decide +kernel
theorem dX10_debts_72 : decode cX10_debts 72 = .ok (.iinc 6 1, 3) := by decide +kernel
theorem dX10_debts_75 : decode cX10_debts 75 = .ok (.goto (-48), 3) := by decide +kernel
theorem dX10_debts_78 : decode cX10_debts 78 = .ok (.iload 5, 2) := by decide +kernel
theorem dX10_debts_80 : decode cX10_debts 80 = .ok (.iload_n 2, 1) := by decide +kernel
theorem dX10_debts_81 : decode cX10_debts 81 = .ok (.if_icmp .le 9, 3) := by decide +kernel
theorem dX10_debts_84 : decode cX10_debts 84 = .ok (.iload 5, 2) := by decide +kernel
theorem dX10_debts_86 : decode cX10_debts 86 = .ok (.istore_n 2, 1) := by decide +kernel
theorem dX10_debts_87 : decode cX10_debts 87 = .ok (.iload 4, 2) := by decide +kernel
theorem dX10_debts_89 : decode cX10_debts 89 = .ok (.istore_n 3, 1) := by decide +kernel
theorem dX10_debts_90 : decode cX10_debts 90 = .ok (.iinc 4 1, 3) := by decide +kernel
theorem dX10_debts_93 : decode cX10_debts 93 = .ok (.goto (-84), 3) := by decide +kernel
theorem dX10_debts_96 : decode cX10_debts 96 = .ok (.aload_n 0, 1) := by decide +kernel
theorem dX10_debts_97 : decode cX10_debts 97 = .ok (.getfield 54, 3) := by decide +kernel
theorem dX10_debts_100 : decode cX10_debts 100 = .ok (.iload_n 1, 1) := by decide +kernel
theorem dX10_debts_101 : decode cX10_debts 101 = .ok (.i2l, 1) := by decide +kernel
theorem dX10_debts_102 : decode cX10_debts 102 = .ok (.iload_n 3, 1) := by decide +kernel
theorem dX10_debts_103 : decode cX10_debts 103 = .ok (.i2l, 1) := by decide +kernel
theorem dX10_debts_104 : decode cX10_debts 104 = .ok (.iload_n 2, 1) := by decide +kernel
theorem dX10_debts_105 : decode cX10_debts 105 = .ok (.i2l, 1) := by decide +kernel
theorem dX10_debts_106 : decode cX10_debts 106 = .ok (.invokevirtual 153, 3) := by decide +kernel
theorem dX10_debts_109 : decode cX10_debts 109 = .ok (.aload_n 0, 1) := by decide +kernel
theorem dX10_debts_110 : decode cX10_debts 110 = .ok (.getfield 12, 3) := by decide +kernel
theorem dX10_debts_113 : decode cX10_debts 113 = .ok (.invokevirtual 170, 3) := by decide +kernel
theorem dX10_debts_116 : decode cX10_debts 116 = .ok (.ireturn, 1) := by decide +kernel
theorem dX10_way_0 : decode cX10_way 0 = .ok (.aload_n 0, 1) := by decide +kernel
theorem dX10_way_1 : decode cX10_way 1 = .ok (.iload_n 1, 1) := by decide +kernel
theorem dX10_way_2 : decode cX10_way 2 = .ok (.iload_n 2, 1) := by decide +kernel
theorem dX10_way_3 : decode cX10_way 3 = .ok (.iload_n 3, 1) := by decide +kernel
theorem dX10_way_4 : decode cX10_way 4 = .ok (.invokevirtual 174, 3) := by decide +kernel
theorem dX10_way_7 : decode cX10_way 7 = .ok (.ifCond .ne 5, 3) := by decide +kernel
theorem dX10_way_10 : decode cX10_way 10 = .ok (.iconst (-1), 1) := by decide +kernel
theorem dX10_way_11 : decode cX10_way 11 = .ok (.ireturn, 1) := by decide +kernel
theorem dX10_way_12 : decode cX10_way 12 = .ok (.aload_n 0, 1) := by decide +kernel
theorem dX10_way_13 : decode cX10_way 13 = .ok (.getfield 61, 3) := by decide +kernel
theorem dX10_way_16 : decode cX10_way 16 = .ok (.aload_n 0, 1) := by decide +kernel
theorem dX10_way_17 : decode cX10_way 17 = .ok (.getfield 12, 3) := by decide +kernel
theorem dX10_way_20 : decode cX10_way 20 = .ok (.invokevirtual 178, 3) := by decide +kernel
theorem dX10_way_23 : decode cX10_way 23 = .ok (.aload_n 0, 1) := by decide +kernel
theorem dX10_way_24 : decode cX10_way 24 = .ok (.getfield 61, 3) := by decide +kernel
theorem dX10_way_27 : decode cX10_way 27 = .ok (.iload_n 1, 1) := by decide +kernel
theorem dX10_way_28 : decode cX10_way 28 = .ok (.iload_n 2, 1) := by decide +kernel
theorem dX10_way_29 : decode cX10_way 29 = .ok (.iload_n 3, 1) := by decide +kernel
theorem dX10_way_30 : decode cX10_way 30 = .ok (.invokevirtual 181, 3) := by decide +kernel
theorem dX10_way_33 : decode cX10_way 33 = .ok (.ifCond .ne 6, 3) := by decide +kernel
theorem dX10_way_36 : decode cX10_way 36 = .ok (.bipush (-2), 2) := by decide +kernel
theorem dX10_way_38 : decode cX10_way 38 = .ok (.ireturn, 1) := by decide +kernel
theorem dX10_way_39 : decode cX10_way 39 = .ok (.aload_n 0, 1) := by decide +kernel
theorem dX10_way_40 : decode cX10_way 40 = .ok (.invokevirtual 184, 3) := by decide +kernel
theorem dX10_way_43 : decode cX10_way 43 = .ok (.aload_n 0, 1) := by decide +kernel
theorem dX10_way_44 : decode cX10_way 44 = .ok (.getfield 61, 3) := by decide +kernel
theorem dX10_way_47 : decode cX10_way 47 = .ok (.getfield 187, 3) := by decide +kernel
theorem dX10_way_50 : decode cX10_way 50 = .ok (.ireturn, 1) := by decide +kernel
theorem dX10_reach_0 : decode cX10_reach 0 = .ok (.aload_n 0, 1) := by decide +kernel
theorem dX10_reach_1 : decode cX10_reach 1 = .ok (.getfield 12, 3) := by decide +kernel
theorem dX10_reach_4 : decode cX10_reach 4 = .ok (.iload_n 1, 1) := by decide +kernel
theorem dX10_reach_5 : decode cX10_reach 5 = .ok (.invokevirtual 111, 3) := by decide +kernel
theorem dX10_reach_8 : decode cX10_reach 8 = .ok (.ifCond .eq 10, 3) := by decide +kernel
theorem dX10_reach_11 : decode cX10_reach 11 = .ok (.iload_n 2, 1) := by decide +kernel
theorem dX10_reach_12 : decode cX10_reach 12 = .ok (.invokestatic 190, 3) := by decide +kernel
theorem dX10_reach_15 : decode cX10_reach 15 = .ok (.ifCond .ne 5, 3) := by decide +kernel
theorem dX10_reach_18 : decode cX10_reach 18 = .ok (.iconst (-1), 1) := by decide +kernel
theorem dX10_reach_19 : decode cX10_reach 19 = .ok (.ireturn, 1) := by decide +kernel
theorem dX10_reach_20 : decode cX10_reach 20 = .ok (.aload_n 0, 1) := by decide +kernel
theorem dX10_reach_21 : decode cX10_reach 21 = .ok (.getfield 61, 3) := by decide +kernel
theorem dX10_reach_24 : decode cX10_reach 24 = .ok (.aload_n 0, 1) := by decide +kernel
theorem dX10_reach_25 : decode cX10_reach 25 = .ok (.getfield 12, 3) := by decide +kernel
theorem dX10_reach_28 : decode cX10_reach 28 = .ok (.invokevirtual 178, 3) := by decide +kernel
theorem dX10_reach_31 : decode cX10_reach 31 = .ok (.aload_n 0, 1) := by decide +kernel
theorem dX10_reach_32 : decode cX10_reach 32 = .ok (.getfield 61, 3) := by decide +kernel
theorem dX10_reach_35 : decode cX10_reach 35 = .ok (.iload_n 1, 1) := by decide +kernel
theorem dX10_reach_36 : decode cX10_reach 36 = .ok (.iload_n 2, 1) := by decide +kernel
theorem dX10_reach_37 : decode cX10_reach 37 = .ok (.invokevirtual 193, 3) := by decide +kernel
theorem dX10_reach_40 : decode cX10_reach 40 = .ok (.iconst 1, 1) := by decide +kernel
theorem dX10_reach_41 : decode cX10_reach 41 = .ok (.iload_n 1, 1) := by decide +kernel
theorem dX10_reach_42 : decode cX10_reach 42 = .ok (.ishl, 1) := by decide +kernel
theorem dX10_reach_43 : decode cX10_reach 43 = .ok (.iconst (-1), 1) := by decide +kernel
theorem dX10_reach_44 : decode cX10_reach 44 = .ok (.ixor, 1) := by decide +kernel
theorem dX10_reach_45 : decode cX10_reach 45 = .ok (.iand, 1) := by decide +kernel
theorem dX10_reach_46 : decode cX10_reach 46 = .ok (.istore_n 3, 1) := by decide +kernel
theorem dX10_reach_47 : decode cX10_reach 47 = .ok (.aload_n 0, 1) := by decide +kernel
theorem dX10_reach_48 : decode cX10_reach 48 = .ok (.getfield 54, 3) := by decide +kernel
theorem dX10_reach_51 : decode cX10_reach 51 = .ok (.iload_n 3, 1) := by decide +kernel
theorem dX10_reach_52 : decode cX10_reach 52 = .ok (.invokestatic 196, 3) := by decide +kernel
theorem dX10_reach_55 : decode cX10_reach 55 = .ok (.i2l, 1) := by decide +kernel
theorem dX10_reach_56 : decode cX10_reach 56 = .ok (.invokevirtual 202, 3) := by decide +kernel
theorem dX10_reach_59 : decode cX10_reach 59 = .ok (.iload_n 3, 1) := by decide +kernel
theorem dX10_reach_60 : decode cX10_reach 60 = .ok (.ireturn, 1) := by decide +kernel
theorem dX10_most_0 : decode cX10_most 0 = .ok (.aload_n 0, 1) := by decide +kernel
theorem dX10_most_1 : decode cX10_most 1 = .ok (.getfield 12, 3) := by decide +kernel
theorem dX10_most_4 : decode cX10_most 4 = .ok (.iload_n 1, 1) := by decide +kernel
theorem dX10_most_5 : decode cX10_most 5 = .ok (.iload_n 2, 1) := by decide +kernel
theorem dX10_most_6 : decode cX10_most 6 = .ok (.invokevirtual 143, 3) := by decide +kernel
theorem dX10_most_9 : decode cX10_most 9 = .ok (.ifCond .ne 5, 3) := by decide +kernel
theorem dX10_most_12 : decode cX10_most 12 = .ok (.iconst (-1), 1) := by decide +kernel
theorem dX10_most_13 : decode cX10_most 13 = .ok (.ireturn, 1) := by decide +kernel
theorem dX10_most_14 : decode cX10_most 14 = .ok (.aload_n 0, 1) := by decide +kernel
theorem dX10_most_15 : decode cX10_most 15 = .ok (.getfield 61, 3) := by decide +kernel
theorem dX10_most_18 : decode cX10_most 18 = .ok (.aload_n 0, 1) := by decide +kernel
theorem dX10_most_19 : decode cX10_most 19 = .ok (.getfield 12, 3) := by decide +kernel
theorem dX10_most_22 : decode cX10_most 22 = .ok (.invokevirtual 178, 3) := by decide +kernel
theorem dX10_most_25 : decode cX10_most 25 = .ok (.aload_n 0, 1) := by decide +kernel
theorem dX10_most_26 : decode cX10_most 26 = .ok (.getfield 61, 3) := by decide +kernel
theorem dX10_most_29 : decode cX10_most 29 = .ok (.iload_n 1, 1) := by decide +kernel
theorem dX10_most_30 : decode cX10_most 30 = .ok (.iload_n 2, 1) := by decide +kernel
theorem dX10_most_31 : decode cX10_most 31 = .ok (.ldc 206, 2) := by decide +kernel
theorem dX10_most_33 : decode cX10_most 33 = .ok (.invokevirtual 207, 3) := by decide +kernel
theorem dX10_most_36 : decode cX10_most 36 = .ok (.istore_n 3, 1) := by decide +kernel
theorem dX10_most_37 : decode cX10_most 37 = .ok (.aload_n 0, 1) := by decide +kernel
theorem dX10_most_38 : decode cX10_most 38 = .ok (.getfield 54, 3) := by decide +kernel
theorem dX10_most_41 : decode cX10_most 41 = .ok (.aload_n 0, 1) := by decide +kernel
theorem dX10_most_42 : decode cX10_most 42 = .ok (.getfield 61, 3) := by decide +kernel
theorem dX10_most_45 : decode cX10_most 45 = .ok (.iload_n 1, 1) := by decide +kernel
theorem dX10_most_46 : decode cX10_most 46 = .ok (.iconst 1, 1) := by decide +kernel
theorem dX10_most_47 : decode cX10_most 47 = .ok (.invokevirtual 193, 3) := by decide +kernel
theorem dX10_most_50 : decode cX10_most 50 = .ok (.i2l, 1) := by decide +kernel
theorem dX10_most_51 : decode cX10_most 51 = .ok (.aload_n 0, 1) := by decide +kernel
theorem dX10_most_52 : decode cX10_most 52 = .ok (.getfield 61, 3) := by decide +kernel
theorem dX10_most_55 : decode cX10_most 55 = .ok (.getfield 210, 3) := by decide +kernel
theorem dX10_most_58 : decode cX10_most 58 = .ok (.i2l, 1) := by decide +kernel
theorem dX10_most_59 : decode cX10_most 59 = .ok (.aload_n 0, 1) := by decide +kernel
theorem dX10_most_60 : decode cX10_most 60 = .ok (.getfield 61, 3) := by decide +kernel
theorem dX10_most_63 : decode cX10_most 63 = .ok (.invokevirtual 213, 3) := by decide +kernel
theorem dX10_most_66 : decode cX10_most 66 = .ok (.i2l, 1) := by decide +kernel
theorem dX10_most_67 : decode cX10_most 67 = .ok (.invokevirtual 153, 3) := by decide +kernel
theorem dX10_most_70 : decode cX10_most 70 = .ok (.iload_n 3, 1) := by decide +kernel
theorem dX10_most_71 : decode cX10_most 71 = .ok (.ireturn, 1) := by decide +kernel
theorem dX10_ring_0 : decode cX10_ring 0 = .ok (.aload_n 0, 1) := by decide +kernel
theorem dX10_ring_1 : decode cX10_ring 1 = .ok (.getfield 75, 3) := by decide +kernel
theorem dX10_ring_4 : decode cX10_ring 4 = .ok (.aload_n 0, 1) := by decide +kernel
theorem dX10_ring_5 : decode cX10_ring 5 = .ok (.getfield 12, 3) := by decide +kernel
theorem dX10_ring_8 : decode cX10_ring 8 = .ok (.invokevirtual 216, 3) := by decide +kernel
theorem dX10_ring_11 : decode cX10_ring 11 = .ok (.ifCond .ne 6, 3) := by decide +kernel
theorem dX10_ring_14 : decode cX10_ring 14 = .ok (.bipush (-2), 2) := by decide +kernel
theorem dX10_ring_16 : decode cX10_ring 16 = .ok (.ireturn, 1) := by decide +kernel
theorem dX10_ring_17 : decode cX10_ring 17 = .ok (.aload_n 0, 1) := by decide +kernel
theorem dX10_ring_18 : decode cX10_ring 18 = .ok (.getfield 54, 3) := by decide +kernel
theorem dX10_ring_21 : decode cX10_ring 21 = .ok (.invokevirtual 220, 3) := by decide +kernel
theorem dX10_ring_24 : decode cX10_ring 24 = .ok (.iconst 0, 1) := by decide +kernel
theorem dX10_ring_25 : decode cX10_ring 25 = .ok (.istore_n 1, 1) := by decide +kernel
theorem dX10_ring_26 : decode cX10_ring 26 = .ok (.iload_n 1, 1) := by decide +kernel
theorem dX10_ring_27 : decode cX10_ring 27 = .ok (.aload_n 0, 1) := by decide +kernel
theorem dX10_ring_28 : decode cX10_ring 28 = .ok (.getfield 75, 3) := by decide +kernel
theorem dX10_ring_31 : decode cX10_ring 31 = .ok (.getfield 223, 3) := by decide +kernel
theorem dX10_ring_34 : decode cX10_ring 34 = .ok (.if_icmp .ge 25, 3) := by decide +kernel
theorem dX10_ring_37 : decode cX10_ring 37 = .ok (.aload_n 0, 1) := by decide +kernel
theorem dX10_ring_38 : decode cX10_ring 38 = .ok (.getfield 54, 3) := by decide +kernel
theorem dX10_ring_41 : decode cX10_ring 41 = .ok (.aload_n 0, 1) := by decide +kernel
theorem dX10_ring_42 : decode cX10_ring 42 = .ok (.getfield 75, 3) := by decide +kernel
theorem dX10_ring_45 : decode cX10_ring 45 = .ok (.iload_n 1, 1) := by decide +kernel
theorem dX10_ring_46 : decode cX10_ring 46 = .ok (.invokevirtual 226, 3) := by decide +kernel
theorem dX10_ring_49 : decode cX10_ring 49 = .ok (.i2l, 1) := by decide +kernel
theorem dX10_ring_50 : decode cX10_ring 50 = .ok (.invokevirtual 229, 3) := by decide +kernel
theorem dX10_ring_53 : decode cX10_ring 53 = .ok (.iinc 1 1, 3) := by decide +kernel
theorem dX10_ring_56 : decode cX10_ring 56 = .ok (.goto (-30), 3) := by decide +kernel
theorem dX10_ring_59 : decode cX10_ring 59 = .ok (.aload_n 0, 1) := by decide +kernel
theorem dX10_ring_60 : decode cX10_ring 60 = .ok (.getfield 54, 3) := by decide +kernel
theorem dX10_ring_63 : decode cX10_ring 63 = .ok (.aload_n 0, 1) := by decide +kernel
theorem dX10_ring_64 : decode cX10_ring 64 = .ok (.getfield 75, 3) := by decide +kernel
theorem dX10_ring_67 : decode cX10_ring 67 = .ok (.getfield 231, 3) := by decide +kernel
theorem dX10_ring_70 : decode cX10_ring 70 = .ok (.i2l, 1) := by decide +kernel
theorem dX10_ring_71 : decode cX10_ring 71 = .ok (.invokevirtual 229, 3) := by decide +kernel
theorem dX10_ring_74 : decode cX10_ring 74 = .ok (.aload_n 0, 1) := by decide +kernel
theorem dX10_ring_75 : decode cX10_ring 75 = .ok (.getfield 75, 3) := by decide +kernel
theorem dX10_ring_78 : decode cX10_ring 78 = .ok (.getfield 223, 3) := by decide +kernel
theorem dX10_ring_81 : decode cX10_ring 81 = .ok (.ireturn, 1) := by decide +kernel
theorem dX10_rings_0 : decode cX10_rings 0 = .ok (.aload_n 0, 1) := by decide +kernel
theorem dX10_rings_1 : decode cX10_rings 1 = .ok (.getfield 19, 3) := by decide +kernel
theorem dX10_rings_4 : decode cX10_rings 4 = .ok (.aload_n 0, 1) := by decide +kernel
theorem dX10_rings_5 : decode cX10_rings 5 = .ok (.getfield 12, 3) := by decide +kernel
theorem dX10_rings_8 : decode cX10_rings 8 = .ok (.invokevirtual 108, 3) := by decide +kernel
theorem dX10_rings_11 : decode cX10_rings 11 = .ok (.aload_n 0, 1) := by decide +kernel
theorem dX10_rings_12 : decode cX10_rings 12 = .ok (.getfield 75, 3) := by decide +kernel
theorem dX10_rings_15 : decode cX10_rings 15 = .ok (.aload_n 0, 1) := by decide +kernel
theorem dX10_rings_16 : decode cX10_rings 16 = .ok (.getfield 19, 3) := by decide +kernel
theorem dX10_rings_19 : decode cX10_rings 19 = .ok (.invokevirtual 234, 3) := by decide +kernel
theorem dX10_rings_22 : decode cX10_rings 22 = .ok (.istore_n 1, 1) := by decide +kernel
theorem dX10_rings_23 : decode cX10_rings 23 = .ok (.aload_n 0, 1) := by decide +kernel
theorem dX10_rings_24 : decode cX10_rings 24 = .ok (.getfield 54, 3) := by decide +kernel
theorem dX10_rings_27 : decode cX10_rings 27 = .ok (.aload_n 0, 1) := by decide +kernel
theorem dX10_rings_28 : decode cX10_rings 28 = .ok (.getfield 19, 3) := by decide +kernel
theorem dX10_rings_31 : decode cX10_rings 31 = .ok (.invokevirtual 170, 3) := by decide +kernel
theorem dX10_rings_34 : decode cX10_rings 34 = .ok (.i2l, 1) := by decide +kernel
theorem dX10_rings_35 : decode cX10_rings 35 = .ok (.invokevirtual 202, 3) := by decide +kernel
theorem dX10_rings_38 : decode cX10_rings 38 = .ok (.iload_n 1, 1) := by decide +kernel
theorem dX10_rings_39 : decode cX10_rings 39 = .ok (.ireturn, 1) := by decide +kernel
theorem dX10_pays_0 : decode cX10_pays 0 = .ok (.aload_n 0, 1) := by decide +kernel
theorem dX10_pays_1 : decode cX10_pays 1 = .ok (.getfield 16, 3) := by decide +kernel
theorem dX10_pays_4 : decode cX10_pays 4 = .ok (.aload_n 0, 1) := by decide +kernel
theorem dX10_pays_5 : decode cX10_pays 5 = .ok (.getfield 12, 3) := by decide +kernel
theorem dX10_pays_8 : decode cX10_pays 8 = .ok (.invokevirtual 108, 3) := by decide +kernel
theorem dX10_pays_11 : decode cX10_pays 11 = .ok (.aload_n 0, 1) := by decide +kernel
theorem dX10_pays_12 : decode cX10_pays 12 = .ok (.aload_n 0, 1) := by decide +kernel
theorem dX10_pays_13 : decode cX10_pays 13 = .ok (.iload_n 1, 1) := by decide +kernel
theorem dX10_pays_14 : decode cX10_pays 14 = .ok (.iload_n 2, 1) := by decide +kernel
theorem dX10_pays_15 : decode cX10_pays 15 = .ok (.iload_n 3, 1) := by decide +kernel
theorem dX10_pays_16 : decode cX10_pays 16 = .ok (.invokevirtual 237, 3) := by decide +kernel
theorem dX10_pays_19 : decode cX10_pays 19 = .ok (.invokevirtual 240, 3) := by decide +kernel
theorem dX10_pays_22 : decode cX10_pays 22 = .ok (.ireturn, 1) := by decide +kernel
theorem dX10_whole_0 : decode cX10_whole 0 = .ok (.aload_n 0, 1) := by decide +kernel
theorem dX10_whole_1 : decode cX10_whole 1 = .ok (.getfield 16, 3) := by decide +kernel
theorem dX10_whole_4 : decode cX10_whole 4 = .ok (.aload_n 0, 1) := by decide +kernel
theorem dX10_whole_5 : decode cX10_whole 5 = .ok (.getfield 12, 3) := by decide +kernel
theorem dX10_whole_8 : decode cX10_whole 8 = .ok (.invokevirtual 108, 3) := by decide +kernel
theorem dX10_whole_11 : decode cX10_whole 11 = .ok (.aload_n 0, 1) := by decide +kernel
theorem dX10_whole_12 : decode cX10_whole 12 = .ok (.aload_n 0, 1) := by decide +kernel
theorem dX10_whole_13 : decode cX10_whole 13 = .ok (.iload_n 1, 1) := by decide +kernel
theorem dX10_whole_14 : decode cX10_whole 14 = .ok (.iload_n 2, 1) := by decide +kernel
theorem dX10_whole_15 : decode cX10_whole 15 = .ok (.iload_n 3, 1) := by decide +kernel
theorem dX10_whole_16 : decode cX10_whole 16 = .ok (.invokevirtual 243, 3) := by decide +kernel
theorem dX10_whole_19 : decode cX10_whole 19 = .ok (.invokevirtual 240, 3) := by decide +kernel
theorem dX10_whole_22 : decode cX10_whole 22 = .ok (.ireturn, 1) := by decide +kernel
theorem dX10_holds_0 : decode cX10_holds 0 = .ok (.aload_n 0, 1) := by decide +kernel
theorem dX10_holds_1 : decode cX10_holds 1 = .ok (.getfield 16, 3) := by decide +kernel
theorem dX10_holds_4 : decode cX10_holds 4 = .ok (.aload_n 0, 1) := by decide +kernel
theorem dX10_holds_5 : decode cX10_holds 5 = .ok (.getfield 12, 3) := by decide +kernel
theorem dX10_holds_8 : decode cX10_holds 8 = .ok (.invokevirtual 108, 3) := by decide +kernel
theorem dX10_holds_11 : decode cX10_holds 11 = .ok (.aload_n 0, 1) := by decide +kernel
theorem dX10_holds_12 : decode cX10_holds 12 = .ok (.aload_n 0, 1) := by decide +kernel
theorem dX10_holds_13 : decode cX10_holds 13 = .ok (.iload_n 1, 1) := by decide +kernel
theorem dX10_holds_14 : decode cX10_holds 14 = .ok (.iload_n 2, 1) := by decide +kernel
theorem dX10_holds_15 : decode cX10_holds 15 = .ok (.iload_n 3, 1) := by decide +kernel
theorem dX10_holds_16 : decode cX10_holds 16 = .ok (.invokevirtual 246, 3) := by decide +kernel
theorem dX10_holds_19 : decode cX10_holds 19 = .ok (.invokevirtual 240, 3) := by decide +kernel
theorem dX10_holds_22 : decode cX10_holds 22 = .ok (.ireturn, 1) := by decide +kernel
theorem dX10_makes_0 : decode cX10_makes 0 = .ok (.aload_n 0, 1) := by decide +kernel
theorem dX10_makes_1 : decode cX10_makes 1 = .ok (.getfield 16, 3) := by decide +kernel
theorem dX10_makes_4 : decode cX10_makes 4 = .ok (.aload_n 0, 1) := by decide +kernel
theorem dX10_makes_5 : decode cX10_makes 5 = .ok (.getfield 12, 3) := by decide +kernel
theorem dX10_makes_8 : decode cX10_makes 8 = .ok (.invokevirtual 108, 3) := by decide +kernel
theorem dX10_makes_11 : decode cX10_makes 11 = .ok (.aload_n 0, 1) := by decide +kernel
theorem dX10_makes_12 : decode cX10_makes 12 = .ok (.aload_n 0, 1) := by decide +kernel
theorem dX10_makes_13 : decode cX10_makes 13 = .ok (.iload_n 1, 1) := by decide +kernel
theorem dX10_makes_14 : decode cX10_makes 14 = .ok (.invokevirtual 249, 3) := by decide +kernel
theorem dX10_makes_17 : decode cX10_makes 17 = .ok (.invokevirtual 240, 3) := by decide +kernel
theorem dX10_makes_20 : decode cX10_makes 20 = .ok (.ireturn, 1) := by decide +kernel
theorem dX10_letsGo_0 : decode cX10_letsGo 0 = .ok (.aload_n 0, 1) := by decide +kernel
theorem dX10_letsGo_1 : decode cX10_letsGo 1 = .ok (.getfield 16, 3) := by decide +kernel
theorem dX10_letsGo_4 : decode cX10_letsGo 4 = .ok (.aload_n 0, 1) := by decide +kernel
theorem dX10_letsGo_5 : decode cX10_letsGo 5 = .ok (.getfield 12, 3) := by decide +kernel
theorem dX10_letsGo_8 : decode cX10_letsGo 8 = .ok (.invokevirtual 108, 3) := by decide +kernel
theorem dX10_letsGo_11 : decode cX10_letsGo 11 = .ok (.aload_n 0, 1) := by decide +kernel
theorem dX10_letsGo_12 : decode cX10_letsGo 12 = .ok (.aload_n 0, 1) := by decide +kernel
theorem dX10_letsGo_13 : decode cX10_letsGo 13 = .ok (.iload_n 1, 1) := by decide +kernel
theorem dX10_letsGo_14 : decode cX10_letsGo 14 = .ok (.invokevirtual 252, 3) := by decide +kernel
theorem dX10_letsGo_17 : decode cX10_letsGo 17 = .ok (.invokevirtual 240, 3) := by decide +kernel
theorem dX10_letsGo_20 : decode cX10_letsGo 20 = .ok (.ireturn, 1) := by decide +kernel
theorem dX10_held_0 : decode cX10_held 0 = .ok (.aload_n 0, 1) := by decide +kernel
theorem dX10_held_1 : decode cX10_held 1 = .ok (.getfield 12, 3) := by decide +kernel
theorem dX10_held_4 : decode cX10_held 4 = .ok (.iload_n 1, 1) := by decide +kernel
theorem dX10_held_5 : decode cX10_held 5 = .ok (.invokevirtual 255, 3) := by decide +kernel
theorem dX10_held_8 : decode cX10_held 8 = .ok (.ifCond .eq 12, 3) := by decide +kernel
theorem dX10_held_11 : decode cX10_held 11 = .ok (.iload_n 2, 1) := by decide +kernel
theorem dX10_held_12 : decode cX10_held 12 = .ok (.ifCond .lt 8, 3) := by decide +kernel
theorem dX10_held_15 : decode cX10_held 15 = .ok (.iload_n 2, 1) := by decide +kernel
theorem dX10_held_16 : decode cX10_held 16 = .ok (.iconst 3, 1) := by decide +kernel
theorem dX10_held_17 : decode cX10_held 17 = .ok (.if_icmp .le 14, 3) := by decide +kernel
theorem dX10_held_20 : decode cX10_held 20 = .ok (.new 157, 3) := by decide +kernel
theorem dX10_held_23 : decode cX10_held 23 = .ok (.dup, 1) := by decide +kernel
theorem dX10_held_24 : decode cX10_held 24 = .ok (.ldc_w 258, 3) := by decide +kernel
theorem dX10_held_27 : decode cX10_held 27 = .ok (.invokespecial 161, 3) := by decide +kernel
theorem dX10_held_30 : decode cX10_held 30 = .ok (.athrow, 1) := by decide +kernel
theorem dX10_held_31 : decode cX10_held 31 = .ok (.aload_n 0, 1) := by decide +kernel
theorem dX10_held_32 : decode cX10_held 32 = .ok (.getfield 12, 3) := by decide +kernel
theorem dX10_held_35 : decode cX10_held 35 = .ok (.getfield 260, 3) := by decide +kernel
theorem dX10_held_38 : decode cX10_held 38 = .ok (.iload_n 1, 1) := by decide +kernel
theorem dX10_held_39 : decode cX10_held 39 = .ok (.aaload, 1) := by decide +kernel
theorem dX10_held_40 : decode cX10_held 40 = .ok (.astore_n 3, 1) := by decide +kernel
theorem dX10_held_41 : decode cX10_held 41 = .ok (.iload_n 2, 1) := by decide +kernel
theorem dX10_held_42 : decode cX10_held 42 = .ok (.tableswitch 41 0 2 #[26, 31, 36], 26) := by decide +kernel
theorem dX10_held_68 : decode cX10_held 68 = .ok (.aload_n 3, 1) := by decide +kernel
theorem dX10_held_69 : decode cX10_held 69 = .ok (.getfield 264, 3) := by decide +kernel
theorem dX10_held_72 : decode cX10_held 72 = .ok (.ireturn, 1) := by decide +kernel
theorem dX10_held_73 : decode cX10_held 73 = .ok (.aload_n 3, 1) := by decide +kernel
theorem dX10_held_74 : decode cX10_held 74 = .ok (.getfield 269, 3) := by decide +kernel
theorem dX10_held_77 : decode cX10_held 77 = .ok (.ireturn, 1) := by decide +kernel
theorem dX10_held_78 : decode cX10_held 78 = .ok (.aload_n 3, 1) := by decide +kernel
theorem dX10_held_79 : decode cX10_held 79 = .ok (.getfield 272, 3) := by decide +kernel
theorem dX10_held_82 : decode cX10_held 82 = .ok (.ireturn, 1) := by decide +kernel
theorem dX10_held_83 : decode cX10_held 83 = .ok (.aload_n 3, 1) := by decide +kernel
theorem dX10_held_84 : decode cX10_held 84 = .ok (.invokevirtual 275, 3) := by decide +kernel
theorem dX10_held_87 : decode cX10_held 87 = .ok (.ireturn, 1) := by decide +kernel
theorem dX10_mostThen_0 : decode cX10_mostThen 0 = .ok (.aload_n 0, 1) := by decide +kernel
theorem dX10_mostThen_1 : decode cX10_mostThen 1 = .ok (.getfield 12, 3) := by decide +kernel
theorem dX10_mostThen_4 : decode cX10_mostThen 4 = .ok (.iload_n 1, 1) := by decide +kernel
theorem dX10_mostThen_5 : decode cX10_mostThen 5 = .ok (.iload_n 2, 1) := by decide +kernel
theorem dX10_mostThen_6 : decode cX10_mostThen 6 = .ok (.invokevirtual 143, 3) := by decide +kernel
theorem dX10_mostThen_9 : decode cX10_mostThen 9 = .ok (.ifCond .eq 12, 3) := by decide +kernel
theorem dX10_mostThen_12 : decode cX10_mostThen 12 = .ok (.iload_n 3, 1) := by decide +kernel
theorem dX10_mostThen_13 : decode cX10_mostThen 13 = .ok (.ifCond .lt 8, 3) := by decide +kernel
theorem dX10_mostThen_16 : decode cX10_mostThen 16 = .ok (.iload_n 3, 1) := by decide +kernel
theorem dX10_mostThen_17 : decode cX10_mostThen 17 = .ok (.iconst 1, 1) := by decide +kernel
theorem dX10_mostThen_18 : decode cX10_mostThen 18 = .ok (.if_icmp .le 5, 3) := by decide +kernel
theorem dX10_mostThen_21 : decode cX10_mostThen 21 = .ok (.iconst (-1), 1) := by decide +kernel
theorem dX10_mostThen_22 : decode cX10_mostThen 22 = .ok (.ireturn, 1) := by decide +kernel
theorem dX10_mostThen_23 : decode cX10_mostThen 23 = .ok (.aload_n 0, 1) := by decide +kernel
theorem dX10_mostThen_24 : decode cX10_mostThen 24 = .ok (.getfield 19, 3) := by decide +kernel
theorem dX10_mostThen_27 : decode cX10_mostThen 27 = .ok (.aload_n 0, 1) := by decide +kernel
theorem dX10_mostThen_28 : decode cX10_mostThen 28 = .ok (.getfield 12, 3) := by decide +kernel
theorem dX10_mostThen_31 : decode cX10_mostThen 31 = .ok (.invokevirtual 108, 3) := by decide +kernel
theorem dX10_mostThen_34 : decode cX10_mostThen 34 = .ok (.iconst 0, 1) := by decide +kernel
theorem dX10_mostThen_35 : decode cX10_mostThen 35 = .ok (.istore 4, 2) := by decide +kernel
theorem dX10_mostThen_37 : decode cX10_mostThen 37 = .ok (.iload 4, 2) := by decide +kernel
theorem dX10_mostThen_39 : decode cX10_mostThen 39 = .ok (.iconst 4, 1) := by decide +kernel
theorem dX10_mostThen_40 : decode cX10_mostThen 40 = .ok (.if_icmp .ge 36, 3) := by decide +kernel
theorem dX10_mostThen_43 : decode cX10_mostThen 43 = .ok (.iload_n 3, 1) := by decide +kernel
theorem dX10_mostThen_44 : decode cX10_mostThen 44 = .ok (.ifCond .ne 16, 3) := by decide +kernel
theorem dX10_mostThen_47 : decode cX10_mostThen 47 = .ok (.aload_n 0, 1) := by decide +kernel
theorem dX10_mostThen_48 : decode cX10_mostThen 48 = .ok (.getfield 19, 3) := by decide +kernel
theorem dX10_mostThen_51 : decode cX10_mostThen 51 = .ok (.iload 4, 2) := by decide +kernel
theorem dX10_mostThen_53 : decode cX10_mostThen 53 = .ok (.invokevirtual 278, 3) := by decide +kernel
theorem dX10_mostThen_56 : decode cX10_mostThen 56 = .ok (.pop, 1) := by decide +kernel
theorem dX10_mostThen_57 : decode cX10_mostThen 57 = .ok (.goto 13, 3) := by decide +kernel
theorem dX10_mostThen_60 : decode cX10_mostThen 60 = .ok (.aload_n 0, 1) := by decide +kernel
theorem dX10_mostThen_61 : decode cX10_mostThen 61 = .ok (.getfield 19, 3) := by decide +kernel
theorem dX10_mostThen_64 : decode cX10_mostThen 64 = .ok (.iload 4, 2) := by decide +kernel
theorem dX10_mostThen_66 : decode cX10_mostThen 66 = .ok (.invokevirtual 281, 3) := by decide +kernel
theorem dX10_mostThen_69 : decode cX10_mostThen 69 = .ok (.pop, 1) := by decide +kernel
theorem dX10_mostThen_70 : decode cX10_mostThen 70 = .ok (.iinc 4 1, 3) := by decide +kernel
theorem dX10_mostThen_73 : decode cX10_mostThen 73 = .ok (.goto (-36), 3) := by decide +kernel
theorem dX10_mostThen_76 : decode cX10_mostThen 76 = .ok (.aload_n 0, 1) := by decide +kernel
theorem dX10_mostThen_77 : decode cX10_mostThen 77 = .ok (.getfield 61, 3) := by decide +kernel
theorem dX10_mostThen_80 : decode cX10_mostThen 80 = .ok (.aload_n 0, 1) := by decide +kernel
theorem dX10_mostThen_81 : decode cX10_mostThen 81 = .ok (.getfield 19, 3) := by decide +kernel
theorem dX10_mostThen_84 : decode cX10_mostThen 84 = .ok (.invokevirtual 178, 3) := by decide +kernel
theorem dX10_mostThen_87 : decode cX10_mostThen 87 = .ok (.aload_n 0, 1) := by decide +kernel
theorem dX10_mostThen_88 : decode cX10_mostThen 88 = .ok (.getfield 61, 3) := by decide +kernel
theorem dX10_mostThen_91 : decode cX10_mostThen 91 = .ok (.iload_n 1, 1) := by decide +kernel
theorem dX10_mostThen_92 : decode cX10_mostThen 92 = .ok (.iload_n 2, 1) := by decide +kernel
theorem dX10_mostThen_93 : decode cX10_mostThen 93 = .ok (.ldc 206, 2) := by decide +kernel
theorem dX10_mostThen_95 : decode cX10_mostThen 95 = .ok (.invokevirtual 207, 3) := by decide +kernel
theorem dX10_mostThen_98 : decode cX10_mostThen 98 = .ok (.ireturn, 1) := by decide +kernel
theorem dX10_batch_0 : decode cX10_batch 0 = .ok (.aload_n 0, 1) := by decide +kernel
theorem dX10_batch_1 : decode cX10_batch 1 = .ok (.getfield 47, 3) := by decide +kernel
theorem dX10_batch_4 : decode cX10_batch 4 = .ok (.aload_n 0, 1) := by decide +kernel
theorem dX10_batch_5 : decode cX10_batch 5 = .ok (.getfield 40, 3) := by decide +kernel
theorem dX10_batch_8 : decode cX10_batch 8 = .ok (.aload_n 0, 1) := by decide +kernel
theorem dX10_batch_9 : decode cX10_batch 9 = .ok (.getfield 12, 3) := by decide +kernel
theorem dX10_batch_12 : decode cX10_batch 12 = .ok (.getfield 164, 3) := by decide +kernel
theorem dX10_batch_15 : decode cX10_batch 15 = .ok (.bipush 8, 2) := by decide +kernel
theorem dX10_batch_17 : decode cX10_batch 17 = .ok (.invokevirtual 284, 3) := by decide +kernel
theorem dX10_batch_20 : decode cX10_batch 20 = .ok (.istore_n 1, 1) := by decide +kernel
theorem dX10_batch_21 : decode cX10_batch 21 = .ok (.aload_n 0, 1) := by decide +kernel
theorem dX10_batch_22 : decode cX10_batch 22 = .ok (.getfield 40, 3) := by decide +kernel
theorem dX10_batch_25 : decode cX10_batch 25 = .ok (.invokevirtual 101, 3) := by decide +kernel
theorem dX10_batch_28 : decode cX10_batch 28 = .ok (.iload_n 1, 1) := by decide +kernel
theorem dX10_batch_29 : decode cX10_batch 29 = .ok (.ifCond .ge 5, 3) := by decide +kernel
theorem dX10_batch_32 : decode cX10_batch 32 = .ok (.iload_n 1, 1) := by decide +kernel
theorem dX10_batch_33 : decode cX10_batch 33 = .ok (.ireturn, 1) := by decide +kernel
theorem dX10_batch_34 : decode cX10_batch 34 = .ok (.aload_n 0, 1) := by decide +kernel
theorem dX10_batch_35 : decode cX10_batch 35 = .ok (.getfield 61, 3) := by decide +kernel
theorem dX10_batch_38 : decode cX10_batch 38 = .ok (.aload_n 0, 1) := by decide +kernel
theorem dX10_batch_39 : decode cX10_batch 39 = .ok (.getfield 12, 3) := by decide +kernel
theorem dX10_batch_42 : decode cX10_batch 42 = .ok (.invokevirtual 178, 3) := by decide +kernel
theorem dX10_batch_45 : decode cX10_batch 45 = .ok (.iconst 0, 1) := by decide +kernel
theorem dX10_batch_46 : decode cX10_batch 46 = .ok (.istore_n 2, 1) := by decide +kernel
theorem dX10_batch_47 : decode cX10_batch 47 = .ok (.iload_n 2, 1) := by decide +kernel
theorem dX10_batch_48 : decode cX10_batch 48 = .ok (.iload_n 1, 1) := by decide +kernel
theorem dX10_batch_49 : decode cX10_batch 49 = .ok (.if_icmp .ge 71, 3) := by decide +kernel
theorem dX10_batch_52 : decode cX10_batch 52 = .ok (.aload_n 0, 1) := by decide +kernel
theorem dX10_batch_53 : decode cX10_batch 53 = .ok (.getfield 61, 3) := by decide +kernel
theorem dX10_batch_56 : decode cX10_batch 56 = .ok (.aload_n 0, 1) := by decide +kernel
theorem dX10_batch_57 : decode cX10_batch 57 = .ok (.getfield 47, 3) := by decide +kernel
theorem dX10_batch_60 : decode cX10_batch 60 = .ok (.getfield 288, 3) := by decide +kernel
theorem dX10_batch_63 : decode cX10_batch 63 = .ok (.iload_n 2, 1) := by decide +kernel
theorem dX10_batch_64 : decode cX10_batch 64 = .ok (.iaload, 1) := by decide +kernel
theorem dX10_batch_65 : decode cX10_batch 65 = .ok (.aload_n 0, 1) := by decide +kernel
theorem dX10_batch_66 : decode cX10_batch 66 = .ok (.getfield 47, 3) := by decide +kernel
theorem dX10_batch_69 : decode cX10_batch 69 = .ok (.getfield 291, 3) := by decide +kernel
theorem dX10_batch_72 : decode cX10_batch 72 = .ok (.iload_n 2, 1) := by decide +kernel
theorem dX10_batch_73 : decode cX10_batch 73 = .ok (.iaload, 1) := by decide +kernel
theorem dX10_batch_74 : decode cX10_batch 74 = .ok (.aload_n 0, 1) := by decide +kernel
theorem dX10_batch_75 : decode cX10_batch 75 = .ok (.getfield 47, 3) := by decide +kernel
theorem dX10_batch_78 : decode cX10_batch 78 = .ok (.getfield 294, 3) := by decide +kernel
theorem dX10_batch_81 : decode cX10_batch 81 = .ok (.iload_n 2, 1) := by decide +kernel
theorem dX10_batch_82 : decode cX10_batch 82 = .ok (.iaload, 1) := by decide +kernel
theorem dX10_batch_83 : decode cX10_batch 83 = .ok (.invokevirtual 207, 3) := by decide +kernel
theorem dX10_batch_86 : decode cX10_batch 86 = .ok (.istore_n 3, 1) := by decide +kernel
theorem dX10_batch_87 : decode cX10_batch 87 = .ok (.iload_n 3, 1) := by decide +kernel
theorem dX10_batch_88 : decode cX10_batch 88 = .ok (.aload_n 0, 1) := by decide +kernel
theorem dX10_batch_89 : decode cX10_batch 89 = .ok (.getfield 47, 3) := by decide +kernel
theorem dX10_batch_92 : decode cX10_batch 92 = .ok (.getfield 294, 3) := by decide +kernel
theorem dX10_batch_95 : decode cX10_batch 95 = .ok (.iload_n 2, 1) := by decide +kernel
theorem dX10_batch_96 : decode cX10_batch 96 = .ok (.iaload, 1) := by decide +kernel
theorem dX10_batch_97 : decode cX10_batch 97 = .ok (.if_icmp .ge 17, 3) := by decide +kernel
theorem dX10_batch_100 : decode cX10_batch 100 = .ok (.aload_n 0, 1) := by decide +kernel
theorem dX10_batch_101 : decode cX10_batch 101 = .ok (.getfield 54, 3) := by decide +kernel
theorem dX10_batch_104 : decode cX10_batch 104 = .ok (.iload_n 3, 1) := by decide +kernel
theorem dX10_batch_105 : decode cX10_batch 105 = .ok (.i2l, 1) := by decide +kernel
theorem dX10_batch_106 : decode cX10_batch 106 = .ok (.invokevirtual 202, 3) := by decide +kernel
theorem dX10_batch_109 : decode cX10_batch 109 = .ok (.bipush (-100), 2) := by decide +kernel
theorem dX10_batch_111 : decode cX10_batch 111 = .ok (.iload_n 2, 1) := by decide +kernel
theorem dX10_batch_112 : decode cX10_batch 112 = .ok (.isub, 1) := by decide +kernel
theorem dX10_batch_113 : decode cX10_batch 113 = .ok (.ireturn, 1) := by decide +kernel
theorem dX10_batch_114 : decode cX10_batch 114 = .ok (.iinc 2 1, 3) := by decide +kernel
theorem dX10_batch_117 : decode cX10_batch 117 = .ok (.goto (-70), 3) := by decide +kernel
theorem dX10_batch_120 : decode cX10_batch 120 = .ok (.iload_n 1, 1) := by decide +kernel
theorem dX10_batch_121 : decode cX10_batch 121 = .ok (.ifCond .le 25, 3) := by decide +kernel
theorem dX10_batch_124 : decode cX10_batch 124 = .ok (.aload_n 0, 1) := by decide +kernel
theorem dX10_batch_125 : decode cX10_batch 125 = .ok (.getfield 33, 3) := by decide +kernel
theorem dX10_batch_128 : decode cX10_batch 128 = .ok (.aload_n 0, 1) := by decide +kernel
theorem dX10_batch_129 : decode cX10_batch 129 = .ok (.getfield 12, 3) := by decide +kernel
theorem dX10_batch_132 : decode cX10_batch 132 = .ok (.invokevirtual 104, 3) := by decide +kernel
theorem dX10_batch_135 : decode cX10_batch 135 = .ok (.aload_n 0, 1) := by decide +kernel
theorem dX10_batch_136 : decode cX10_batch 136 = .ok (.getfield 61, 3) := by decide +kernel
theorem dX10_batch_139 : decode cX10_batch 139 = .ok (.aload_n 0, 1) := by decide +kernel
theorem dX10_batch_140 : decode cX10_batch 140 = .ok (.getfield 12, 3) := by decide +kernel
theorem dX10_batch_143 : decode cX10_batch 143 = .ok (.invokevirtual 297, 3) := by decide +kernel
theorem dX10_batch_146 : decode cX10_batch 146 = .ok (.iload_n 1, 1) := by decide +kernel
theorem dX10_batch_147 : decode cX10_batch 147 = .ok (.ireturn, 1) := by decide +kernel
theorem dX10_orders_0 : decode cX10_orders 0 = .ok (.aload_n 0, 1) := by decide +kernel
theorem dX10_orders_1 : decode cX10_orders 1 = .ok (.getfield 47, 3) := by decide +kernel
theorem dX10_orders_4 : decode cX10_orders 4 = .ok (.aload_n 0, 1) := by decide +kernel
theorem dX10_orders_5 : decode cX10_orders 5 = .ok (.getfield 40, 3) := by decide +kernel
theorem dX10_orders_8 : decode cX10_orders 8 = .ok (.aload_n 0, 1) := by decide +kernel
theorem dX10_orders_9 : decode cX10_orders 9 = .ok (.getfield 12, 3) := by decide +kernel
theorem dX10_orders_12 : decode cX10_orders 12 = .ok (.getfield 164, 3) := by decide +kernel
theorem dX10_orders_15 : decode cX10_orders 15 = .ok (.iconst 5, 1) := by decide +kernel
theorem dX10_orders_16 : decode cX10_orders 16 = .ok (.invokevirtual 284, 3) := by decide +kernel
theorem dX10_orders_19 : decode cX10_orders 19 = .ok (.istore_n 1, 1) := by decide +kernel
theorem dX10_orders_20 : decode cX10_orders 20 = .ok (.aload_n 0, 1) := by decide +kernel
theorem dX10_orders_21 : decode cX10_orders 21 = .ok (.getfield 40, 3) := by decide +kernel
theorem dX10_orders_24 : decode cX10_orders 24 = .ok (.invokevirtual 101, 3) := by decide +kernel
theorem dX10_orders_27 : decode cX10_orders 27 = .ok (.iload_n 1, 1) := by decide +kernel
theorem dX10_orders_28 : decode cX10_orders 28 = .ok (.ifCond .ge 5, 3) := by decide +kernel
theorem dX10_orders_31 : decode cX10_orders 31 = .ok (.iload_n 1, 1) := by decide +kernel
theorem dX10_orders_32 : decode cX10_orders 32 = .ok (.ireturn, 1) := by decide +kernel
theorem dX10_orders_33 : decode cX10_orders 33 = .ok (.aload_n 0, 1) := by decide +kernel
theorem dX10_orders_34 : decode cX10_orders 34 = .ok (.getfield 61, 3) := by decide +kernel
theorem dX10_orders_37 : decode cX10_orders 37 = .ok (.aload_n 0, 1) := by decide +kernel
theorem dX10_orders_38 : decode cX10_orders 38 = .ok (.getfield 12, 3) := by decide +kernel
theorem dX10_orders_41 : decode cX10_orders 41 = .ok (.invokevirtual 178, 3) := by decide +kernel
theorem dX10_orders_44 : decode cX10_orders 44 = .ok (.aload_n 0, 1) := by decide +kernel
theorem dX10_orders_45 : decode cX10_orders 45 = .ok (.getfield 68, 3) := by decide +kernel
theorem dX10_orders_48 : decode cX10_orders 48 = .ok (.aload_n 0, 1) := by decide +kernel
theorem dX10_orders_49 : decode cX10_orders 49 = .ok (.getfield 61, 3) := by decide +kernel
theorem dX10_orders_52 : decode cX10_orders 52 = .ok (.aload_n 0, 1) := by decide +kernel
theorem dX10_orders_53 : decode cX10_orders 53 = .ok (.getfield 47, 3) := by decide +kernel
theorem dX10_orders_56 : decode cX10_orders 56 = .ok (.invokevirtual 300, 3) := by decide +kernel
theorem dX10_orders_59 : decode cX10_orders 59 = .ok (.aload_n 0, 1) := by decide +kernel
theorem dX10_orders_60 : decode cX10_orders 60 = .ok (.getfield 68, 3) := by decide +kernel
theorem dX10_orders_63 : decode cX10_orders 63 = .ok (.getfield 304, 3) := by decide +kernel
theorem dX10_orders_66 : decode cX10_orders 66 = .ok (.ifCond .ne 7, 3) := by decide +kernel
theorem dX10_orders_69 : decode cX10_orders 69 = .ok (.sipush (-200), 3) := by decide +kernel
theorem dX10_orders_72 : decode cX10_orders 72 = .ok (.ireturn, 1) := by decide +kernel
theorem dX10_orders_73 : decode cX10_orders 73 = .ok (.aload_n 0, 1) := by decide +kernel
theorem dX10_orders_74 : decode cX10_orders 74 = .ok (.getfield 54, 3) := by decide +kernel
theorem dX10_orders_77 : decode cX10_orders 77 = .ok (.invokevirtual 220, 3) := by decide +kernel
theorem dX10_orders_80 : decode cX10_orders 80 = .ok (.iconst 0, 1) := by decide +kernel
theorem dX10_orders_81 : decode cX10_orders 81 = .ok (.istore_n 2, 1) := by decide +kernel
theorem dX10_orders_82 : decode cX10_orders 82 = .ok (.iload_n 2, 1) := by decide +kernel
theorem dX10_orders_83 : decode cX10_orders 83 = .ok (.iload_n 1, 1) := by decide +kernel
theorem dX10_orders_84 : decode cX10_orders 84 = .ok (.if_icmp .ge 26, 3) := by decide +kernel
theorem dX10_orders_87 : decode cX10_orders 87 = .ok (.aload_n 0, 1) := by decide +kernel
theorem dX10_orders_88 : decode cX10_orders 88 = .ok (.getfield 54, 3) := by decide +kernel
theorem dX10_orders_91 : decode cX10_orders 91 = .ok (.aload_n 0, 1) := by decide +kernel
theorem dX10_orders_92 : decode cX10_orders 92 = .ok (.getfield 68, 3) := by decide +kernel
theorem dX10_orders_95 : decode cX10_orders 95 = .ok (.getfield 307, 3) := by decide +kernel
theorem dX10_orders_98 : decode cX10_orders 98 = .ok (.iload_n 2, 1) := by decide +kernel
theorem dX10_orders_99 : decode cX10_orders 99 = .ok (.iaload, 1) := by decide +kernel
theorem dX10_orders_100 : decode cX10_orders 100 = .ok (.i2l, 1) := by decide +kernel
theorem dX10_orders_101 : decode cX10_orders 101 = .ok (.invokevirtual 229, 3) := by decide +kernel
theorem dX10_orders_104 : decode cX10_orders 104 = .ok (.iinc 2 1, 3) := by decide +kernel
theorem dX10_orders_107 : decode cX10_orders 107 = .ok (.goto (-25), 3) := by decide +kernel
theorem dX10_orders_110 : decode cX10_orders 110 = .ok (.aload_n 0, 1) := by decide +kernel
theorem dX10_orders_111 : decode cX10_orders 111 = .ok (.getfield 54, 3) := by decide +kernel
theorem dX10_orders_114 : decode cX10_orders 114 = .ok (.aload_n 0, 1) := by decide +kernel
theorem dX10_orders_115 : decode cX10_orders 115 = .ok (.getfield 68, 3) := by decide +kernel
theorem dX10_orders_118 : decode cX10_orders 118 = .ok (.getfield 304, 3) := by decide +kernel
theorem dX10_orders_121 : decode cX10_orders 121 = .ok (.i2l, 1) := by decide +kernel
theorem dX10_orders_122 : decode cX10_orders 122 = .ok (.invokevirtual 229, 3) := by decide +kernel
theorem dX10_orders_125 : decode cX10_orders 125 = .ok (.iload_n 1, 1) := by decide +kernel
theorem dX10_orders_126 : decode cX10_orders 126 = .ok (.ireturn, 1) := by decide +kernel
theorem dX10_settles_0 : decode cX10_settles 0 = .ok (.aload_n 0, 1) := by decide +kernel
theorem dX10_settles_1 : decode cX10_settles 1 = .ok (.getfield 16, 3) := by decide +kernel
theorem dX10_settles_4 : decode cX10_settles 4 = .ok (.aload_n 0, 1) := by decide +kernel
theorem dX10_settles_5 : decode cX10_settles 5 = .ok (.getfield 12, 3) := by decide +kernel
theorem dX10_settles_8 : decode cX10_settles 8 = .ok (.invokevirtual 108, 3) := by decide +kernel
theorem dX10_settles_11 : decode cX10_settles 11 = .ok (.aload_n 0, 1) := by decide +kernel
theorem dX10_settles_12 : decode cX10_settles 12 = .ok (.aload_n 0, 1) := by decide +kernel
theorem dX10_settles_13 : decode cX10_settles 13 = .ok (.invokevirtual 310, 3) := by decide +kernel
theorem dX10_settles_16 : decode cX10_settles 16 = .ok (.invokevirtual 240, 3) := by decide +kernel
theorem dX10_settles_19 : decode cX10_settles 19 = .ok (.ireturn, 1) := by decide +kernel
theorem dX10_raise_0 : decode cX10_raise 0 = .ok (.aload_n 0, 1) := by decide +kernel
theorem dX10_raise_1 : decode cX10_raise 1 = .ok (.iload_n 1, 1) := by decide +kernel
theorem dX10_raise_2 : decode cX10_raise 2 = .ok (.iload_n 2, 1) := by decide +kernel
theorem dX10_raise_3 : decode cX10_raise 3 = .ok (.iload_n 3, 1) := by decide +kernel
theorem dX10_raise_4 : decode cX10_raise 4 = .ok (.invokevirtual 174, 3) := by decide +kernel
theorem dX10_raise_7 : decode cX10_raise 7 = .ok (.ifCond .ne 5, 3) := by decide +kernel
theorem dX10_raise_10 : decode cX10_raise 10 = .ok (.iconst (-1), 1) := by decide +kernel
theorem dX10_raise_11 : decode cX10_raise 11 = .ok (.ireturn, 1) := by decide +kernel
theorem dX10_raise_12 : decode cX10_raise 12 = .ok (.aload_n 0, 1) := by decide +kernel
theorem dX10_raise_13 : decode cX10_raise 13 = .ok (.getfield 61, 3) := by decide +kernel
theorem dX10_raise_16 : decode cX10_raise 16 = .ok (.aload_n 0, 1) := by decide +kernel
theorem dX10_raise_17 : decode cX10_raise 17 = .ok (.getfield 12, 3) := by decide +kernel
theorem dX10_raise_20 : decode cX10_raise 20 = .ok (.invokevirtual 178, 3) := by decide +kernel
theorem dX10_raise_23 : decode cX10_raise 23 = .ok (.aload_n 0, 1) := by decide +kernel
theorem dX10_raise_24 : decode cX10_raise 24 = .ok (.getfield 61, 3) := by decide +kernel
theorem dX10_raise_27 : decode cX10_raise 27 = .ok (.iload_n 1, 1) := by decide +kernel
theorem dX10_raise_28 : decode cX10_raise 28 = .ok (.iload_n 2, 1) := by decide +kernel
theorem dX10_raise_29 : decode cX10_raise 29 = .ok (.iload_n 3, 1) := by decide +kernel
theorem dX10_raise_30 : decode cX10_raise 30 = .ok (.invokevirtual 207, 3) := by decide +kernel
theorem dX10_raise_33 : decode cX10_raise 33 = .ok (.istore 4, 2) := by decide +kernel
theorem dX10_raise_35 : decode cX10_raise 35 = .ok (.iload 4, 2) := by decide +kernel
theorem dX10_raise_37 : decode cX10_raise 37 = .ok (.iload_n 3, 1) := by decide +kernel
theorem dX10_raise_38 : decode cX10_raise 38 = .ok (.if_icmp .lt 6, 3) := by decide +kernel
theorem dX10_raise_41 : decode cX10_raise 41 = .ok (.bipush (-2), 2) := by decide +kernel
theorem dX10_raise_43 : decode cX10_raise 43 = .ok (.ireturn, 1) := by decide +kernel
theorem dX10_raise_44 : decode cX10_raise 44 = .ok (.iload_n 3, 1) := by decide +kernel
theorem dX10_raise_45 : decode cX10_raise 45 = .ok (.iload 4, 2) := by decide +kernel
theorem dX10_raise_47 : decode cX10_raise 47 = .ok (.isub, 1) := by decide +kernel
theorem dX10_raise_48 : decode cX10_raise 48 = .ok (.istore 5, 2) := by decide +kernel
theorem dX10_raise_50 : decode cX10_raise 50 = .ok (.aload_n 0, 1) := by decide +kernel
theorem dX10_raise_51 : decode cX10_raise 51 = .ok (.getfield 61, 3) := by decide +kernel
theorem dX10_raise_54 : decode cX10_raise 54 = .ok (.iload_n 1, 1) := by decide +kernel
theorem dX10_raise_55 : decode cX10_raise 55 = .ok (.iconst 1, 1) := by decide +kernel
theorem dX10_raise_56 : decode cX10_raise 56 = .ok (.invokevirtual 193, 3) := by decide +kernel
theorem dX10_raise_59 : decode cX10_raise 59 = .ok (.istore 6, 2) := by decide +kernel
theorem dX10_raise_61 : decode cX10_raise 61 = .ok (.iconst 0, 1) := by decide +kernel
theorem dX10_raise_62 : decode cX10_raise 62 = .ok (.istore 7, 2) := by decide +kernel
theorem dX10_raise_64 : decode cX10_raise 64 = .ok (.iload 7, 2) := by decide +kernel
theorem dX10_raise_66 : decode cX10_raise 66 = .ok (.aload_n 0, 1) := by decide +kernel
theorem dX10_raise_67 : decode cX10_raise 67 = .ok (.getfield 12, 3) := by decide +kernel
theorem dX10_raise_70 : decode cX10_raise 70 = .ok (.getfield 164, 3) := by decide +kernel
theorem dX10_raise_73 : decode cX10_raise 73 = .ok (.if_icmp .ge 122, 3) := by decide +kernel
theorem dX10_raise_76 : decode cX10_raise 76 = .ok (.iconst 0, 1) := by decide +kernel
theorem dX10_raise_77 : decode cX10_raise 77 = .ok (.istore 8, 2) := by decide +kernel
theorem dX10_raise_79 : decode cX10_raise 79 = .ok (.iload 8, 2) := by decide +kernel
theorem dX10_raise_81 : decode cX10_raise 81 = .ok (.aload_n 0, 1) := by decide +kernel
theorem dX10_raise_82 : decode cX10_raise 82 = .ok (.getfield 12, 3) := by decide +kernel
theorem dX10_raise_85 : decode cX10_raise 85 = .ok (.getfield 164, 3) := by decide +kernel
theorem dX10_raise_88 : decode cX10_raise 88 = .ok (.if_icmp .ge 101, 3) := by decide +kernel
theorem dX10_raise_91 : decode cX10_raise 91 = .ok (.iload 6, 2) := by decide +kernel
theorem dX10_raise_93 : decode cX10_raise 93 = .ok (.iload 8, 2) := by decide +kernel
theorem dX10_raise_95 : decode cX10_raise 95 = .ok (.ishr, 1) := by decide +kernel
theorem dX10_raise_96 : decode cX10_raise 96 = .ok (.iconst 1, 1) := by decide +kernel
theorem dX10_raise_97 : decode cX10_raise 97 = .ok (.iand, 1) := by decide +kernel
theorem dX10_raise_98 : decode cX10_raise 98 = .ok (.iconst 1, 1) := by decide +kernel
theorem dX10_raise_99 : decode cX10_raise 99 = .ok (.if_icmp .ne 17, 3) := by decide +kernel
theorem dX10_raise_102 : decode cX10_raise 102 = .ok (.iload 6, 2) := by decide +kernel
theorem dX10_raise_104 : decode cX10_raise 104 = .ok (.iload 7, 2) := by decide +kernel
theorem dX10_raise_106 : decode cX10_raise 106 = .ok (.ishr, 1) := by decide +kernel
theorem dX10_raise_107 : decode cX10_raise 107 = .ok (.iconst 1, 1) := by decide +kernel
theorem dX10_raise_108 : decode cX10_raise 108 = .ok (.iand, 1) := by decide +kernel
theorem dX10_raise_109 : decode cX10_raise 109 = .ok (.ifCond .ne 7, 3) := by decide +kernel
theorem dX10_raise_112 : decode cX10_raise 112 = .ok (.iconst 1, 1) := by decide +kernel
theorem dX10_raise_113 : decode cX10_raise 113 = .ok (.goto 4, 3) := by decide +kernel
theorem dX10_raise_116 : decode cX10_raise 116 = .ok (.iconst 0, 1) := by decide +kernel
theorem dX10_raise_117 : decode cX10_raise 117 = .ok (.istore 9, 2) := by decide +kernel
theorem dX10_raise_119 : decode cX10_raise 119 = .ok (.iload 9, 2) := by decide +kernel
theorem dX10_raise_121 : decode cX10_raise 121 = .ok (.ifCond .eq 62, 3) := by decide +kernel
theorem dX10_raise_124 : decode cX10_raise 124 = .ok (.aload_n 0, 1) := by decide +kernel
theorem dX10_raise_125 : decode cX10_raise 125 = .ok (.getfield 12, 3) := by decide +kernel
theorem dX10_raise_128 : decode cX10_raise 128 = .ok (.getfield 136, 3) := by decide +kernel
theorem dX10_raise_131 : decode cX10_raise 131 = .ok (.iload 7, 2) := by decide +kernel
theorem dX10_raise_133 : decode cX10_raise 133 = .ok (.iload 8, 2) := by decide +kernel
theorem dX10_raise_135 : decode cX10_raise 135 = .ok (.invokestatic 133, 3) := by decide +kernel
theorem dX10_raise_138 : decode cX10_raise 138 = .ok (.iaload, 1) := by decide +kernel
theorem dX10_raise_139 : decode cX10_raise 139 = .ok (.iload 5, 2) := by decide +kernel
theorem dX10_raise_141 : decode cX10_raise 141 = .ok (.iadd, 1) := by decide +kernel
theorem dX10_raise_142 : decode cX10_raise 142 = .ok (.sipush 999, 3) := by decide +kernel
theorem dX10_raise_145 : decode cX10_raise 145 = .ok (.if_icmp .gt 38, 3) := by decide +kernel
theorem dX10_raise_148 : decode cX10_raise 148 = .ok (.aload_n 0, 1) := by decide +kernel
theorem dX10_raise_149 : decode cX10_raise 149 = .ok (.iload_n 1, 1) := by decide +kernel
theorem dX10_raise_150 : decode cX10_raise 150 = .ok (.iload_n 2, 1) := by decide +kernel
theorem dX10_raise_151 : decode cX10_raise 151 = .ok (.iload_n 3, 1) := by decide +kernel
theorem dX10_raise_152 : decode cX10_raise 152 = .ok (.iload 8, 2) := by decide +kernel
theorem dX10_raise_154 : decode cX10_raise 154 = .ok (.iload 7, 2) := by decide +kernel
theorem dX10_raise_156 : decode cX10_raise 156 = .ok (.iload 5, 2) := by decide +kernel
theorem dX10_raise_158 : decode cX10_raise 158 = .ok (.invokevirtual 313, 3) := by decide +kernel
theorem dX10_raise_161 : decode cX10_raise 161 = .ok (.ifCond .eq 22, 3) := by decide +kernel
theorem dX10_raise_164 : decode cX10_raise 164 = .ok (.aload_n 0, 1) := by decide +kernel
theorem dX10_raise_165 : decode cX10_raise 165 = .ok (.getfield 54, 3) := by decide +kernel
theorem dX10_raise_168 : decode cX10_raise 168 = .ok (.iload 5, 2) := by decide +kernel
theorem dX10_raise_170 : decode cX10_raise 170 = .ok (.i2l, 1) := by decide +kernel
theorem dX10_raise_171 : decode cX10_raise 171 = .ok (.invokevirtual 202, 3) := by decide +kernel
theorem dX10_raise_174 : decode cX10_raise 174 = .ok (.bipush 10, 2) := by decide +kernel
theorem dX10_raise_176 : decode cX10_raise 176 = .ok (.iload 7, 2) := by decide +kernel
theorem dX10_raise_178 : decode cX10_raise 178 = .ok (.imul, 1) := by decide +kernel
theorem dX10_raise_179 : decode cX10_raise 179 = .ok (.iload 8, 2) := by decide +kernel
theorem dX10_raise_181 : decode cX10_raise 181 = .ok (.iadd, 1) := by decide +kernel
theorem dX10_raise_182 : decode cX10_raise 182 = .ok (.ireturn, 1) := by decide +kernel
theorem dX10_raise_183 : decode cX10_raise 183 = .ok (.iinc 8 1, 3) := by decide +kernel
theorem dX10_raise_186 : decode cX10_raise 186 = .ok (.goto (-107), 3) := by decide +kernel
theorem dX10_raise_189 : decode cX10_raise 189 = .ok (.iinc 7 1, 3) := by decide +kernel
theorem dX10_raise_192 : decode cX10_raise 192 = .ok (.goto (-128), 3) := by decide +kernel
theorem dX10_raise_195 : decode cX10_raise 195 = .ok (.bipush (-3), 2) := by decide +kernel
theorem dX10_raise_197 : decode cX10_raise 197 = .ok (.ireturn, 1) := by decide +kernel
theorem dX10_goesIfWider_0 : decode cX10_goesIfWider 0 = .ok (.aload_n 0, 1) := by decide +kernel
theorem dX10_goesIfWider_1 : decode cX10_goesIfWider 1 = .ok (.getfield 61, 3) := by decide +kernel
theorem dX10_goesIfWider_4 : decode cX10_goesIfWider 4 = .ok (.aload_n 0, 1) := by decide +kernel
theorem dX10_goesIfWider_5 : decode cX10_goesIfWider 5 = .ok (.getfield 12, 3) := by decide +kernel
theorem dX10_goesIfWider_8 : decode cX10_goesIfWider 8 = .ok (.invokevirtual 178, 3) := by decide +kernel
theorem dX10_goesIfWider_11 : decode cX10_goesIfWider 11 = .ok (.aload_n 0, 1) := by decide +kernel
theorem dX10_goesIfWider_12 : decode cX10_goesIfWider 12 = .ok (.getfield 61, 3) := by decide +kernel
theorem dX10_goesIfWider_15 : decode cX10_goesIfWider 15 = .ok (.iload 4, 2) := by decide +kernel
theorem dX10_goesIfWider_17 : decode cX10_goesIfWider 17 = .ok (.iload 5, 2) := by decide +kernel
theorem dX10_goesIfWider_19 : decode cX10_goesIfWider 19 = .ok (.iload 6, 2) := by decide +kernel
theorem dX10_goesIfWider_21 : decode cX10_goesIfWider 21 = .ok (.invokevirtual 317, 3) := by decide +kernel
theorem dX10_goesIfWider_24 : decode cX10_goesIfWider 24 = .ok (.aload_n 0, 1) := by decide +kernel
theorem dX10_goesIfWider_25 : decode cX10_goesIfWider 25 = .ok (.getfield 61, 3) := by decide +kernel
theorem dX10_goesIfWider_28 : decode cX10_goesIfWider 28 = .ok (.iload_n 1, 1) := by decide +kernel
theorem dX10_goesIfWider_29 : decode cX10_goesIfWider 29 = .ok (.iload_n 2, 1) := by decide +kernel
theorem dX10_goesIfWider_30 : decode cX10_goesIfWider 30 = .ok (.iload_n 3, 1) := by decide +kernel
theorem dX10_goesIfWider_31 : decode cX10_goesIfWider 31 = .ok (.invokevirtual 207, 3) := by decide +kernel
theorem dX10_goesIfWider_34 : decode cX10_goesIfWider 34 = .ok (.iload_n 3, 1) := by decide +kernel
theorem dX10_goesIfWider_35 : decode cX10_goesIfWider 35 = .ok (.if_icmp .ne 7, 3) := by decide +kernel
theorem dX10_goesIfWider_38 : decode cX10_goesIfWider 38 = .ok (.iconst 1, 1) := by decide +kernel
theorem dX10_goesIfWider_39 : decode cX10_goesIfWider 39 = .ok (.goto 4, 3) := by decide +kernel
theorem dX10_goesIfWider_42 : decode cX10_goesIfWider 42 = .ok (.iconst 0, 1) := by decide +kernel
theorem dX10_goesIfWider_43 : decode cX10_goesIfWider 43 = .ok (.ireturn, 1) := by decide +kernel
theorem dX10_fails_0 : decode cX10_fails 0 = .ok (.aload_n 0, 1) := by decide +kernel
theorem dX10_fails_1 : decode cX10_fails 1 = .ok (.getfield 12, 3) := by decide +kernel
theorem dX10_fails_4 : decode cX10_fails 4 = .ok (.iload_n 1, 1) := by decide +kernel
theorem dX10_fails_5 : decode cX10_fails 5 = .ok (.invokevirtual 111, 3) := by decide +kernel
theorem dX10_fails_8 : decode cX10_fails 8 = .ok (.ifCond .ne 5, 3) := by decide +kernel
theorem dX10_fails_11 : decode cX10_fails 11 = .ok (.iconst (-1), 1) := by decide +kernel
theorem dX10_fails_12 : decode cX10_fails 12 = .ok (.ireturn, 1) := by decide +kernel
theorem dX10_fails_13 : decode cX10_fails 13 = .ok (.aload_n 0, 1) := by decide +kernel
theorem dX10_fails_14 : decode cX10_fails 14 = .ok (.getfield 82, 3) := by decide +kernel
theorem dX10_fails_17 : decode cX10_fails 17 = .ok (.aload_n 0, 1) := by decide +kernel
theorem dX10_fails_18 : decode cX10_fails 18 = .ok (.getfield 12, 3) := by decide +kernel
theorem dX10_fails_21 : decode cX10_fails 21 = .ok (.iload_n 1, 1) := by decide +kernel
theorem dX10_fails_22 : decode cX10_fails 22 = .ok (.invokevirtual 321, 3) := by decide +kernel
theorem dX10_fails_25 : decode cX10_fails 25 = .ok (.aload_n 0, 1) := by decide +kernel
theorem dX10_fails_26 : decode cX10_fails 26 = .ok (.getfield 54, 3) := by decide +kernel
theorem dX10_fails_29 : decode cX10_fails 29 = .ok (.aload_n 0, 1) := by decide +kernel
theorem dX10_fails_30 : decode cX10_fails 30 = .ok (.getfield 82, 3) := by decide +kernel
theorem dX10_fails_33 : decode cX10_fails 33 = .ok (.getfield 325, 3) := by decide +kernel
theorem dX10_fails_36 : decode cX10_fails 36 = .ok (.i2l, 1) := by decide +kernel
theorem dX10_fails_37 : decode cX10_fails 37 = .ok (.aload_n 0, 1) := by decide +kernel
theorem dX10_fails_38 : decode cX10_fails 38 = .ok (.getfield 82, 3) := by decide +kernel
theorem dX10_fails_41 : decode cX10_fails 41 = .ok (.getfield 328, 3) := by decide +kernel
theorem dX10_fails_44 : decode cX10_fails 44 = .ok (.i2l, 1) := by decide +kernel
theorem dX10_fails_45 : decode cX10_fails 45 = .ok (.aload_n 0, 1) := by decide +kernel
theorem dX10_fails_46 : decode cX10_fails 46 = .ok (.getfield 82, 3) := by decide +kernel
theorem dX10_fails_49 : decode cX10_fails 49 = .ok (.getfield 331, 3) := by decide +kernel
theorem dX10_fails_52 : decode cX10_fails 52 = .ok (.i2l, 1) := by decide +kernel
theorem dX10_fails_53 : decode cX10_fails 53 = .ok (.invokevirtual 153, 3) := by decide +kernel
theorem dX10_fails_56 : decode cX10_fails 56 = .ok (.aload_n 0, 1) := by decide +kernel
theorem dX10_fails_57 : decode cX10_fails 57 = .ok (.getfield 82, 3) := by decide +kernel
theorem dX10_fails_60 : decode cX10_fails 60 = .ok (.getfield 334, 3) := by decide +kernel
theorem dX10_fails_63 : decode cX10_fails 63 = .ok (.ireturn, 1) := by decide +kernel
theorem dX10_worst_0 : decode cX10_worst 0 = .ok (.iconst 0, 1) := by decide +kernel
theorem dX10_worst_1 : decode cX10_worst 1 = .ok (.istore_n 1, 1) := by decide +kernel
theorem dX10_worst_2 : decode cX10_worst 2 = .ok (.iconst (-1), 1) := by decide +kernel
theorem dX10_worst_3 : decode cX10_worst 3 = .ok (.istore_n 2, 1) := by decide +kernel
theorem dX10_worst_4 : decode cX10_worst 4 = .ok (.iconst 0, 1) := by decide +kernel
theorem dX10_worst_5 : decode cX10_worst 5 = .ok (.istore_n 3, 1) := by decide +kernel
theorem dX10_worst_6 : decode cX10_worst 6 = .ok (.iconst 0, 1) := by decide +kernel
theorem dX10_worst_7 : decode cX10_worst 7 = .ok (.istore 4, 2) := by decide +kernel
theorem dX10_worst_9 : decode cX10_worst 9 = .ok (.iload 4, 2) := by decide +kernel
theorem dX10_worst_11 : decode cX10_worst 11 = .ok (.aload_n 0, 1) := by decide +kernel
theorem dX10_worst_12 : decode cX10_worst 12 = .ok (.getfield 12, 3) := by decide +kernel
theorem dX10_worst_15 : decode cX10_worst 15 = .ok (.getfield 164, 3) := by decide +kernel
theorem dX10_worst_18 : decode cX10_worst 18 = .ok (.if_icmp .ge 57, 3) := by decide +kernel
theorem dX10_worst_21 : decode cX10_worst 21 = .ok (.aload_n 0, 1) := by decide +kernel
theorem dX10_worst_22 : decode cX10_worst 22 = .ok (.getfield 82, 3) := by decide +kernel
theorem dX10_worst_25 : decode cX10_worst 25 = .ok (.aload_n 0, 1) := by decide +kernel
theorem dX10_worst_26 : decode cX10_worst 26 = .ok (.getfield 12, 3) := by decide +kernel
theorem dX10_worst_29 : decode cX10_worst 29 = .ok (.iload 4, 2) := by decide +kernel
theorem dX10_worst_31 : decode cX10_worst 31 = .ok (.invokevirtual 321, 3) := by decide +kernel
theorem dX10_worst_34 : decode cX10_worst 34 = .ok (.aload_n 0, 1) := by decide +kernel
theorem dX10_worst_35 : decode cX10_worst 35 = .ok (.getfield 82, 3) := by decide +kernel
theorem dX10_worst_38 : decode cX10_worst 38 = .ok (.getfield 328, 3) := by decide +kernel
theorem dX10_worst_41 : decode cX10_worst 41 = .ok (.iload_n 1, 1) := by decide +kernel
theorem dX10_worst_42 : decode cX10_worst 42 = .ok (.if_icmp .le 27, 3) := by decide +kernel
theorem dX10_worst_45 : decode cX10_worst 45 = .ok (.aload_n 0, 1) := by decide +kernel
theorem dX10_worst_46 : decode cX10_worst 46 = .ok (.getfield 82, 3) := by decide +kernel
theorem dX10_worst_49 : decode cX10_worst 49 = .ok (.getfield 328, 3) := by decide +kernel
theorem dX10_worst_52 : decode cX10_worst 52 = .ok (.istore_n 1, 1) := by decide +kernel
theorem dX10_worst_53 : decode cX10_worst 53 = .ok (.iload 4, 2) := by decide +kernel
theorem dX10_worst_55 : decode cX10_worst 55 = .ok (.istore_n 2, 1) := by decide +kernel
theorem dX10_worst_56 : decode cX10_worst 56 = .ok (.aload_n 0, 1) := by decide +kernel
theorem dX10_worst_57 : decode cX10_worst 57 = .ok (.getfield 82, 3) := by decide +kernel
theorem dX10_worst_60 : decode cX10_worst 60 = .ok (.getfield 325, 3) := by decide +kernel
theorem dX10_worst_63 : decode cX10_worst 63 = .ok (.invokestatic 196, 3) := by decide +kernel
theorem dX10_worst_66 : decode cX10_worst 66 = .ok (.iconst 1, 1) := by decide +kernel
theorem dX10_worst_67 : decode cX10_worst 67 = .ok (.isub, 1) := by decide +kernel
theorem dX10_worst_68 : decode cX10_worst 68 = .ok (.istore_n 3, 1) := by decide +kernel
theorem dX10_worst_69 : decode cX10_worst 69 = .ok (.iinc 4 1, 3) := by decide +kernel
theorem dX10_worst_72 : decode cX10_worst 72 = .ok (.goto (-63), 3) := by decide +kernel
theorem dX10_worst_75 : decode cX10_worst 75 = .ok (.iload_n 2, 1) := by decide +kernel
theorem dX10_worst_76 : decode cX10_worst 76 = .ok (.iconst (-1), 1) := by decide +kernel
theorem dX10_worst_77 : decode cX10_worst 77 = .ok (.if_icmp .ne 6, 3) := by decide +kernel
theorem dX10_worst_80 : decode cX10_worst 80 = .ok (.bipush (-2), 2) := by decide +kernel
theorem dX10_worst_82 : decode cX10_worst 82 = .ok (.ireturn, 1) := by decide +kernel
theorem dX10_worst_83 : decode cX10_worst 83 = .ok (.aload_n 0, 1) := by decide +kernel
theorem dX10_worst_84 : decode cX10_worst 84 = .ok (.getfield 54, 3) := by decide +kernel
theorem dX10_worst_87 : decode cX10_worst 87 = .ok (.iload_n 1, 1) := by decide +kernel
theorem dX10_worst_88 : decode cX10_worst 88 = .ok (.i2l, 1) := by decide +kernel
theorem dX10_worst_89 : decode cX10_worst 89 = .ok (.iload_n 3, 1) := by decide +kernel
theorem dX10_worst_90 : decode cX10_worst 90 = .ok (.i2l, 1) := by decide +kernel
theorem dX10_worst_91 : decode cX10_worst 91 = .ok (.invokevirtual 126, 3) := by decide +kernel
theorem dX10_worst_94 : decode cX10_worst 94 = .ok (.iload_n 2, 1) := by decide +kernel
theorem dX10_worst_95 : decode cX10_worst 95 = .ok (.ireturn, 1) := by decide +kernel
theorem dX10_enough_0 : decode cX10_enough 0 = .ok (.aload_n 0, 1) := by decide +kernel
theorem dX10_enough_1 : decode cX10_enough 1 = .ok (.getfield 12, 3) := by decide +kernel
theorem dX10_enough_4 : decode cX10_enough 4 = .ok (.iload_n 1, 1) := by decide +kernel
theorem dX10_enough_5 : decode cX10_enough 5 = .ok (.invokevirtual 111, 3) := by decide +kernel
theorem dX10_enough_8 : decode cX10_enough 8 = .ok (.ifCond .ne 5, 3) := by decide +kernel
theorem dX10_enough_11 : decode cX10_enough 11 = .ok (.iconst (-1), 1) := by decide +kernel
theorem dX10_enough_12 : decode cX10_enough 12 = .ok (.ireturn, 1) := by decide +kernel
theorem dX10_enough_13 : decode cX10_enough 13 = .ok (.iconst 1, 1) := by decide +kernel
theorem dX10_enough_14 : decode cX10_enough 14 = .ok (.iload_n 1, 1) := by decide +kernel
theorem dX10_enough_15 : decode cX10_enough 15 = .ok (.ishl, 1) := by decide +kernel
theorem dX10_enough_16 : decode cX10_enough 16 = .ok (.istore_n 2, 1) := by decide +kernel
theorem dX10_enough_17 : decode cX10_enough 17 = .ok (.aload_n 0, 1) := by decide +kernel
theorem dX10_enough_18 : decode cX10_enough 18 = .ok (.getfield 12, 3) := by decide +kernel
theorem dX10_enough_21 : decode cX10_enough 21 = .ok (.iload_n 2, 1) := by decide +kernel
theorem dX10_enough_22 : decode cX10_enough 22 = .ok (.invokestatic 337, 3) := by decide +kernel
theorem dX10_enough_25 : decode cX10_enough 25 = .ok (.istore_n 3, 1) := by decide +kernel
theorem dX10_enough_26 : decode cX10_enough 26 = .ok (.iload_n 3, 1) := by decide +kernel
theorem dX10_enough_27 : decode cX10_enough 27 = .ok (.ifCond .ne 6, 3) := by decide +kernel
theorem dX10_enough_30 : decode cX10_enough 30 = .ok (.bipush (-2), 2) := by decide +kernel
theorem dX10_enough_32 : decode cX10_enough 32 = .ok (.ireturn, 1) := by decide +kernel
theorem dX10_enough_33 : decode cX10_enough 33 = .ok (.iload_n 3, 1) := by decide +kernel
theorem dX10_enough_34 : decode cX10_enough 34 = .ok (.invokestatic 196, 3) := by decide +kernel
theorem dX10_enough_37 : decode cX10_enough 37 = .ok (.iconst 1, 1) := by decide +kernel
theorem dX10_enough_38 : decode cX10_enough 38 = .ok (.if_icmp .le 6, 3) := by decide +kernel
theorem dX10_enough_41 : decode cX10_enough 41 = .ok (.bipush (-3), 2) := by decide +kernel
theorem dX10_enough_43 : decode cX10_enough 43 = .ok (.ireturn, 1) := by decide +kernel
theorem dX10_enough_44 : decode cX10_enough 44 = .ok (.iload_n 3, 1) := by decide +kernel
theorem dX10_enough_45 : decode cX10_enough 45 = .ok (.invokestatic 341, 3) := by decide +kernel
theorem dX10_enough_48 : decode cX10_enough 48 = .ok (.istore 4, 2) := by decide +kernel
theorem dX10_enough_50 : decode cX10_enough 50 = .ok (.aload_n 0, 1) := by decide +kernel
theorem dX10_enough_51 : decode cX10_enough 51 = .ok (.getfield 12, 3) := by decide +kernel
theorem dX10_enough_54 : decode cX10_enough 54 = .ok (.iload 4, 2) := by decide +kernel
theorem dX10_enough_56 : decode cX10_enough 56 = .ok (.invokevirtual 111, 3) := by decide +kernel
theorem dX10_enough_59 : decode cX10_enough 59 = .ok (.ifCond .ne 6, 3) := by decide +kernel
theorem dX10_enough_62 : decode cX10_enough 62 = .ok (.bipush (-3), 2) := by decide +kernel
theorem dX10_enough_64 : decode cX10_enough 64 = .ok (.ireturn, 1) := by decide +kernel
theorem dX10_enough_65 : decode cX10_enough 65 = .ok (.aload_n 0, 1) := by decide +kernel
theorem dX10_enough_66 : decode cX10_enough 66 = .ok (.getfield 54, 3) := by decide +kernel
theorem dX10_enough_69 : decode cX10_enough 69 = .ok (.aload_n 0, 1) := by decide +kernel
theorem dX10_enough_70 : decode cX10_enough 70 = .ok (.getfield 12, 3) := by decide +kernel
theorem dX10_enough_73 : decode cX10_enough 73 = .ok (.iload 4, 2) := by decide +kernel
theorem dX10_enough_75 : decode cX10_enough 75 = .ok (.iload_n 2, 1) := by decide +kernel
theorem dX10_enough_76 : decode cX10_enough 76 = .ok (.invokestatic 344, 3) := by decide +kernel
theorem dX10_enough_79 : decode cX10_enough 79 = .ok (.aload_n 0, 1) := by decide +kernel
theorem dX10_enough_80 : decode cX10_enough 80 = .ok (.getfield 12, 3) := by decide +kernel
theorem dX10_enough_83 : decode cX10_enough 83 = .ok (.getfield 348, 3) := by decide +kernel
theorem dX10_enough_86 : decode cX10_enough 86 = .ok (.iload 4, 2) := by decide +kernel
theorem dX10_enough_88 : decode cX10_enough 88 = .ok (.iaload, 1) := by decide +kernel
theorem dX10_enough_89 : decode cX10_enough 89 = .ok (.isub, 1) := by decide +kernel
theorem dX10_enough_90 : decode cX10_enough 90 = .ok (.i2l, 1) := by decide +kernel
theorem dX10_enough_91 : decode cX10_enough 91 = .ok (.invokevirtual 202, 3) := by decide +kernel
theorem dX10_enough_94 : decode cX10_enough 94 = .ok (.iload 4, 2) := by decide +kernel
theorem dX10_enough_96 : decode cX10_enough 96 = .ok (.ireturn, 1) := by decide +kernel
theorem dX10_without_0 : decode cX10_without 0 = .ok (.aload_n 0, 1) := by decide +kernel
theorem dX10_without_1 : decode cX10_without 1 = .ok (.getfield 12, 3) := by decide +kernel
theorem dX10_without_4 : decode cX10_without 4 = .ok (.iload_n 1, 1) := by decide +kernel
theorem dX10_without_5 : decode cX10_without 5 = .ok (.iload_n 2, 1) := by decide +kernel
theorem dX10_without_6 : decode cX10_without 6 = .ok (.invokevirtual 143, 3) := by decide +kernel
theorem dX10_without_9 : decode cX10_without 9 = .ok (.ifCond .eq 24, 3) := by decide +kernel
theorem dX10_without_12 : decode cX10_without 12 = .ok (.aload_n 0, 1) := by decide +kernel
theorem dX10_without_13 : decode cX10_without 13 = .ok (.getfield 12, 3) := by decide +kernel
theorem dX10_without_16 : decode cX10_without 16 = .ok (.iload_n 3, 1) := by decide +kernel
theorem dX10_without_17 : decode cX10_without 17 = .ok (.invokevirtual 111, 3) := by decide +kernel
theorem dX10_without_20 : decode cX10_without 20 = .ok (.ifCond .eq 13, 3) := by decide +kernel
theorem dX10_without_23 : decode cX10_without 23 = .ok (.iload_n 3, 1) := by decide +kernel
theorem dX10_without_24 : decode cX10_without 24 = .ok (.iload_n 1, 1) := by decide +kernel
theorem dX10_without_25 : decode cX10_without 25 = .ok (.if_icmp .eq 8, 3) := by decide +kernel
theorem dX10_without_28 : decode cX10_without 28 = .ok (.iload_n 3, 1) := by decide +kernel
theorem dX10_without_29 : decode cX10_without 29 = .ok (.iload_n 2, 1) := by decide +kernel
theorem dX10_without_30 : decode cX10_without 30 = .ok (.if_icmp .ne 5, 3) := by decide +kernel
theorem dX10_without_33 : decode cX10_without 33 = .ok (.iconst (-1), 1) := by decide +kernel
theorem dX10_without_34 : decode cX10_without 34 = .ok (.ireturn, 1) := by decide +kernel
theorem dX10_without_35 : decode cX10_without 35 = .ok (.aload_n 0, 1) := by decide +kernel
theorem dX10_without_36 : decode cX10_without 36 = .ok (.getfield 61, 3) := by decide +kernel
theorem dX10_without_39 : decode cX10_without 39 = .ok (.aload_n 0, 1) := by decide +kernel
theorem dX10_without_40 : decode cX10_without 40 = .ok (.getfield 12, 3) := by decide +kernel
theorem dX10_without_43 : decode cX10_without 43 = .ok (.invokevirtual 178, 3) := by decide +kernel
theorem dX10_without_46 : decode cX10_without 46 = .ok (.aload_n 0, 1) := by decide +kernel
theorem dX10_without_47 : decode cX10_without 47 = .ok (.getfield 61, 3) := by decide +kernel
theorem dX10_without_50 : decode cX10_without 50 = .ok (.iload_n 1, 1) := by decide +kernel
theorem dX10_without_51 : decode cX10_without 51 = .ok (.iload_n 2, 1) := by decide +kernel
theorem dX10_without_52 : decode cX10_without 52 = .ok (.ldc 206, 2) := by decide +kernel
theorem dX10_without_54 : decode cX10_without 54 = .ok (.invokevirtual 207, 3) := by decide +kernel
theorem dX10_without_57 : decode cX10_without 57 = .ok (.istore 4, 2) := by decide +kernel
theorem dX10_without_59 : decode cX10_without 59 = .ok (.aload_n 0, 1) := by decide +kernel
theorem dX10_without_60 : decode cX10_without 60 = .ok (.iload_n 1, 1) := by decide +kernel
theorem dX10_without_61 : decode cX10_without 61 = .ok (.iload_n 2, 1) := by decide +kernel
theorem dX10_without_62 : decode cX10_without 62 = .ok (.iload_n 3, 1) := by decide +kernel
theorem dX10_without_63 : decode cX10_without 63 = .ok (.invokevirtual 351, 3) := by decide +kernel
theorem dX10_without_66 : decode cX10_without 66 = .ok (.istore 5, 2) := by decide +kernel
theorem dX10_without_68 : decode cX10_without 68 = .ok (.aload_n 0, 1) := by decide +kernel
theorem dX10_without_69 : decode cX10_without 69 = .ok (.getfield 54, 3) := by decide +kernel
theorem dX10_without_72 : decode cX10_without 72 = .ok (.iload 4, 2) := by decide +kernel
theorem dX10_without_74 : decode cX10_without 74 = .ok (.iload 5, 2) := by decide +kernel
theorem dX10_without_76 : decode cX10_without 76 = .ok (.isub, 1) := by decide +kernel
theorem dX10_without_77 : decode cX10_without 77 = .ok (.i2l, 1) := by decide +kernel
theorem dX10_without_78 : decode cX10_without 78 = .ok (.invokevirtual 202, 3) := by decide +kernel
theorem dX10_without_81 : decode cX10_without 81 = .ok (.iload 5, 2) := by decide +kernel
theorem dX10_without_83 : decode cX10_without 83 = .ok (.ireturn, 1) := by decide +kernel
theorem dX10_key_0 : decode cX10_key 0 = .ok (.aload_n 0, 1) := by decide +kernel
theorem dX10_key_1 : decode cX10_key 1 = .ok (.getfield 12, 3) := by decide +kernel
theorem dX10_key_4 : decode cX10_key 4 = .ok (.iload_n 1, 1) := by decide +kernel
theorem dX10_key_5 : decode cX10_key 5 = .ok (.iload_n 2, 1) := by decide +kernel
theorem dX10_key_6 : decode cX10_key 6 = .ok (.invokevirtual 143, 3) := by decide +kernel
theorem dX10_key_9 : decode cX10_key 9 = .ok (.ifCond .ne 5, 3) := by decide +kernel
theorem dX10_key_12 : decode cX10_key 12 = .ok (.iconst (-1), 1) := by decide +kernel
theorem dX10_key_13 : decode cX10_key 13 = .ok (.ireturn, 1) := by decide +kernel
theorem dX10_key_14 : decode cX10_key 14 = .ok (.iconst (-1), 1) := by decide +kernel
theorem dX10_key_15 : decode cX10_key 15 = .ok (.istore_n 3, 1) := by decide +kernel
theorem dX10_key_16 : decode cX10_key 16 = .ok (.ldc 206, 2) := by decide +kernel
theorem dX10_key_18 : decode cX10_key 18 = .ok (.istore 4, 2) := by decide +kernel
theorem dX10_key_20 : decode cX10_key 20 = .ok (.iconst 0, 1) := by decide +kernel
theorem dX10_key_21 : decode cX10_key 21 = .ok (.istore 5, 2) := by decide +kernel
theorem dX10_key_23 : decode cX10_key 23 = .ok (.iload 5, 2) := by decide +kernel
theorem dX10_key_25 : decode cX10_key 25 = .ok (.aload_n 0, 1) := by decide +kernel
theorem dX10_key_26 : decode cX10_key 26 = .ok (.getfield 12, 3) := by decide +kernel
theorem dX10_key_29 : decode cX10_key 29 = .ok (.getfield 164, 3) := by decide +kernel
theorem dX10_key_32 : decode cX10_key 32 = .ok (.if_icmp .ge 48, 3) := by decide +kernel
theorem dX10_key_35 : decode cX10_key 35 = .ok (.iload 5, 2) := by decide +kernel
theorem dX10_key_37 : decode cX10_key 37 = .ok (.iload_n 1, 1) := by decide +kernel
theorem dX10_key_38 : decode cX10_key 38 = .ok (.if_icmp .eq 36, 3) := by decide +kernel
theorem dX10_key_41 : decode cX10_key 41 = .ok (.iload 5, 2) := by decide +kernel
theorem dX10_key_43 : decode cX10_key 43 = .ok (.iload_n 2, 1) := by decide +kernel
theorem dX10_key_44 : decode cX10_key 44 = .ok (.if_icmp .ne 6, 3) := by decide +kernel
theorem dX10_key_47 : decode cX10_key 47 = .ok (.goto 27, 3) := by decide +kernel
theorem dX10_key_50 : decode cX10_key 50 = .ok (.aload_n 0, 1) := by decide +kernel
theorem dX10_key_51 : decode cX10_key 51 = .ok (.iload_n 1, 1) := by decide +kernel
theorem dX10_key_52 : decode cX10_key 52 = .ok (.iload_n 2, 1) := by decide +kernel
theorem dX10_key_53 : decode cX10_key 53 = .ok (.iload 5, 2) := by decide +kernel
theorem dX10_key_55 : decode cX10_key 55 = .ok (.invokevirtual 351, 3) := by decide +kernel
theorem dX10_key_58 : decode cX10_key 58 = .ok (.istore 6, 2) := by decide +kernel
theorem dX10_key_60 : decode cX10_key 60 = .ok (.iload 6, 2) := by decide +kernel
theorem dX10_key_62 : decode cX10_key 62 = .ok (.iload 4, 2) := by decide +kernel
theorem dX10_key_64 : decode cX10_key 64 = .ok (.if_icmp .ge 10, 3) := by decide +kernel
theorem dX10_key_67 : decode cX10_key 67 = .ok (.iload 6, 2) := by decide +kernel
theorem dX10_key_69 : decode cX10_key 69 = .ok (.istore 4, 2) := by decide +kernel
theorem dX10_key_71 : decode cX10_key 71 = .ok (.iload 5, 2) := by decide +kernel
theorem dX10_key_73 : decode cX10_key 73 = .ok (.istore_n 3, 1) := by decide +kernel
theorem dX10_key_74 : decode cX10_key 74 = .ok (.iinc 5 1, 3) := by decide +kernel
theorem dX10_key_77 : decode cX10_key 77 = .ok (.goto (-54), 3) := by decide +kernel
theorem dX10_key_80 : decode cX10_key 80 = .ok (.iload_n 3, 1) := by decide +kernel
theorem dX10_key_81 : decode cX10_key 81 = .ok (.iconst (-1), 1) := by decide +kernel
theorem dX10_key_82 : decode cX10_key 82 = .ok (.if_icmp .ne 6, 3) := by decide +kernel
theorem dX10_key_85 : decode cX10_key 85 = .ok (.bipush (-2), 2) := by decide +kernel
theorem dX10_key_87 : decode cX10_key 87 = .ok (.ireturn, 1) := by decide +kernel
theorem dX10_key_88 : decode cX10_key 88 = .ok (.aload_n 0, 1) := by decide +kernel
theorem dX10_key_89 : decode cX10_key 89 = .ok (.getfield 54, 3) := by decide +kernel
theorem dX10_key_92 : decode cX10_key 92 = .ok (.iload 4, 2) := by decide +kernel
theorem dX10_key_94 : decode cX10_key 94 = .ok (.i2l, 1) := by decide +kernel
theorem dX10_key_95 : decode cX10_key 95 = .ok (.invokevirtual 202, 3) := by decide +kernel
theorem dX10_key_98 : decode cX10_key 98 = .ok (.iload_n 3, 1) := by decide +kernel
theorem dX10_key_99 : decode cX10_key 99 = .ok (.ireturn, 1) := by decide +kernel
theorem dX10_mostWithout_0 : decode cX10_mostWithout 0 = .ok (.aload_n 0, 1) := by decide +kernel
theorem dX10_mostWithout_1 : decode cX10_mostWithout 1 = .ok (.getfield 61, 3) := by decide +kernel
theorem dX10_mostWithout_4 : decode cX10_mostWithout 4 = .ok (.aload_n 0, 1) := by decide +kernel
theorem dX10_mostWithout_5 : decode cX10_mostWithout 5 = .ok (.getfield 12, 3) := by decide +kernel
theorem dX10_mostWithout_8 : decode cX10_mostWithout 8 = .ok (.invokevirtual 178, 3) := by decide +kernel
theorem dX10_mostWithout_11 : decode cX10_mostWithout 11 = .ok (.aload_n 0, 1) := by decide +kernel
theorem dX10_mostWithout_12 : decode cX10_mostWithout 12 = .ok (.getfield 61, 3) := by decide +kernel
theorem dX10_mostWithout_15 : decode cX10_mostWithout 15 = .ok (.iload_n 3, 1) := by decide +kernel
theorem dX10_mostWithout_16 : decode cX10_mostWithout 16 = .ok (.invokevirtual 354, 3) := by decide +kernel
theorem dX10_mostWithout_19 : decode cX10_mostWithout 19 = .ok (.aload_n 0, 1) := by decide +kernel
theorem dX10_mostWithout_20 : decode cX10_mostWithout 20 = .ok (.getfield 61, 3) := by decide +kernel
theorem dX10_mostWithout_23 : decode cX10_mostWithout 23 = .ok (.iload_n 1, 1) := by decide +kernel
theorem dX10_mostWithout_24 : decode cX10_mostWithout 24 = .ok (.iload_n 2, 1) := by decide +kernel
theorem dX10_mostWithout_25 : decode cX10_mostWithout 25 = .ok (.ldc 206, 2) := by decide +kernel
theorem dX10_mostWithout_27 : decode cX10_mostWithout 27 = .ok (.invokevirtual 207, 3) := by decide +kernel
theorem dX10_mostWithout_30 : decode cX10_mostWithout 30 = .ok (.ireturn, 1) := by decide +kernel
theorem dX10_were_0 : decode cX10_were 0 = .ok (.aload_n 0, 1) := by decide +kernel
theorem dX10_were_1 : decode cX10_were 1 = .ok (.getfield 12, 3) := by decide +kernel
theorem dX10_were_4 : decode cX10_were 4 = .ok (.iload_n 1, 1) := by decide +kernel
theorem dX10_were_5 : decode cX10_were 5 = .ok (.iload_n 2, 1) := by decide +kernel
theorem dX10_were_6 : decode cX10_were 6 = .ok (.invokevirtual 143, 3) := by decide +kernel
theorem dX10_were_9 : decode cX10_were 9 = .ok (.ifCond .eq 24, 3) := by decide +kernel
theorem dX10_were_12 : decode cX10_were 12 = .ok (.aload_n 0, 1) := by decide +kernel
theorem dX10_were_13 : decode cX10_were 13 = .ok (.getfield 12, 3) := by decide +kernel
theorem dX10_were_16 : decode cX10_were 16 = .ok (.iload_n 3, 1) := by decide +kernel
theorem dX10_were_17 : decode cX10_were 17 = .ok (.iload 4, 2) := by decide +kernel
theorem dX10_were_19 : decode cX10_were 19 = .ok (.invokevirtual 143, 3) := by decide +kernel
theorem dX10_were_22 : decode cX10_were 22 = .ok (.ifCond .eq 11, 3) := by decide +kernel
theorem dX10_were_25 : decode cX10_were 25 = .ok (.iload 5, 2) := by decide +kernel
theorem dX10_were_27 : decode cX10_were 27 = .ok (.invokestatic 358, 3) := by decide +kernel
theorem dX10_were_30 : decode cX10_were 30 = .ok (.ifCond .ne 5, 3) := by decide +kernel
theorem dX10_were_33 : decode cX10_were 33 = .ok (.iconst (-1), 1) := by decide +kernel
theorem dX10_were_34 : decode cX10_were 34 = .ok (.ireturn, 1) := by decide +kernel
theorem dX10_were_35 : decode cX10_were 35 = .ok (.iload 5, 2) := by decide +kernel
theorem dX10_were_37 : decode cX10_were 37 = .ok (.aload_n 0, 1) := by decide +kernel
theorem dX10_were_38 : decode cX10_were 38 = .ok (.getfield 12, 3) := by decide +kernel
theorem dX10_were_41 : decode cX10_were 41 = .ok (.iload 4, 2) := by decide +kernel
theorem dX10_were_43 : decode cX10_were 43 = .ok (.iload_n 3, 1) := by decide +kernel
theorem dX10_were_44 : decode cX10_were 44 = .ok (.invokevirtual 140, 3) := by decide +kernel
theorem dX10_were_47 : decode cX10_were 47 = .ok (.if_icmp .ge 6, 3) := by decide +kernel
theorem dX10_were_50 : decode cX10_were 50 = .ok (.bipush (-4), 2) := by decide +kernel
theorem dX10_were_52 : decode cX10_were 52 = .ok (.ireturn, 1) := by decide +kernel
theorem dX10_were_53 : decode cX10_were 53 = .ok (.aload_n 0, 1) := by decide +kernel
theorem dX10_were_54 : decode cX10_were 54 = .ok (.getfield 61, 3) := by decide +kernel
theorem dX10_were_57 : decode cX10_were 57 = .ok (.aload_n 0, 1) := by decide +kernel
theorem dX10_were_58 : decode cX10_were 58 = .ok (.getfield 12, 3) := by decide +kernel
theorem dX10_were_61 : decode cX10_were 61 = .ok (.invokevirtual 178, 3) := by decide +kernel
theorem dX10_were_64 : decode cX10_were 64 = .ok (.aload_n 0, 1) := by decide +kernel
theorem dX10_were_65 : decode cX10_were 65 = .ok (.getfield 61, 3) := by decide +kernel
theorem dX10_were_68 : decode cX10_were 68 = .ok (.iload 4, 2) := by decide +kernel
theorem dX10_were_70 : decode cX10_were 70 = .ok (.iload_n 3, 1) := by decide +kernel
theorem dX10_were_71 : decode cX10_were 71 = .ok (.iload 5, 2) := by decide +kernel
theorem dX10_were_73 : decode cX10_were 73 = .ok (.aload_n 0, 1) := by decide +kernel
theorem dX10_were_74 : decode cX10_were 74 = .ok (.getfield 12, 3) := by decide +kernel
theorem dX10_were_77 : decode cX10_were 77 = .ok (.getfield 136, 3) := by decide +kernel
theorem dX10_were_80 : decode cX10_were 80 = .ok (.iload_n 3, 1) := by decide +kernel
theorem dX10_were_81 : decode cX10_were 81 = .ok (.iload 4, 2) := by decide +kernel
theorem dX10_were_83 : decode cX10_were 83 = .ok (.invokestatic 133, 3) := by decide +kernel
theorem dX10_were_86 : decode cX10_were 86 = .ok (.iaload, 1) := by decide +kernel
theorem dX10_were_87 : decode cX10_were 87 = .ok (.isub, 1) := by decide +kernel
theorem dX10_were_88 : decode cX10_were 88 = .ok (.invokevirtual 317, 3) := by decide +kernel
theorem dX10_were_91 : decode cX10_were 91 = .ok (.aload_n 0, 1) := by decide +kernel
theorem dX10_were_92 : decode cX10_were 92 = .ok (.getfield 61, 3) := by decide +kernel
theorem dX10_were_95 : decode cX10_were 95 = .ok (.iload_n 1, 1) := by decide +kernel
theorem dX10_were_96 : decode cX10_were 96 = .ok (.iload_n 2, 1) := by decide +kernel
theorem dX10_were_97 : decode cX10_were 97 = .ok (.ldc 206, 2) := by decide +kernel
theorem dX10_were_99 : decode cX10_were 99 = .ok (.invokevirtual 207, 3) := by decide +kernel
theorem dX10_were_102 : decode cX10_were 102 = .ok (.ireturn, 1) := by decide +kernel
theorem dX10_both_0 : decode cX10_both 0 = .ok (.aload_n 0, 1) := by decide +kernel
theorem dX10_both_1 : decode cX10_both 1 = .ok (.iload_n 1, 1) := by decide +kernel
theorem dX10_both_2 : decode cX10_both 2 = .ok (.iload_n 2, 1) := by decide +kernel
theorem dX10_both_3 : decode cX10_both 3 = .ok (.iload_n 3, 1) := by decide +kernel
theorem dX10_both_4 : decode cX10_both 4 = .ok (.invokevirtual 174, 3) := by decide +kernel
theorem dX10_both_7 : decode cX10_both 7 = .ok (.ifCond .eq 16, 3) := by decide +kernel
theorem dX10_both_10 : decode cX10_both 10 = .ok (.aload_n 0, 1) := by decide +kernel
theorem dX10_both_11 : decode cX10_both 11 = .ok (.iload 4, 2) := by decide +kernel
theorem dX10_both_13 : decode cX10_both 13 = .ok (.iload 5, 2) := by decide +kernel
theorem dX10_both_15 : decode cX10_both 15 = .ok (.iload 6, 2) := by decide +kernel
theorem dX10_both_17 : decode cX10_both 17 = .ok (.invokevirtual 174, 3) := by decide +kernel
theorem dX10_both_20 : decode cX10_both 20 = .ok (.ifCond .ne 5, 3) := by decide +kernel
theorem dX10_both_23 : decode cX10_both 23 = .ok (.iconst (-1), 1) := by decide +kernel
theorem dX10_both_24 : decode cX10_both 24 = .ok (.ireturn, 1) := by decide +kernel
theorem dX10_both_25 : decode cX10_both 25 = .ok (.iconst 0, 1) := by decide +kernel
theorem dX10_both_26 : decode cX10_both 26 = .ok (.istore 7, 2) := by decide +kernel
theorem dX10_both_28 : decode cX10_both 28 = .ok (.iconst (-1), 1) := by decide +kernel
theorem dX10_both_29 : decode cX10_both 29 = .ok (.istore 8, 2) := by decide +kernel
theorem dX10_both_31 : decode cX10_both 31 = .ok (.aload_n 0, 1) := by decide +kernel
theorem dX10_both_32 : decode cX10_both 32 = .ok (.getfield 61, 3) := by decide +kernel
theorem dX10_both_35 : decode cX10_both 35 = .ok (.aload_n 0, 1) := by decide +kernel
theorem dX10_both_36 : decode cX10_both 36 = .ok (.getfield 12, 3) := by decide +kernel
theorem dX10_both_39 : decode cX10_both 39 = .ok (.invokevirtual 178, 3) := by decide +kernel
theorem dX10_both_42 : decode cX10_both 42 = .ok (.aload_n 0, 1) := by decide +kernel
theorem dX10_both_43 : decode cX10_both 43 = .ok (.getfield 61, 3) := by decide +kernel
theorem dX10_both_46 : decode cX10_both 46 = .ok (.iload_n 1, 1) := by decide +kernel
theorem dX10_both_47 : decode cX10_both 47 = .ok (.iload_n 2, 1) := by decide +kernel
theorem dX10_both_48 : decode cX10_both 48 = .ok (.iload_n 3, 1) := by decide +kernel
theorem dX10_both_49 : decode cX10_both 49 = .ok (.invokevirtual 207, 3) := by decide +kernel
theorem dX10_both_52 : decode cX10_both 52 = .ok (.iload_n 3, 1) := by decide +kernel
theorem dX10_both_53 : decode cX10_both 53 = .ok (.if_icmp .ne 35, 3) := by decide +kernel
theorem dX10_both_56 : decode cX10_both 56 = .ok (.aload_n 0, 1) := by decide +kernel
theorem dX10_both_57 : decode cX10_both 57 = .ok (.getfield 61, 3) := by decide +kernel
theorem dX10_both_60 : decode cX10_both 60 = .ok (.iload 4, 2) := by decide +kernel
theorem dX10_both_62 : decode cX10_both 62 = .ok (.iload 5, 2) := by decide +kernel
theorem dX10_both_64 : decode cX10_both 64 = .ok (.ldc 206, 2) := by decide +kernel
theorem dX10_both_66 : decode cX10_both 66 = .ok (.invokevirtual 207, 3) := by decide +kernel
theorem dX10_both_69 : decode cX10_both 69 = .ok (.istore 8, 2) := by decide +kernel
theorem dX10_both_71 : decode cX10_both 71 = .ok (.iload 7, 2) := by decide +kernel
theorem dX10_both_73 : decode cX10_both 73 = .ok (.iload 8, 2) := by decide +kernel
theorem dX10_both_75 : decode cX10_both 75 = .ok (.iload 6, 2) := by decide +kernel
theorem dX10_both_77 : decode cX10_both 77 = .ok (.if_icmp .lt 7, 3) := by decide +kernel
theorem dX10_both_80 : decode cX10_both 80 = .ok (.iconst 1, 1) := by decide +kernel
theorem dX10_both_81 : decode cX10_both 81 = .ok (.goto 4, 3) := by decide +kernel
theorem dX10_both_84 : decode cX10_both 84 = .ok (.iconst 0, 1) := by decide +kernel
theorem dX10_both_85 : decode cX10_both 85 = .ok (.iadd, 1) := by decide +kernel
theorem dX10_both_86 : decode cX10_both 86 = .ok (.istore 7, 2) := by decide +kernel
theorem dX10_both_88 : decode cX10_both 88 = .ok (.aload_n 0, 1) := by decide +kernel
theorem dX10_both_89 : decode cX10_both 89 = .ok (.getfield 61, 3) := by decide +kernel
theorem dX10_both_92 : decode cX10_both 92 = .ok (.aload_n 0, 1) := by decide +kernel
theorem dX10_both_93 : decode cX10_both 93 = .ok (.getfield 12, 3) := by decide +kernel
theorem dX10_both_96 : decode cX10_both 96 = .ok (.invokevirtual 178, 3) := by decide +kernel
theorem dX10_both_99 : decode cX10_both 99 = .ok (.aload_n 0, 1) := by decide +kernel
theorem dX10_both_100 : decode cX10_both 100 = .ok (.getfield 61, 3) := by decide +kernel
theorem dX10_both_103 : decode cX10_both 103 = .ok (.iload 4, 2) := by decide +kernel
theorem dX10_both_105 : decode cX10_both 105 = .ok (.iload 5, 2) := by decide +kernel
theorem dX10_both_107 : decode cX10_both 107 = .ok (.iload 6, 2) := by decide +kernel
theorem dX10_both_109 : decode cX10_both 109 = .ok (.invokevirtual 207, 3) := by decide +kernel
theorem dX10_both_112 : decode cX10_both 112 = .ok (.iload 6, 2) := by decide +kernel
theorem dX10_both_114 : decode cX10_both 114 = .ok (.if_icmp .ne 20, 3) := by decide +kernel
theorem dX10_both_117 : decode cX10_both 117 = .ok (.aload_n 0, 1) := by decide +kernel
theorem dX10_both_118 : decode cX10_both 118 = .ok (.getfield 61, 3) := by decide +kernel
theorem dX10_both_121 : decode cX10_both 121 = .ok (.iload_n 1, 1) := by decide +kernel
theorem dX10_both_122 : decode cX10_both 122 = .ok (.iload_n 2, 1) := by decide +kernel
theorem dX10_both_123 : decode cX10_both 123 = .ok (.iload_n 3, 1) := by decide +kernel
theorem dX10_both_124 : decode cX10_both 124 = .ok (.invokevirtual 207, 3) := by decide +kernel
theorem dX10_both_127 : decode cX10_both 127 = .ok (.iload_n 3, 1) := by decide +kernel
theorem dX10_both_128 : decode cX10_both 128 = .ok (.if_icmp .ne 6, 3) := by decide +kernel
theorem dX10_both_131 : decode cX10_both 131 = .ok (.iinc 7 2, 3) := by decide +kernel
theorem dX10_both_134 : decode cX10_both 134 = .ok (.aload_n 0, 1) := by decide +kernel
theorem dX10_both_135 : decode cX10_both 135 = .ok (.getfield 54, 3) := by decide +kernel
theorem dX10_both_138 : decode cX10_both 138 = .ok (.iload 8, 2) := by decide +kernel
theorem dX10_both_140 : decode cX10_both 140 = .ok (.i2l, 1) := by decide +kernel
theorem dX10_both_141 : decode cX10_both 141 = .ok (.invokevirtual 202, 3) := by decide +kernel
theorem dX10_both_144 : decode cX10_both 144 = .ok (.iload 7, 2) := by decide +kernel
theorem dX10_both_146 : decode cX10_both 146 = .ok (.ireturn, 1) := by decide +kernel
theorem dX10_limits_0 : decode cX10_limits 0 = .ok (.aload_n 0, 1) := by decide +kernel
theorem dX10_limits_1 : decode cX10_limits 1 = .ok (.getfield 16, 3) := by decide +kernel
theorem dX10_limits_4 : decode cX10_limits 4 = .ok (.aload_n 0, 1) := by decide +kernel
theorem dX10_limits_5 : decode cX10_limits 5 = .ok (.getfield 12, 3) := by decide +kernel
theorem dX10_limits_8 : decode cX10_limits 8 = .ok (.invokevirtual 108, 3) := by decide +kernel
theorem dX10_limits_11 : decode cX10_limits 11 = .ok (.aload_n 0, 1) := by decide +kernel
theorem dX10_limits_12 : decode cX10_limits 12 = .ok (.aload_n 0, 1) := by decide +kernel
theorem dX10_limits_13 : decode cX10_limits 13 = .ok (.iload_n 1, 1) := by decide +kernel
theorem dX10_limits_14 : decode cX10_limits 14 = .ok (.iload_n 2, 1) := by decide +kernel
theorem dX10_limits_15 : decode cX10_limits 15 = .ok (.iload_n 3, 1) := by decide +kernel
theorem dX10_limits_16 : decode cX10_limits 16 = .ok (.invokevirtual 361, 3) := by decide +kernel
theorem dX10_limits_19 : decode cX10_limits 19 = .ok (.invokevirtual 240, 3) := by decide +kernel
theorem dX10_limits_22 : decode cX10_limits 22 = .ok (.ireturn, 1) := by decide +kernel
theorem dX10_stocks_0 : decode cX10_stocks 0 = .ok (.aload_n 0, 1) := by decide +kernel
theorem dX10_stocks_1 : decode cX10_stocks 1 = .ok (.getfield 16, 3) := by decide +kernel
theorem dX10_stocks_4 : decode cX10_stocks 4 = .ok (.aload_n 0, 1) := by decide +kernel
theorem dX10_stocks_5 : decode cX10_stocks 5 = .ok (.getfield 12, 3) := by decide +kernel
theorem dX10_stocks_8 : decode cX10_stocks 8 = .ok (.invokevirtual 108, 3) := by decide +kernel
theorem dX10_stocks_11 : decode cX10_stocks 11 = .ok (.aload_n 0, 1) := by decide +kernel
theorem dX10_stocks_12 : decode cX10_stocks 12 = .ok (.aload_n 0, 1) := by decide +kernel
theorem dX10_stocks_13 : decode cX10_stocks 13 = .ok (.iload_n 1, 1) := by decide +kernel
theorem dX10_stocks_14 : decode cX10_stocks 14 = .ok (.iload_n 2, 1) := by decide +kernel
theorem dX10_stocks_15 : decode cX10_stocks 15 = .ok (.invokevirtual 364, 3) := by decide +kernel
theorem dX10_stocks_18 : decode cX10_stocks 18 = .ok (.invokevirtual 240, 3) := by decide +kernel
theorem dX10_stocks_21 : decode cX10_stocks 21 = .ok (.ireturn, 1) := by decide +kernel
theorem dX10_lets_0 : decode cX10_lets 0 = .ok (.aload_n 0, 1) := by decide +kernel
theorem dX10_lets_1 : decode cX10_lets 1 = .ok (.getfield 16, 3) := by decide +kernel
theorem dX10_lets_4 : decode cX10_lets 4 = .ok (.aload_n 0, 1) := by decide +kernel
theorem dX10_lets_5 : decode cX10_lets 5 = .ok (.getfield 12, 3) := by decide +kernel
theorem dX10_lets_8 : decode cX10_lets 8 = .ok (.invokevirtual 108, 3) := by decide +kernel
theorem dX10_lets_11 : decode cX10_lets 11 = .ok (.aload_n 0, 1) := by decide +kernel
theorem dX10_lets_12 : decode cX10_lets 12 = .ok (.aload_n 0, 1) := by decide +kernel
theorem dX10_lets_13 : decode cX10_lets 13 = .ok (.iload_n 1, 1) := by decide +kernel
theorem dX10_lets_14 : decode cX10_lets 14 = .ok (.iload_n 2, 1) := by decide +kernel
theorem dX10_lets_15 : decode cX10_lets 15 = .ok (.iload_n 3, 1) := by decide +kernel
theorem dX10_lets_16 : decode cX10_lets 16 = .ok (.invokevirtual 367, 3) := by decide +kernel
theorem dX10_lets_19 : decode cX10_lets 19 = .ok (.invokevirtual 240, 3) := by decide +kernel
theorem dX10_lets_22 : decode cX10_lets 22 = .ok (.ireturn, 1) := by decide +kernel
theorem dX10_leaves_0 : decode cX10_leaves 0 = .ok (.aload_n 0, 1) := by decide +kernel
theorem dX10_leaves_1 : decode cX10_leaves 1 = .ok (.getfield 12, 3) := by decide +kernel
theorem dX10_leaves_4 : decode cX10_leaves 4 = .ok (.iload_n 1, 1) := by decide +kernel
theorem dX10_leaves_5 : decode cX10_leaves 5 = .ok (.invokevirtual 111, 3) := by decide +kernel
theorem dX10_leaves_8 : decode cX10_leaves 8 = .ok (.ifCond .ne 5, 3) := by decide +kernel
theorem dX10_leaves_11 : decode cX10_leaves 11 = .ok (.iconst (-1), 1) := by decide +kernel
theorem dX10_leaves_12 : decode cX10_leaves 12 = .ok (.ireturn, 1) := by decide +kernel
theorem dX10_leaves_13 : decode cX10_leaves 13 = .ok (.aload_n 0, 1) := by decide +kernel
theorem dX10_leaves_14 : decode cX10_leaves 14 = .ok (.getfield 12, 3) := by decide +kernel
theorem dX10_leaves_17 : decode cX10_leaves 17 = .ok (.invokevirtual 114, 3) := by decide +kernel
theorem dX10_leaves_20 : decode cX10_leaves 20 = .ok (.ifCond .eq 6, 3) := by decide +kernel
theorem dX10_leaves_23 : decode cX10_leaves 23 = .ok (.bipush (-5), 2) := by decide +kernel
theorem dX10_leaves_25 : decode cX10_leaves 25 = .ok (.ireturn, 1) := by decide +kernel
theorem dX10_leaves_26 : decode cX10_leaves 26 = .ok (.iconst 0, 1) := by decide +kernel
theorem dX10_leaves_27 : decode cX10_leaves 27 = .ok (.istore_n 2, 1) := by decide +kernel
theorem dX10_leaves_28 : decode cX10_leaves 28 = .ok (.iload_n 2, 1) := by decide +kernel
theorem dX10_leaves_29 : decode cX10_leaves 29 = .ok (.aload_n 0, 1) := by decide +kernel
theorem dX10_leaves_30 : decode cX10_leaves 30 = .ok (.getfield 12, 3) := by decide +kernel
theorem dX10_leaves_33 : decode cX10_leaves 33 = .ok (.getfield 164, 3) := by decide +kernel
theorem dX10_leaves_36 : decode cX10_leaves 36 = .ok (.if_icmp .ge 28, 3) := by decide +kernel
theorem dX10_leaves_39 : decode cX10_leaves 39 = .ok (.aload_n 0, 1) := by decide +kernel
theorem dX10_leaves_40 : decode cX10_leaves 40 = .ok (.getfield 12, 3) := by decide +kernel
theorem dX10_leaves_43 : decode cX10_leaves 43 = .ok (.getfield 167, 3) := by decide +kernel
theorem dX10_leaves_46 : decode cX10_leaves 46 = .ok (.iload_n 1, 1) := by decide +kernel
theorem dX10_leaves_47 : decode cX10_leaves 47 = .ok (.iload_n 2, 1) := by decide +kernel
theorem dX10_leaves_48 : decode cX10_leaves 48 = .ok (.invokestatic 133, 3) := by decide +kernel
theorem dX10_leaves_51 : decode cX10_leaves 51 = .ok (.iaload, 1) := by decide +kernel
theorem dX10_leaves_52 : decode cX10_leaves 52 = .ok (.ifCond .eq 6, 3) := by decide +kernel
theorem dX10_leaves_55 : decode cX10_leaves 55 = .ok (.bipush (-4), 2) := by decide +kernel
theorem dX10_leaves_57 : decode cX10_leaves 57 = .ok (.ireturn, 1) := by decide +kernel
theorem dX10_leaves_58 : decode cX10_leaves 58 = .ok (.iinc 2 1, 3) := by decide +kernel
theorem dX10_leaves_61 : decode cX10_leaves 61 = .ok (.goto (-33), 3) := by decide +kernel
theorem dX10_leaves_64 : decode cX10_leaves 64 = .ok (.aload_n 0, 1) := by decide +kernel
theorem dX10_leaves_65 : decode cX10_leaves 65 = .ok (.getfield 33, 3) := by decide +kernel
theorem dX10_leaves_68 : decode cX10_leaves 68 = .ok (.aload_n 0, 1) := by decide +kernel
theorem dX10_leaves_69 : decode cX10_leaves 69 = .ok (.getfield 12, 3) := by decide +kernel
theorem dX10_leaves_72 : decode cX10_leaves 72 = .ok (.invokevirtual 104, 3) := by decide +kernel
theorem dX10_leaves_75 : decode cX10_leaves 75 = .ok (.aload_n 0, 1) := by decide +kernel
theorem dX10_leaves_76 : decode cX10_leaves 76 = .ok (.getfield 12, 3) := by decide +kernel
theorem dX10_leaves_79 : decode cX10_leaves 79 = .ok (.iload_n 1, 1) := by decide +kernel
theorem dX10_leaves_80 : decode cX10_leaves 80 = .ok (.invokevirtual 370, 3) := by decide +kernel
theorem dX10_leaves_83 : decode cX10_leaves 83 = .ok (.ireturn, 1) := by decide +kernel
theorem dX10_day_0 : decode cX10_day 0 = .ok (.aload_n 0, 1) := by decide +kernel
theorem dX10_day_1 : decode cX10_day 1 = .ok (.getfield 47, 3) := by decide +kernel
theorem dX10_day_4 : decode cX10_day 4 = .ok (.aload_n 0, 1) := by decide +kernel
theorem dX10_day_5 : decode cX10_day 5 = .ok (.getfield 40, 3) := by decide +kernel
theorem dX10_day_8 : decode cX10_day 8 = .ok (.invokevirtual 373, 3) := by decide +kernel
theorem dX10_day_11 : decode cX10_day 11 = .ok (.istore_n 1, 1) := by decide +kernel
theorem dX10_day_12 : decode cX10_day 12 = .ok (.aload_n 0, 1) := by decide +kernel
theorem dX10_day_13 : decode cX10_day 13 = .ok (.getfield 40, 3) := by decide +kernel
theorem dX10_day_16 : decode cX10_day 16 = .ok (.invokevirtual 101, 3) := by decide +kernel
theorem dX10_day_19 : decode cX10_day 19 = .ok (.iload_n 1, 1) := by decide +kernel
theorem dX10_day_20 : decode cX10_day 20 = .ok (.ifCond .ge 5, 3) := by decide +kernel
theorem dX10_day_23 : decode cX10_day 23 = .ok (.iload_n 1, 1) := by decide +kernel
theorem dX10_day_24 : decode cX10_day 24 = .ok (.ireturn, 1) := by decide +kernel
theorem dX10_day_25 : decode cX10_day 25 = .ok (.aload_n 0, 1) := by decide +kernel
theorem dX10_day_26 : decode cX10_day 26 = .ok (.getfield 16, 3) := by decide +kernel
theorem dX10_day_29 : decode cX10_day 29 = .ok (.aload_n 0, 1) := by decide +kernel
theorem dX10_day_30 : decode cX10_day 30 = .ok (.getfield 12, 3) := by decide +kernel
theorem dX10_day_33 : decode cX10_day 33 = .ok (.invokevirtual 108, 3) := by decide +kernel
theorem dX10_day_36 : decode cX10_day 36 = .ok (.iconst 0, 1) := by decide +kernel
theorem dX10_day_37 : decode cX10_day 37 = .ok (.istore_n 2, 1) := by decide +kernel
theorem dX10_day_38 : decode cX10_day 38 = .ok (.iload_n 2, 1) := by decide +kernel
theorem dX10_day_39 : decode cX10_day 39 = .ok (.iload_n 1, 1) := by decide +kernel
theorem dX10_day_40 : decode cX10_day 40 = .ok (.if_icmp .ge 17, 3) := by decide +kernel
theorem dX10_day_43 : decode cX10_day 43 = .ok (.aload_n 0, 1) := by decide +kernel
theorem dX10_day_44 : decode cX10_day 44 = .ok (.iload_n 2, 1) := by decide +kernel
theorem dX10_day_45 : decode cX10_day 45 = .ok (.invokevirtual 377, 3) := by decide +kernel
theorem dX10_day_48 : decode cX10_day 48 = .ok (.ifCond .lt 9, 3) := by decide +kernel
theorem dX10_day_51 : decode cX10_day 51 = .ok (.iinc 2 1, 3) := by decide +kernel
theorem dX10_day_54 : decode cX10_day 54 = .ok (.goto (-16), 3) := by decide +kernel
theorem dX10_day_57 : decode cX10_day 57 = .ok (.iload_n 2, 1) := by decide +kernel
theorem dX10_day_58 : decode cX10_day 58 = .ok (.ifCond .le 14, 3) := by decide +kernel
theorem dX10_day_61 : decode cX10_day 61 = .ok (.aload_n 0, 1) := by decide +kernel
theorem dX10_day_62 : decode cX10_day 62 = .ok (.getfield 33, 3) := by decide +kernel
theorem dX10_day_65 : decode cX10_day 65 = .ok (.aload_n 0, 1) := by decide +kernel
theorem dX10_day_66 : decode cX10_day 66 = .ok (.getfield 16, 3) := by decide +kernel
theorem dX10_day_69 : decode cX10_day 69 = .ok (.invokevirtual 104, 3) := by decide +kernel
theorem dX10_day_72 : decode cX10_day 72 = .ok (.aload_n 0, 1) := by decide +kernel
theorem dX10_day_73 : decode cX10_day 73 = .ok (.getfield 54, 3) := by decide +kernel
theorem dX10_day_76 : decode cX10_day 76 = .ok (.iload_n 2, 1) := by decide +kernel
theorem dX10_day_77 : decode cX10_day 77 = .ok (.iload_n 1, 1) := by decide +kernel
theorem dX10_day_78 : decode cX10_day 78 = .ok (.if_icmp .ge 7, 3) := by decide +kernel
theorem dX10_day_81 : decode cX10_day 81 = .ok (.lconst 1, 1) := by decide +kernel
theorem dX10_day_82 : decode cX10_day 82 = .ok (.goto 4, 3) := by decide +kernel
theorem dX10_day_85 : decode cX10_day 85 = .ok (.lconst 0, 1) := by decide +kernel
theorem dX10_day_86 : decode cX10_day 86 = .ok (.aload_n 0, 1) := by decide +kernel
theorem dX10_day_87 : decode cX10_day 87 = .ok (.getfield 12, 3) := by decide +kernel
theorem dX10_day_90 : decode cX10_day 90 = .ok (.invokevirtual 170, 3) := by decide +kernel
theorem dX10_day_93 : decode cX10_day 93 = .ok (.i2l, 1) := by decide +kernel
theorem dX10_day_94 : decode cX10_day 94 = .ok (.invokevirtual 126, 3) := by decide +kernel
theorem dX10_day_97 : decode cX10_day 97 = .ok (.iload_n 2, 1) := by decide +kernel
theorem dX10_day_98 : decode cX10_day 98 = .ok (.ireturn, 1) := by decide +kernel
theorem dX10_undo_0 : decode cX10_undo 0 = .ok (.aload_n 0, 1) := by decide +kernel
theorem dX10_undo_1 : decode cX10_undo 1 = .ok (.getfield 33, 3) := by decide +kernel
theorem dX10_undo_4 : decode cX10_undo 4 = .ok (.getfield 380, 3) := by decide +kernel
theorem dX10_undo_7 : decode cX10_undo 7 = .ok (.ifCond .ne 5, 3) := by decide +kernel
theorem dX10_undo_10 : decode cX10_undo 10 = .ok (.iconst (-1), 1) := by decide +kernel
theorem dX10_undo_11 : decode cX10_undo 11 = .ok (.ireturn, 1) := by decide +kernel
theorem dX10_undo_12 : decode cX10_undo 12 = .ok (.aload_n 0, 1) := by decide +kernel
theorem dX10_undo_13 : decode cX10_undo 13 = .ok (.getfield 33, 3) := by decide +kernel
theorem dX10_undo_16 : decode cX10_undo 16 = .ok (.aload_n 0, 1) := by decide +kernel
theorem dX10_undo_17 : decode cX10_undo 17 = .ok (.getfield 12, 3) := by decide +kernel
theorem dX10_undo_20 : decode cX10_undo 20 = .ok (.invokevirtual 381, 3) := by decide +kernel
theorem dX10_undo_23 : decode cX10_undo 23 = .ok (.aload_n 0, 1) := by decide +kernel
theorem dX10_undo_24 : decode cX10_undo 24 = .ok (.getfield 33, 3) := by decide +kernel
theorem dX10_undo_27 : decode cX10_undo 27 = .ok (.getfield 380, 3) := by decide +kernel
theorem dX10_undo_30 : decode cX10_undo 30 = .ok (.ireturn, 1) := by decide +kernel
theorem dX10_years_0 : decode cX10_years 0 = .ok (.iload_n 2, 1) := by decide +kernel
theorem dX10_years_1 : decode cX10_years 1 = .ok (.iconst 1, 1) := by decide +kernel
theorem dX10_years_2 : decode cX10_years 2 = .ok (.if_icmp .lt 9, 3) := by decide +kernel
theorem dX10_years_5 : decode cX10_years 5 = .ok (.iload_n 2, 1) := by decide +kernel
theorem dX10_years_6 : decode cX10_years 6 = .ok (.bipush 30, 2) := by decide +kernel
theorem dX10_years_8 : decode cX10_years 8 = .ok (.if_icmp .le 5, 3) := by decide +kernel
theorem dX10_years_11 : decode cX10_years 11 = .ok (.iconst (-1), 1) := by decide +kernel
theorem dX10_years_12 : decode cX10_years 12 = .ok (.ireturn, 1) := by decide +kernel
theorem dX10_years_13 : decode cX10_years 13 = .ok (.aload_n 0, 1) := by decide +kernel
theorem dX10_years_14 : decode cX10_years 14 = .ok (.getfield 19, 3) := by decide +kernel
theorem dX10_years_17 : decode cX10_years 17 = .ok (.aload_n 0, 1) := by decide +kernel
theorem dX10_years_18 : decode cX10_years 18 = .ok (.getfield 12, 3) := by decide +kernel
theorem dX10_years_21 : decode cX10_years 21 = .ok (.invokevirtual 108, 3) := by decide +kernel
theorem dX10_years_24 : decode cX10_years 24 = .ok (.aload_n 0, 1) := by decide +kernel
theorem dX10_years_25 : decode cX10_years 25 = .ok (.getfield 61, 3) := by decide +kernel
theorem dX10_years_28 : decode cX10_years 28 = .ok (.aload_n 0, 1) := by decide +kernel
theorem dX10_years_29 : decode cX10_years 29 = .ok (.getfield 19, 3) := by decide +kernel
theorem dX10_years_32 : decode cX10_years 32 = .ok (.invokevirtual 178, 3) := by decide +kernel
theorem dX10_years_35 : decode cX10_years 35 = .ok (.iconst 0, 1) := by decide +kernel
theorem dX10_years_36 : decode cX10_years 36 = .ok (.istore_n 3, 1) := by decide +kernel
theorem dX10_years_37 : decode cX10_years 37 = .ok (.iload_n 1, 1) := by decide +kernel
theorem dX10_years_38 : decode cX10_years 38 = .ok (.istore 4, 2) := by decide +kernel
theorem dX10_years_40 : decode cX10_years 40 = .ok (.iconst 0, 1) := by decide +kernel
theorem dX10_years_41 : decode cX10_years 41 = .ok (.istore 5, 2) := by decide +kernel
theorem dX10_years_43 : decode cX10_years 43 = .ok (.iload 5, 2) := by decide +kernel
theorem dX10_years_45 : decode cX10_years 45 = .ok (.iload_n 2, 1) := by decide +kernel
theorem dX10_years_46 : decode cX10_years 46 = .ok (.if_icmp .ge 95, 3) := by decide +kernel
theorem dX10_years_49 : decode cX10_years 49 = .ok (.iload 4, 2) := by decide +kernel
theorem dX10_years_51 : decode cX10_years 51 = .ok (.invokestatic 384, 3) := by decide +kernel
theorem dX10_years_54 : decode cX10_years 54 = .ok (.istore 4, 2) := by decide +kernel
theorem dX10_years_56 : decode cX10_years 56 = .ok (.iload 4, 2) := by decide +kernel
theorem dX10_years_58 : decode cX10_years 58 = .ok (.aload_n 0, 1) := by decide +kernel
theorem dX10_years_59 : decode cX10_years 59 = .ok (.getfield 19, 3) := by decide +kernel
theorem dX10_years_62 : decode cX10_years 62 = .ok (.getfield 164, 3) := by decide +kernel
theorem dX10_years_65 : decode cX10_years 65 = .ok (.invokestatic 387, 3) := by decide +kernel
theorem dX10_years_68 : decode cX10_years 68 = .ok (.istore 6, 2) := by decide +kernel
theorem dX10_years_70 : decode cX10_years 70 = .ok (.iload 4, 2) := by decide +kernel
theorem dX10_years_72 : decode cX10_years 72 = .ok (.invokestatic 384, 3) := by decide +kernel
theorem dX10_years_75 : decode cX10_years 75 = .ok (.istore 4, 2) := by decide +kernel
theorem dX10_years_77 : decode cX10_years 77 = .ok (.iload 4, 2) := by decide +kernel
theorem dX10_years_79 : decode cX10_years 79 = .ok (.aload_n 0, 1) := by decide +kernel
theorem dX10_years_80 : decode cX10_years 80 = .ok (.getfield 19, 3) := by decide +kernel
theorem dX10_years_83 : decode cX10_years 83 = .ok (.getfield 164, 3) := by decide +kernel
theorem dX10_years_86 : decode cX10_years 86 = .ok (.invokestatic 387, 3) := by decide +kernel
theorem dX10_years_89 : decode cX10_years 89 = .ok (.istore 7, 2) := by decide +kernel
theorem dX10_years_91 : decode cX10_years 91 = .ok (.iload 4, 2) := by decide +kernel
theorem dX10_years_93 : decode cX10_years 93 = .ok (.invokestatic 384, 3) := by decide +kernel
theorem dX10_years_96 : decode cX10_years 96 = .ok (.istore 4, 2) := by decide +kernel
theorem dX10_years_98 : decode cX10_years 98 = .ok (.iconst 1, 1) := by decide +kernel
theorem dX10_years_99 : decode cX10_years 99 = .ok (.iload 4, 2) := by decide +kernel
theorem dX10_years_101 : decode cX10_years 101 = .ok (.bipush 60, 2) := by decide +kernel
theorem dX10_years_103 : decode cX10_years 103 = .ok (.invokestatic 387, 3) := by decide +kernel
theorem dX10_years_106 : decode cX10_years 106 = .ok (.iadd, 1) := by decide +kernel
theorem dX10_years_107 : decode cX10_years 107 = .ok (.istore 8, 2) := by decide +kernel
theorem dX10_years_109 : decode cX10_years 109 = .ok (.iload 6, 2) := by decide +kernel
theorem dX10_years_111 : decode cX10_years 111 = .ok (.iload 7, 2) := by decide +kernel
theorem dX10_years_113 : decode cX10_years 113 = .ok (.if_icmp .eq 22, 3) := by decide +kernel
theorem dX10_years_116 : decode cX10_years 116 = .ok (.aload_n 0, 1) := by decide +kernel
theorem dX10_years_117 : decode cX10_years 117 = .ok (.getfield 61, 3) := by decide +kernel
theorem dX10_years_120 : decode cX10_years 120 = .ok (.iload 6, 2) := by decide +kernel
theorem dX10_years_122 : decode cX10_years 122 = .ok (.iload 7, 2) := by decide +kernel
theorem dX10_years_124 : decode cX10_years 124 = .ok (.iload 8, 2) := by decide +kernel
theorem dX10_years_126 : decode cX10_years 126 = .ok (.invokevirtual 390, 3) := by decide +kernel
theorem dX10_years_129 : decode cX10_years 129 = .ok (.ifCond .eq 6, 3) := by decide +kernel
theorem dX10_years_132 : decode cX10_years 132 = .ok (.iinc 3 1, 3) := by decide +kernel
theorem dX10_years_135 : decode cX10_years 135 = .ok (.iinc 5 1, 3) := by decide +kernel
theorem dX10_years_138 : decode cX10_years 138 = .ok (.goto (-95), 3) := by decide +kernel
theorem dX10_years_141 : decode cX10_years 141 = .ok (.aload_n 0, 1) := by decide +kernel
theorem dX10_years_142 : decode cX10_years 142 = .ok (.getfield 61, 3) := by decide +kernel
theorem dX10_years_145 : decode cX10_years 145 = .ok (.aload_n 0, 1) := by decide +kernel
theorem dX10_years_146 : decode cX10_years 146 = .ok (.getfield 19, 3) := by decide +kernel
theorem dX10_years_149 : decode cX10_years 149 = .ok (.invokevirtual 297, 3) := by decide +kernel
theorem dX10_years_152 : decode cX10_years 152 = .ok (.aload_n 0, 1) := by decide +kernel
theorem dX10_years_153 : decode cX10_years 153 = .ok (.getfield 19, 3) := by decide +kernel
theorem dX10_years_156 : decode cX10_years 156 = .ok (.invokevirtual 170, 3) := by decide +kernel
theorem dX10_years_159 : decode cX10_years 159 = .ok (.istore 5, 2) := by decide +kernel
theorem dX10_years_161 : decode cX10_years 161 = .ok (.aload_n 0, 1) := by decide +kernel
theorem dX10_years_162 : decode cX10_years 162 = .ok (.getfield 54, 3) := by decide +kernel
theorem dX10_years_165 : decode cX10_years 165 = .ok (.iload 5, 2) := by decide +kernel
theorem dX10_years_167 : decode cX10_years 167 = .ok (.i2l, 1) := by decide +kernel
theorem dX10_years_168 : decode cX10_years 168 = .ok (.aload_n 0, 1) := by decide +kernel
theorem dX10_years_169 : decode cX10_years 169 = .ok (.getfield 75, 3) := by decide +kernel
theorem dX10_years_172 : decode cX10_years 172 = .ok (.aload_n 0, 1) := by decide +kernel
theorem dX10_years_173 : decode cX10_years 173 = .ok (.getfield 19, 3) := by decide +kernel
theorem dX10_years_176 : decode cX10_years 176 = .ok (.invokevirtual 234, 3) := by decide +kernel
theorem dX10_years_179 : decode cX10_years 179 = .ok (.i2l, 1) := by decide +kernel
theorem dX10_years_180 : decode cX10_years 180 = .ok (.invokevirtual 126, 3) := by decide +kernel
theorem dX10_years_183 : decode cX10_years 183 = .ok (.iload_n 3, 1) := by decide +kernel
theorem dX10_years_184 : decode cX10_years 184 = .ok (.ireturn, 1) := by decide +kernel
theorem dX10_nextDraw_0 : decode cX10_nextDraw 0 = .ok (.iload_n 0, 1) := by decide +kernel
theorem dX10_nextDraw_1 : decode cX10_nextDraw 1 = .ok (.ldc_w 393, 3) := by decide +kernel
theorem dX10_nextDraw_4 : decode cX10_nextDraw 4 = .ok (.imul, 1) := by decide +kernel
theorem dX10_nextDraw_5 : decode cX10_nextDraw 5 = .ok (.sipush 12345, 3) := by decide +kernel
theorem dX10_nextDraw_8 : decode cX10_nextDraw 8 = .ok (.iadd, 1) := by decide +kernel
theorem dX10_nextDraw_9 : decode cX10_nextDraw 9 = .ok (.ireturn, 1) := by decide +kernel
theorem dX10_drawOf_0 : decode cX10_drawOf 0 = .ok (.iload_n 1, 1) := by decide +kernel
theorem dX10_drawOf_1 : decode cX10_drawOf 1 = .ok (.iconst 1, 1) := by decide +kernel
theorem dX10_drawOf_2 : decode cX10_drawOf 2 = .ok (.if_icmp .ge 7, 3) := by decide +kernel
theorem dX10_drawOf_5 : decode cX10_drawOf 5 = .ok (.iconst 0, 1) := by decide +kernel
theorem dX10_drawOf_6 : decode cX10_drawOf 6 = .ok (.goto 9, 3) := by decide +kernel
theorem dX10_drawOf_9 : decode cX10_drawOf 9 = .ok (.iload_n 0, 1) := by decide +kernel
theorem dX10_drawOf_10 : decode cX10_drawOf 10 = .ok (.bipush 16, 2) := by decide +kernel
theorem dX10_drawOf_12 : decode cX10_drawOf 12 = .ok (.iushr, 1) := by decide +kernel
theorem dX10_drawOf_13 : decode cX10_drawOf 13 = .ok (.iload_n 1, 1) := by decide +kernel
theorem dX10_drawOf_14 : decode cX10_drawOf 14 = .ok (.irem, 1) := by decide +kernel
theorem dX10_drawOf_15 : decode cX10_drawOf 15 = .ok (.ireturn, 1) := by decide +kernel
theorem dX10_keep_0 : decode cX10_keep 0 = .ok (.iload_n 1, 1) := by decide +kernel
theorem dX10_keep_1 : decode cX10_keep 1 = .ok (.ifCond .lt 8, 3) := by decide +kernel
theorem dX10_keep_4 : decode cX10_keep 4 = .ok (.iload_n 1, 1) := by decide +kernel
theorem dX10_keep_5 : decode cX10_keep 5 = .ok (.iconst 2, 1) := by decide +kernel
theorem dX10_keep_6 : decode cX10_keep 6 = .ok (.if_icmp .lt 5, 3) := by decide +kernel
theorem dX10_keep_9 : decode cX10_keep 9 = .ok (.iconst 0, 1) := by decide +kernel
theorem dX10_keep_10 : decode cX10_keep 10 = .ok (.ireturn, 1) := by decide +kernel
theorem dX10_keep_11 : decode cX10_keep 11 = .ok (.aload_n 0, 1) := by decide +kernel
theorem dX10_keep_12 : decode cX10_keep 12 = .ok (.getfield 22, 3) := by decide +kernel
theorem dX10_keep_15 : decode cX10_keep 15 = .ok (.iload_n 1, 1) := by decide +kernel
theorem dX10_keep_16 : decode cX10_keep 16 = .ok (.aaload, 1) := by decide +kernel
theorem dX10_keep_17 : decode cX10_keep 17 = .ok (.aload_n 0, 1) := by decide +kernel
theorem dX10_keep_18 : decode cX10_keep 18 = .ok (.getfield 12, 3) := by decide +kernel
theorem dX10_keep_21 : decode cX10_keep 21 = .ok (.invokevirtual 108, 3) := by decide +kernel
theorem dX10_keep_24 : decode cX10_keep 24 = .ok (.aload_n 0, 1) := by decide +kernel
theorem dX10_keep_25 : decode cX10_keep 25 = .ok (.getfield 26, 3) := by decide +kernel
theorem dX10_keep_28 : decode cX10_keep 28 = .ok (.iload_n 1, 1) := by decide +kernel
theorem dX10_keep_29 : decode cX10_keep 29 = .ok (.iconst 1, 1) := by decide +kernel
theorem dX10_keep_30 : decode cX10_keep 30 = .ok (.bastore, 1) := by decide +kernel
theorem dX10_keep_31 : decode cX10_keep 31 = .ok (.iconst 1, 1) := by decide +kernel
theorem dX10_keep_32 : decode cX10_keep 32 = .ok (.ireturn, 1) := by decide +kernel
theorem dX10_again_0 : decode cX10_again 0 = .ok (.iload_n 1, 1) := by decide +kernel
theorem dX10_again_1 : decode cX10_again 1 = .ok (.ifCond .lt 17, 3) := by decide +kernel
theorem dX10_again_4 : decode cX10_again 4 = .ok (.iload_n 1, 1) := by decide +kernel
theorem dX10_again_5 : decode cX10_again 5 = .ok (.iconst 2, 1) := by decide +kernel
theorem dX10_again_6 : decode cX10_again 6 = .ok (.if_icmp .ge 12, 3) := by decide +kernel
theorem dX10_again_9 : decode cX10_again 9 = .ok (.aload_n 0, 1) := by decide +kernel
theorem dX10_again_10 : decode cX10_again 10 = .ok (.getfield 26, 3) := by decide +kernel
theorem dX10_again_13 : decode cX10_again 13 = .ok (.iload_n 1, 1) := by decide +kernel
theorem dX10_again_14 : decode cX10_again 14 = .ok (.baload, 1) := by decide +kernel
theorem dX10_again_15 : decode cX10_again 15 = .ok (.ifCond .ne 5, 3) := by decide +kernel
theorem dX10_again_18 : decode cX10_again 18 = .ok (.iconst 0, 1) := by decide +kernel
theorem dX10_again_19 : decode cX10_again 19 = .ok (.ireturn, 1) := by decide +kernel
theorem dX10_again_20 : decode cX10_again 20 = .ok (.aload_n 0, 1) := by decide +kernel
theorem dX10_again_21 : decode cX10_again 21 = .ok (.getfield 12, 3) := by decide +kernel
theorem dX10_again_24 : decode cX10_again 24 = .ok (.aload_n 0, 1) := by decide +kernel
theorem dX10_again_25 : decode cX10_again 25 = .ok (.getfield 22, 3) := by decide +kernel
theorem dX10_again_28 : decode cX10_again 28 = .ok (.iload_n 1, 1) := by decide +kernel
theorem dX10_again_29 : decode cX10_again 29 = .ok (.aaload, 1) := by decide +kernel
theorem dX10_again_30 : decode cX10_again 30 = .ok (.invokevirtual 108, 3) := by decide +kernel
theorem dX10_again_33 : decode cX10_again 33 = .ok (.aload_n 0, 1) := by decide +kernel
theorem dX10_again_34 : decode cX10_again 34 = .ok (.getfield 33, 3) := by decide +kernel
theorem dX10_again_37 : decode cX10_again 37 = .ok (.invokevirtual 394, 3) := by decide +kernel
theorem dX10_again_40 : decode cX10_again 40 = .ok (.iconst 1, 1) := by decide +kernel
theorem dX10_again_41 : decode cX10_again 41 = .ok (.ireturn, 1) := by decide +kernel
theorem dX10_count_0 : decode cX10_count 0 = .ok (.iload_n 1, 1) := by decide +kernel
theorem dX10_count_1 : decode cX10_count 1 = .ok (.tableswitch 123 0 8 #[51, 59, 67, 75, 83, 91, 99, 107, 115], 51) := by decide +kernel
theorem dX10_count_52 : decode cX10_count 52 = .ok (.aload_n 0, 1) := by decide +kernel
theorem dX10_count_53 : decode cX10_count 53 = .ok (.getfield 12, 3) := by decide +kernel
theorem dX10_count_56 : decode cX10_count 56 = .ok (.getfield 164, 3) := by decide +kernel
theorem dX10_count_59 : decode cX10_count 59 = .ok (.ireturn, 1) := by decide +kernel
theorem dX10_count_60 : decode cX10_count 60 = .ok (.aload_n 0, 1) := by decide +kernel
theorem dX10_count_61 : decode cX10_count 61 = .ok (.getfield 12, 3) := by decide +kernel
theorem dX10_count_64 : decode cX10_count 64 = .ok (.invokevirtual 397, 3) := by decide +kernel
theorem dX10_count_67 : decode cX10_count 67 = .ok (.ireturn, 1) := by decide +kernel
theorem dX10_count_68 : decode cX10_count 68 = .ok (.aload_n 0, 1) := by decide +kernel
theorem dX10_count_69 : decode cX10_count 69 = .ok (.getfield 12, 3) := by decide +kernel
theorem dX10_count_72 : decode cX10_count 72 = .ok (.invokevirtual 400, 3) := by decide +kernel
theorem dX10_count_75 : decode cX10_count 75 = .ok (.ireturn, 1) := by decide +kernel
theorem dX10_count_76 : decode cX10_count 76 = .ok (.aload_n 0, 1) := by decide +kernel
theorem dX10_count_77 : decode cX10_count 77 = .ok (.getfield 12, 3) := by decide +kernel
theorem dX10_count_80 : decode cX10_count 80 = .ok (.invokevirtual 170, 3) := by decide +kernel
theorem dX10_count_83 : decode cX10_count 83 = .ok (.ireturn, 1) := by decide +kernel
theorem dX10_count_84 : decode cX10_count 84 = .ok (.aload_n 0, 1) := by decide +kernel
theorem dX10_count_85 : decode cX10_count 85 = .ok (.getfield 33, 3) := by decide +kernel
theorem dX10_count_88 : decode cX10_count 88 = .ok (.getfield 380, 3) := by decide +kernel
theorem dX10_count_91 : decode cX10_count 91 = .ok (.ireturn, 1) := by decide +kernel
theorem dX10_count_92 : decode cX10_count 92 = .ok (.aload_n 0, 1) := by decide +kernel
theorem dX10_count_93 : decode cX10_count 93 = .ok (.getfield 54, 3) := by decide +kernel
theorem dX10_count_96 : decode cX10_count 96 = .ok (.getfield 403, 3) := by decide +kernel
theorem dX10_count_99 : decode cX10_count 99 = .ok (.ireturn, 1) := by decide +kernel
theorem dX10_count_100 : decode cX10_count 100 = .ok (.aload_n 0, 1) := by decide +kernel
theorem dX10_count_101 : decode cX10_count 101 = .ok (.getfield 40, 3) := by decide +kernel
theorem dX10_count_104 : decode cX10_count 104 = .ok (.getfield 90, 3) := by decide +kernel
theorem dX10_count_107 : decode cX10_count 107 = .ok (.ireturn, 1) := by decide +kernel
theorem dX10_count_108 : decode cX10_count 108 = .ok (.aload_n 0, 1) := by decide +kernel
theorem dX10_count_109 : decode cX10_count 109 = .ok (.getfield 12, 3) := by decide +kernel
theorem dX10_count_112 : decode cX10_count 112 = .ok (.invokevirtual 404, 3) := by decide +kernel
theorem dX10_count_115 : decode cX10_count 115 = .ok (.ireturn, 1) := by decide +kernel
theorem dX10_count_116 : decode cX10_count 116 = .ok (.aload_n 0, 1) := by decide +kernel
theorem dX10_count_117 : decode cX10_count 117 = .ok (.getfield 12, 3) := by decide +kernel
theorem dX10_count_120 : decode cX10_count 120 = .ok (.invokevirtual 407, 3) := by decide +kernel
theorem dX10_count_123 : decode cX10_count 123 = .ok (.ireturn, 1) := by decide +kernel
theorem dX10_count_124 : decode cX10_count 124 = .ok (.iconst (-1), 1) := by decide +kernel
theorem dX10_count_125 : decode cX10_count 125 = .ok (.ireturn, 1) := by decide +kernel
theorem dX10_row_0 : decode cX10_row 0 = .ok (.iload_n 1, 1) := by decide +kernel
theorem dX10_row_1 : decode cX10_row 1 = .ok (.ifCond .lt 14, 3) := by decide +kernel
theorem dX10_row_4 : decode cX10_row 4 = .ok (.iload_n 1, 1) := by decide +kernel
theorem dX10_row_5 : decode cX10_row 5 = .ok (.aload_n 0, 1) := by decide +kernel
theorem dX10_row_6 : decode cX10_row 6 = .ok (.getfield 54, 3) := by decide +kernel
theorem dX10_row_9 : decode cX10_row 9 = .ok (.getfield 403, 3) := by decide +kernel
theorem dX10_row_12 : decode cX10_row 12 = .ok (.if_icmp .lt 14, 3) := by decide +kernel
theorem dX10_row_15 : decode cX10_row 15 = .ok (.new 157, 3) := by decide +kernel
theorem dX10_row_18 : decode cX10_row 18 = .ok (.dup, 1) := by decide +kernel
theorem dX10_row_19 : decode cX10_row 19 = .ok (.ldc_w 410, 3) := by decide +kernel
theorem dX10_row_22 : decode cX10_row 22 = .ok (.invokespecial 161, 3) := by decide +kernel
theorem dX10_row_25 : decode cX10_row 25 = .ok (.athrow, 1) := by decide +kernel
theorem dX10_row_26 : decode cX10_row 26 = .ok (.aload_n 0, 1) := by decide +kernel
theorem dX10_row_27 : decode cX10_row 27 = .ok (.getfield 54, 3) := by decide +kernel
theorem dX10_row_30 : decode cX10_row 30 = .ok (.getfield 412, 3) := by decide +kernel
theorem dX10_row_33 : decode cX10_row 33 = .ok (.iload_n 1, 1) := by decide +kernel
theorem dX10_row_34 : decode cX10_row 34 = .ok (.laload, 1) := by decide +kernel
theorem dX10_row_35 : decode cX10_row 35 = .ok (.lreturn, 1) := by decide +kernel
theorem dX10_remembered_0 : decode cX10_remembered 0 = .ok (.iload_n 1, 1) := by decide +kernel
theorem dX10_remembered_1 : decode cX10_remembered 1 = .ok (.ifCond .lt 14, 3) := by decide +kernel
theorem dX10_remembered_4 : decode cX10_remembered 4 = .ok (.aload_n 0, 1) := by decide +kernel
theorem dX10_remembered_5 : decode cX10_remembered 5 = .ok (.getfield 33, 3) := by decide +kernel
theorem dX10_remembered_8 : decode cX10_remembered 8 = .ok (.aload_n 0, 1) := by decide +kernel
theorem dX10_remembered_9 : decode cX10_remembered 9 = .ok (.getfield 16, 3) := by decide +kernel
theorem dX10_remembered_12 : decode cX10_remembered 12 = .ok (.invokevirtual 104, 3) := by decide +kernel
theorem dX10_remembered_15 : decode cX10_remembered 15 = .ok (.iload_n 1, 1) := by decide +kernel
theorem dX10_remembered_16 : decode cX10_remembered 16 = .ok (.ireturn, 1) := by decide +kernel
theorem dX10_perform_0 : decode cX10_perform 0 = .ok (.aload_n 0, 1) := by decide +kernel
theorem dX10_perform_1 : decode cX10_perform 1 = .ok (.getfield 47, 3) := by decide +kernel
theorem dX10_perform_4 : decode cX10_perform 4 = .ok (.getfield 288, 3) := by decide +kernel
theorem dX10_perform_7 : decode cX10_perform 7 = .ok (.iload_n 1, 1) := by decide +kernel
theorem dX10_perform_8 : decode cX10_perform 8 = .ok (.iaload, 1) := by decide +kernel
theorem dX10_perform_9 : decode cX10_perform 9 = .ok (.istore_n 2, 1) := by decide +kernel
theorem dX10_perform_10 : decode cX10_perform 10 = .ok (.aload_n 0, 1) := by decide +kernel
theorem dX10_perform_11 : decode cX10_perform 11 = .ok (.getfield 47, 3) := by decide +kernel
theorem dX10_perform_14 : decode cX10_perform 14 = .ok (.getfield 291, 3) := by decide +kernel
theorem dX10_perform_17 : decode cX10_perform 17 = .ok (.iload_n 1, 1) := by decide +kernel
theorem dX10_perform_18 : decode cX10_perform 18 = .ok (.iaload, 1) := by decide +kernel
theorem dX10_perform_19 : decode cX10_perform 19 = .ok (.istore_n 3, 1) := by decide +kernel
theorem dX10_perform_20 : decode cX10_perform 20 = .ok (.aload_n 0, 1) := by decide +kernel
theorem dX10_perform_21 : decode cX10_perform 21 = .ok (.getfield 47, 3) := by decide +kernel
theorem dX10_perform_24 : decode cX10_perform 24 = .ok (.getfield 294, 3) := by decide +kernel
theorem dX10_perform_27 : decode cX10_perform 27 = .ok (.iload_n 1, 1) := by decide +kernel
theorem dX10_perform_28 : decode cX10_perform 28 = .ok (.iaload, 1) := by decide +kernel
theorem dX10_perform_29 : decode cX10_perform 29 = .ok (.istore 4, 2) := by decide +kernel
theorem dX10_perform_31 : decode cX10_perform 31 = .ok (.aload_n 0, 1) := by decide +kernel
theorem dX10_perform_32 : decode cX10_perform 32 = .ok (.getfield 47, 3) := by decide +kernel
theorem dX10_perform_35 : decode cX10_perform 35 = .ok (.getfield 416, 3) := by decide +kernel
theorem dX10_perform_38 : decode cX10_perform 38 = .ok (.iload_n 1, 1) := by decide +kernel
theorem dX10_perform_39 : decode cX10_perform 39 = .ok (.iaload, 1) := by decide +kernel
theorem dX10_perform_40 : decode cX10_perform 40 = .ok (.tableswitch 160 102 119 #[115, 145, 129, 160, 160, 152, 106, 138, 160, 160, 88, 160, 160, 124, 160, 160, 160, 97], 88) := by decide +kernel
theorem dX10_perform_128 : decode cX10_perform 128 = .ok (.aload_n 0, 1) := by decide +kernel
theorem dX10_perform_129 : decode cX10_perform 129 = .ok (.iload_n 2, 1) := by decide +kernel
theorem dX10_perform_130 : decode cX10_perform 130 = .ok (.iload_n 3, 1) := by decide +kernel
theorem dX10_perform_131 : decode cX10_perform 131 = .ok (.iload 4, 2) := by decide +kernel
theorem dX10_perform_133 : decode cX10_perform 133 = .ok (.invokevirtual 237, 3) := by decide +kernel
theorem dX10_perform_136 : decode cX10_perform 136 = .ok (.ireturn, 1) := by decide +kernel
theorem dX10_perform_137 : decode cX10_perform 137 = .ok (.aload_n 0, 1) := by decide +kernel
theorem dX10_perform_138 : decode cX10_perform 138 = .ok (.iload_n 2, 1) := by decide +kernel
theorem dX10_perform_139 : decode cX10_perform 139 = .ok (.iload_n 3, 1) := by decide +kernel
theorem dX10_perform_140 : decode cX10_perform 140 = .ok (.iload 4, 2) := by decide +kernel
theorem dX10_perform_142 : decode cX10_perform 142 = .ok (.invokevirtual 243, 3) := by decide +kernel
theorem dX10_perform_145 : decode cX10_perform 145 = .ok (.ireturn, 1) := by decide +kernel
theorem dX10_perform_146 : decode cX10_perform 146 = .ok (.aload_n 0, 1) := by decide +kernel
theorem dX10_perform_147 : decode cX10_perform 147 = .ok (.iload_n 2, 1) := by decide +kernel
theorem dX10_perform_148 : decode cX10_perform 148 = .ok (.iload_n 3, 1) := by decide +kernel
theorem dX10_perform_149 : decode cX10_perform 149 = .ok (.iload 4, 2) := by decide +kernel
theorem dX10_perform_151 : decode cX10_perform 151 = .ok (.invokevirtual 361, 3) := by decide +kernel
theorem dX10_perform_154 : decode cX10_perform 154 = .ok (.ireturn, 1) := by decide +kernel
theorem dX10_perform_155 : decode cX10_perform 155 = .ok (.aload_n 0, 1) := by decide +kernel
theorem dX10_perform_156 : decode cX10_perform 156 = .ok (.iload_n 2, 1) := by decide +kernel
theorem dX10_perform_157 : decode cX10_perform 157 = .ok (.iload_n 3, 1) := by decide +kernel
theorem dX10_perform_158 : decode cX10_perform 158 = .ok (.iload 4, 2) := by decide +kernel
theorem dX10_perform_160 : decode cX10_perform 160 = .ok (.invokevirtual 367, 3) := by decide +kernel
theorem dX10_perform_163 : decode cX10_perform 163 = .ok (.ireturn, 1) := by decide +kernel
theorem dX10_perform_164 : decode cX10_perform 164 = .ok (.aload_n 0, 1) := by decide +kernel
theorem dX10_perform_165 : decode cX10_perform 165 = .ok (.invokevirtual 310, 3) := by decide +kernel
theorem dX10_perform_168 : decode cX10_perform 168 = .ok (.ireturn, 1) := by decide +kernel
theorem dX10_perform_169 : decode cX10_perform 169 = .ok (.aload_n 0, 1) := by decide +kernel
theorem dX10_perform_170 : decode cX10_perform 170 = .ok (.iload_n 2, 1) := by decide +kernel
theorem dX10_perform_171 : decode cX10_perform 171 = .ok (.iload_n 3, 1) := by decide +kernel
theorem dX10_perform_172 : decode cX10_perform 172 = .ok (.iload 4, 2) := by decide +kernel
theorem dX10_perform_174 : decode cX10_perform 174 = .ok (.invokevirtual 246, 3) := by decide +kernel
theorem dX10_perform_177 : decode cX10_perform 177 = .ok (.ireturn, 1) := by decide +kernel
theorem dX10_perform_178 : decode cX10_perform 178 = .ok (.aload_n 0, 1) := by decide +kernel
theorem dX10_perform_179 : decode cX10_perform 179 = .ok (.iload 4, 2) := by decide +kernel
theorem dX10_perform_181 : decode cX10_perform 181 = .ok (.invokevirtual 249, 3) := by decide +kernel
theorem dX10_perform_184 : decode cX10_perform 184 = .ok (.ireturn, 1) := by decide +kernel
theorem dX10_perform_185 : decode cX10_perform 185 = .ok (.aload_n 0, 1) := by decide +kernel
theorem dX10_perform_186 : decode cX10_perform 186 = .ok (.iload 4, 2) := by decide +kernel
theorem dX10_perform_188 : decode cX10_perform 188 = .ok (.invokevirtual 252, 3) := by decide +kernel
theorem dX10_perform_191 : decode cX10_perform 191 = .ok (.ireturn, 1) := by decide +kernel
theorem dX10_perform_192 : decode cX10_perform 192 = .ok (.aload_n 0, 1) := by decide +kernel
theorem dX10_perform_193 : decode cX10_perform 193 = .ok (.iload_n 2, 1) := by decide +kernel
theorem dX10_perform_194 : decode cX10_perform 194 = .ok (.iload 4, 2) := by decide +kernel
theorem dX10_perform_196 : decode cX10_perform 196 = .ok (.invokevirtual 364, 3) := by decide +kernel
theorem dX10_perform_199 : decode cX10_perform 199 = .ok (.ireturn, 1) := by decide +kernel
theorem dX10_perform_200 : decode cX10_perform 200 = .ok (.iconst (-1), 1) := by decide +kernel
theorem dX10_perform_201 : decode cX10_perform 201 = .ok (.ireturn, 1) := by decide +kernel
theorem dX10_paySplit_0 : decode cX10_paySplit 0 = .ok (.aload_n 0, 1) := by decide +kernel
theorem dX10_paySplit_1 : decode cX10_paySplit 1 = .ok (.iload_n 1, 1) := by decide +kernel
theorem dX10_paySplit_2 : decode cX10_paySplit 2 = .ok (.iload_n 2, 1) := by decide +kernel
theorem dX10_paySplit_3 : decode cX10_paySplit 3 = .ok (.iload_n 3, 1) := by decide +kernel
theorem dX10_paySplit_4 : decode cX10_paySplit 4 = .ok (.invokevirtual 174, 3) := by decide +kernel
theorem dX10_paySplit_7 : decode cX10_paySplit 7 = .ok (.ifCond .ne 5, 3) := by decide +kernel
theorem dX10_paySplit_10 : decode cX10_paySplit 10 = .ok (.iconst (-1), 1) := by decide +kernel
theorem dX10_paySplit_11 : decode cX10_paySplit 11 = .ok (.ireturn, 1) := by decide +kernel
theorem dX10_paySplit_12 : decode cX10_paySplit 12 = .ok (.aload_n 0, 1) := by decide +kernel
theorem dX10_paySplit_13 : decode cX10_paySplit 13 = .ok (.getfield 61, 3) := by decide +kernel
theorem dX10_paySplit_16 : decode cX10_paySplit 16 = .ok (.aload_n 0, 1) := by decide +kernel
theorem dX10_paySplit_17 : decode cX10_paySplit 17 = .ok (.getfield 12, 3) := by decide +kernel
theorem dX10_paySplit_20 : decode cX10_paySplit 20 = .ok (.invokevirtual 178, 3) := by decide +kernel
theorem dX10_paySplit_23 : decode cX10_paySplit 23 = .ok (.aload_n 0, 1) := by decide +kernel
theorem dX10_paySplit_24 : decode cX10_paySplit 24 = .ok (.getfield 61, 3) := by decide +kernel
theorem dX10_paySplit_27 : decode cX10_paySplit 27 = .ok (.iload_n 1, 1) := by decide +kernel
theorem dX10_paySplit_28 : decode cX10_paySplit 28 = .ok (.iload_n 2, 1) := by decide +kernel
theorem dX10_paySplit_29 : decode cX10_paySplit 29 = .ok (.iload_n 3, 1) := by decide +kernel
theorem dX10_paySplit_30 : decode cX10_paySplit 30 = .ok (.invokevirtual 207, 3) := by decide +kernel
theorem dX10_paySplit_33 : decode cX10_paySplit 33 = .ok (.istore 4, 2) := by decide +kernel
theorem dX10_paySplit_35 : decode cX10_paySplit 35 = .ok (.iload 4, 2) := by decide +kernel
theorem dX10_paySplit_37 : decode cX10_paySplit 37 = .ok (.iload_n 3, 1) := by decide +kernel
theorem dX10_paySplit_38 : decode cX10_paySplit 38 = .ok (.if_icmp .ge 16, 3) := by decide +kernel
theorem dX10_paySplit_41 : decode cX10_paySplit 41 = .ok (.aload_n 0, 1) := by decide +kernel
theorem dX10_paySplit_42 : decode cX10_paySplit 42 = .ok (.getfield 54, 3) := by decide +kernel
theorem dX10_paySplit_45 : decode cX10_paySplit 45 = .ok (.iload 4, 2) := by decide +kernel
theorem dX10_paySplit_47 : decode cX10_paySplit 47 = .ok (.i2l, 1) := by decide +kernel
theorem dX10_paySplit_48 : decode cX10_paySplit 48 = .ok (.invokevirtual 202, 3) := by decide +kernel
theorem dX10_paySplit_51 : decode cX10_paySplit 51 = .ok (.bipush (-4), 2) := by decide +kernel
theorem dX10_paySplit_53 : decode cX10_paySplit 53 = .ok (.ireturn, 1) := by decide +kernel
theorem dX10_paySplit_54 : decode cX10_paySplit 54 = .ok (.aload_n 0, 1) := by decide +kernel
theorem dX10_paySplit_55 : decode cX10_paySplit 55 = .ok (.getfield 61, 3) := by decide +kernel
theorem dX10_paySplit_58 : decode cX10_paySplit 58 = .ok (.aload_n 0, 1) := by decide +kernel
theorem dX10_paySplit_59 : decode cX10_paySplit 59 = .ok (.getfield 12, 3) := by decide +kernel
theorem dX10_paySplit_62 : decode cX10_paySplit 62 = .ok (.invokevirtual 297, 3) := by decide +kernel
theorem dX10_paySplit_65 : decode cX10_paySplit 65 = .ok (.aload_n 0, 1) := by decide +kernel
theorem dX10_paySplit_66 : decode cX10_paySplit 66 = .ok (.getfield 54, 3) := by decide +kernel
theorem dX10_paySplit_69 : decode cX10_paySplit 69 = .ok (.invokevirtual 220, 3) := by decide +kernel
theorem dX10_paySplit_72 : decode cX10_paySplit 72 = .ok (.iconst 0, 1) := by decide +kernel
theorem dX10_paySplit_73 : decode cX10_paySplit 73 = .ok (.istore 5, 2) := by decide +kernel
theorem dX10_paySplit_75 : decode cX10_paySplit 75 = .ok (.iload 5, 2) := by decide +kernel
theorem dX10_paySplit_77 : decode cX10_paySplit 77 = .ok (.aload_n 0, 1) := by decide +kernel
theorem dX10_paySplit_78 : decode cX10_paySplit 78 = .ok (.getfield 61, 3) := by decide +kernel
theorem dX10_paySplit_81 : decode cX10_paySplit 81 = .ok (.getfield 210, 3) := by decide +kernel
theorem dX10_paySplit_84 : decode cX10_paySplit 84 = .ok (.if_icmp .ge 45, 3) := by decide +kernel
theorem dX10_paySplit_87 : decode cX10_paySplit 87 = .ok (.aload_n 0, 1) := by decide +kernel
theorem dX10_paySplit_88 : decode cX10_paySplit 88 = .ok (.getfield 54, 3) := by decide +kernel
theorem dX10_paySplit_91 : decode cX10_paySplit 91 = .ok (.aload_n 0, 1) := by decide +kernel
theorem dX10_paySplit_92 : decode cX10_paySplit 92 = .ok (.getfield 61, 3) := by decide +kernel
theorem dX10_paySplit_95 : decode cX10_paySplit 95 = .ok (.getfield 419, 3) := by decide +kernel
theorem dX10_paySplit_98 : decode cX10_paySplit 98 = .ok (.iload 5, 2) := by decide +kernel
theorem dX10_paySplit_100 : decode cX10_paySplit 100 = .ok (.iaload, 1) := by decide +kernel
theorem dX10_paySplit_101 : decode cX10_paySplit 101 = .ok (.i2l, 1) := by decide +kernel
theorem dX10_paySplit_102 : decode cX10_paySplit 102 = .ok (.invokevirtual 229, 3) := by decide +kernel
theorem dX10_paySplit_105 : decode cX10_paySplit 105 = .ok (.aload_n 0, 1) := by decide +kernel
theorem dX10_paySplit_106 : decode cX10_paySplit 106 = .ok (.getfield 54, 3) := by decide +kernel
theorem dX10_paySplit_109 : decode cX10_paySplit 109 = .ok (.aload_n 0, 1) := by decide +kernel
theorem dX10_paySplit_110 : decode cX10_paySplit 110 = .ok (.getfield 61, 3) := by decide +kernel
theorem dX10_paySplit_113 : decode cX10_paySplit 113 = .ok (.getfield 422, 3) := by decide +kernel
theorem dX10_paySplit_116 : decode cX10_paySplit 116 = .ok (.iload 5, 2) := by decide +kernel
theorem dX10_paySplit_118 : decode cX10_paySplit 118 = .ok (.iaload, 1) := by decide +kernel
theorem dX10_paySplit_119 : decode cX10_paySplit 119 = .ok (.i2l, 1) := by decide +kernel
theorem dX10_paySplit_120 : decode cX10_paySplit 120 = .ok (.invokevirtual 229, 3) := by decide +kernel
theorem dX10_paySplit_123 : decode cX10_paySplit 123 = .ok (.iinc 5 1, 3) := by decide +kernel
theorem dX10_paySplit_126 : decode cX10_paySplit 126 = .ok (.goto (-51), 3) := by decide +kernel
theorem dX10_paySplit_129 : decode cX10_paySplit 129 = .ok (.aload_n 0, 1) := by decide +kernel
theorem dX10_paySplit_130 : decode cX10_paySplit 130 = .ok (.getfield 61, 3) := by decide +kernel
theorem dX10_paySplit_133 : decode cX10_paySplit 133 = .ok (.getfield 210, 3) := by decide +kernel
theorem dX10_paySplit_136 : decode cX10_paySplit 136 = .ok (.ireturn, 1) := by decide +kernel
theorem dX10_payWhole_0 : decode cX10_payWhole 0 = .ok (.aload_n 0, 1) := by decide +kernel
theorem dX10_payWhole_1 : decode cX10_payWhole 1 = .ok (.iload_n 1, 1) := by decide +kernel
theorem dX10_payWhole_2 : decode cX10_payWhole 2 = .ok (.iload_n 2, 1) := by decide +kernel
theorem dX10_payWhole_3 : decode cX10_payWhole 3 = .ok (.iload_n 3, 1) := by decide +kernel
theorem dX10_payWhole_4 : decode cX10_payWhole 4 = .ok (.invokevirtual 174, 3) := by decide +kernel
theorem dX10_payWhole_7 : decode cX10_payWhole 7 = .ok (.ifCond .ne 5, 3) := by decide +kernel
theorem dX10_payWhole_10 : decode cX10_payWhole 10 = .ok (.iconst (-1), 1) := by decide +kernel
theorem dX10_payWhole_11 : decode cX10_payWhole 11 = .ok (.ireturn, 1) := by decide +kernel
theorem dX10_payWhole_12 : decode cX10_payWhole 12 = .ok (.aload_n 0, 1) := by decide +kernel
theorem dX10_payWhole_13 : decode cX10_payWhole 13 = .ok (.getfield 61, 3) := by decide +kernel
theorem dX10_payWhole_16 : decode cX10_payWhole 16 = .ok (.aload_n 0, 1) := by decide +kernel
theorem dX10_payWhole_17 : decode cX10_payWhole 17 = .ok (.getfield 12, 3) := by decide +kernel
theorem dX10_payWhole_20 : decode cX10_payWhole 20 = .ok (.invokevirtual 178, 3) := by decide +kernel
theorem dX10_payWhole_23 : decode cX10_payWhole 23 = .ok (.aload_n 0, 1) := by decide +kernel
theorem dX10_payWhole_24 : decode cX10_payWhole 24 = .ok (.getfield 61, 3) := by decide +kernel
theorem dX10_payWhole_27 : decode cX10_payWhole 27 = .ok (.iload_n 1, 1) := by decide +kernel
theorem dX10_payWhole_28 : decode cX10_payWhole 28 = .ok (.iload_n 2, 1) := by decide +kernel
theorem dX10_payWhole_29 : decode cX10_payWhole 29 = .ok (.iload_n 3, 1) := by decide +kernel
theorem dX10_payWhole_30 : decode cX10_payWhole 30 = .ok (.invokevirtual 181, 3) := by decide +kernel
theorem dX10_payWhole_33 : decode cX10_payWhole 33 = .ok (.ifCond .ne 23, 3) := by decide +kernel
theorem dX10_payWhole_36 : decode cX10_payWhole 36 = .ok (.aload_n 0, 1) := by decide +kernel
theorem dX10_payWhole_37 : decode cX10_payWhole 37 = .ok (.getfield 54, 3) := by decide +kernel
theorem dX10_payWhole_40 : decode cX10_payWhole 40 = .ok (.aload_n 0, 1) := by decide +kernel
theorem dX10_payWhole_41 : decode cX10_payWhole 41 = .ok (.getfield 61, 3) := by decide +kernel
theorem dX10_payWhole_44 : decode cX10_payWhole 44 = .ok (.iload_n 1, 1) := by decide +kernel
theorem dX10_payWhole_45 : decode cX10_payWhole 45 = .ok (.iload_n 2, 1) := by decide +kernel
theorem dX10_payWhole_46 : decode cX10_payWhole 46 = .ok (.invokevirtual 425, 3) := by decide +kernel
theorem dX10_payWhole_49 : decode cX10_payWhole 49 = .ok (.i2l, 1) := by decide +kernel
theorem dX10_payWhole_50 : decode cX10_payWhole 50 = .ok (.invokevirtual 202, 3) := by decide +kernel
theorem dX10_payWhole_53 : decode cX10_payWhole 53 = .ok (.bipush (-4), 2) := by decide +kernel
theorem dX10_payWhole_55 : decode cX10_payWhole 55 = .ok (.ireturn, 1) := by decide +kernel
theorem dX10_payWhole_56 : decode cX10_payWhole 56 = .ok (.aload_n 0, 1) := by decide +kernel
theorem dX10_payWhole_57 : decode cX10_payWhole 57 = .ok (.getfield 61, 3) := by decide +kernel
theorem dX10_payWhole_60 : decode cX10_payWhole 60 = .ok (.iload_n 3, 1) := by decide +kernel
theorem dX10_payWhole_61 : decode cX10_payWhole 61 = .ok (.invokevirtual 428, 3) := by decide +kernel
theorem dX10_payWhole_64 : decode cX10_payWhole 64 = .ok (.aload_n 0, 1) := by decide +kernel
theorem dX10_payWhole_65 : decode cX10_payWhole 65 = .ok (.getfield 61, 3) := by decide +kernel
theorem dX10_payWhole_68 : decode cX10_payWhole 68 = .ok (.aload_n 0, 1) := by decide +kernel
theorem dX10_payWhole_69 : decode cX10_payWhole 69 = .ok (.getfield 12, 3) := by decide +kernel
theorem dX10_payWhole_72 : decode cX10_payWhole 72 = .ok (.invokevirtual 297, 3) := by decide +kernel
theorem dX10_payWhole_75 : decode cX10_payWhole 75 = .ok (.aload_n 0, 1) := by decide +kernel
theorem dX10_payWhole_76 : decode cX10_payWhole 76 = .ok (.invokevirtual 184, 3) := by decide +kernel
theorem dX10_payWhole_79 : decode cX10_payWhole 79 = .ok (.aload_n 0, 1) := by decide +kernel
theorem dX10_payWhole_80 : decode cX10_payWhole 80 = .ok (.getfield 61, 3) := by decide +kernel
theorem dX10_payWhole_83 : decode cX10_payWhole 83 = .ok (.getfield 187, 3) := by decide +kernel
theorem dX10_payWhole_86 : decode cX10_payWhole 86 = .ok (.ireturn, 1) := by decide +kernel
theorem dX10_holdPayment_0 : decode cX10_holdPayment 0 = .ok (.aload_n 0, 1) := by decide +kernel
theorem dX10_holdPayment_1 : decode cX10_holdPayment 1 = .ok (.iload_n 1, 1) := by decide +kernel
theorem dX10_holdPayment_2 : decode cX10_holdPayment 2 = .ok (.iload_n 2, 1) := by decide +kernel
theorem dX10_holdPayment_3 : decode cX10_holdPayment 3 = .ok (.iload_n 3, 1) := by decide +kernel
theorem dX10_holdPayment_4 : decode cX10_holdPayment 4 = .ok (.invokevirtual 174, 3) := by decide +kernel
theorem dX10_holdPayment_7 : decode cX10_holdPayment 7 = .ok (.ifCond .ne 5, 3) := by decide +kernel
theorem dX10_holdPayment_10 : decode cX10_holdPayment 10 = .ok (.iconst (-1), 1) := by decide +kernel
theorem dX10_holdPayment_11 : decode cX10_holdPayment 11 = .ok (.ireturn, 1) := by decide +kernel
theorem dX10_holdPayment_12 : decode cX10_holdPayment 12 = .ok (.aload_n 0, 1) := by decide +kernel
theorem dX10_holdPayment_13 : decode cX10_holdPayment 13 = .ok (.getfield 12, 3) := by decide +kernel
theorem dX10_holdPayment_16 : decode cX10_holdPayment 16 = .ok (.invokevirtual 431, 3) := by decide +kernel
theorem dX10_holdPayment_19 : decode cX10_holdPayment 19 = .ok (.istore 4, 2) := by decide +kernel
theorem dX10_holdPayment_21 : decode cX10_holdPayment 21 = .ok (.iload 4, 2) := by decide +kernel
theorem dX10_holdPayment_23 : decode cX10_holdPayment 23 = .ok (.ifCond .ge 6, 3) := by decide +kernel
theorem dX10_holdPayment_26 : decode cX10_holdPayment 26 = .ok (.bipush (-3), 2) := by decide +kernel
theorem dX10_holdPayment_28 : decode cX10_holdPayment 28 = .ok (.ireturn, 1) := by decide +kernel
theorem dX10_holdPayment_29 : decode cX10_holdPayment 29 = .ok (.aload_n 0, 1) := by decide +kernel
theorem dX10_holdPayment_30 : decode cX10_holdPayment 30 = .ok (.getfield 61, 3) := by decide +kernel
theorem dX10_holdPayment_33 : decode cX10_holdPayment 33 = .ok (.aload_n 0, 1) := by decide +kernel
theorem dX10_holdPayment_34 : decode cX10_holdPayment 34 = .ok (.getfield 12, 3) := by decide +kernel
theorem dX10_holdPayment_37 : decode cX10_holdPayment 37 = .ok (.invokevirtual 178, 3) := by decide +kernel
theorem dX10_holdPayment_40 : decode cX10_holdPayment 40 = .ok (.aload_n 0, 1) := by decide +kernel
theorem dX10_holdPayment_41 : decode cX10_holdPayment 41 = .ok (.getfield 61, 3) := by decide +kernel
theorem dX10_holdPayment_44 : decode cX10_holdPayment 44 = .ok (.iload_n 1, 1) := by decide +kernel
theorem dX10_holdPayment_45 : decode cX10_holdPayment 45 = .ok (.iload_n 2, 1) := by decide +kernel
theorem dX10_holdPayment_46 : decode cX10_holdPayment 46 = .ok (.iload_n 3, 1) := by decide +kernel
theorem dX10_holdPayment_47 : decode cX10_holdPayment 47 = .ok (.invokevirtual 207, 3) := by decide +kernel
theorem dX10_holdPayment_50 : decode cX10_holdPayment 50 = .ok (.istore 5, 2) := by decide +kernel
theorem dX10_holdPayment_52 : decode cX10_holdPayment 52 = .ok (.iload 5, 2) := by decide +kernel
theorem dX10_holdPayment_54 : decode cX10_holdPayment 54 = .ok (.iload_n 3, 1) := by decide +kernel
theorem dX10_holdPayment_55 : decode cX10_holdPayment 55 = .ok (.if_icmp .ge 16, 3) := by decide +kernel
theorem dX10_holdPayment_58 : decode cX10_holdPayment 58 = .ok (.aload_n 0, 1) := by decide +kernel
theorem dX10_holdPayment_59 : decode cX10_holdPayment 59 = .ok (.getfield 54, 3) := by decide +kernel
theorem dX10_holdPayment_62 : decode cX10_holdPayment 62 = .ok (.iload 5, 2) := by decide +kernel
theorem dX10_holdPayment_64 : decode cX10_holdPayment 64 = .ok (.i2l, 1) := by decide +kernel
theorem dX10_holdPayment_65 : decode cX10_holdPayment 65 = .ok (.invokevirtual 202, 3) := by decide +kernel
theorem dX10_holdPayment_68 : decode cX10_holdPayment 68 = .ok (.bipush (-4), 2) := by decide +kernel
theorem dX10_holdPayment_70 : decode cX10_holdPayment 70 = .ok (.ireturn, 1) := by decide +kernel
theorem dX10_holdPayment_71 : decode cX10_holdPayment 71 = .ok (.aload_n 0, 1) := by decide +kernel
theorem dX10_holdPayment_72 : decode cX10_holdPayment 72 = .ok (.getfield 12, 3) := by decide +kernel
theorem dX10_holdPayment_75 : decode cX10_holdPayment 75 = .ok (.getfield 260, 3) := by decide +kernel
theorem dX10_holdPayment_78 : decode cX10_holdPayment 78 = .ok (.iload 4, 2) := by decide +kernel
theorem dX10_holdPayment_80 : decode cX10_holdPayment 80 = .ok (.aaload, 1) := by decide +kernel
theorem dX10_holdPayment_81 : decode cX10_holdPayment 81 = .ok (.iload_n 1, 1) := by decide +kernel
theorem dX10_holdPayment_82 : decode cX10_holdPayment 82 = .ok (.iload_n 2, 1) := by decide +kernel
theorem dX10_holdPayment_83 : decode cX10_holdPayment 83 = .ok (.iload_n 3, 1) := by decide +kernel
theorem dX10_holdPayment_84 : decode cX10_holdPayment 84 = .ok (.aload_n 0, 1) := by decide +kernel
theorem dX10_holdPayment_85 : decode cX10_holdPayment 85 = .ok (.getfield 61, 3) := by decide +kernel
theorem dX10_holdPayment_88 : decode cX10_holdPayment 88 = .ok (.invokevirtual 434, 3) := by decide +kernel
theorem dX10_holdPayment_91 : decode cX10_holdPayment 91 = .ok (.aload_n 0, 1) := by decide +kernel
theorem dX10_holdPayment_92 : decode cX10_holdPayment 92 = .ok (.getfield 54, 3) := by decide +kernel
theorem dX10_holdPayment_95 : decode cX10_holdPayment 95 = .ok (.aload_n 0, 1) := by decide +kernel
theorem dX10_holdPayment_96 : decode cX10_holdPayment 96 = .ok (.getfield 61, 3) := by decide +kernel
theorem dX10_holdPayment_99 : decode cX10_holdPayment 99 = .ok (.getfield 210, 3) := by decide +kernel
theorem dX10_holdPayment_102 : decode cX10_holdPayment 102 = .ok (.i2l, 1) := by decide +kernel
theorem dX10_holdPayment_103 : decode cX10_holdPayment 103 = .ok (.invokevirtual 202, 3) := by decide +kernel
theorem dX10_holdPayment_106 : decode cX10_holdPayment 106 = .ok (.iload 4, 2) := by decide +kernel
theorem dX10_holdPayment_108 : decode cX10_holdPayment 108 = .ok (.ireturn, 1) := by decide +kernel
theorem dX10_makeHeld_0 : decode cX10_makeHeld 0 = .ok (.aload_n 0, 1) := by decide +kernel
theorem dX10_makeHeld_1 : decode cX10_makeHeld 1 = .ok (.getfield 12, 3) := by decide +kernel
theorem dX10_makeHeld_4 : decode cX10_makeHeld 4 = .ok (.iload_n 1, 1) := by decide +kernel
theorem dX10_makeHeld_5 : decode cX10_makeHeld 5 = .ok (.invokevirtual 255, 3) := by decide +kernel
theorem dX10_makeHeld_8 : decode cX10_makeHeld 8 = .ok (.ifCond .eq 14, 3) := by decide +kernel
theorem dX10_makeHeld_11 : decode cX10_makeHeld 11 = .ok (.aload_n 0, 1) := by decide +kernel
theorem dX10_makeHeld_12 : decode cX10_makeHeld 12 = .ok (.getfield 12, 3) := by decide +kernel
theorem dX10_makeHeld_15 : decode cX10_makeHeld 15 = .ok (.iload_n 1, 1) := by decide +kernel
theorem dX10_makeHeld_16 : decode cX10_makeHeld 16 = .ok (.invokevirtual 278, 3) := by decide +kernel
theorem dX10_makeHeld_19 : decode cX10_makeHeld 19 = .ok (.goto 4, 3) := by decide +kernel
theorem dX10_makeHeld_22 : decode cX10_makeHeld 22 = .ok (.iconst (-1), 1) := by decide +kernel
theorem dX10_makeHeld_23 : decode cX10_makeHeld 23 = .ok (.ireturn, 1) := by decide +kernel
theorem dX10_dropHeld_0 : decode cX10_dropHeld 0 = .ok (.aload_n 0, 1) := by decide +kernel
theorem dX10_dropHeld_1 : decode cX10_dropHeld 1 = .ok (.getfield 12, 3) := by decide +kernel
theorem dX10_dropHeld_4 : decode cX10_dropHeld 4 = .ok (.iload_n 1, 1) := by decide +kernel
theorem dX10_dropHeld_5 : decode cX10_dropHeld 5 = .ok (.invokevirtual 255, 3) := by decide +kernel
theorem dX10_dropHeld_8 : decode cX10_dropHeld 8 = .ok (.ifCond .eq 14, 3) := by decide +kernel
theorem dX10_dropHeld_11 : decode cX10_dropHeld 11 = .ok (.aload_n 0, 1) := by decide +kernel
theorem dX10_dropHeld_12 : decode cX10_dropHeld 12 = .ok (.getfield 12, 3) := by decide +kernel
theorem dX10_dropHeld_15 : decode cX10_dropHeld 15 = .ok (.iload_n 1, 1) := by decide +kernel
theorem dX10_dropHeld_16 : decode cX10_dropHeld 16 = .ok (.invokevirtual 281, 3) := by decide +kernel
theorem dX10_dropHeld_19 : decode cX10_dropHeld 19 = .ok (.goto 4, 3) := by decide +kernel
theorem dX10_dropHeld_22 : decode cX10_dropHeld 22 = .ok (.iconst (-1), 1) := by decide +kernel
theorem dX10_dropHeld_23 : decode cX10_dropHeld 23 = .ok (.ireturn, 1) := by decide +kernel
theorem dX10_settleRings_0 : decode cX10_settleRings 0 = .ok (.aload_n 0, 1) := by decide +kernel
theorem dX10_settleRings_1 : decode cX10_settleRings 1 = .ok (.getfield 12, 3) := by decide +kernel
theorem dX10_settleRings_4 : decode cX10_settleRings 4 = .ok (.invokevirtual 114, 3) := by decide +kernel
theorem dX10_settleRings_7 : decode cX10_settleRings 7 = .ok (.ifCond .eq 6, 3) := by decide +kernel
theorem dX10_settleRings_10 : decode cX10_settleRings 10 = .ok (.bipush (-5), 2) := by decide +kernel
theorem dX10_settleRings_12 : decode cX10_settleRings 12 = .ok (.ireturn, 1) := by decide +kernel
theorem dX10_settleRings_13 : decode cX10_settleRings 13 = .ok (.aload_n 0, 1) := by decide +kernel
theorem dX10_settleRings_14 : decode cX10_settleRings 14 = .ok (.getfield 12, 3) := by decide +kernel
theorem dX10_settleRings_17 : decode cX10_settleRings 17 = .ok (.invokevirtual 170, 3) := by decide +kernel
theorem dX10_settleRings_20 : decode cX10_settleRings 20 = .ok (.istore_n 1, 1) := by decide +kernel
theorem dX10_settleRings_21 : decode cX10_settleRings 21 = .ok (.aload_n 0, 1) := by decide +kernel
theorem dX10_settleRings_22 : decode cX10_settleRings 22 = .ok (.getfield 75, 3) := by decide +kernel
theorem dX10_settleRings_25 : decode cX10_settleRings 25 = .ok (.aload_n 0, 1) := by decide +kernel
theorem dX10_settleRings_26 : decode cX10_settleRings 26 = .ok (.getfield 12, 3) := by decide +kernel
theorem dX10_settleRings_29 : decode cX10_settleRings 29 = .ok (.invokevirtual 234, 3) := by decide +kernel
theorem dX10_settleRings_32 : decode cX10_settleRings 32 = .ok (.istore_n 2, 1) := by decide +kernel
theorem dX10_settleRings_33 : decode cX10_settleRings 33 = .ok (.iload_n 2, 1) := by decide +kernel
theorem dX10_settleRings_34 : decode cX10_settleRings 34 = .ok (.ifCond .ne 6, 3) := by decide +kernel
theorem dX10_settleRings_37 : decode cX10_settleRings 37 = .ok (.bipush (-2), 2) := by decide +kernel
theorem dX10_settleRings_39 : decode cX10_settleRings 39 = .ok (.ireturn, 1) := by decide +kernel
theorem dX10_settleRings_40 : decode cX10_settleRings 40 = .ok (.aload_n 0, 1) := by decide +kernel
theorem dX10_settleRings_41 : decode cX10_settleRings 41 = .ok (.getfield 54, 3) := by decide +kernel
theorem dX10_settleRings_44 : decode cX10_settleRings 44 = .ok (.iload_n 1, 1) := by decide +kernel
theorem dX10_settleRings_45 : decode cX10_settleRings 45 = .ok (.aload_n 0, 1) := by decide +kernel
theorem dX10_settleRings_46 : decode cX10_settleRings 46 = .ok (.getfield 12, 3) := by decide +kernel
theorem dX10_settleRings_49 : decode cX10_settleRings 49 = .ok (.invokevirtual 170, 3) := by decide +kernel
theorem dX10_settleRings_52 : decode cX10_settleRings 52 = .ok (.isub, 1) := by decide +kernel
theorem dX10_settleRings_53 : decode cX10_settleRings 53 = .ok (.i2l, 1) := by decide +kernel
theorem dX10_settleRings_54 : decode cX10_settleRings 54 = .ok (.invokevirtual 202, 3) := by decide +kernel
theorem dX10_settleRings_57 : decode cX10_settleRings 57 = .ok (.iload_n 2, 1) := by decide +kernel
theorem dX10_settleRings_58 : decode cX10_settleRings 58 = .ok (.ireturn, 1) := by decide +kernel
theorem dX10_setLimit_0 : decode cX10_setLimit 0 = .ok (.aload_n 0, 1) := by decide +kernel
theorem dX10_setLimit_1 : decode cX10_setLimit 1 = .ok (.getfield 12, 3) := by decide +kernel
theorem dX10_setLimit_4 : decode cX10_setLimit 4 = .ok (.iload_n 1, 1) := by decide +kernel
theorem dX10_setLimit_5 : decode cX10_setLimit 5 = .ok (.iload_n 2, 1) := by decide +kernel
theorem dX10_setLimit_6 : decode cX10_setLimit 6 = .ok (.invokevirtual 143, 3) := by decide +kernel
theorem dX10_setLimit_9 : decode cX10_setLimit 9 = .ok (.ifCond .eq 10, 3) := by decide +kernel
theorem dX10_setLimit_12 : decode cX10_setLimit 12 = .ok (.iload_n 3, 1) := by decide +kernel
theorem dX10_setLimit_13 : decode cX10_setLimit 13 = .ok (.invokestatic 358, 3) := by decide +kernel
theorem dX10_setLimit_16 : decode cX10_setLimit 16 = .ok (.ifCond .ne 5, 3) := by decide +kernel
theorem dX10_setLimit_19 : decode cX10_setLimit 19 = .ok (.iconst (-1), 1) := by decide +kernel
theorem dX10_setLimit_20 : decode cX10_setLimit 20 = .ok (.ireturn, 1) := by decide +kernel
theorem dX10_setLimit_21 : decode cX10_setLimit 21 = .ok (.aload_n 0, 1) := by decide +kernel
theorem dX10_setLimit_22 : decode cX10_setLimit 22 = .ok (.getfield 12, 3) := by decide +kernel
theorem dX10_setLimit_25 : decode cX10_setLimit 25 = .ok (.invokevirtual 114, 3) := by decide +kernel
theorem dX10_setLimit_28 : decode cX10_setLimit 28 = .ok (.ifCond .eq 6, 3) := by decide +kernel
theorem dX10_setLimit_31 : decode cX10_setLimit 31 = .ok (.bipush (-5), 2) := by decide +kernel
theorem dX10_setLimit_33 : decode cX10_setLimit 33 = .ok (.ireturn, 1) := by decide +kernel
theorem dX10_setLimit_34 : decode cX10_setLimit 34 = .ok (.aload_n 0, 1) := by decide +kernel
theorem dX10_setLimit_35 : decode cX10_setLimit 35 = .ok (.getfield 12, 3) := by decide +kernel
theorem dX10_setLimit_38 : decode cX10_setLimit 38 = .ok (.getfield 136, 3) := by decide +kernel
theorem dX10_setLimit_41 : decode cX10_setLimit 41 = .ok (.iload_n 1, 1) := by decide +kernel
theorem dX10_setLimit_42 : decode cX10_setLimit 42 = .ok (.iload_n 2, 1) := by decide +kernel
theorem dX10_setLimit_43 : decode cX10_setLimit 43 = .ok (.invokestatic 133, 3) := by decide +kernel
theorem dX10_setLimit_46 : decode cX10_setLimit 46 = .ok (.iaload, 1) := by decide +kernel
theorem dX10_setLimit_47 : decode cX10_setLimit 47 = .ok (.istore 4, 2) := by decide +kernel
theorem dX10_setLimit_49 : decode cX10_setLimit 49 = .ok (.iload 4, 2) := by decide +kernel
theorem dX10_setLimit_51 : decode cX10_setLimit 51 = .ok (.iload_n 3, 1) := by decide +kernel
theorem dX10_setLimit_52 : decode cX10_setLimit 52 = .ok (.if_icmp .ne 6, 3) := by decide +kernel
theorem dX10_setLimit_55 : decode cX10_setLimit 55 = .ok (.bipush (-2), 2) := by decide +kernel
theorem dX10_setLimit_57 : decode cX10_setLimit 57 = .ok (.ireturn, 1) := by decide +kernel
theorem dX10_setLimit_58 : decode cX10_setLimit 58 = .ok (.iload_n 3, 1) := by decide +kernel
theorem dX10_setLimit_59 : decode cX10_setLimit 59 = .ok (.aload_n 0, 1) := by decide +kernel
theorem dX10_setLimit_60 : decode cX10_setLimit 60 = .ok (.getfield 12, 3) := by decide +kernel
theorem dX10_setLimit_63 : decode cX10_setLimit 63 = .ok (.iload_n 2, 1) := by decide +kernel
theorem dX10_setLimit_64 : decode cX10_setLimit 64 = .ok (.iload_n 1, 1) := by decide +kernel
theorem dX10_setLimit_65 : decode cX10_setLimit 65 = .ok (.invokevirtual 140, 3) := by decide +kernel
theorem dX10_setLimit_68 : decode cX10_setLimit 68 = .ok (.if_icmp .ge 6, 3) := by decide +kernel
theorem dX10_setLimit_71 : decode cX10_setLimit 71 = .ok (.bipush (-4), 2) := by decide +kernel
theorem dX10_setLimit_73 : decode cX10_setLimit 73 = .ok (.ireturn, 1) := by decide +kernel
theorem dX10_setLimit_74 : decode cX10_setLimit 74 = .ok (.aload_n 0, 1) := by decide +kernel
theorem dX10_setLimit_75 : decode cX10_setLimit 75 = .ok (.getfield 12, 3) := by decide +kernel
theorem dX10_setLimit_78 : decode cX10_setLimit 78 = .ok (.getfield 136, 3) := by decide +kernel
theorem dX10_setLimit_81 : decode cX10_setLimit 81 = .ok (.iload_n 1, 1) := by decide +kernel
theorem dX10_setLimit_82 : decode cX10_setLimit 82 = .ok (.iload_n 2, 1) := by decide +kernel
theorem dX10_setLimit_83 : decode cX10_setLimit 83 = .ok (.invokestatic 133, 3) := by decide +kernel
theorem dX10_setLimit_86 : decode cX10_setLimit 86 = .ok (.iload_n 3, 1) := by decide +kernel
theorem dX10_setLimit_87 : decode cX10_setLimit 87 = .ok (.iastore, 1) := by decide +kernel
theorem dX10_setLimit_88 : decode cX10_setLimit 88 = .ok (.iload 4, 2) := by decide +kernel
theorem dX10_setLimit_90 : decode cX10_setLimit 90 = .ok (.ireturn, 1) := by decide +kernel
theorem dX10_setStock_0 : decode cX10_setStock 0 = .ok (.aload_n 0, 1) := by decide +kernel
theorem dX10_setStock_1 : decode cX10_setStock 1 = .ok (.getfield 12, 3) := by decide +kernel
theorem dX10_setStock_4 : decode cX10_setStock 4 = .ok (.iload_n 1, 1) := by decide +kernel
theorem dX10_setStock_5 : decode cX10_setStock 5 = .ok (.invokevirtual 111, 3) := by decide +kernel
theorem dX10_setStock_8 : decode cX10_setStock 8 = .ok (.ifCond .eq 10, 3) := by decide +kernel
theorem dX10_setStock_11 : decode cX10_setStock 11 = .ok (.iload_n 2, 1) := by decide +kernel
theorem dX10_setStock_12 : decode cX10_setStock 12 = .ok (.invokestatic 358, 3) := by decide +kernel
theorem dX10_setStock_15 : decode cX10_setStock 15 = .ok (.ifCond .ne 5, 3) := by decide +kernel
theorem dX10_setStock_18 : decode cX10_setStock 18 = .ok (.iconst (-1), 1) := by decide +kernel
theorem dX10_setStock_19 : decode cX10_setStock 19 = .ok (.ireturn, 1) := by decide +kernel
theorem dX10_setStock_20 : decode cX10_setStock 20 = .ok (.aload_n 0, 1) := by decide +kernel
theorem dX10_setStock_21 : decode cX10_setStock 21 = .ok (.getfield 12, 3) := by decide +kernel
theorem dX10_setStock_24 : decode cX10_setStock 24 = .ok (.getfield 348, 3) := by decide +kernel
theorem dX10_setStock_27 : decode cX10_setStock 27 = .ok (.iload_n 1, 1) := by decide +kernel
theorem dX10_setStock_28 : decode cX10_setStock 28 = .ok (.iaload, 1) := by decide +kernel
theorem dX10_setStock_29 : decode cX10_setStock 29 = .ok (.istore_n 3, 1) := by decide +kernel
theorem dX10_setStock_30 : decode cX10_setStock 30 = .ok (.iload_n 3, 1) := by decide +kernel
theorem dX10_setStock_31 : decode cX10_setStock 31 = .ok (.iload_n 2, 1) := by decide +kernel
theorem dX10_setStock_32 : decode cX10_setStock 32 = .ok (.if_icmp .ne 6, 3) := by decide +kernel
theorem dX10_setStock_35 : decode cX10_setStock 35 = .ok (.bipush (-2), 2) := by decide +kernel
theorem dX10_setStock_37 : decode cX10_setStock 37 = .ok (.ireturn, 1) := by decide +kernel
theorem dX10_setStock_38 : decode cX10_setStock 38 = .ok (.aload_n 0, 1) := by decide +kernel
theorem dX10_setStock_39 : decode cX10_setStock 39 = .ok (.getfield 12, 3) := by decide +kernel
theorem dX10_setStock_42 : decode cX10_setStock 42 = .ok (.getfield 348, 3) := by decide +kernel
theorem dX10_setStock_45 : decode cX10_setStock 45 = .ok (.iload_n 1, 1) := by decide +kernel
theorem dX10_setStock_46 : decode cX10_setStock 46 = .ok (.iload_n 2, 1) := by decide +kernel
theorem dX10_setStock_47 : decode cX10_setStock 47 = .ok (.iastore, 1) := by decide +kernel
theorem dX10_setStock_48 : decode cX10_setStock 48 = .ok (.iload_n 3, 1) := by decide +kernel
theorem dX10_setStock_49 : decode cX10_setStock 49 = .ok (.ireturn, 1) := by decide +kernel
theorem dX10_letOff_0 : decode cX10_letOff 0 = .ok (.aload_n 0, 1) := by decide +kernel
theorem dX10_letOff_1 : decode cX10_letOff 1 = .ok (.iload_n 1, 1) := by decide +kernel
theorem dX10_letOff_2 : decode cX10_letOff 2 = .ok (.iload_n 2, 1) := by decide +kernel
theorem dX10_letOff_3 : decode cX10_letOff 3 = .ok (.iload_n 3, 1) := by decide +kernel
theorem dX10_letOff_4 : decode cX10_letOff 4 = .ok (.invokevirtual 174, 3) := by decide +kernel
theorem dX10_letOff_7 : decode cX10_letOff 7 = .ok (.ifCond .ne 5, 3) := by decide +kernel
theorem dX10_letOff_10 : decode cX10_letOff 10 = .ok (.iconst (-1), 1) := by decide +kernel
theorem dX10_letOff_11 : decode cX10_letOff 11 = .ok (.ireturn, 1) := by decide +kernel
theorem dX10_letOff_12 : decode cX10_letOff 12 = .ok (.aload_n 0, 1) := by decide +kernel
theorem dX10_letOff_13 : decode cX10_letOff 13 = .ok (.getfield 12, 3) := by decide +kernel
theorem dX10_letOff_16 : decode cX10_letOff 16 = .ok (.invokevirtual 114, 3) := by decide +kernel
theorem dX10_letOff_19 : decode cX10_letOff 19 = .ok (.ifCond .eq 6, 3) := by decide +kernel
theorem dX10_letOff_22 : decode cX10_letOff 22 = .ok (.bipush (-5), 2) := by decide +kernel
theorem dX10_letOff_24 : decode cX10_letOff 24 = .ok (.ireturn, 1) := by decide +kernel
theorem dX10_letOff_25 : decode cX10_letOff 25 = .ok (.aload_n 0, 1) := by decide +kernel
theorem dX10_letOff_26 : decode cX10_letOff 26 = .ok (.getfield 12, 3) := by decide +kernel
theorem dX10_letOff_29 : decode cX10_letOff 29 = .ok (.iload_n 1, 1) := by decide +kernel
theorem dX10_letOff_30 : decode cX10_letOff 30 = .ok (.iload_n 2, 1) := by decide +kernel
theorem dX10_letOff_31 : decode cX10_letOff 31 = .ok (.invokevirtual 140, 3) := by decide +kernel
theorem dX10_letOff_34 : decode cX10_letOff 34 = .ok (.iload_n 3, 1) := by decide +kernel
theorem dX10_letOff_35 : decode cX10_letOff 35 = .ok (.if_icmp .ge 6, 3) := by decide +kernel
theorem dX10_letOff_38 : decode cX10_letOff 38 = .ok (.bipush (-4), 2) := by decide +kernel
theorem dX10_letOff_40 : decode cX10_letOff 40 = .ok (.ireturn, 1) := by decide +kernel
theorem dX10_letOff_41 : decode cX10_letOff 41 = .ok (.aload_n 0, 1) := by decide +kernel
theorem dX10_letOff_42 : decode cX10_letOff 42 = .ok (.getfield 12, 3) := by decide +kernel
theorem dX10_letOff_45 : decode cX10_letOff 45 = .ok (.iload_n 2, 1) := by decide +kernel
theorem dX10_letOff_46 : decode cX10_letOff 46 = .ok (.iload_n 1, 1) := by decide +kernel
theorem dX10_letOff_47 : decode cX10_letOff 47 = .ok (.iload_n 3, 1) := by decide +kernel
theorem dX10_letOff_48 : decode cX10_letOff 48 = .ok (.invokevirtual 438, 3) := by decide +kernel
theorem dX10_letOff_51 : decode cX10_letOff 51 = .ok (.aload_n 0, 1) := by decide +kernel
theorem dX10_letOff_52 : decode cX10_letOff 52 = .ok (.getfield 12, 3) := by decide +kernel
theorem dX10_letOff_55 : decode cX10_letOff 55 = .ok (.iload_n 1, 1) := by decide +kernel
theorem dX10_letOff_56 : decode cX10_letOff 56 = .ok (.iload_n 2, 1) := by decide +kernel
theorem dX10_letOff_57 : decode cX10_letOff 57 = .ok (.invokevirtual 140, 3) := by decide +kernel
theorem dX10_letOff_60 : decode cX10_letOff 60 = .ok (.ireturn, 1) := by decide +kernel
theorem dX10_isPayment_0 : decode cX10_isPayment 0 = .ok (.aload_n 0, 1) := by decide +kernel
theorem dX10_isPayment_1 : decode cX10_isPayment 1 = .ok (.getfield 12, 3) := by decide +kernel
theorem dX10_isPayment_4 : decode cX10_isPayment 4 = .ok (.iload_n 1, 1) := by decide +kernel
theorem dX10_isPayment_5 : decode cX10_isPayment 5 = .ok (.iload_n 2, 1) := by decide +kernel
theorem dX10_isPayment_6 : decode cX10_isPayment 6 = .ok (.invokevirtual 143, 3) := by decide +kernel
theorem dX10_isPayment_9 : decode cX10_isPayment 9 = .ok (.ifCond .eq 14, 3) := by decide +kernel
theorem dX10_isPayment_12 : decode cX10_isPayment 12 = .ok (.iload_n 3, 1) := by decide +kernel
theorem dX10_isPayment_13 : decode cX10_isPayment 13 = .ok (.invokestatic 190, 3) := by decide +kernel
theorem dX10_isPayment_16 : decode cX10_isPayment 16 = .ok (.ifCond .eq 7, 3) := by decide +kernel
theorem dX10_isPayment_19 : decode cX10_isPayment 19 = .ok (.iconst 1, 1) := by decide +kernel
theorem dX10_isPayment_20 : decode cX10_isPayment 20 = .ok (.goto 4, 3) := by decide +kernel
theorem dX10_isPayment_23 : decode cX10_isPayment 23 = .ok (.iconst 0, 1) := by decide +kernel
theorem dX10_isPayment_24 : decode cX10_isPayment 24 = .ok (.ireturn, 1) := by decide +kernel
theorem dX10_isSum_0 : decode cX10_isSum 0 = .ok (.iload_n 0, 1) := by decide +kernel
theorem dX10_isSum_1 : decode cX10_isSum 1 = .ok (.iconst 1, 1) := by decide +kernel
theorem dX10_isSum_2 : decode cX10_isSum 2 = .ok (.if_icmp .lt 14, 3) := by decide +kernel
theorem dX10_isSum_5 : decode cX10_isSum 5 = .ok (.iload_n 0, 1) := by decide +kernel
theorem dX10_isSum_6 : decode cX10_isSum 6 = .ok (.sipush 9999, 3) := by decide +kernel
theorem dX10_isSum_9 : decode cX10_isSum 9 = .ok (.if_icmp .gt 7, 3) := by decide +kernel
theorem dX10_isSum_12 : decode cX10_isSum 12 = .ok (.iconst 1, 1) := by decide +kernel
theorem dX10_isSum_13 : decode cX10_isSum 13 = .ok (.goto 4, 3) := by decide +kernel
theorem dX10_isSum_16 : decode cX10_isSum 16 = .ok (.iconst 0, 1) := by decide +kernel
theorem dX10_isSum_17 : decode cX10_isSum 17 = .ok (.ireturn, 1) := by decide +kernel
theorem dX10_isLimit_0 : decode cX10_isLimit 0 = .ok (.iload_n 0, 1) := by decide +kernel
theorem dX10_isLimit_1 : decode cX10_isLimit 1 = .ok (.ifCond .lt 14, 3) := by decide +kernel
theorem dX10_isLimit_4 : decode cX10_isLimit 4 = .ok (.iload_n 0, 1) := by decide +kernel
theorem dX10_isLimit_5 : decode cX10_isLimit 5 = .ok (.sipush 999, 3) := by decide +kernel
theorem dX10_isLimit_8 : decode cX10_isLimit 8 = .ok (.if_icmp .gt 7, 3) := by decide +kernel
theorem dX10_isLimit_11 : decode cX10_isLimit 11 = .ok (.iconst 1, 1) := by decide +kernel
theorem dX10_isLimit_12 : decode cX10_isLimit 12 = .ok (.goto 4, 3) := by decide +kernel
theorem dX10_isLimit_15 : decode cX10_isLimit 15 = .ok (.iconst 0, 1) := by decide +kernel
theorem dX10_isLimit_16 : decode cX10_isLimit 16 = .ok (.ireturn, 1) := by decide +kernel
theorem dX10_tellWay_0 : decode cX10_tellWay 0 = .ok (.aload_n 0, 1) := by decide +kernel
theorem dX10_tellWay_1 : decode cX10_tellWay 1 = .ok (.getfield 54, 3) := by decide +kernel
theorem dX10_tellWay_4 : decode cX10_tellWay 4 = .ok (.invokevirtual 220, 3) := by decide +kernel
theorem dX10_tellWay_7 : decode cX10_tellWay 7 = .ok (.iconst 0, 1) := by decide +kernel
theorem dX10_tellWay_8 : decode cX10_tellWay 8 = .ok (.istore_n 1, 1) := by decide +kernel
theorem dX10_tellWay_9 : decode cX10_tellWay 9 = .ok (.iload_n 1, 1) := by decide +kernel
theorem dX10_tellWay_10 : decode cX10_tellWay 10 = .ok (.aload_n 0, 1) := by decide +kernel
theorem dX10_tellWay_11 : decode cX10_tellWay 11 = .ok (.getfield 61, 3) := by decide +kernel
theorem dX10_tellWay_14 : decode cX10_tellWay 14 = .ok (.getfield 187, 3) := by decide +kernel
theorem dX10_tellWay_17 : decode cX10_tellWay 17 = .ok (.if_icmp .ge 25, 3) := by decide +kernel
theorem dX10_tellWay_20 : decode cX10_tellWay 20 = .ok (.aload_n 0, 1) := by decide +kernel
theorem dX10_tellWay_21 : decode cX10_tellWay 21 = .ok (.getfield 54, 3) := by decide +kernel
theorem dX10_tellWay_24 : decode cX10_tellWay 24 = .ok (.aload_n 0, 1) := by decide +kernel
theorem dX10_tellWay_25 : decode cX10_tellWay 25 = .ok (.getfield 61, 3) := by decide +kernel
theorem dX10_tellWay_28 : decode cX10_tellWay 28 = .ok (.iload_n 1, 1) := by decide +kernel
theorem dX10_tellWay_29 : decode cX10_tellWay 29 = .ok (.invokevirtual 441, 3) := by decide +kernel
theorem dX10_tellWay_32 : decode cX10_tellWay 32 = .ok (.i2l, 1) := by decide +kernel
theorem dX10_tellWay_33 : decode cX10_tellWay 33 = .ok (.invokevirtual 229, 3) := by decide +kernel
theorem dX10_tellWay_36 : decode cX10_tellWay 36 = .ok (.iinc 1 1, 3) := by decide +kernel
theorem dX10_tellWay_39 : decode cX10_tellWay 39 = .ok (.goto (-30), 3) := by decide +kernel
theorem dX10_tellWay_42 : decode cX10_tellWay 42 = .ok (.return_, 1) := by decide +kernel
theorem dX10_at_0 : decode cX10_at 0 = .ok (.iload_n 0, 1) := by decide +kernel
theorem dX10_at_1 : decode cX10_at 1 = .ok (.bipush 7, 2) := by decide +kernel
theorem dX10_at_3 : decode cX10_at 3 = .ok (.iand, 1) := by decide +kernel
theorem dX10_at_4 : decode cX10_at 4 = .ok (.iconst 3, 1) := by decide +kernel
theorem dX10_at_5 : decode cX10_at 5 = .ok (.ishl, 1) := by decide +kernel
theorem dX10_at_6 : decode cX10_at 6 = .ok (.iload_n 1, 1) := by decide +kernel
theorem dX10_at_7 : decode cX10_at 7 = .ok (.bipush 7, 2) := by decide +kernel
theorem dX10_at_9 : decode cX10_at 9 = .ok (.iand, 1) := by decide +kernel
theorem dX10_at_10 : decode cX10_at 10 = .ok (.ior, 1) := by decide +kernel
theorem dX10_at_11 : decode cX10_at 11 = .ok (.ireturn, 1) := by decide +kernel
theorem dX11_init_0 : decode cX11_init 0 = .ok (.aload_n 0, 1) := by decide +kernel
theorem dX11_init_1 : decode cX11_init 1 = .ok (.invokespecial 3, 3) := by decide +kernel
theorem dX11_init_4 : decode cX11_init 4 = .ok (.aload_n 0, 1) := by decide +kernel
theorem dX11_init_5 : decode cX11_init 5 = .ok (.sipush 405, 3) := by decide +kernel
theorem dX11_init_8 : decode cX11_init 8 = .ok (.newarray .int, 2) := by decide +kernel
theorem dX11_init_10 : decode cX11_init 10 = .ok (.putfield 9, 3) := by decide +kernel
theorem dX11_init_13 : decode cX11_init 13 = .ok (.aload_n 0, 1) := by decide +kernel
theorem dX11_init_14 : decode cX11_init 14 = .ok (.bipush 80, 2) := by decide +kernel
theorem dX11_init_16 : decode cX11_init 16 = .ok (.newarray .byte, 2) := by decide +kernel
theorem dX11_init_18 : decode cX11_init 18 = .ok (.putfield 13, 3) := by decide +kernel
theorem dX11_init_21 : decode cX11_init 21 = .ok (.aload_n 0, 1) := by decide +kernel
theorem dX11_init_22 : decode cX11_init 22 = .ok (.sipush 2400, 3) := by decide +kernel
theorem dX11_init_25 : decode cX11_init 25 = .ok (.newarray .long, 2) := by decide +kernel
theorem dX11_init_27 : decode cX11_init 27 = .ok (.putfield 17, 3) := by decide +kernel
theorem dX11_init_30 : decode cX11_init 30 = .ok (.aload_n 0, 1) := by decide +kernel
theorem dX11_init_31 : decode cX11_init 31 = .ok (.sipush 320, 3) := by decide +kernel
theorem dX11_init_34 : decode cX11_init 34 = .ok (.newarray .int, 2) := by decide +kernel
theorem dX11_init_36 : decode cX11_init 36 = .ok (.putfield 21, 3) := by decide +kernel
theorem dX11_init_39 : decode cX11_init 39 = .ok (.aload_n 0, 1) := by decide +kernel
theorem dX11_init_40 : decode cX11_init 40 = .ok (.bipush 64, 2) := by decide +kernel
theorem dX11_init_42 : decode cX11_init 42 = .ok (.newarray .int, 2) := by decide +kernel
theorem dX11_init_44 : decode cX11_init 44 = .ok (.putfield 24, 3) := by decide +kernel
theorem dX11_init_47 : decode cX11_init 47 = .ok (.aload_n 0, 1) := by decide +kernel
theorem dX11_init_48 : decode cX11_init 48 = .ok (.bipush 8, 2) := by decide +kernel
theorem dX11_init_50 : decode cX11_init 50 = .ok (.newarray .int, 2) := by decide +kernel
theorem dX11_init_52 : decode cX11_init 52 = .ok (.putfield 27, 3) := by decide +kernel
theorem dX11_init_55 : decode cX11_init 55 = .ok (.aload_n 0, 1) := by decide +kernel
theorem dX11_init_56 : decode cX11_init 56 = .ok (.bipush 8, 2) := by decide +kernel
theorem dX11_init_58 : decode cX11_init 58 = .ok (.newarray .int, 2) := by decide +kernel
theorem dX11_init_60 : decode cX11_init 60 = .ok (.putfield 30, 3) := by decide +kernel
theorem dX11_init_63 : decode cX11_init 63 = .ok (.aload_n 0, 1) := by decide +kernel
theorem dX11_init_64 : decode cX11_init 64 = .ok (.iconst (-1), 1) := by decide +kernel
theorem dX11_init_65 : decode cX11_init 65 = .ok (.putfield 33, 3) := by decide +kernel
theorem dX11_init_68 : decode cX11_init 68 = .ok (.aload_n 0, 1) := by decide +kernel
theorem dX11_init_69 : decode cX11_init 69 = .ok (.sipush 1620, 3) := by decide +kernel
theorem dX11_init_72 : decode cX11_init 72 = .ok (.newarray .int, 2) := by decide +kernel
theorem dX11_init_74 : decode cX11_init 74 = .ok (.putfield 37, 3) := by decide +kernel
theorem dX11_init_77 : decode cX11_init 77 = .ok (.aload_n 0, 1) := by decide +kernel
theorem dX11_init_78 : decode cX11_init 78 = .ok (.bipush 8, 2) := by decide +kernel
theorem dX11_init_80 : decode cX11_init 80 = .ok (.newarray .int, 2) := by decide +kernel
theorem dX11_init_82 : decode cX11_init 82 = .ok (.putfield 40, 3) := by decide +kernel
theorem dX11_init_85 : decode cX11_init 85 = .ok (.aload_n 0, 1) := by decide +kernel
theorem dX11_init_86 : decode cX11_init 86 = .ok (.iconst 5, 1) := by decide +kernel
theorem dX11_init_87 : decode cX11_init 87 = .ok (.newarray .int, 2) := by decide +kernel
theorem dX11_init_89 : decode cX11_init 89 = .ok (.putfield 43, 3) := by decide +kernel
theorem dX11_init_92 : decode cX11_init 92 = .ok (.aload_n 0, 1) := by decide +kernel
theorem dX11_init_93 : decode cX11_init 93 = .ok (.iconst 5, 1) := by decide +kernel
theorem dX11_init_94 : decode cX11_init 94 = .ok (.newarray .int, 2) := by decide +kernel
theorem dX11_init_96 : decode cX11_init 96 = .ok (.putfield 46, 3) := by decide +kernel
theorem dX11_init_99 : decode cX11_init 99 = .ok (.aload_n 0, 1) := by decide +kernel
theorem dX11_init_100 : decode cX11_init 100 = .ok (.sipush 2430, 3) := by decide +kernel
theorem dX11_init_103 : decode cX11_init 103 = .ok (.newarray .int, 2) := by decide +kernel
theorem dX11_init_105 : decode cX11_init 105 = .ok (.putfield 49, 3) := by decide +kernel
theorem dX11_init_108 : decode cX11_init 108 = .ok (.aload_n 0, 1) := by decide +kernel
theorem dX11_init_109 : decode cX11_init 109 = .ok (.bipush 64, 2) := by decide +kernel
theorem dX11_init_111 : decode cX11_init 111 = .ok (.newarray .int, 2) := by decide +kernel
theorem dX11_init_113 : decode cX11_init 113 = .ok (.putfield 52, 3) := by decide +kernel
theorem dX11_init_116 : decode cX11_init 116 = .ok (.aload_n 0, 1) := by decide +kernel
theorem dX11_init_117 : decode cX11_init 117 = .ok (.sipush 3240, 3) := by decide +kernel
theorem dX11_init_120 : decode cX11_init 120 = .ok (.newarray .int, 2) := by decide +kernel
theorem dX11_init_122 : decode cX11_init 122 = .ok (.putfield 55, 3) := by decide +kernel
theorem dX11_init_125 : decode cX11_init 125 = .ok (.aload_n 0, 1) := by decide +kernel
theorem dX11_init_126 : decode cX11_init 126 = .ok (.sipush 405, 3) := by decide +kernel
theorem dX11_init_129 : decode cX11_init 129 = .ok (.newarray .int, 2) := by decide +kernel
theorem dX11_init_131 : decode cX11_init 131 = .ok (.putfield 58, 3) := by decide +kernel
theorem dX11_init_134 : decode cX11_init 134 = .ok (.aload_n 0, 1) := by decide +kernel
theorem dX11_init_135 : decode cX11_init 135 = .ok (.sipush 810, 3) := by decide +kernel
theorem dX11_init_138 : decode cX11_init 138 = .ok (.newarray .int, 2) := by decide +kernel
theorem dX11_init_140 : decode cX11_init 140 = .ok (.putfield 61, 3) := by decide +kernel
theorem dX11_init_143 : decode cX11_init 143 = .ok (.aload_n 0, 1) := by decide +kernel
theorem dX11_init_144 : decode cX11_init 144 = .ok (.iconst 2, 1) := by decide +kernel
theorem dX11_init_145 : decode cX11_init 145 = .ok (.newarray .boolean, 2) := by decide +kernel
theorem dX11_init_147 : decode cX11_init 147 = .ok (.putfield 64, 3) := by decide +kernel
theorem dX11_init_150 : decode cX11_init 150 = .ok (.aload_n 0, 1) := by decide +kernel
theorem dX11_init_151 : decode cX11_init 151 = .ok (.getfield 9, 3) := by decide +kernel
theorem dX11_init_154 : decode cX11_init 154 = .ok (.iconst 0, 1) := by decide +kernel
theorem dX11_init_155 : decode cX11_init 155 = .ok (.iconst 2, 1) := by decide +kernel
theorem dX11_init_156 : decode cX11_init 156 = .ok (.iastore, 1) := by decide +kernel
theorem dX11_init_157 : decode cX11_init 157 = .ok (.return_, 1) := by decide +kernel
theorem dX11_thrown_0 : decode cX11_thrown 0 = .ok (.aload_n 0, 1) := by decide +kernel
theorem dX11_thrown_1 : decode cX11_thrown 1 = .ok (.getfield 68, 3) := by decide +kernel
theorem dX11_thrown_4 : decode cX11_thrown 4 = .ok (.ireturn, 1) := by decide +kernel
theorem dX11_in_0 : decode cX11_in 0 = .ok (.iload_n 0, 1) := by decide +kernel
theorem dX11_in_1 : decode cX11_in 1 = .ok (.iload_n 1, 1) := by decide +kernel
theorem dX11_in_2 : decode cX11_in 2 = .ok (.if_icmp .lt 12, 3) := by decide +kernel
theorem dX11_in_5 : decode cX11_in 5 = .ok (.iload_n 0, 1) := by decide +kernel
theorem dX11_in_6 : decode cX11_in 6 = .ok (.iload_n 2, 1) := by decide +kernel
theorem dX11_in_7 : decode cX11_in 7 = .ok (.if_icmp .gt 7, 3) := by decide +kernel
theorem dX11_in_10 : decode cX11_in 10 = .ok (.iconst 1, 1) := by decide +kernel
theorem dX11_in_11 : decode cX11_in 11 = .ok (.goto 4, 3) := by decide +kernel
theorem dX11_in_14 : decode cX11_in 14 = .ok (.iconst 0, 1) := by decide +kernel
theorem dX11_in_15 : decode cX11_in 15 = .ok (.ireturn, 1) := by decide +kernel
theorem dX11_lost_0 : decode cX11_lost 0 = .ok (.aload_n 0, 1) := by decide +kernel
theorem dX11_lost_1 : decode cX11_lost 1 = .ok (.iconst 1, 1) := by decide +kernel
theorem dX11_lost_2 : decode cX11_lost 2 = .ok (.putfield 68, 3) := by decide +kernel
theorem dX11_lost_5 : decode cX11_lost 5 = .ok (.iconst 0, 1) := by decide +kernel
theorem dX11_lost_6 : decode cX11_lost 6 = .ok (.ireturn, 1) := by decide +kernel
theorem dX11_tell_0 : decode cX11_tell 0 = .ok (.aload_n 0, 1) := by decide +kernel
theorem dX11_tell_1 : decode cX11_tell 1 = .ok (.getfield 17, 3) := by decide +kernel
theorem dX11_tell_4 : decode cX11_tell 4 = .ok (.aload_n 0, 1) := by decide +kernel
theorem dX11_tell_5 : decode cX11_tell 5 = .ok (.getfield 71, 3) := by decide +kernel
theorem dX11_tell_8 : decode cX11_tell 8 = .ok (.lload_n 1, 1) := by decide +kernel
theorem dX11_tell_9 : decode cX11_tell 9 = .ok (.lastore, 1) := by decide +kernel
theorem dX11_tell_10 : decode cX11_tell 10 = .ok (.aload_n 0, 1) := by decide +kernel
theorem dX11_tell_11 : decode cX11_tell 11 = .ok (.dup, 1) := by decide +kernel
theorem dX11_tell_12 : decode cX11_tell 12 = .ok (.getfield 71, 3) := by decide +kernel
theorem dX11_tell_15 : decode cX11_tell 15 = .ok (.iconst 1, 1) := by decide +kernel
theorem dX11_tell_16 : decode cX11_tell 16 = .ok (.iadd, 1) := by decide +kernel
theorem dX11_tell_17 : decode cX11_tell 17 = .ok (.putfield 71, 3) := by decide +kernel
theorem dX11_tell_20 : decode cX11_tell 20 = .ok (.return_, 1) := by decide +kernel
theorem dX11_isMember_0 : decode cX11_isMember 0 = .ok (.iload_n 1, 1) := by decide +kernel
theorem dX11_isMember_1 : decode cX11_isMember 1 = .ok (.iconst 0, 1) := by decide +kernel
theorem dX11_isMember_2 : decode cX11_isMember 2 = .ok (.aload_n 0, 1) := by decide +kernel
theorem dX11_isMember_3 : decode cX11_isMember 3 = .ok (.getfield 9, 3) := by decide +kernel
theorem dX11_isMember_6 : decode cX11_isMember 6 = .ok (.iconst 0, 1) := by decide +kernel
theorem dX11_isMember_7 : decode cX11_isMember 7 = .ok (.iaload, 1) := by decide +kernel
theorem dX11_isMember_8 : decode cX11_isMember 8 = .ok (.iconst 1, 1) := by decide +kernel
theorem dX11_isMember_9 : decode cX11_isMember 9 = .ok (.isub, 1) := by decide +kernel
theorem dX11_isMember_10 : decode cX11_isMember 10 = .ok (.invokestatic 74, 3) := by decide +kernel
theorem dX11_isMember_13 : decode cX11_isMember 13 = .ok (.ireturn, 1) := by decide +kernel
theorem dX11_areTwo_0 : decode cX11_areTwo 0 = .ok (.aload_n 0, 1) := by decide +kernel
theorem dX11_areTwo_1 : decode cX11_areTwo 1 = .ok (.iload_n 1, 1) := by decide +kernel
theorem dX11_areTwo_2 : decode cX11_areTwo 2 = .ok (.invokevirtual 78, 3) := by decide +kernel
theorem dX11_areTwo_5 : decode cX11_areTwo 5 = .ok (.ifCond .eq 20, 3) := by decide +kernel
theorem dX11_areTwo_8 : decode cX11_areTwo 8 = .ok (.aload_n 0, 1) := by decide +kernel
theorem dX11_areTwo_9 : decode cX11_areTwo 9 = .ok (.iload_n 2, 1) := by decide +kernel
theorem dX11_areTwo_10 : decode cX11_areTwo 10 = .ok (.invokevirtual 78, 3) := by decide +kernel
theorem dX11_areTwo_13 : decode cX11_areTwo 13 = .ok (.ifCond .eq 12, 3) := by decide +kernel
theorem dX11_areTwo_16 : decode cX11_areTwo 16 = .ok (.iload_n 1, 1) := by decide +kernel
theorem dX11_areTwo_17 : decode cX11_areTwo 17 = .ok (.iload_n 2, 1) := by decide +kernel
theorem dX11_areTwo_18 : decode cX11_areTwo 18 = .ok (.if_icmp .eq 7, 3) := by decide +kernel
theorem dX11_areTwo_21 : decode cX11_areTwo 21 = .ok (.iconst 1, 1) := by decide +kernel
theorem dX11_areTwo_22 : decode cX11_areTwo 22 = .ok (.goto 4, 3) := by decide +kernel
theorem dX11_areTwo_25 : decode cX11_areTwo 25 = .ok (.iconst 0, 1) := by decide +kernel
theorem dX11_areTwo_26 : decode cX11_areTwo 26 = .ok (.ireturn, 1) := by decide +kernel
theorem dX11_pair_0 : decode cX11_pair 0 = .ok (.bipush 8, 2) := by decide +kernel
theorem dX11_pair_2 : decode cX11_pair 2 = .ok (.iload_n 0, 1) := by decide +kernel
theorem dX11_pair_3 : decode cX11_pair 3 = .ok (.imul, 1) := by decide +kernel
theorem dX11_pair_4 : decode cX11_pair 4 = .ok (.iload_n 1, 1) := by decide +kernel
theorem dX11_pair_5 : decode cX11_pair 5 = .ok (.iadd, 1) := by decide +kernel
theorem dX11_pair_6 : decode cX11_pair 6 = .ok (.ireturn, 1) := by decide +kernel
theorem dX11_limit_0 : decode cX11_limit 0 = .ok (.aload_n 0, 1) := by decide +kernel
theorem dX11_limit_1 : decode cX11_limit 1 = .ok (.getfield 9, 3) := by decide +kernel
theorem dX11_limit_4 : decode cX11_limit 4 = .ok (.iconst 1, 1) := by decide +kernel
theorem dX11_limit_5 : decode cX11_limit 5 = .ok (.iload_n 1, 1) := by decide +kernel
theorem dX11_limit_6 : decode cX11_limit 6 = .ok (.iload_n 2, 1) := by decide +kernel
theorem dX11_limit_7 : decode cX11_limit 7 = .ok (.invokestatic 82, 3) := by decide +kernel
theorem dX11_limit_10 : decode cX11_limit 10 = .ok (.iadd, 1) := by decide +kernel
theorem dX11_limit_11 : decode cX11_limit 11 = .ok (.iaload, 1) := by decide +kernel
theorem dX11_limit_12 : decode cX11_limit 12 = .ok (.ireturn, 1) := by decide +kernel
theorem dX11_owes_0 : decode cX11_owes 0 = .ok (.iconst 0, 1) := by decide +kernel
theorem dX11_owes_1 : decode cX11_owes 1 = .ok (.aload_n 0, 1) := by decide +kernel
theorem dX11_owes_2 : decode cX11_owes 2 = .ok (.getfield 9, 3) := by decide +kernel
theorem dX11_owes_5 : decode cX11_owes 5 = .ok (.bipush 65, 2) := by decide +kernel
theorem dX11_owes_7 : decode cX11_owes 7 = .ok (.iload_n 1, 1) := by decide +kernel
theorem dX11_owes_8 : decode cX11_owes 8 = .ok (.iload_n 2, 1) := by decide +kernel
theorem dX11_owes_9 : decode cX11_owes 9 = .ok (.invokestatic 82, 3) := by decide +kernel
theorem dX11_owes_12 : decode cX11_owes 12 = .ok (.iadd, 1) := by decide +kernel
theorem dX11_owes_13 : decode cX11_owes 13 = .ok (.iaload, 1) := by decide +kernel
theorem dX11_owes_14 : decode cX11_owes 14 = .ok (.invokestatic 86, 3) := by decide +kernel
theorem dX11_owes_17 : decode cX11_owes 17 = .ok (.ireturn, 1) := by decide +kernel
theorem dX11_holdAt_0 : decode cX11_holdAt 0 = .ok (.sipush 137, 3) := by decide +kernel
theorem dX11_holdAt_3 : decode cX11_holdAt 3 = .ok (.bipush 67, 2) := by decide +kernel
theorem dX11_holdAt_5 : decode cX11_holdAt 5 = .ok (.iload_n 0, 1) := by decide +kernel
theorem dX11_holdAt_6 : decode cX11_holdAt 6 = .ok (.imul, 1) := by decide +kernel
theorem dX11_holdAt_7 : decode cX11_holdAt 7 = .ok (.iadd, 1) := by decide +kernel
theorem dX11_holdAt_8 : decode cX11_holdAt 8 = .ok (.ireturn, 1) := by decide +kernel
theorem dX11_heldOf_0 : decode cX11_heldOf 0 = .ok (.iconst 0, 1) := by decide +kernel
theorem dX11_heldOf_1 : decode cX11_heldOf 1 = .ok (.istore_n 3, 1) := by decide +kernel
theorem dX11_heldOf_2 : decode cX11_heldOf 2 = .ok (.iconst 0, 1) := by decide +kernel
theorem dX11_heldOf_3 : decode cX11_heldOf 3 = .ok (.istore 4, 2) := by decide +kernel
theorem dX11_heldOf_5 : decode cX11_heldOf 5 = .ok (.iload 4, 2) := by decide +kernel
theorem dX11_heldOf_7 : decode cX11_heldOf 7 = .ok (.iconst 4, 1) := by decide +kernel
theorem dX11_heldOf_8 : decode cX11_heldOf 8 = .ok (.if_icmp .ge 34, 3) := by decide +kernel
theorem dX11_heldOf_11 : decode cX11_heldOf 11 = .ok (.iload_n 3, 1) := by decide +kernel
theorem dX11_heldOf_12 : decode cX11_heldOf 12 = .ok (.iconst 0, 1) := by decide +kernel
theorem dX11_heldOf_13 : decode cX11_heldOf 13 = .ok (.aload_n 0, 1) := by decide +kernel
theorem dX11_heldOf_14 : decode cX11_heldOf 14 = .ok (.getfield 9, 3) := by decide +kernel
theorem dX11_heldOf_17 : decode cX11_heldOf 17 = .ok (.iload 4, 2) := by decide +kernel
theorem dX11_heldOf_19 : decode cX11_heldOf 19 = .ok (.invokestatic 91, 3) := by decide +kernel
theorem dX11_heldOf_22 : decode cX11_heldOf 22 = .ok (.iconst 3, 1) := by decide +kernel
theorem dX11_heldOf_23 : decode cX11_heldOf 23 = .ok (.iadd, 1) := by decide +kernel
theorem dX11_heldOf_24 : decode cX11_heldOf 24 = .ok (.iload_n 1, 1) := by decide +kernel
theorem dX11_heldOf_25 : decode cX11_heldOf 25 = .ok (.iload_n 2, 1) := by decide +kernel
theorem dX11_heldOf_26 : decode cX11_heldOf 26 = .ok (.invokestatic 82, 3) := by decide +kernel
theorem dX11_heldOf_29 : decode cX11_heldOf 29 = .ok (.iadd, 1) := by decide +kernel
theorem dX11_heldOf_30 : decode cX11_heldOf 30 = .ok (.iaload, 1) := by decide +kernel
theorem dX11_heldOf_31 : decode cX11_heldOf 31 = .ok (.invokestatic 86, 3) := by decide +kernel
theorem dX11_heldOf_34 : decode cX11_heldOf 34 = .ok (.iadd, 1) := by decide +kernel
theorem dX11_heldOf_35 : decode cX11_heldOf 35 = .ok (.istore_n 3, 1) := by decide +kernel
theorem dX11_heldOf_36 : decode cX11_heldOf 36 = .ok (.iinc 4 1, 3) := by decide +kernel
theorem dX11_heldOf_39 : decode cX11_heldOf 39 = .ok (.goto (-34), 3) := by decide +kernel
theorem dX11_heldOf_42 : decode cX11_heldOf 42 = .ok (.iload_n 3, 1) := by decide +kernel
theorem dX11_heldOf_43 : decode cX11_heldOf 43 = .ok (.ireturn, 1) := by decide +kernel
theorem dX11_heldBits_0 : decode cX11_heldBits 0 = .ok (.iconst 0, 1) := by decide +kernel
theorem dX11_heldBits_1 : decode cX11_heldBits 1 = .ok (.istore_n 1, 1) := by decide +kernel
theorem dX11_heldBits_2 : decode cX11_heldBits 2 = .ok (.iconst 0, 1) := by decide +kernel
theorem dX11_heldBits_3 : decode cX11_heldBits 3 = .ok (.istore_n 2, 1) := by decide +kernel
theorem dX11_heldBits_4 : decode cX11_heldBits 4 = .ok (.iload_n 2, 1) := by decide +kernel
theorem dX11_heldBits_5 : decode cX11_heldBits 5 = .ok (.iconst 4, 1) := by decide +kernel
theorem dX11_heldBits_6 : decode cX11_heldBits 6 = .ok (.if_icmp .ge 33, 3) := by decide +kernel
theorem dX11_heldBits_9 : decode cX11_heldBits 9 = .ok (.iload_n 1, 1) := by decide +kernel
theorem dX11_heldBits_10 : decode cX11_heldBits 10 = .ok (.aload_n 0, 1) := by decide +kernel
theorem dX11_heldBits_11 : decode cX11_heldBits 11 = .ok (.getfield 9, 3) := by decide +kernel
theorem dX11_heldBits_14 : decode cX11_heldBits 14 = .ok (.iload_n 2, 1) := by decide +kernel
theorem dX11_heldBits_15 : decode cX11_heldBits 15 = .ok (.invokestatic 91, 3) := by decide +kernel
theorem dX11_heldBits_18 : decode cX11_heldBits 18 = .ok (.iconst 2, 1) := by decide +kernel
theorem dX11_heldBits_19 : decode cX11_heldBits 19 = .ok (.iadd, 1) := by decide +kernel
theorem dX11_heldBits_20 : decode cX11_heldBits 20 = .ok (.iaload, 1) := by decide +kernel
theorem dX11_heldBits_21 : decode cX11_heldBits 21 = .ok (.ifCond .le 9, 3) := by decide +kernel
theorem dX11_heldBits_24 : decode cX11_heldBits 24 = .ok (.iconst 1, 1) := by decide +kernel
theorem dX11_heldBits_25 : decode cX11_heldBits 25 = .ok (.iload_n 2, 1) := by decide +kernel
theorem dX11_heldBits_26 : decode cX11_heldBits 26 = .ok (.ishl, 1) := by decide +kernel
theorem dX11_heldBits_27 : decode cX11_heldBits 27 = .ok (.goto 4, 3) := by decide +kernel
theorem dX11_heldBits_30 : decode cX11_heldBits 30 = .ok (.iconst 0, 1) := by decide +kernel
theorem dX11_heldBits_31 : decode cX11_heldBits 31 = .ok (.ior, 1) := by decide +kernel
theorem dX11_heldBits_32 : decode cX11_heldBits 32 = .ok (.istore_n 1, 1) := by decide +kernel
theorem dX11_heldBits_33 : decode cX11_heldBits 33 = .ok (.iinc 2 1, 3) := by decide +kernel
theorem dX11_heldBits_36 : decode cX11_heldBits 36 = .ok (.goto (-32), 3) := by decide +kernel
theorem dX11_heldBits_39 : decode cX11_heldBits 39 = .ok (.iload_n 1, 1) := by decide +kernel
theorem dX11_heldBits_40 : decode cX11_heldBits 40 = .ok (.ireturn, 1) := by decide +kernel
theorem dX11_room_0 : decode cX11_room 0 = .ok (.aload_n 0, 1) := by decide +kernel
theorem dX11_room_1 : decode cX11_room 1 = .ok (.iload_n 2, 1) := by decide +kernel
theorem dX11_room_2 : decode cX11_room 2 = .ok (.iload_n 1, 1) := by decide +kernel
theorem dX11_room_3 : decode cX11_room 3 = .ok (.invokevirtual 95, 3) := by decide +kernel
theorem dX11_room_6 : decode cX11_room 6 = .ok (.aload_n 0, 1) := by decide +kernel
theorem dX11_room_7 : decode cX11_room 7 = .ok (.getfield 9, 3) := by decide +kernel
theorem dX11_room_10 : decode cX11_room 10 = .ok (.bipush 65, 2) := by decide +kernel
theorem dX11_room_12 : decode cX11_room 12 = .ok (.iload_n 1, 1) := by decide +kernel
theorem dX11_room_13 : decode cX11_room 13 = .ok (.iload_n 2, 1) := by decide +kernel
theorem dX11_room_14 : decode cX11_room 14 = .ok (.invokestatic 82, 3) := by decide +kernel
theorem dX11_room_17 : decode cX11_room 17 = .ok (.iadd, 1) := by decide +kernel
theorem dX11_room_18 : decode cX11_room 18 = .ok (.iaload, 1) := by decide +kernel
theorem dX11_room_19 : decode cX11_room 19 = .ok (.isub, 1) := by decide +kernel
theorem dX11_room_20 : decode cX11_room 20 = .ok (.aload_n 0, 1) := by decide +kernel
theorem dX11_room_21 : decode cX11_room 21 = .ok (.iload_n 1, 1) := by decide +kernel
theorem dX11_room_22 : decode cX11_room 22 = .ok (.iload_n 2, 1) := by decide +kernel
theorem dX11_room_23 : decode cX11_room 23 = .ok (.invokevirtual 98, 3) := by decide +kernel
theorem dX11_room_26 : decode cX11_room 26 = .ok (.isub, 1) := by decide +kernel
theorem dX11_room_27 : decode cX11_room 27 = .ok (.ireturn, 1) := by decide +kernel
theorem dX11_straight_0 : decode cX11_straight 0 = .ok (.aload_n 0, 1) := by decide +kernel
theorem dX11_straight_1 : decode cX11_straight 1 = .ok (.getfield 9, 3) := by decide +kernel
theorem dX11_straight_4 : decode cX11_straight 4 = .ok (.bipush 65, 2) := by decide +kernel
theorem dX11_straight_6 : decode cX11_straight 6 = .ok (.iload_n 1, 1) := by decide +kernel
theorem dX11_straight_7 : decode cX11_straight 7 = .ok (.iload_n 2, 1) := by decide +kernel
theorem dX11_straight_8 : decode cX11_straight 8 = .ok (.invokestatic 82, 3) := by decide +kernel
theorem dX11_straight_11 : decode cX11_straight 11 = .ok (.iadd, 1) := by decide +kernel
theorem dX11_straight_12 : decode cX11_straight 12 = .ok (.dup2, 1) := by decide +kernel
theorem dX11_straight_13 : decode cX11_straight 13 = .ok (.iaload, 1) := by decide +kernel
theorem dX11_straight_14 : decode cX11_straight 14 = .ok (.iload_n 3, 1) := by decide +kernel
theorem dX11_straight_15 : decode cX11_straight 15 = .ok (.iadd, 1) := by decide +kernel
theorem dX11_straight_16 : decode cX11_straight 16 = .ok (.iastore, 1) := by decide +kernel
theorem dX11_straight_17 : decode cX11_straight 17 = .ok (.aload_n 0, 1) := by decide +kernel
theorem dX11_straight_18 : decode cX11_straight 18 = .ok (.getfield 9, 3) := by decide +kernel
theorem dX11_straight_21 : decode cX11_straight 21 = .ok (.bipush 65, 2) := by decide +kernel
theorem dX11_straight_23 : decode cX11_straight 23 = .ok (.iload_n 2, 1) := by decide +kernel
theorem dX11_straight_24 : decode cX11_straight 24 = .ok (.iload_n 1, 1) := by decide +kernel
theorem dX11_straight_25 : decode cX11_straight 25 = .ok (.invokestatic 82, 3) := by decide +kernel
theorem dX11_straight_28 : decode cX11_straight 28 = .ok (.iadd, 1) := by decide +kernel
theorem dX11_straight_29 : decode cX11_straight 29 = .ok (.dup2, 1) := by decide +kernel
theorem dX11_straight_30 : decode cX11_straight 30 = .ok (.iaload, 1) := by decide +kernel
theorem dX11_straight_31 : decode cX11_straight 31 = .ok (.iload_n 3, 1) := by decide +kernel
theorem dX11_straight_32 : decode cX11_straight 32 = .ok (.isub, 1) := by decide +kernel
theorem dX11_straight_33 : decode cX11_straight 33 = .ok (.iastore, 1) := by decide +kernel
theorem dX11_straight_34 : decode cX11_straight 34 = .ok (.return_, 1) := by decide +kernel
theorem dX11_sign_0 : decode cX11_sign 0 = .ok (.aload_n 0, 1) := by decide +kernel
theorem dX11_sign_1 : decode cX11_sign 1 = .ok (.iconst 0, 1) := by decide +kernel
theorem dX11_sign_2 : decode cX11_sign 2 = .ok (.putfield 68, 3) := by decide +kernel
theorem dX11_sign_5 : decode cX11_sign 5 = .ok (.aload_n 0, 1) := by decide +kernel
theorem dX11_sign_6 : decode cX11_sign 6 = .ok (.getfield 101, 3) := by decide +kernel
theorem dX11_sign_9 : decode cX11_sign 9 = .ok (.iconst 4, 1) := by decide +kernel
theorem dX11_sign_10 : decode cX11_sign 10 = .ok (.iadd, 1) := by decide +kernel
theorem dX11_sign_11 : decode cX11_sign 11 = .ok (.bipush 80, 2) := by decide +kernel
theorem dX11_sign_13 : decode cX11_sign 13 = .ok (.if_icmp .le 5, 3) := by decide +kernel
theorem dX11_sign_16 : decode cX11_sign 16 = .ok (.iconst (-1), 1) := by decide +kernel
theorem dX11_sign_17 : decode cX11_sign 17 = .ok (.ireturn, 1) := by decide +kernel
theorem dX11_sign_18 : decode cX11_sign 18 = .ok (.iconst 3, 1) := by decide +kernel
theorem dX11_sign_19 : decode cX11_sign 19 = .ok (.istore_n 2, 1) := by decide +kernel
theorem dX11_sign_20 : decode cX11_sign 20 = .ok (.iload_n 2, 1) := by decide +kernel
theorem dX11_sign_21 : decode cX11_sign 21 = .ok (.ifCond .lt 32, 3) := by decide +kernel
theorem dX11_sign_24 : decode cX11_sign 24 = .ok (.aload_n 0, 1) := by decide +kernel
theorem dX11_sign_25 : decode cX11_sign 25 = .ok (.getfield 13, 3) := by decide +kernel
theorem dX11_sign_28 : decode cX11_sign 28 = .ok (.aload_n 0, 1) := by decide +kernel
theorem dX11_sign_29 : decode cX11_sign 29 = .ok (.dup, 1) := by decide +kernel
theorem dX11_sign_30 : decode cX11_sign 30 = .ok (.getfield 101, 3) := by decide +kernel
theorem dX11_sign_33 : decode cX11_sign 33 = .ok (.dup_x1, 1) := by decide +kernel
theorem dX11_sign_34 : decode cX11_sign 34 = .ok (.iconst 1, 1) := by decide +kernel
theorem dX11_sign_35 : decode cX11_sign 35 = .ok (.iadd, 1) := by decide +kernel
theorem dX11_sign_36 : decode cX11_sign 36 = .ok (.putfield 101, 3) := by decide +kernel
theorem dX11_sign_39 : decode cX11_sign 39 = .ok (.iload_n 1, 1) := by decide +kernel
theorem dX11_sign_40 : decode cX11_sign 40 = .ok (.bipush 8, 2) := by decide +kernel
theorem dX11_sign_42 : decode cX11_sign 42 = .ok (.iload_n 2, 1) := by decide +kernel
theorem dX11_sign_43 : decode cX11_sign 43 = .ok (.imul, 1) := by decide +kernel
theorem dX11_sign_44 : decode cX11_sign 44 = .ok (.ishr, 1) := by decide +kernel
theorem dX11_sign_45 : decode cX11_sign 45 = .ok (.i2b, 1) := by decide +kernel
theorem dX11_sign_46 : decode cX11_sign 46 = .ok (.bastore, 1) := by decide +kernel
theorem dX11_sign_47 : decode cX11_sign 47 = .ok (.iinc 2 (-1), 3) := by decide +kernel
theorem dX11_sign_50 : decode cX11_sign 50 = .ok (.goto (-30), 3) := by decide +kernel
theorem dX11_sign_53 : decode cX11_sign 53 = .ok (.aload_n 0, 1) := by decide +kernel
theorem dX11_sign_54 : decode cX11_sign 54 = .ok (.getfield 101, 3) := by decide +kernel
theorem dX11_sign_57 : decode cX11_sign 57 = .ok (.ireturn, 1) := by decide +kernel
theorem dX11_end_0 : decode cX11_end 0 = .ok (.aload_n 0, 1) := by decide +kernel
theorem dX11_end_1 : decode cX11_end 1 = .ok (.iconst 0, 1) := by decide +kernel
theorem dX11_end_2 : decode cX11_end 2 = .ok (.putfield 68, 3) := by decide +kernel
theorem dX11_end_5 : decode cX11_end 5 = .ok (.iload_n 1, 1) := by decide +kernel
theorem dX11_end_6 : decode cX11_end 6 = .ok (.iconst 0, 1) := by decide +kernel
theorem dX11_end_7 : decode cX11_end 7 = .ok (.aload_n 0, 1) := by decide +kernel
theorem dX11_end_8 : decode cX11_end 8 = .ok (.getfield 101, 3) := by decide +kernel
theorem dX11_end_11 : decode cX11_end 11 = .ok (.invokestatic 74, 3) := by decide +kernel
theorem dX11_end_14 : decode cX11_end 14 = .ok (.ifCond .ne 5, 3) := by decide +kernel
theorem dX11_end_17 : decode cX11_end 17 = .ok (.iconst 0, 1) := by decide +kernel
theorem dX11_end_18 : decode cX11_end 18 = .ok (.ireturn, 1) := by decide +kernel
theorem dX11_end_19 : decode cX11_end 19 = .ok (.aload_n 0, 1) := by decide +kernel
theorem dX11_end_20 : decode cX11_end 20 = .ok (.iload_n 1, 1) := by decide +kernel
theorem dX11_end_21 : decode cX11_end 21 = .ok (.putfield 101, 3) := by decide +kernel
theorem dX11_end_24 : decode cX11_end 24 = .ok (.iconst 1, 1) := by decide +kernel
theorem dX11_end_25 : decode cX11_end 25 = .ok (.ireturn, 1) := by decide +kernel
theorem dX11_begin_0 : decode cX11_begin 0 = .ok (.aload_n 0, 1) := by decide +kernel
theorem dX11_begin_1 : decode cX11_begin 1 = .ok (.aload_n 0, 1) := by decide +kernel
theorem dX11_begin_2 : decode cX11_begin 2 = .ok (.getfield 101, 3) := by decide +kernel
theorem dX11_begin_5 : decode cX11_begin 5 = .ok (.putfield 104, 3) := by decide +kernel
theorem dX11_begin_8 : decode cX11_begin 8 = .ok (.aload_n 0, 1) := by decide +kernel
theorem dX11_begin_9 : decode cX11_begin 9 = .ok (.iconst 0, 1) := by decide +kernel
theorem dX11_begin_10 : decode cX11_begin 10 = .ok (.putfield 107, 3) := by decide +kernel
theorem dX11_begin_13 : decode cX11_begin 13 = .ok (.aload_n 0, 1) := by decide +kernel
theorem dX11_begin_14 : decode cX11_begin 14 = .ok (.iconst (-1), 1) := by decide +kernel
theorem dX11_begin_15 : decode cX11_begin 15 = .ok (.putfield 110, 3) := by decide +kernel
theorem dX11_begin_18 : decode cX11_begin 18 = .ok (.aload_n 0, 1) := by decide +kernel
theorem dX11_begin_19 : decode cX11_begin 19 = .ok (.iconst 0, 1) := by decide +kernel
theorem dX11_begin_20 : decode cX11_begin 20 = .ok (.putfield 101, 3) := by decide +kernel
theorem dX11_begin_23 : decode cX11_begin 23 = .ok (.return_, 1) := by decide +kernel
theorem dX11_here_0 : decode cX11_here 0 = .ok (.aload_n 0, 1) := by decide +kernel
theorem dX11_here_1 : decode cX11_here 1 = .ok (.getfield 107, 3) := by decide +kernel
theorem dX11_here_4 : decode cX11_here 4 = .ok (.aload_n 0, 1) := by decide +kernel
theorem dX11_here_5 : decode cX11_here 5 = .ok (.getfield 104, 3) := by decide +kernel
theorem dX11_here_8 : decode cX11_here 8 = .ok (.if_icmp .ge 19, 3) := by decide +kernel
theorem dX11_here_11 : decode cX11_here 11 = .ok (.aload_n 0, 1) := by decide +kernel
theorem dX11_here_12 : decode cX11_here 12 = .ok (.getfield 13, 3) := by decide +kernel
theorem dX11_here_15 : decode cX11_here 15 = .ok (.aload_n 0, 1) := by decide +kernel
theorem dX11_here_16 : decode cX11_here 16 = .ok (.getfield 107, 3) := by decide +kernel
theorem dX11_here_19 : decode cX11_here 19 = .ok (.baload, 1) := by decide +kernel
theorem dX11_here_20 : decode cX11_here 20 = .ok (.sipush 255, 3) := by decide +kernel
theorem dX11_here_23 : decode cX11_here 23 = .ok (.iand, 1) := by decide +kernel
theorem dX11_here_24 : decode cX11_here 24 = .ok (.goto 4, 3) := by decide +kernel
theorem dX11_here_27 : decode cX11_here 27 = .ok (.iconst (-1), 1) := by decide +kernel
theorem dX11_here_28 : decode cX11_here 28 = .ok (.ireturn, 1) := by decide +kernel
theorem dX11_fine_0 : decode cX11_fine 0 = .ok (.aload_n 0, 1) := by decide +kernel
theorem dX11_fine_1 : decode cX11_fine 1 = .ok (.getfield 110, 3) := by decide +kernel
theorem dX11_fine_4 : decode cX11_fine 4 = .ok (.iconst (-1), 1) := by decide +kernel
theorem dX11_fine_5 : decode cX11_fine 5 = .ok (.if_icmp .ne 7, 3) := by decide +kernel
theorem dX11_fine_8 : decode cX11_fine 8 = .ok (.iconst 1, 1) := by decide +kernel
theorem dX11_fine_9 : decode cX11_fine 9 = .ok (.goto 4, 3) := by decide +kernel
theorem dX11_fine_12 : decode cX11_fine 12 = .ok (.iconst 0, 1) := by decide +kernel
theorem dX11_fine_13 : decode cX11_fine 13 = .ok (.ireturn, 1) := by decide +kernel
theorem dX11_fault_0 : decode cX11_fault 0 = .ok (.aload_n 0, 1) := by decide +kernel
theorem dX11_fault_1 : decode cX11_fault 1 = .ok (.invokevirtual 113, 3) := by decide +kernel
theorem dX11_fault_4 : decode cX11_fault 4 = .ok (.ifCond .eq 8, 3) := by decide +kernel
theorem dX11_fault_7 : decode cX11_fault 7 = .ok (.aload_n 0, 1) := by decide +kernel
theorem dX11_fault_8 : decode cX11_fault 8 = .ok (.iload_n 1, 1) := by decide +kernel
theorem dX11_fault_9 : decode cX11_fault 9 = .ok (.putfield 110, 3) := by decide +kernel
theorem dX11_fault_12 : decode cX11_fault 12 = .ok (.return_, 1) := by decide +kernel
theorem dX11_oneOf_0 : decode cX11_oneOf 0 = .ok (.aload_n 0, 1) := by decide +kernel
theorem dX11_oneOf_1 : decode cX11_oneOf 1 = .ok (.invokevirtual 113, 3) := by decide +kernel
theorem dX11_oneOf_4 : decode cX11_oneOf 4 = .ok (.ifCond .ne 5, 3) := by decide +kernel
theorem dX11_oneOf_7 : decode cX11_oneOf 7 = .ok (.iconst 0, 1) := by decide +kernel
theorem dX11_oneOf_8 : decode cX11_oneOf 8 = .ok (.ireturn, 1) := by decide +kernel
theorem dX11_oneOf_9 : decode cX11_oneOf 9 = .ok (.aload_n 0, 1) := by decide +kernel
theorem dX11_oneOf_10 : decode cX11_oneOf 10 = .ok (.invokevirtual 117, 3) := by decide +kernel
theorem dX11_oneOf_13 : decode cX11_oneOf 13 = .ok (.iload_n 1, 1) := by decide +kernel
theorem dX11_oneOf_14 : decode cX11_oneOf 14 = .ok (.iload_n 1, 1) := by decide +kernel
theorem dX11_oneOf_15 : decode cX11_oneOf 15 = .ok (.iload_n 2, 1) := by decide +kernel
theorem dX11_oneOf_16 : decode cX11_oneOf 16 = .ok (.iadd, 1) := by decide +kernel
theorem dX11_oneOf_17 : decode cX11_oneOf 17 = .ok (.iconst 1, 1) := by decide +kernel
theorem dX11_oneOf_18 : decode cX11_oneOf 18 = .ok (.isub, 1) := by decide +kernel
theorem dX11_oneOf_19 : decode cX11_oneOf 19 = .ok (.invokestatic 74, 3) := by decide +kernel
theorem dX11_oneOf_22 : decode cX11_oneOf 22 = .ok (.ifCond .ne 13, 3) := by decide +kernel
theorem dX11_oneOf_25 : decode cX11_oneOf 25 = .ok (.aload_n 0, 1) := by decide +kernel
theorem dX11_oneOf_26 : decode cX11_oneOf 26 = .ok (.aload_n 0, 1) := by decide +kernel
theorem dX11_oneOf_27 : decode cX11_oneOf 27 = .ok (.getfield 107, 3) := by decide +kernel
theorem dX11_oneOf_30 : decode cX11_oneOf 30 = .ok (.invokevirtual 121, 3) := by decide +kernel
theorem dX11_oneOf_33 : decode cX11_oneOf 33 = .ok (.iconst 0, 1) := by decide +kernel
theorem dX11_oneOf_34 : decode cX11_oneOf 34 = .ok (.ireturn, 1) := by decide +kernel
theorem dX11_oneOf_35 : decode cX11_oneOf 35 = .ok (.aload_n 0, 1) := by decide +kernel
theorem dX11_oneOf_36 : decode cX11_oneOf 36 = .ok (.dup, 1) := by decide +kernel
theorem dX11_oneOf_37 : decode cX11_oneOf 37 = .ok (.getfield 107, 3) := by decide +kernel
theorem dX11_oneOf_40 : decode cX11_oneOf 40 = .ok (.iconst 1, 1) := by decide +kernel
theorem dX11_oneOf_41 : decode cX11_oneOf 41 = .ok (.iadd, 1) := by decide +kernel
theorem dX11_oneOf_42 : decode cX11_oneOf 42 = .ok (.putfield 107, 3) := by decide +kernel
theorem dX11_oneOf_45 : decode cX11_oneOf 45 = .ok (.aload_n 0, 1) := by decide +kernel
theorem dX11_oneOf_46 : decode cX11_oneOf 46 = .ok (.getfield 13, 3) := by decide +kernel
theorem dX11_oneOf_49 : decode cX11_oneOf 49 = .ok (.aload_n 0, 1) := by decide +kernel
theorem dX11_oneOf_50 : decode cX11_oneOf 50 = .ok (.getfield 107, 3) := by decide +kernel
theorem dX11_oneOf_53 : decode cX11_oneOf 53 = .ok (.iconst 1, 1) := by decide +kernel
theorem dX11_oneOf_54 : decode cX11_oneOf 54 = .ok (.isub, 1) := by decide +kernel
theorem dX11_oneOf_55 : decode cX11_oneOf 55 = .ok (.baload, 1) := by decide +kernel
theorem dX11_oneOf_56 : decode cX11_oneOf 56 = .ok (.iload_n 1, 1) := by decide +kernel
theorem dX11_oneOf_57 : decode cX11_oneOf 57 = .ok (.isub, 1) := by decide +kernel
theorem dX11_oneOf_58 : decode cX11_oneOf 58 = .ok (.ireturn, 1) := by decide +kernel
theorem dX11_digits_0 : decode cX11_digits 0 = .ok (.iconst 0, 1) := by decide +kernel
theorem dX11_digits_1 : decode cX11_digits 1 = .ok (.istore_n 2, 1) := by decide +kernel
theorem dX11_digits_2 : decode cX11_digits 2 = .ok (.iconst 0, 1) := by decide +kernel
theorem dX11_digits_3 : decode cX11_digits 3 = .ok (.istore_n 3, 1) := by decide +kernel
theorem dX11_digits_4 : decode cX11_digits 4 = .ok (.iload_n 3, 1) := by decide +kernel
theorem dX11_digits_5 : decode cX11_digits 5 = .ok (.iload_n 1, 1) := by decide +kernel
theorem dX11_digits_6 : decode cX11_digits 6 = .ok (.if_icmp .ge 23, 3) := by decide +kernel
theorem dX11_digits_9 : decode cX11_digits 9 = .ok (.bipush 10, 2) := by decide +kernel
theorem dX11_digits_11 : decode cX11_digits 11 = .ok (.iload_n 2, 1) := by decide +kernel
theorem dX11_digits_12 : decode cX11_digits 12 = .ok (.imul, 1) := by decide +kernel
theorem dX11_digits_13 : decode cX11_digits 13 = .ok (.aload_n 0, 1) := by decide +kernel
theorem dX11_digits_14 : decode cX11_digits 14 = .ok (.bipush 48, 2) := by decide +kernel
theorem dX11_digits_16 : decode cX11_digits 16 = .ok (.bipush 10, 2) := by decide +kernel
theorem dX11_digits_18 : decode cX11_digits 18 = .ok (.invokevirtual 125, 3) := by decide +kernel
theorem dX11_digits_21 : decode cX11_digits 21 = .ok (.iadd, 1) := by decide +kernel
theorem dX11_digits_22 : decode cX11_digits 22 = .ok (.istore_n 2, 1) := by decide +kernel
theorem dX11_digits_23 : decode cX11_digits 23 = .ok (.iinc 3 1, 3) := by decide +kernel
theorem dX11_digits_26 : decode cX11_digits 26 = .ok (.goto (-22), 3) := by decide +kernel
theorem dX11_digits_29 : decode cX11_digits 29 = .ok (.iload_n 2, 1) := by decide +kernel
theorem dX11_digits_30 : decode cX11_digits 30 = .ok (.ireturn, 1) := by decide +kernel
theorem dX11_wasRight_0 : decode cX11_wasRight 0 = .ok (.aload_n 0, 1) := by decide +kernel
theorem dX11_wasRight_1 : decode cX11_wasRight 1 = .ok (.getfield 107, 3) := by decide +kernel
theorem dX11_wasRight_4 : decode cX11_wasRight 4 = .ok (.aload_n 0, 1) := by decide +kernel
theorem dX11_wasRight_5 : decode cX11_wasRight 5 = .ok (.getfield 104, 3) := by decide +kernel
theorem dX11_wasRight_8 : decode cX11_wasRight 8 = .ok (.if_icmp .ge 11, 3) := by decide +kernel
theorem dX11_wasRight_11 : decode cX11_wasRight 11 = .ok (.aload_n 0, 1) := by decide +kernel
theorem dX11_wasRight_12 : decode cX11_wasRight 12 = .ok (.aload_n 0, 1) := by decide +kernel
theorem dX11_wasRight_13 : decode cX11_wasRight 13 = .ok (.getfield 107, 3) := by decide +kernel
theorem dX11_wasRight_16 : decode cX11_wasRight 16 = .ok (.invokevirtual 121, 3) := by decide +kernel
theorem dX11_wasRight_19 : decode cX11_wasRight 19 = .ok (.aload_n 0, 1) := by decide +kernel
theorem dX11_wasRight_20 : decode cX11_wasRight 20 = .ok (.invokevirtual 113, 3) := by decide +kernel
theorem dX11_wasRight_23 : decode cX11_wasRight 23 = .ok (.ireturn, 1) := by decide +kernel
theorem dX11_club_0 : decode cX11_club 0 = .ok (.aload_n 0, 1) := by decide +kernel
theorem dX11_club_1 : decode cX11_club 1 = .ok (.iconst 0, 1) := by decide +kernel
theorem dX11_club_2 : decode cX11_club 2 = .ok (.putfield 68, 3) := by decide +kernel
theorem dX11_club_5 : decode cX11_club 5 = .ok (.aload_n 0, 1) := by decide +kernel
theorem dX11_club_6 : decode cX11_club 6 = .ok (.invokevirtual 129, 3) := by decide +kernel
theorem dX11_club_9 : decode cX11_club 9 = .ok (.iconst 0, 1) := by decide +kernel
theorem dX11_club_10 : decode cX11_club 10 = .ok (.istore_n 1, 1) := by decide +kernel
theorem dX11_club_11 : decode cX11_club 11 = .ok (.iload_n 1, 1) := by decide +kernel
theorem dX11_club_12 : decode cX11_club 12 = .ok (.aload_n 0, 1) := by decide +kernel
theorem dX11_club_13 : decode cX11_club 13 = .ok (.getfield 24, 3) := by decide +kernel
theorem dX11_club_16 : decode cX11_club 16 = .ok (.arraylength, 1) := by decide +kernel
theorem dX11_club_17 : decode cX11_club 17 = .ok (.if_icmp .ge 16, 3) := by decide +kernel
theorem dX11_club_20 : decode cX11_club 20 = .ok (.aload_n 0, 1) := by decide +kernel
theorem dX11_club_21 : decode cX11_club 21 = .ok (.getfield 24, 3) := by decide +kernel
theorem dX11_club_24 : decode cX11_club 24 = .ok (.iload_n 1, 1) := by decide +kernel
theorem dX11_club_25 : decode cX11_club 25 = .ok (.iconst (-1), 1) := by decide +kernel
theorem dX11_club_26 : decode cX11_club 26 = .ok (.iastore, 1) := by decide +kernel
theorem dX11_club_27 : decode cX11_club 27 = .ok (.iinc 1 1, 3) := by decide +kernel
theorem dX11_club_30 : decode cX11_club 30 = .ok (.goto (-19), 3) := by decide +kernel
theorem dX11_club_33 : decode cX11_club 33 = .ok (.aload_n 0, 1) := by decide +kernel
theorem dX11_club_34 : decode cX11_club 34 = .ok (.bipush 50, 2) := by decide +kernel
theorem dX11_club_36 : decode cX11_club 36 = .ok (.bipush 7, 2) := by decide +kernel
theorem dX11_club_38 : decode cX11_club 38 = .ok (.invokevirtual 125, 3) := by decide +kernel
theorem dX11_club_41 : decode cX11_club 41 = .ok (.iconst 2, 1) := by decide +kernel
theorem dX11_club_42 : decode cX11_club 42 = .ok (.iadd, 1) := by decide +kernel
theorem dX11_club_43 : decode cX11_club 43 = .ok (.istore_n 1, 1) := by decide +kernel
theorem dX11_club_44 : decode cX11_club 44 = .ok (.iconst 0, 1) := by decide +kernel
theorem dX11_club_45 : decode cX11_club 45 = .ok (.istore_n 2, 1) := by decide +kernel
theorem dX11_club_46 : decode cX11_club 46 = .ok (.aload_n 0, 1) := by decide +kernel
theorem dX11_club_47 : decode cX11_club 47 = .ok (.invokevirtual 113, 3) := by decide +kernel
theorem dX11_club_50 : decode cX11_club 50 = .ok (.ifCond .eq 105, 3) := by decide +kernel
theorem dX11_club_53 : decode cX11_club 53 = .ok (.aload_n 0, 1) := by decide +kernel
theorem dX11_club_54 : decode cX11_club 54 = .ok (.getfield 107, 3) := by decide +kernel
theorem dX11_club_57 : decode cX11_club 57 = .ok (.aload_n 0, 1) := by decide +kernel
theorem dX11_club_58 : decode cX11_club 58 = .ok (.getfield 104, 3) := by decide +kernel
theorem dX11_club_61 : decode cX11_club 61 = .ok (.if_icmp .ge 94, 3) := by decide +kernel
theorem dX11_club_64 : decode cX11_club 64 = .ok (.aload_n 0, 1) := by decide +kernel
theorem dX11_club_65 : decode cX11_club 65 = .ok (.bipush 97, 2) := by decide +kernel
theorem dX11_club_67 : decode cX11_club 67 = .ok (.iload_n 1, 1) := by decide +kernel
theorem dX11_club_68 : decode cX11_club 68 = .ok (.invokevirtual 125, 3) := by decide +kernel
theorem dX11_club_71 : decode cX11_club 71 = .ok (.istore_n 3, 1) := by decide +kernel
theorem dX11_club_72 : decode cX11_club 72 = .ok (.aload_n 0, 1) := by decide +kernel
theorem dX11_club_73 : decode cX11_club 73 = .ok (.bipush 97, 2) := by decide +kernel
theorem dX11_club_75 : decode cX11_club 75 = .ok (.iload_n 1, 1) := by decide +kernel
theorem dX11_club_76 : decode cX11_club 76 = .ok (.invokevirtual 125, 3) := by decide +kernel
theorem dX11_club_79 : decode cX11_club 79 = .ok (.istore 4, 2) := by decide +kernel
theorem dX11_club_81 : decode cX11_club 81 = .ok (.aload_n 0, 1) := by decide +kernel
theorem dX11_club_82 : decode cX11_club 82 = .ok (.invokevirtual 113, 3) := by decide +kernel
theorem dX11_club_85 : decode cX11_club 85 = .ok (.ifCond .eq 34, 3) := by decide +kernel
theorem dX11_club_88 : decode cX11_club 88 = .ok (.iload_n 3, 1) := by decide +kernel
theorem dX11_club_89 : decode cX11_club 89 = .ok (.iload 4, 2) := by decide +kernel
theorem dX11_club_91 : decode cX11_club 91 = .ok (.if_icmp .eq 18, 3) := by decide +kernel
theorem dX11_club_94 : decode cX11_club 94 = .ok (.aload_n 0, 1) := by decide +kernel
theorem dX11_club_95 : decode cX11_club 95 = .ok (.getfield 24, 3) := by decide +kernel
theorem dX11_club_98 : decode cX11_club 98 = .ok (.iload_n 3, 1) := by decide +kernel
theorem dX11_club_99 : decode cX11_club 99 = .ok (.iload 4, 2) := by decide +kernel
theorem dX11_club_101 : decode cX11_club 101 = .ok (.invokestatic 82, 3) := by decide +kernel
theorem dX11_club_104 : decode cX11_club 104 = .ok (.iaload, 1) := by decide +kernel
theorem dX11_club_105 : decode cX11_club 105 = .ok (.iconst (-1), 1) := by decide +kernel
theorem dX11_club_106 : decode cX11_club 106 = .ok (.if_icmp .eq 13, 3) := by decide +kernel
theorem dX11_club_109 : decode cX11_club 109 = .ok (.aload_n 0, 1) := by decide +kernel
theorem dX11_club_110 : decode cX11_club 110 = .ok (.aload_n 0, 1) := by decide +kernel
theorem dX11_club_111 : decode cX11_club 111 = .ok (.getfield 107, 3) := by decide +kernel
theorem dX11_club_114 : decode cX11_club 114 = .ok (.iconst 1, 1) := by decide +kernel
theorem dX11_club_115 : decode cX11_club 115 = .ok (.isub, 1) := by decide +kernel
theorem dX11_club_116 : decode cX11_club 116 = .ok (.invokevirtual 121, 3) := by decide +kernel
theorem dX11_club_119 : decode cX11_club 119 = .ok (.aload_n 0, 1) := by decide +kernel
theorem dX11_club_120 : decode cX11_club 120 = .ok (.iconst 3, 1) := by decide +kernel
theorem dX11_club_121 : decode cX11_club 121 = .ok (.invokevirtual 132, 3) := by decide +kernel
theorem dX11_club_124 : decode cX11_club 124 = .ok (.istore 5, 2) := by decide +kernel
theorem dX11_club_126 : decode cX11_club 126 = .ok (.aload_n 0, 1) := by decide +kernel
theorem dX11_club_127 : decode cX11_club 127 = .ok (.invokevirtual 113, 3) := by decide +kernel
theorem dX11_club_130 : decode cX11_club 130 = .ok (.ifCond .ne 6, 3) := by decide +kernel
theorem dX11_club_133 : decode cX11_club 133 = .ok (.goto (-87), 3) := by decide +kernel
theorem dX11_club_136 : decode cX11_club 136 = .ok (.aload_n 0, 1) := by decide +kernel
theorem dX11_club_137 : decode cX11_club 137 = .ok (.getfield 24, 3) := by decide +kernel
theorem dX11_club_140 : decode cX11_club 140 = .ok (.iload_n 3, 1) := by decide +kernel
theorem dX11_club_141 : decode cX11_club 141 = .ok (.iload 4, 2) := by decide +kernel
theorem dX11_club_143 : decode cX11_club 143 = .ok (.invokestatic 82, 3) := by decide +kernel
theorem dX11_club_146 : decode cX11_club 146 = .ok (.iload 5, 2) := by decide +kernel
theorem dX11_club_148 : decode cX11_club 148 = .ok (.iastore, 1) := by decide +kernel
theorem dX11_club_149 : decode cX11_club 149 = .ok (.iinc 2 1, 3) := by decide +kernel
theorem dX11_club_152 : decode cX11_club 152 = .ok (.goto (-106), 3) := by decide +kernel
theorem dX11_club_155 : decode cX11_club 155 = .ok (.aload_n 0, 1) := by decide +kernel
theorem dX11_club_156 : decode cX11_club 156 = .ok (.invokevirtual 135, 3) := by decide +kernel
theorem dX11_club_159 : decode cX11_club 159 = .ok (.ifCond .ne 10, 3) := by decide +kernel
theorem dX11_club_162 : decode cX11_club 162 = .ok (.iconst (-1), 1) := by decide +kernel
theorem dX11_club_163 : decode cX11_club 163 = .ok (.aload_n 0, 1) := by decide +kernel
theorem dX11_club_164 : decode cX11_club 164 = .ok (.getfield 110, 3) := by decide +kernel
theorem dX11_club_167 : decode cX11_club 167 = .ok (.isub, 1) := by decide +kernel
theorem dX11_club_168 : decode cX11_club 168 = .ok (.ireturn, 1) := by decide +kernel
theorem dX11_club_169 : decode cX11_club 169 = .ok (.aload_n 0, 1) := by decide +kernel
theorem dX11_club_170 : decode cX11_club 170 = .ok (.invokevirtual 138, 3) := by decide +kernel
theorem dX11_club_173 : decode cX11_club 173 = .ok (.iconst 0, 1) := by decide +kernel
theorem dX11_club_174 : decode cX11_club 174 = .ok (.istore_n 3, 1) := by decide +kernel
theorem dX11_club_175 : decode cX11_club 175 = .ok (.iload_n 3, 1) := by decide +kernel
theorem dX11_club_176 : decode cX11_club 176 = .ok (.sipush 405, 3) := by decide +kernel
theorem dX11_club_179 : decode cX11_club 179 = .ok (.if_icmp .ge 16, 3) := by decide +kernel
theorem dX11_club_182 : decode cX11_club 182 = .ok (.aload_n 0, 1) := by decide +kernel
theorem dX11_club_183 : decode cX11_club 183 = .ok (.getfield 9, 3) := by decide +kernel
theorem dX11_club_186 : decode cX11_club 186 = .ok (.iload_n 3, 1) := by decide +kernel
theorem dX11_club_187 : decode cX11_club 187 = .ok (.iconst 0, 1) := by decide +kernel
theorem dX11_club_188 : decode cX11_club 188 = .ok (.iastore, 1) := by decide +kernel
theorem dX11_club_189 : decode cX11_club 189 = .ok (.iinc 3 1, 3) := by decide +kernel
theorem dX11_club_192 : decode cX11_club 192 = .ok (.goto (-17), 3) := by decide +kernel
theorem dX11_club_195 : decode cX11_club 195 = .ok (.aload_n 0, 1) := by decide +kernel
theorem dX11_club_196 : decode cX11_club 196 = .ok (.getfield 9, 3) := by decide +kernel
theorem dX11_club_199 : decode cX11_club 199 = .ok (.iconst 0, 1) := by decide +kernel
theorem dX11_club_200 : decode cX11_club 200 = .ok (.iload_n 1, 1) := by decide +kernel
theorem dX11_club_201 : decode cX11_club 201 = .ok (.iastore, 1) := by decide +kernel
theorem dX11_club_202 : decode cX11_club 202 = .ok (.iconst 0, 1) := by decide +kernel
theorem dX11_club_203 : decode cX11_club 203 = .ok (.istore_n 3, 1) := by decide +kernel
theorem dX11_club_204 : decode cX11_club 204 = .ok (.iload_n 3, 1) := by decide +kernel
theorem dX11_club_205 : decode cX11_club 205 = .ok (.aload_n 0, 1) := by decide +kernel
theorem dX11_club_206 : decode cX11_club 206 = .ok (.getfield 24, 3) := by decide +kernel
theorem dX11_club_209 : decode cX11_club 209 = .ok (.arraylength, 1) := by decide +kernel
theorem dX11_club_210 : decode cX11_club 210 = .ok (.if_icmp .ge 27, 3) := by decide +kernel
theorem dX11_club_213 : decode cX11_club 213 = .ok (.aload_n 0, 1) := by decide +kernel
theorem dX11_club_214 : decode cX11_club 214 = .ok (.getfield 9, 3) := by decide +kernel
theorem dX11_club_217 : decode cX11_club 217 = .ok (.iconst 1, 1) := by decide +kernel
theorem dX11_club_218 : decode cX11_club 218 = .ok (.iload_n 3, 1) := by decide +kernel
theorem dX11_club_219 : decode cX11_club 219 = .ok (.iadd, 1) := by decide +kernel
